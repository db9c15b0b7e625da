/-! VALLEY: the reference's operand -/
def srtOf (c : Int) : Int := if c = 25 then 0 else if c = 12 then 1 else if c = 13 then 2 else if c = 2 then 3 else if c = 14 then 4 else if c = 15 then 5 else if c = 16 then 6 else if c = 6 then 7 else -1
theorem e_num {t m : Mem} {k : Int} (h : RTk t m k) (hl : m 475 12 = -1) : (m 475 3 = 2 ↔ t 35 k = 25) ∧ (t 35 k = 25 → m 475 6 = t 37 k) := by
  obtain ⟨-, h | ⟨h1, -, h⟩⟩ := h
  · rcases h with ⟨h1, h2 | ⟨-, -, h3, h4⟩⟩
    · omega
    · exact ⟨by omega, by omega⟩
  · rcases h with ⟨h2, h3⟩ | ⟨h2, h3, h4⟩ | ⟨h2, h3, h4, -⟩ | ⟨h2, h3, h4⟩
    · exact ⟨by omega, by omega⟩
    · exact ⟨by omega, fun _ => h4⟩
    · exact ⟨by omega, by omega⟩
    · unfold isSg at h2; exact ⟨by omega, by omega⟩
theorem e_sort {t m : Mem} {k : Int} (h : RTk t m k) (hl : m 475 12 = -1) : (if m 475 3 = 2 then some ((0 : Int)) else (pM_isWord m 109330212154734).bind fun r329 => if r329 = 0 then (pM_isWord m 7499639).bind fun r343 => if r343 = 0 then (pM_isWord m 6579575).bind fun r357 => if r357 = 0 then (pM_isWord m 6578553).bind fun r371 => if r371 = 0 then (pM_isWord m 1752135026).bind fun r385 => if r385 = 0 then (pM_isWord m 1751217765).bind fun r399 => if r399 = 0 then (pM_isWord m 495672714612).bind fun r414 => if r414 = 0 then some (((-1) : Int)) else some ((7 : Int)) else some ((6 : Int)) else some ((5 : Int)) else some ((4 : Int)) else some ((3 : Int)) else some ((2 : Int)) else some ((1 : Int))) = some (srtOf (t 35 k)) := by
  have hn := (e_num h hl).1
  unfold srtOf
  by_cases q25 : t 35 k = 25
  · rw [if_pos (hn.mpr q25), if_pos q25]
  rw [if_neg (fun c => q25 (hn.mp c)), if_neg q25]
  have w12 : pM_isWord m 109330212154734 = some (if t 35 k = 12 then 1 else 0) := e_word 12 h hl (by decide)
  by_cases q12 : t 35 k = 12
  · rw [if_pos q12] at w12
    rw [w12, Option.bind_some, if_neg (show ¬ ((1 : Int) = 0) by decide), if_pos q12]
  rw [if_neg q12] at w12
  rw [w12, Option.bind_some, if_pos (show (0 : Int) = 0 from rfl), if_neg q12]
  have w13 : pM_isWord m 7499639 = some (if t 35 k = 13 then 1 else 0) := e_word 13 h hl (by decide)
  by_cases q13 : t 35 k = 13
  · rw [if_pos q13] at w13
    rw [w13, Option.bind_some, if_neg (show ¬ ((1 : Int) = 0) by decide), if_pos q13]
  rw [if_neg q13] at w13
  rw [w13, Option.bind_some, if_pos (show (0 : Int) = 0 from rfl), if_neg q13]
  have w2 : pM_isWord m 6579575 = some (if t 35 k = 2 then 1 else 0) := e_word 2 h hl (by decide)
  by_cases q2 : t 35 k = 2
  · rw [if_pos q2] at w2
    rw [w2, Option.bind_some, if_neg (show ¬ ((1 : Int) = 0) by decide), if_pos q2]
  rw [if_neg q2] at w2
  rw [w2, Option.bind_some, if_pos (show (0 : Int) = 0 from rfl), if_neg q2]
  have w14 : pM_isWord m 6578553 = some (if t 35 k = 14 then 1 else 0) := e_word 14 h hl (by decide)
  by_cases q14 : t 35 k = 14
  · rw [if_pos q14] at w14
    rw [w14, Option.bind_some, if_neg (show ¬ ((1 : Int) = 0) by decide), if_pos q14]
  rw [if_neg q14] at w14
  rw [w14, Option.bind_some, if_pos (show (0 : Int) = 0 from rfl), if_neg q14]
  have w15 : pM_isWord m 1752135026 = some (if t 35 k = 15 then 1 else 0) := e_word 15 h hl (by decide)
  by_cases q15 : t 35 k = 15
  · rw [if_pos q15] at w15
    rw [w15, Option.bind_some, if_neg (show ¬ ((1 : Int) = 0) by decide), if_pos q15]
  rw [if_neg q15] at w15
  rw [w15, Option.bind_some, if_pos (show (0 : Int) = 0 from rfl), if_neg q15]
  have w16 : pM_isWord m 1751217765 = some (if t 35 k = 16 then 1 else 0) := e_word 16 h hl (by decide)
  by_cases q16 : t 35 k = 16
  · rw [if_pos q16] at w16
    rw [w16, Option.bind_some, if_neg (show ¬ ((1 : Int) = 0) by decide), if_pos q16]
  rw [if_neg q16] at w16
  rw [w16, Option.bind_some, if_pos (show (0 : Int) = 0 from rfl), if_neg q16]
  have w6 : pM_isWord m 495672714612 = some (if t 35 k = 6 then 1 else 0) := e_word 6 h hl (by decide)
  by_cases q6 : t 35 k = 6
  · rw [if_pos q6] at w6
    rw [w6, Option.bind_some, if_neg (show ¬ ((1 : Int) = 0) by decide), if_pos q6]
  rw [if_neg q6] at w6
  rw [w6, Option.bind_some, if_pos (show (0 : Int) = 0 from rfl), if_neg q6]
def lawOf (y w : Int) : Int := if y < 5 then if 5 < y then if w = 1 then (-1) else y else y else if w = 0 then (-1) else if 5 < y then if w = 1 then (-1) else y else y
theorem lawOf_low {y w : Int} (h : 0 ≤ y ∧ y ≤ 4) : lawOf y w = y := by
  unfold lawOf
  rw [if_pos (by omega), if_neg (by omega)]
theorem e_law {t : Mem} {k : Int} (hw : t 18 9 = 8 ∨ t 18 9 = 9 ∨ t 18 9 = 10) : (opd t k = none ∧ lawOf (srtOf (t 35 k)) (t 18 9 - 8) = -1) ∨ (∃ a v, opd t k = some (a, v) ∧ lawOf (srtOf (t 35 k)) (t 18 9 - 8) ≠ -1 ∧ ((a = 0 ∧ t 35 k = 25 ∧ v = t 37 k ∧ lawOf (srtOf (t 35 k)) (t 18 9 - 8) = 0) ∨ (a = 1 ∧ lawOf (srtOf (t 35 k)) (t 18 9 - 8) = v + 1))) := by
  unfold opd srtOf
  by_cases q25 : t 35 k = 25
  · rw [if_pos q25, if_pos q25]
    rw [lawOf_low (by decide)]
    exact Or.inr ⟨0, t 37 k, rfl, by decide, Or.inl ⟨rfl, q25, rfl, rfl⟩⟩
  rw [if_neg q25, if_neg q25]
  by_cases q12 : t 35 k = 12
  · rw [if_pos q12, if_pos q12, lawOf_low (by decide)]; exact Or.inr ⟨1, 0, rfl, by decide, Or.inr ⟨rfl, rfl⟩⟩
  rw [if_neg q12, if_neg q12]
  by_cases q13 : t 35 k = 13
  · rw [if_pos q13, if_pos q13, lawOf_low (by decide)]; exact Or.inr ⟨1, 1, rfl, by decide, Or.inr ⟨rfl, rfl⟩⟩
  rw [if_neg q13, if_neg q13]
  by_cases q2 : t 35 k = 2
  · rw [if_pos q2, if_pos q2, lawOf_low (by decide)]; exact Or.inr ⟨1, 2, rfl, by decide, Or.inr ⟨rfl, rfl⟩⟩
  rw [if_neg q2, if_neg q2]
  by_cases q14 : t 35 k = 14
  · rw [if_pos q14, if_pos q14, lawOf_low (by decide)]; exact Or.inr ⟨1, 3, rfl, by decide, Or.inr ⟨rfl, rfl⟩⟩
  rw [if_neg q14, if_neg q14]
  by_cases q15 : t 35 k = 15
  · rw [if_pos q15]
    rcases hw with h | h | h <;> rw [h, q15]
    · exact Or.inl ⟨rfl, rfl⟩
    · exact Or.inr ⟨1, 4, rfl, by decide, Or.inr ⟨rfl, rfl⟩⟩
    · exact Or.inr ⟨1, 4, rfl, by decide, Or.inr ⟨rfl, rfl⟩⟩
  rw [if_neg (fun c => q15 c.1), if_neg q15]
  by_cases q16 : t 35 k = 16
  · rw [if_pos q16]
    rcases hw with h | h | h <;> rw [h, q16]
    · exact Or.inl ⟨rfl, rfl⟩
    · exact Or.inl ⟨rfl, rfl⟩
    · exact Or.inr ⟨1, 5, rfl, by decide, Or.inr ⟨rfl, rfl⟩⟩
  rw [if_neg (fun c => q16 c.1), if_neg q16]
  by_cases q6 : t 35 k = 6
  · rw [if_pos q6]
    rcases hw with h | h | h <;> rw [h, q6]
    · exact Or.inl ⟨rfl, rfl⟩
    · exact Or.inl ⟨rfl, rfl⟩
    · exact Or.inr ⟨1, 6, rfl, by decide, Or.inr ⟨rfl, rfl⟩⟩
  rw [if_neg (fun c => q6 c.1), if_neg q6]
  rcases hw with h | h | h <;> rw [h] <;> exact Or.inl ⟨rfl, rfl⟩
theorem e_wd {t m : Mem} {k : Int} (i : Nat) (h : RTk t m k) (hl : m 475 12 = -1) (hi : i < 24) : ∃ y, pM_isWord m (ownW i) = some y ∧ ((y = 1 ∧ t 35 k = i) ∨ (y = 0 ∧ t 35 k ≠ i)) := by
  refine ⟨_, e_word i h hl hi, ?_⟩
  by_cases q : t 35 k = i
  · rw [if_pos q]; exact Or.inl ⟨rfl, q⟩
  · rw [if_neg q]; exact Or.inr ⟨rfl, q⟩
theorem MR.bg {t m : Mem} {ib f0 k op : Int} {cs : List (Int × Int)} {kd ph bg pr fl : Int} {ops : List Int} {Fs : List Fm} (hm : MR t m ib f0 (k, op, cs, (kd, ph, bg, pr, ops) :: Fs, fl)) : MR t (mset m 493 Fs.length 0) ib f0 (k, op, cs, (kd, ph, 0, pr, ops) :: Fs, fl) := by
  obtain ⟨h36, h37, h39, hF, h28, h29, hR, h30, h8⟩ := hm
  dsimp only at h36 h37 h39 hF h28 hR
  have eT : tot ((kd, ph, 0, pr, ops) :: Fs) = tot ((kd, ph, bg, pr, ops) :: Fs) := rfl
  refine ⟨by rw [mset_o (by omega)]; exact h36, by rw [mset_o (by omega)]; exact h37, by rw [mset_o (by omega)]; exact h39, ?_, by rw [mset_o (by omega)]; exact h28, by rw [mset_o (by omega)]; exact h29, hR.eq' (fun j _ _ => ⟨mset_o (by omega), mset_o (by omega)⟩), by rw [mset_o (by omega)]; exact h30, by rw [mset_o (by omega)]; exact h8⟩
  dsimp only
  rw [eT]
  obtain ⟨⟨g1, g2, g3, g4, g5⟩, g6, g7⟩ := hF
  exact ⟨⟨by rw [mset_o (by omega)]; exact g1, by rw [mset_o (by omega)]; exact g2, mset_s rfl rfl, fun z => by rw [mset_o (by omega)]; exact g4 z, by rw [mset_o (by omega)]; exact g5⟩, g6.eq (fun j _ _ => mset_o (by omega)), g7.eq (fun b j z => mset_o (by omega))⟩
theorem r_opd {N : Nat} {t m : Mem} {RT : Int → Mem → Prop} {ib f0 k op : Int} {cs : List (Int × Int)} {kd ph bg pr : Int} {ops : List Int} {Fs : List Fm} (hL : LX N t RT) (hw : WT t) (hmi : MI f0 (k, op, cs, (kd, ph, bg, pr, ops) :: Fs, 0)) (hm : MR t m ib f0 (k, op, cs, (kd, ph, bg, pr, ops) :: Fs, 0)) (hrt : RT k m) (hk : 0 ≤ k ∧ k < t 18 6) (hib : ib = 0 ∨ ib = 1) : Rn (pM_operand N m) (OPo t RT ib f0 m (mOpd t k op cs kd ph bg pr ops Fs)) := by
  have hz := hw.1
  have hsu := hw.2.2.2.2
  have rtk := hL.1 k m hrt
  have hm8 : m 475 8 = 0 := hm.2.2.2.2.2.2.2.2
  obtain ⟨F', Gs, hE, hFl, htot, hroom⟩ := hmi.room
  have hE' : (kd, ph, bg, pr, ops) :: Fs = F' :: Gs := hE
  injection hE' with hE1 hE2
  subst hE1 hE2
  dsimp only at hroom
  have hmi' := hmi
  obtain ⟨F', Gs, hE, i1, i2, i3, i4, i5, i6, i7, i8, i9⟩ := hmi'
  have hE' : (kd, ph, bg, pr, ops) :: Fs = F' :: Gs := hE
  injection hE' with hE1 hE2
  subst hE1 hE2
  dsimp only at i2 i7
  have hbg : bg = 0 ∨ bg = 1 := i1.2.2.2.2.2.1
  obtain ⟨h36, h37, h39, hF, h28, h29, hR, h30, -⟩ := id hm
  dsimp only at h36 h37 h39 hF h28 hR
  have eL : ((((kd, ph, bg, pr, ops) : Fm) :: Fs).length : Int) = Fs.length + 1 := by show ((Fs.length + 1 : Nat) : Int) = _; omega
  unfold pM_operand
  rcases r_lexM rtk hm8 with ⟨elx, hl⟩ | ⟨q27, elx⟩
  case inr =>
    rw [elx]
    refine rn_v (rn_t (by rw [mset_o (by omega), mset_s rfl rfl]; omega) (rn_s ?_))
    have eM : mOpd t k op cs kd ph bg pr ops Fs = .inr (1, plcT t k, cs, k) := by
      unfold mOpd opd
      rw [if_neg (by omega), if_neg (by omega), if_neg (by omega), if_neg (by omega), if_neg (by omega), if_neg (by omega), if_neg (by omega), if_neg (by omega), if_neg (by omega), if_neg (by omega), if_neg (by omega), if_neg (by omega), if_neg (by omega)]
    rw [eM]
    exact OPo.bad ((Fr.rfl'.set (by unfold FMs; omega)).set (by unfold FMs; omega)) (by rw [mset_o (by omega), mset_s rfl rfl]) (mset_s rfl rfl)
  have hplc := plc_live rtk hl
  have nolast : t 35 k ≠ 26 → t 35 k ≠ 27 → k + 1 < t 18 6 := fun z1 z2 => hw.2.1 k hk.1 hk.2 z1 z2
  rw [elx]
  refine rn_v (rn_f (by omega) ?_)
  rw [h36, eL, w32_eq (x := (Fs.length : Int) + 1 - 1) (by omega) (by omega), show (Fs.length : Int) + 1 - 1 = Fs.length by omega]
  refine rn_v (rn_t (by omega) ?_)
  have e491 : m 491 (Fs.length : Int) = kd := hF.1.1
  have e493 : m 493 (Fs.length : Int) = bg := hF.1.2.2.1
  have eit : pM_isTest m kd = some (if kd = 5 ∨ kd = 6 then 1 else 0) := by
    unfold pM_isTest
    rw [if_neg (by omega)]
    by_cases z5 : kd = 5
    · rw [if_pos z5, if_pos (Or.inl z5)]
    · rw [if_neg z5]
      by_cases z6 : kd = 6
      · rw [if_pos z6, if_pos (Or.inr z6)]
      · rw [if_neg z6, if_neg (by omega)]
  rw [e491, e493]
  refine rn_e eit ?_
  have eys : (if (if kd = 5 ∨ kd = 6 then (1 : Int) else 0) = 0 then some ((0 : Int)) else if 0 ≤ (Fs.length : Int) ∧ (Fs.length : Int) < 20 then if bg = 0 then some ((0 : Int)) else some ((1 : Int)) else none) = some (if bg = 1 ∧ (kd = 5 ∨ kd = 6) then 1 else 0) := by
    by_cases z : kd = 5 ∨ kd = 6
    · rw [if_pos z, if_neg (by decide), if_pos (by omega)]
      by_cases z2 : bg = 0
      · rw [if_pos z2, if_neg (by omega)]
      · rw [if_neg z2, if_pos ⟨by omega, z⟩]
    · rw [if_neg z, if_pos rfl, if_neg (fun c => z c.2)]
  refine rn_e eys ?_
  generalize hys : (if bg = 1 ∧ (kd = 5 ∨ kd = 6) then (1 : Int) else 0) = ys
  have hy : (bg = 1 ∧ (kd = 5 ∨ kd = 6) ∧ ys = 1) ∨ (¬ (bg = 1 ∧ (kd = 5 ∨ kd = 6)) ∧ ys = 0) := by
    by_cases z : bg = 1 ∧ (kd = 5 ∨ kd = 6)
    · rw [if_pos z] at hys; exact Or.inl ⟨z.1, z.2, hys.symm⟩
    · rw [if_neg z] at hys; exact Or.inr ⟨z, hys.symm⟩
  clear hys eys eit
  refine rn_jl (fun J hJ => ?_)
  have goJ : ¬ (t 35 k = 20 ∧ bg = 1 ∧ (kd = 5 ∨ kd = 6)) → Rn (J ()) (OPo t RT ib f0 m (mOpd t k op cs kd ph bg pr ops Fs)) := fun n20 => by
    subst hJ
    dsimp only
    refine rn_t (by omega) (rn_l (fun mB hmB => ?_))
    have mr := hm.bg
    rw [← hmB] at mr
    have fB : Fr (fun b j => b = 493 ∧ j = Fs.length) m mB := by rw [hmB]; exact Fr.rfl'.set ⟨rfl, rfl⟩
    clear hmB
    have rtB := hL.2.1 k m mB hrt (fun b j z => fB b j (by omega))
    have rtkB := hL.1 k mB rtB
    have hlB : mB 475 12 = -1 := by rw [fB _ _ (by omega)]; exact hl
    have h8B : mB 475 8 = 0 := mr.2.2.2.2.2.2.2.2
    have hplB := plc_live rtkB hlB
    have toF : ∀ m', Fr (FMs ib f0) mB m' → Fr (FMs ib f0) m m' := fun m' z => (fB.mono (fun b j y => by unfold FMs; omega)).trans z
    refine rn_jl (fun J2 hJ2 => ?_)
    have goJ2 : ¬ (t 35 k = 91 ∧ bg = 1 ∧ (kd = 5 ∨ kd = 6)) → Rn (J2 ()) (OPo t RT ib f0 m (mOpd t k op cs kd ph bg pr ops Fs)) := fun n91 => by
      subst hJ2
      dsimp only
      refine rn_jl (fun J3 hJ3 => ?_)
      have goJ3 : ¬ (t 35 k = 21 ∧ bg = 1 ∧ (kd = 5 ∨ kd = 6)) → Rn (J3 ()) (OPo t RT ib f0 m (mOpd t k op cs kd ph bg pr ops Fs)) := fun n21 => by
        subst hJ3
        dsimp only
        refine rn_e (e_sign rtkB hlB (by unfold isSg; omega)) ?_
        by_cases q40 : t 35 k = 40
        · rw [if_pos q40]
          refine rn_f (show ¬ ((1 : Int) = 0) by omega) ?_
          refine rn_b (r_opensM (x := 2) (np := 0) hL mr rtB hk.1 (nolast (by omega) (by omega)) i7 (by show ((Fs.length + 1 : Nat) : Int) < 20; omega) (Or.inl rfl)) (fun m1 h1 => rn_s ?_)
          rcases h1 with ⟨y1, y2, y3, y4⟩ | ⟨y1, y2, -, -, y3, y4, y5⟩
          · have eM : mOpd t k op cs kd ph bg pr ops Fs = .inr (5, t 36 k, cs, k) := by
              unfold mOpd
              rw [if_neg n20, if_neg n91, if_neg n21, if_pos q40, if_pos y1]
            rw [eM]
            exact OPo.bad (toF _ y4) y2 (by rw [y3]; exact rtkB.1)
          · have eM : mOpd t k op cs kd ph bg pr ops Fs = .inl (k + 1, op + 1, cs, (2, 0, 1, 0, []) :: (kd, ph, 0, pr, ops) :: Fs, 0) := by
              unfold mOpd
              rw [if_neg n20, if_neg n91, if_neg n21, if_pos q40, if_neg (by omega)]
            rw [eM]
            exact OPo.good (toF _ y5) rfl (y2 (Or.inl rfl)) y4
        rw [if_neg q40]
        refine rn_t rfl ?_
        obtain ⟨y22, w22, h22⟩ := e_wd 22 rtkB hlB (by decide)
        obtain ⟨y23, w23, h23⟩ := e_wd 23 rtkB hlB (by decide)
        obtain ⟨y17, w17, h17⟩ := e_wd 17 rtkB hlB (by decide)
        refine rn_e w22 ?_
        refine rn_jl (fun J4 hJ4 => ?_)
        have goJ4 : (t 35 k = 22 ∨ t 35 k = 23 ∨ t 35 k = 17) → Rn (J4 ()) (OPo t RT ib f0 m (mOpd t k op cs kd ph bg pr ops Fs)) := fun q => by
          subst hJ4
          dsimp only
          refine rn_e w22 ?_
          have ewh : (if y22 = 0 then (pM_isWord mB 7168376).bind fun r236 => if r236 = 0 then some ((44 : Int)) else some ((37 : Int)) else some ((36 : Int))) = some (prq (if t 35 k = 22 then 9 else if t 35 k = 23 then 10 else 3)) := by
            rcases q with q | q | q
            · rw [if_neg (by omega), if_pos q]; rfl
            · rw [if_pos (by omega), show (7168376 : Int) = ownW 23 from rfl, w23, Option.bind_some, if_neg (by omega), if_neg (by omega), if_pos q]; rfl
            · rw [if_pos (by omega), show (7168376 : Int) = ownW 23 from rfl, w23, Option.bind_some, if_pos (by omega), if_neg (by omega), if_neg (by omega)]; rfl
          refine rn_e ewh ?_
          generalize hnp : (if t 35 k = 22 then (9 : Int) else if t 35 k = 23 then 10 else 3) = np
          have hnpq : (prq np = 44 ↔ t 35 k = 17) := by
            rw [← hnp]
            rcases q with q | q | q <;> rw [q] <;> decide
          have k1 := nolast (by omega) (by omega)
          refine rn_b (hL.2.2 k mB rtB hk.1 k1) (fun mC hC => ?_)
          obtain ⟨rtC, fC⟩ := hC
          unfold FRa at fC
          have rtkC := hL.1 (k + 1) mC rtC
          have h8C : mC 475 8 = 0 := by rw [fC _ _ (by omega)]; exact h8B
          have toC : Fr (FMs ib f0) mB mC := fC.mono (fun b j z => by unfold FMs; omega)
          rcases r_lexM rtkC h8C with ⟨elC, hlC⟩ | ⟨q27, elC⟩
          case inr =>
            rw [elC]
            refine rn_v ?_
            have hsg : ∃ z, pM_isSign (mset (mset mC 475 8 1) 475 9 (plcT t (k + 1))) 40 = some z := by
              unfold pM_isSign
              split
              · split <;> exact ⟨_, rfl⟩
              · exact ⟨_, rfl⟩
            obtain ⟨z, hz'⟩ := hsg
            have h8D : mset (mset mC 475 8 1) 475 9 (plcT t (k + 1)) 475 8 = 1 := by rw [mset_o (by omega), mset_s rfl rfl]
            have h9D : mset (mset mC 475 8 1) 475 9 (plcT t (k + 1)) 475 9 = plcT t (k + 1) := mset_s rfl rfl
            have fD : Fr (FMs ib f0) mC (mset (mset mC 475 8 1) 475 9 (plcT t (k + 1))) := (Fr.rfl'.set (by unfold FMs; omega)).set (by unfold FMs; omega)
            generalize mset (mset mC 475 8 1) 475 9 (plcT t (k + 1)) = mD at *
            refine rn_e hz' ?_
            have hbl : (if z = 0 then (pM_blame mD 1 (mD 475 4)).bind fun m273 => some (m273) else some (mD)) = some mD := by
              by_cases z0 : z = 0
              · rw [if_pos z0, e_blame0 (by omega)]; rfl
              · rw [if_neg z0]
            refine rn_e hbl (rn_v ?_)
            refine rn_e (r_opens0 (by omega)) ?_
            refine rn_f (by omega) (rn_s ?_)
            have eM : mOpd t k op cs kd ph bg pr ops Fs = .inr (1, plcT t (k + 1), cs, k + 1) := by
              unfold mOpd
              rw [if_neg n20, if_neg n91, if_neg n21, if_neg q40, if_pos q, if_pos (by omega)]
            rw [eM]
            exact OPo.bad (toF _ (toC.trans fD)) h8D h9D
          rw [elC]
          refine rn_v ?_
          refine rn_e (e_sign rtkC hlC (by unfold isSg; omega)) ?_
          by_cases q401 : t 35 (k + 1) = 40
          · rw [if_pos q401, if_neg (show ¬ ((1 : Int) = 0) by omega)]
            refine rn_v (rn_v ?_)
            have mrC : MR t mC ib f0 (k + 1, op, cs, (kd, ph, 0, pr, ops) :: Fs, 0) := by
              obtain ⟨g1, g2, g3, g4, g5, g6, g7, g8, g9⟩ := mr
              exact ⟨by rw [fC _ _ (by omega)]; exact g1, by rw [fC _ _ (by omega)]; exact g2, by rw [fC _ _ (by omega)]; exact g3, g4.eq (fun b j z => fC _ _ (by omega)), by rw [fC _ _ (by omega)]; exact g5, by rw [fC _ _ (by omega)]; exact g6, g7.eq' (fun j _ _ => ⟨fC _ _ (by omega), fC _ _ (by omega)⟩), by rw [fC _ _ (by omega)]; exact g8, h8C⟩
            have k2 : k + 1 + 1 < t 18 6 := hw.2.1 (k + 1) (by omega) k1 (by omega) (by omega)
            refine rn_b (r_opensM (x := if prq np = 44 then 6 else 3) (np := np) hL mrC rtC (by omega) k2 i7 (by show ((Fs.length + 1 : Nat) : Int) < 20; omega) (by split <;> omega)) (fun m1 h1 => ?_)
            rcases h1 with ⟨y1, y2, y3, y4⟩ | ⟨y1, -, y2, y36, y3, y4, y5⟩
            · refine rn_f (by omega) (rn_s ?_)
              have eM : mOpd t k op cs kd ph bg pr ops Fs = .inr (5, t 36 (k + 1), cs, k + 1) := by
                unfold mOpd
                rw [if_neg n20, if_neg n91, if_neg n21, if_neg q40, if_pos q, if_neg (fun c => c q401), if_pos y1]
              rw [eM]
              exact OPo.bad (toF _ (toC.trans y4)) y2 (by rw [y3]; exact rtkC.1)
            · have eL2 : ((((kd, ph, 0, pr, ops) : Fm) :: Fs).length : Int) = Fs.length + 1 := by show ((Fs.length + 1 : Nat) : Int) = _; omega
              rw [eL2] at y36 y2
              rw [y36, w32_eq (x := (Fs.length : Int) + 1 + 1 - 1) (by omega) (by omega), show (Fs.length : Int) + 1 + 1 - 1 = Fs.length + 1 by omega]
              refine rn_t y3 (rn_t (by omega) (rn_v (rn_s ?_)))
              have enk : (if prq np = 44 then (6 : Int) else 3) = (if t 35 k = 17 then 6 else 3) := by
                by_cases z : t 35 k = 17
                · rw [if_pos (hnpq.mpr z), if_pos z]
                · rw [if_neg (fun c => z (hnpq.mp c)), if_neg z]
              have eM : mOpd t k op cs kd ph bg pr ops Fs = .inl (k + 1 + 1, op + 1, cs, (if prq np = 44 then 6 else 3, 0, 1, np, []) :: (kd, ph, 0, pr, ops) :: Fs, 0) := by
                unfold mOpd
                rw [if_neg n20, if_neg n91, if_neg n21, if_neg q40, if_pos q, if_neg (fun c => c q401), if_neg (by omega), hnp, enk, show k + 1 + 1 = k + 2 by omega]
              rw [eM]
              exact OPo.good (toF _ ((toC.trans y5).set (by unfold FMs; omega))) rfl y2 (hL.2.1 _ _ _ y4 (fun b j z => mset_o (by omega)))
          · rw [if_neg q401, if_pos rfl, e_blame h8C]
            refine rn_v (rn_v ?_)
            have h8D : mset (mset mC 475 8 1) 475 9 (mC 475 4) 475 8 = 1 := by rw [mset_o (by omega), mset_s rfl rfl]
            have h9D : mset (mset mC 475 8 1) 475 9 (mC 475 4) 475 9 = plcT t (k + 1) := by rw [mset_s rfl rfl]; exact plc_live rtkC hlC
            have fD : Fr (FMs ib f0) mC (mset (mset mC 475 8 1) 475 9 (mC 475 4)) := (Fr.rfl'.set (by unfold FMs; omega)).set (by unfold FMs; omega)
            generalize mset (mset mC 475 8 1) 475 9 (mC 475 4) = mD at *
            refine rn_e (r_opens0 (by omega)) ?_
            refine rn_f (by omega) (rn_s ?_)
            have eM : mOpd t k op cs kd ph bg pr ops Fs = .inr (1, plcT t (k + 1), cs, k + 1) := by
              unfold mOpd
              rw [if_neg n20, if_neg n91, if_neg n21, if_neg q40, if_pos q, if_pos q401]
            rw [eM]
            exact OPo.bad (toF _ (toC.trans fD)) h8D h9D
        by_cases q22 : t 35 k = 22
        · exact rn_f (by omega) (goJ4 (Or.inl q22))
        refine rn_t (by omega) ?_
        refine rn_e w23 ?_
        by_cases q23 : t 35 k = 23
        · exact rn_f (by omega) (goJ4 (Or.inr (Or.inl q23)))
        refine rn_t (by omega) ?_
        refine rn_e w17 ?_
        by_cases q17 : t 35 k = 17
        · exact rn_f (by omega) (goJ4 (Or.inr (Or.inr q17)))
        refine rn_t (by omega) ?_
        refine rn_e (e_sort rtkB hlB) ?_
        have e30 : mB 475 30 = t 18 9 - 8 := mr.2.2.2.2.2.2.2.1
        rw [e30]
        refine rn_v ?_
        have elw := e_law (t := t) (k := k) hsu
        unfold lawOf at elw
        generalize (if srtOf (t 35 k) < 5 then if 5 < srtOf (t 35 k) then if t 18 9 - 8 = 1 then (-1 : Int) else srtOf (t 35 k) else srtOf (t 35 k) else if t 18 9 - 8 = 0 then (-1) else if 5 < srtOf (t 35 k) then if t 18 9 - 8 = 1 then (-1) else srtOf (t 35 k) else srtOf (t 35 k)) = yl at elw ⊢
        rcases elw with ⟨eo, ey⟩ | ⟨a, v, eo, ey, ec⟩
        · rw [if_pos ey, e_blame h8B]
          refine rn_v (rn_t (by rw [mset_o (by omega), mset_s rfl rfl]; omega) (rn_s ?_))
          have eM : mOpd t k op cs kd ph bg pr ops Fs = .inr (1, plcT t k, cs, k) := by
            unfold mOpd
            rw [if_neg n20, if_neg n91, if_neg n21, if_neg q40, if_neg (by omega), eo]
          rw [eM]
          exact OPo.bad (toF _ ((Fr.rfl'.set (by unfold FMs; omega)).set (by unfold FMs; omega))) (by rw [mset_o (by omega), mset_s rfl rfl]) (by rw [mset_s rfl rfl]; exact hplB)
        · rw [if_neg ey]
          refine rn_v (rn_f (by omega) ?_)
          have k1 : k + 1 < t 18 6 := by
            refine nolast (fun c => ?_) (fun c => ?_)
            · unfold opd at eo
              rw [if_neg (by omega), if_neg (by omega), if_neg (by omega), if_neg (by omega), if_neg (by omega), if_neg (by omega), if_neg (by omega), if_neg (by omega)] at eo
              cases eo
            · unfold opd at eo
              rw [if_neg (by omega), if_neg (by omega), if_neg (by omega), if_neg (by omega), if_neg (by omega), if_neg (by omega), if_neg (by omega), if_neg (by omega)] at eo
              cases eo
          refine rn_b (r_addM (c := f0 + cs.length) (ib := ib) mr.2.2.2.2.2.1 hib mr.2.2.2.2.1 (by omega)) (fun m2 h2 => ?_)
          obtain ⟨b28, b488, b489, f2⟩ := h2
          have rt2 := hL.2.1 k mB m2 rtB (fun b j z => f2 b j (by omega))
          refine rn_b (hL.2.2 k m2 rt2 hk.1 k1) (fun m3 h3 => rn_s ?_)
          obtain ⟨rt3, f3⟩ := h3
          unfold FRa at f3
          have eM : mOpd t k op cs kd ph bg pr ops Fs = .inl (k + 1, op, cs ++ [(a, v)], (kd, ph, 0, pr, ops) :: Fs, 1) := by
            unfold mOpd
            rw [if_neg n20, if_neg n91, if_neg n21, if_neg q40, if_neg (by omega), eo]
          rw [eM]
          refine OPo.good (toF _ ((f2.mono (fun b j z => by unfold FMs; omega)).trans (f3.mono (fun b j z => by unfold FMs; omega)))) rfl (mr.code (s := yl) (v := mB 475 6) ?_ ?_ ?_ ?_ ?_ (fun b j z1 z2 z3 => by rw [f3 _ _ (by omega), f2 _ _ (by omega)])) rt3
          · unfold srt
            rcases ec with ⟨c1, c2, c3, c4⟩ | ⟨c1, c2⟩
            · exact Or.inl ⟨c1, Or.inl ⟨c4, by rw [(e_num rtkB hlB).2 c2]; exact c3.symm⟩⟩
            · exact Or.inr (Or.inl ⟨c1, c2⟩)
          · rw [f3 _ _ (by omega)]; exact b28
          · rw [f3 _ _ (by omega)]; exact b488
          · rw [f3 _ _ (by omega)]; exact b489
          · rw [f3 _ _ (by omega), f2 _ _ (by omega)]; exact mr.2.2.2.1.1.2.1
      rcases hy with ⟨y1, y2, y3⟩ | ⟨y1, y2⟩
      · refine rn_f (by omega) ?_
        obtain ⟨y21, w21, h21⟩ := e_wd 21 rtkB hlB (by decide)
        refine rn_e w21 ?_
        by_cases q21 : t 35 k = 21
        · refine rn_f (by omega) ?_
          have k1 := nolast (by omega) (by omega)
          refine rn_b (r_addM (c := f0 + cs.length) (ib := ib) mr.2.2.2.2.2.1 hib mr.2.2.2.2.1 (by omega)) (fun m2 h2 => ?_)
          obtain ⟨b28, b488, b489, f2⟩ := h2
          refine rn_t (by omega) (rn_l (fun m3 hm3 => ?_))
          have c492 : m3 492 (Fs.length : Int) = 2 := by rw [hm3, mset_s rfl rfl]
          have f3 : Fr (fun b j => b = 492 ∧ j = Fs.length) m2 m3 := by rw [hm3]; exact Fr.rfl'.set ⟨rfl, rfl⟩
          clear hm3
          have rt3 := hL.2.1 k mB m3 rtB (fun b j z => by rw [f3 _ _ (by omega), f2 _ _ (by omega)])
          refine rn_b (hL.2.2 k m3 rt3 hk.1 k1) (fun m4 h4 => rn_s ?_)
          obtain ⟨rt4, f4⟩ := h4
          unfold FRa at f4
          have eM : mOpd t k op cs kd ph bg pr ops Fs = .inl (k + 1, op, cs ++ [(0, 1)], (kd, 2, 0, pr, ops) :: Fs, 1) := by
            unfold mOpd
            rw [if_neg n20, if_neg n91, if_pos ⟨q21, y1, y2⟩]
          rw [eM]
          refine OPo.good (toF _ (((f2.mono (fun b j z => by unfold FMs; omega)).trans (f3.mono (fun b j z => by unfold FMs; omega))).trans (f4.mono (fun b j z => by unfold FMs; omega)))) rfl (mr.code (s := 30) (v := 0) (Or.inl ⟨rfl, Or.inr ⟨rfl, rfl⟩⟩) ?_ ?_ ?_ ?_ (fun b j z1 z2 z3 => by rw [f4 _ _ (by omega), f3 _ _ (by omega), f2 _ _ (by omega)])) rt4
          · rw [f4 _ _ (by omega), f3 _ _ (by omega)]; exact b28
          · rw [f4 _ _ (by omega), f3 _ _ (by omega)]; exact b488
          · rw [f4 _ _ (by omega), f3 _ _ (by omega)]; exact b489
          · rw [f4 _ _ (by omega)]; exact c492
        · exact rn_t (by omega) (goJ3 (fun c => q21 c.1))
      · exact rn_t y2 (goJ3 (fun c => y1 c.2))
    rcases hy with ⟨y1, y2, y3⟩ | ⟨y1, y2⟩
    · refine rn_f (by omega) ?_
      refine rn_e (e_sign rtkB hlB (by unfold isSg; omega)) ?_
      by_cases q91 : t 35 k = 91
      · rw [if_pos q91]
        refine rn_f (show ¬ ((1 : Int) = 0) by omega) ?_
        refine rn_b (r_opensM (x := 5) (np := 0) hL mr rtB hk.1 (nolast (by omega) (by omega)) i7 (by show ((Fs.length + 1 : Nat) : Int) < 20; omega) (Or.inr (Or.inl rfl))) (fun m1 h1 => rn_s ?_)
        rcases h1 with ⟨z1, z2, z3, z4⟩ | ⟨z1, z2, -, -, z3, z4, z5⟩
        · have eM : mOpd t k op cs kd ph bg pr ops Fs = .inr (5, t 36 k, cs, k) := by
            unfold mOpd
            rw [if_neg n20, if_pos ⟨q91, y1, y2⟩, if_pos z1]
          rw [eM]
          exact OPo.bad (toF _ z4) z2 (by rw [z3]; exact rtkB.1)
        · have eM : mOpd t k op cs kd ph bg pr ops Fs = .inl (k + 1, op + 1, cs, (5, 0, 1, 0, []) :: (kd, ph, 0, pr, ops) :: Fs, 0) := by
            unfold mOpd
            rw [if_neg n20, if_pos ⟨q91, y1, y2⟩, if_neg (by omega)]
          rw [eM]
          exact OPo.good (toF _ z5) rfl (z2 (Or.inr rfl)) z4
      · rw [if_neg q91]
        exact rn_t rfl (goJ2 (fun c => q91 c.1))
    · exact rn_t y2 (goJ2 (fun c => y1 c.2))
  rcases hy with ⟨y1, y2, y3⟩ | ⟨y1, y2⟩
  · refine rn_f (by omega) ?_
    obtain ⟨y20, w20, h20⟩ := e_wd 20 rtk hl (by decide)
    refine rn_e w20 ?_
    by_cases q20 : t 35 k = 20
    · refine rn_f (by omega) ?_
      by_cases q7 : op = 7
      · rw [if_pos (by omega), e_blame hm8]
        refine rn_v (rn_t (by rw [mset_o (by omega), mset_s rfl rfl]; omega) (rn_s ?_))
        have eM : mOpd t k op cs kd ph bg pr ops Fs = .inr (5, t 36 k, cs, k) := by
          unfold mOpd
          rw [if_pos ⟨q20, y1, y2⟩, if_pos q7]
        rw [eM]
        exact OPo.bad ((Fr.rfl'.set (by unfold FMs; omega)).set (by unfold FMs; omega)) (by rw [mset_o (by omega), mset_s rfl rfl]) (by rw [mset_s rfl rfl]; exact rtk.1)
      · rw [if_neg (by omega)]
        refine rn_v (rn_f (by omega) ?_)
        rw [h37, w32_eq (x := op + 1) (by omega) (by omega)]
        refine rn_l (fun m1 hm1 => ?_)
        have a37 : m1 475 37 = op + 1 := by rw [hm1, mset_s rfl rfl]
        have f1 : Fr (fun b j => b = 475 ∧ j = 37) m m1 := by rw [hm1]; exact Fr.rfl'.set ⟨rfl, rfl⟩
        clear hm1
        have htn := tot_nn (((kd, ph, bg, pr, ops) : Fm) :: Fs)
        refine rn_b (r_hold (n := tot ((kd, ph, bg, pr, ops) :: Fs)) (x := 43) (by rw [f1 _ _ (by omega)]; exact h39) (by omega)) (fun m2 h2 => ?_)
        obtain ⟨b39, b496, f2⟩ := h2
        have rt2 := hL.2.1 k m m2 hrt (fun b j z => by rw [f2 _ _ (by omega), f1 _ _ (by omega)])
        refine rn_b (hL.2.2 k m2 rt2 hk.1 (nolast (by omega) (by omega))) (fun m3 h3 => rn_s ?_)
        obtain ⟨rt3, f3⟩ := h3
        unfold FRa at f3
        have F : ∀ b j : Int, ¬ (b = 475 ∧ ((3 ≤ j ∧ j ≤ 7) ∨ j = 12 ∨ j = 37 ∨ j = 39)) → ¬ (b = 496 ∧ j = tot ((kd, ph, bg, pr, ops) :: Fs)) → m3 b j = m b j := fun b j z1 z2 => by
          rw [f3 _ _ (by omega), f2 _ _ (by omega), f1 _ _ (by omega)]
        have eM : mOpd t k op cs kd ph bg pr ops Fs = .inl (k + 1, op + 1, cs, (kd, ph, bg, pr, 2 :: ops) :: Fs, 0) := by
          unfold mOpd
          rw [if_pos ⟨q20, y1, y2⟩, if_neg q7]
        rw [eM]
        have eT : tot ((kd, ph, bg, pr, 2 :: ops) :: Fs) = tot ((kd, ph, bg, pr, ops) :: Fs) + 1 := by
          show ((ops.length + 1 : Nat) : Int) + tot Fs = (ops.length : Int) + tot Fs + 1
          omega
        have eT2 : tot (((kd, ph, bg, pr, ops) : Fm) :: Fs) = ops.length + tot Fs := rfl
        refine OPo.good (((f1.mono (fun b j z => by unfold FMs; omega)).trans (f2.mono (fun b j z => by unfold FMs; omega))).trans (f3.mono (fun b j z => by unfold FMs; omega))) rfl ⟨?_, ?_, ?_, ?_, ?_, ?_, ?_, ?_, ?_⟩ rt3
        · rw [F _ _ (by omega) (by omega)]; exact h36
        · dsimp only; rw [f3 _ _ (by omega), f2 _ _ (by omega)]; exact a37
        · dsimp only; rw [eT, f3 _ _ (by omega)]; exact b39
        · dsimp only
          rw [eT]
          obtain ⟨⟨g1, g2, g3, g4, g5⟩, g6, g7⟩ := hF
          dsimp only at g1 g2 g3 g4 g5 g6 g7
          have eb : tot (((kd, ph, bg, pr, ops) : Fm) :: Fs) + 1 - (((2 :: ops : List Int).length : Nat) : Int) = tot (((kd, ph, bg, pr, ops) : Fm) :: Fs) - ops.length := by
            show _ - ((ops.length + 1 : Nat) : Int) = _
            omega
          refine ⟨⟨?_, ?_, ?_, fun z => ?_, ?_⟩, ?_, ?_⟩
          · rw [F _ _ (by omega) (by omega)]; exact g1
          · rw [F _ _ (by omega) (by omega)]; exact g2
          · rw [F _ _ (by omega) (by omega)]; exact g3
          · rw [F _ _ (by omega) (by omega)]; exact g4 z
          · dsimp only; rw [eb, F _ _ (by omega) (by omega)]; exact g5
          · dsimp only
            rw [eb]
            refine ⟨?_, g6.eq (fun j z0 z1 => F _ _ (by omega) (by omega))⟩
            rw [show tot (((kd, ph, bg, pr, ops) : Fm) :: Fs) - (ops.length : Int) + ops.length = tot (((kd, ph, bg, pr, ops) : Fm) :: Fs) by omega, f3 _ _ (by omega)]
            exact b496
          · dsimp only
            rw [eb]
            exact g7.eq (fun b j z => F _ _ (by omega) (by omega))
        · dsimp only; rw [F _ _ (by omega) (by omega)]; exact h28
        · rw [F _ _ (by omega) (by omega)]; exact h29
        · exact hR.eq' (fun j _ _ => ⟨F _ _ (by omega) (by omega), F _ _ (by omega) (by omega)⟩)
        · rw [F _ _ (by omega) (by omega)]; exact h30
        · rw [F _ _ (by omega) (by omega)]; exact hm8
    · exact rn_t (by omega) (goJ (fun c => q20 c.1))
  · exact rn_t y2 (goJ (fun c => y1 c.2))
