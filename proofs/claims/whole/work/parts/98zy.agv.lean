/-! A FAILED VALLEY keeps the answers that are kept: they rest on the component's plan alone -/
theorem AGv.c0 {pl pl' : Mem} (h : AGv pl pl') : pl' 2 0 = pl 2 0 := h 2 0 (by unfold plc; omega)
theorem AGv.c2 {pl pl' : Mem} (h : AGv pl pl') : pl' 2 2 = pl 2 2 := h 2 2 (by unfold plc; omega)
theorem AGv.c3 {pl pl' : Mem} (h : AGv pl pl') : pl' 2 3 = pl 2 3 := h 2 3 (by unfold plc; omega)
theorem ag_sv {pl pl' : Mem} (h : AGv pl pl') {w : Int} (hw : 0 ≤ w ∧ w < 3) : sv pl' w = sv pl w := by
  funext fc d
  unfold sv codeOf
  rw [h (9 + 3 * w) 2 (by unfold plc; omega), show pl' (10 + 3 * w) = pl (10 + 3 * w) from funext (fun j => h _ j (by unfold plc; omega))]
theorem ag_fall {pl pl' : Mem} (h : AGv pl pl') : fallS pl' = fallS pl := by
  funext p d y
  unfold fallS
  rw [ag_sv h (by decide), h.c0]
theorem ag_sun {pl pl' : Mem} (h : AGv pl pl') : sunS pl' = sunS pl := by
  funext p d y e
  unfold sunS
  rw [ag_sv h (by decide), h.c0]
theorem ag_take {pl pl' : Mem} (h : AGv pl pl') : takeS pl' = takeS pl := by
  funext p d y e v f
  unfold takeS
  rw [ag_sv h (by decide), h.c0]
theorem ag_goA {pl pl' : Mem} (h : AGv pl pl') : goA pl' = goA pl := by
  funext W i p e
  unfold goA
  rw [ag_take h]
theorem ag_goS {pl pl' : Mem} (h : AGv pl pl') : goS pl' = goS pl := by
  funext W i p e
  unfold goS
  rw [ag_goA h]
theorem ag_bsd {pl pl' : Mem} (h : AGv pl pl') : bsd pl' = bsd pl := by
  funext p s
  unfold bsd
  rw [h.c0, h.c2]
theorem ag_wet {pl pl' : Mem} (h : AGv pl pl') : wetS pl' = wetS pl := by
  funext d p
  unfold wetS
  rw [ag_bsd h]
theorem ag_one {pl pl' : Mem} (h : AGv pl pl') : oneS pl' = oneS pl := by
  funext e i W
  unfold oneS
  rw [ag_goS h, ag_wet h]
theorem ag_ga {pl pl' : Mem} (h : AGv pl pl') : gaS pl' = gaS pl := by
  funext e k
  induction k with
  | zero => rfl
  | succ k ih =>
    funext i W
    show gaS pl' e k (i + 1) (oneS pl' e i W) = gaS pl e k (i + 1) (oneS pl e i W)
    rw [ih, ag_one h]
theorem ag_dry {pl pl' : Mem} (h : AGv pl pl') : dryS pl' = dryS pl := by
  funext W e k j
  unfold dryS
  rw [h.c2, ag_sun h]
theorem ag_hr {pl pl' : Mem} (h : AGv pl pl') : hrS pl' = hrS pl := by
  funext e W
  unfold hrS
  rw [ag_dry h, ag_ga h, h.c3]
theorem ag_th {pl pl' : Mem} (h : AGv pl pl') : thS pl' = thS pl := by
  funext k
  induction k with
  | zero => rfl
  | succ k ih =>
    funext e W
    show thS pl' k (e + 1) (hrS pl' e W) = thS pl k (e + 1) (hrS pl e W)
    rw [ih, ag_hr h]
theorem ag_beg {pl pl' : Mem} (h : AGv pl pl') : begS pl' = begS pl := by
  funext S t k j
  unfold begS begP
  rw [ag_fall h, h.c2]
theorem ag_run {pl pl' : Mem} (h : AGv pl pl') : runS pl' = runS pl := by
  funext S t
  unfold runS
  rw [ag_th h, ag_beg h]
theorem ag_lft {pl pl' : Mem} (h : AGv pl pl') : lftS pl' = lftS pl := by
  funext S W i
  unfold lftS
  rw [h 8 i (by unfold plc; omega)]
theorem ag_cnt {pl pl' : Mem} (h : AGv pl pl') : cntS pl' = cntS pl := by
  funext S W k
  induction k with
  | zero => rfl
  | succ k ih =>
    show cntS pl' S W k + (if lftS pl' S W k < 0 then 1 else 0) = cntS pl S W k + (if lftS pl S W k < 0 then 1 else 0)
    rw [ih, ag_lft h]
theorem ag_dryB {pl pl' : Mem} (h : AGv pl pl') : dryB pl' = dryB pl := by
  funext S W k
  induction k with
  | zero => rfl
  | succ k ih =>
    show (if lftS pl' S W k < 0 then o32 (dryB pl' S W k) (shl32 1 k) else dryB pl' S W k) = (if lftS pl S W k < 0 then o32 (dryB pl S W k) (shl32 1 k) else dryB pl S W k)
    rw [ih, ag_lft h]
theorem ag_liv {pl pl' : Mem} (h : AGv pl pl') : livS pl' = livS pl := by
  funext S t k j
  unfold livS
  rw [ag_run h, ag_lft h, ag_cnt h, h.c3]
theorem ag_rise {pl pl' : Mem} (h : AGv pl pl') : riseV pl' = riseV pl := by
  funext S i e
  unfold riseV
  rw [ag_th h, ag_beg h]
theorem ag_home {pl pl' : Mem} (h : AGv pl pl') : homeV pl' = homeV pl := by
  funext S i e
  unfold homeV
  rw [ag_th h, ag_beg h]
theorem ag_swp {pl pl' : Mem} (h : AGv pl pl') : swpV pl' = swpV pl := by
  funext S a b
  unfold swpV swpW
  rw [ag_th h, ag_beg h, h.c3]
theorem ag_chgI {pl pl' : Mem} (h : AGv pl pl') : chgI pl' = chgI pl := by
  funext S a k
  induction k with
  | zero => rfl
  | succ k ih =>
    funext b z
    show chgI pl' S a k (b + 1) (if z.1 < swpV pl' S a b then (swpV pl' S a b, a, b) else z) = chgI pl S a k (b + 1) (if z.1 < swpV pl S a b then (swpV pl S a b, a, b) else z)
    rw [ih, ag_swp h]
theorem ag_chgO {pl pl' : Mem} (h : AGv pl pl') : chgO pl' = chgO pl := by
  funext S k
  induction k with
  | zero => rfl
  | succ k ih =>
    funext a z
    show chgO pl' S k (a + 1) (chgI pl' S a (pl' 2 3 - (a + 1)).toNat (a + 1) z) = chgO pl S k (a + 1) (chgI pl S a (pl 2 3 - (a + 1)).toNat (a + 1) z)
    rw [ih, ag_chgI h, h.c3]
theorem ag_tod {pl pl' : Mem} (h : AGv pl pl') {S m : Mem} (k : ITod pl S m) : ITod pl' S m := by
  unfold ITod TK at *
  rw [ag_rise h, ag_home h, ag_chgO h, ag_run h, ag_th h, ag_beg h, h.c2, h.c3]
  exact k
theorem ag_ah {pl pl' : Mem} (h : AGv pl pl') : ahS pl' = ahS pl := by
  funext S k
  induction k with
  | zero => rfl
  | succ k ih =>
    show livS pl' (ahS pl' S k) 1 = livS pl (ahS pl S k) 1
    rw [ih, ag_liv h]
theorem ag_dryD {pl pl' : Mem} (h : AGv pl pl') : dryD pl' = dryD pl := by
  funext S k
  unfold dryD
  rw [ag_dryB h, ag_ah h, ag_run h, h.c3]
theorem ag_fd {pl pl' : Mem} (h : AGv pl pl') : fdS pl' = fdS pl := by
  funext S i k
  induction k with
  | zero => rfl
  | succ k ih =>
    show (if fdS pl' S i k = -1 ∧ bitS (dryD pl' S k) i = 1 then (k : Int) else fdS pl' S i k) = (if fdS pl S i k = -1 ∧ bitS (dryD pl S k) i = 1 then (k : Int) else fdS pl S i k)
    rw [ih, ag_dryD h]
theorem ag_ahd {pl pl' : Mem} (h : AGv pl pl') {S m : Mem} (k : IAhd pl S m) : IAhd pl' S m := by
  unfold IAhd AK at *
  rw [ag_ah h, ag_fd h, h.c2, h.c3]
  exact k
theorem ag_dw {pl pl' : Mem} (h : AGv pl pl') : dwS pl' = dwS pl := by
  funext S w e p
  unfold dwS begW
  rw [ag_th h, ag_beg h]
theorem ag_soR {pl pl' : Mem} (h : AGv pl pl') : soR pl' = soR pl := by
  funext S sn w k
  induction k with
  | zero => rfl
  | succ r ih =>
    show (soR pl' S sn w r && decide (dwS pl' S w (sn (4 * (r : Int))) (sn (4 * (r : Int) + 2) * pl' 2 0 + sn (4 * (r : Int) + 1)) = sn (4 * (r : Int) + 3))) = (soR pl S sn w r && decide (dwS pl S w (sn (4 * (r : Int))) (sn (4 * (r : Int) + 2) * pl 2 0 + sn (4 * (r : Int) + 1)) = sn (4 * (r : Int) + 3)))
    rw [ih, ag_dw h, h.c0]
theorem ag_soM {pl pl' : Mem} (h : AGv pl pl') : soM pl' = soM pl := by
  funext S m k
  unfold soM soF
  rw [ag_soR h]
theorem ag_tel {pl pl' : Mem} (h : AGv pl pl') : telS pl' = telS pl := by
  funext S so T
  unfold telS
  rw [ag_dw h, h.c2]
theorem ag_set {pl pl' : Mem} (h : AGv pl pl') {S m : Mem} (k : ISet pl S m) : ISet pl' S m := by
  unfold ISet ITel MK RK setN at *
  rw [ag_soM h, ag_tel h, ag_dw h, h.c2, h.c3]
  exact k
theorem ag_nx {pl pl' : Mem} (h : AGv pl pl') : nxW pl' = nxW pl := by
  funext i e W p
  unfold nxW
  rw [ag_dry h, ag_ga h, ag_goS h, h.c3]
theorem ag_ev {pl pl' : Mem} (h : AGv pl pl') : evD pl' = evD pl := by
  funext i up r
  induction r with
  | zero => rfl
  | succ r ih =>
    funext d W g
    show (if bsd pl' (gaS pl' (up + d) i.toNat 0 W 4 i) (g d) = -1 then none else evD pl' i up r (d + 1) (nxW pl' i (up + d) (gaS pl' (up + d) i.toNat 0 W) (bsd pl' (gaS pl' (up + d) i.toNat 0 W 4 i) (g d))) g) = (if bsd pl (gaS pl (up + d) i.toNat 0 W 4 i) (g d) = -1 then none else evD pl i up r (d + 1) (nxW pl i (up + d) (gaS pl (up + d) i.toNat 0 W) (bsd pl (gaS pl (up + d) i.toNat 0 W 4 i) (g d))) g)
    rw [ih, ag_bsd h, ag_ga h, ag_nx h]
theorem ag_way {pl pl' : Mem} (h : AGv pl pl') {S m : Mem} (k : IWay pl S m) : IWay pl' S m := by
  unfold IWay wayC wayZ wayF at *
  rw [ag_ev h, ag_th h, ag_beg h]
  exact k
