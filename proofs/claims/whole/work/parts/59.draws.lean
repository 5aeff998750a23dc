/-! ===== weather ===== -/
theorem upd_id {s : zR} {i : Nat} {v : Int32} (h : v = s i) : upd s i v = s := by
  funext k
  rw [upd_a]
  by_cases e : k = i
  · rw [if_pos e, h, e]
  · rw [if_neg e]
theorem hdS_bd {x : Int32} {m : Int} {y : Int32} (h : zbd x m) (hy : y.toInt = m) : hdS x 0 y = x := hdS_in (by rw [zle']; exact h.1) (by rw [zle', hy]; exact h.2)
theorem t1_0 {s : zR} {n h w : Nat} (hV : VR s n h) (hw : w < n) : t1S s w 0 = s := by
  have hn := hV.1
  obtain ⟨f, hf, -, e⟩ := VR_fam hV hw
  unfold t1S
  rw [e]
  simp only [Int32.add_zero]
  rw [hdS_bd (x := itS s w 6) (hV.2.2.2.2.2.2.2.2.1 w hw).2.2.2.2.2.2 rfl, hdS_bd (hV.2.2.2.2.2.2.2.1 f hf).2 rfl, upd_id (s := s) (i := 52 + 7 * w + 6) (v := itS s w 6) rfl, upd_id rfl]
/-- a flood, for the first k wheels -/
def fdS (s : zR) : Nat → zR
  | 0 => s
  | k + 1 => if itS (fdS s k) k 4 = 1 then t1S (fdS s k) k (itS (fdS s k) k 1) else fdS s k
theorem VR_fd {s : zR} {n h : Nat} (hV : VR s n h) : ∀ k, k ≤ n → VR (fdS s k) n h := by
  intro k
  induction k with
  | zero => intro _; exact hV
  | succ k ih =>
    intro hk
    rw [fdS]
    by_cases c : itS (fdS s k) k 4 = 1
    · rw [if_pos c]
      exact VR_t1 (ih (by omega)) (by omega) _
    · rw [if_neg c]
      exact ih (by omega)
theorem fd_keep {s : zR} {n h i : Nat} (hV : VR s n h) (hi : i < 43 ∨ 108 ≤ i) : ∀ k, k ≤ n → fdS s k i = s i := by
  intro k
  induction k with
  | zero => intro _; rfl
  | succ k ih =>
    intro hk
    rw [fdS]
    by_cases c : itS (fdS s k) k 4 = 1
    · rw [if_pos c, t1_keep (VR_fd hV k (by omega)) (show k < n by omega) _ hi, ih (by omega)]
    · rw [if_neg c, ih (by omega)]
theorem ra_fdloop {s : zR} {n h : Nat} (hV : VR s n h) (y1 y2 y3 : Int32) (kk : zM → Option (Int32 × zM)) :
    ∀ (d k : Nat) (M : zM) (F : Nat), k + d = n → d < F → M 88 = fdS s k →
      ∃ M', fX8_draws_70 y1 y2 y3 0 kk F (nI k) M = kk M' ∧ M' 88 = fdS s n ∧ ∀ c, c ≠ 88 → M' c = M c := by
  have hn := hV.1
  intro d
  induction d with
  | zero =>
    intro k M F hk hF hs
    obtain ⟨F, rfl⟩ : ∃ G, F = G + 1 := ⟨F - 1, by omega⟩
    have e : k = n := by omega
    subst e
    refine ⟨M, ?_, hs, fun _ _ => rfl⟩
    rw [fX8_draws_70, hs, (VR_fd hV k (Nat.le_refl _)).2.1, if_pos (nI_leY (by omega) (by omega) (by omega))]
  | succ d ih =>
    intro k M F hk hF hs
    obtain ⟨F, rfl⟩ : ∃ G, F = G + 1 := ⟨F - 1, by omega⟩
    have hVk := VR_fd hV k (by omega)
    obtain ⟨f, hf, ef, -⟩ := VR_fam hVk (show k < n by omega)
    rw [fX8_draws_70, show M 88 0 = nI n by rw [hs]; exact hVk.2.1, if_neg (nI_leN (by omega) (by omega) (by omega)), if_pos z00, ra_itsS (k := 4) (x := (4 : Int32)) rfl (by omega) (by omega), zbi_s, hs]
    have hstep : fdS s (k + 1) = if itS (fdS s k) k 4 = 1 then t1S (fdS s k) k (itS (fdS s k) k 1) else fdS s k := rfl
    by_cases c : itS (fdS s k) k 4 = 1
    · rw [if_pos c] at hstep
      rw [if_pos c, ra_itsS (k := 1) (x := (1 : Int32)) rfl (by omega) (by omega), zbi_s, hs]
      obtain ⟨M1, b1, b2, b3⟩ := ra_turn1 (M := M) (show k < 8 by omega) hf (by rw [hs]; exact ef) (itS (fdS s k) k 1)
      rw [b1, zbv_s, zlt_r, nI_1]
      obtain ⟨M', c1, c2, c3⟩ := ih (k + 1) M1 F (by omega) (by omega) (by rw [b2, hs, hstep])
      exact ⟨M', c1, c2, fun x hx => by rw [c3 x hx, b3 x hx]⟩
    · rw [if_neg c] at hstep
      rw [if_neg c]
      obtain ⟨M1, b1, b2, b3⟩ := ra_turn1 (M := M) (show k < 8 by omega) hf (by rw [hs]; exact ef) 0
      rw [b1, zbv_s, zlt_r, nI_1]
      obtain ⟨M', c1, c2, c3⟩ := ih (k + 1) M1 F (by omega) (by omega) (by rw [b2, hs, hstep, t1_0 hVk (by omega)])
      exact ⟨M', c1, c2, fun x hx => by rw [c3 x hx, b3 x hx]⟩
theorem ca_fdloop {s : zR} {q n h : Nat} (hV : VR s n h) (kk : zM → Option zM) :
    ∀ (d k : Nat) (M : zM) (F : Nat), k + d = n → d < F → CB q M (fdS s k) n →
      ∃ M', fX0_flood_2 q kk F (nI k) M = kk M' ∧ CB q M' (fdS s n) n ∧ OU q M M' := by
  have hn := hV.1
  intro d
  induction d with
  | zero =>
    intro k M F hk hF hC
    obtain ⟨F, rfl⟩ : ∃ G, F = G + 1 := ⟨F - 1, by omega⟩
    have e : k = n := by omega
    subst e
    refine ⟨M, ?_, hC, OU.rf⟩
    rw [fX0_flood_2, hC.1, (VR_fd hV k (Nat.le_refl _)).2.1, if_pos (nI_leY (by omega) (by omega) (by omega))]
  | succ d ih =>
    intro k M F hk hF hC
    obtain ⟨F, rfl⟩ : ∃ G, F = G + 1 := ⟨F - 1, by omega⟩
    have hVk := VR_fd hV k (by omega)
    have hkn : k < n := by omega
    rw [fX0_flood_2, hC.1, hVk.2.1, if_neg (nI_leN (by omega) (by omega) (by omega)), zgd_n (zgi rfl (show k < 8 by omega) (by omega)), zlt_r, zcn (by omega), cb_its hC hkn (show 4 < 7 by omega)]
    have hstep : fdS s (k + 1) = if itS (fdS s k) k 4 = 1 then t1S (fdS s k) k (itS (fdS s k) k 1) else fdS s k := rfl
    by_cases c : itS (fdS s k) k 4 = 1
    · rw [if_pos c] at hstep
      obtain ⟨m0, m1⟩ : zbd (itS (fdS s k) k 1) 9 := (hVk.2.2.2.2.2.2.2.2.1 k hkn).2.1
      obtain ⟨M1, b1, b2, b3, b4⟩ := ca_turnMore hVk hC hkn m0 (by omega)
      rw [if_pos c, zgd_n (zgj (show k < 8 by omega) (by omega)), zlt_r, zgd_n (zgj (show k < 8 by omega) (by omega)), zlt_r, cb_its hC hkn (show 1 < 7 by omega), b1, zbv_s, zlt_r, nI_1]
      obtain ⟨M', c1, c2, c3⟩ := ih (k + 1) M1 F (by omega) (by omega) (by rw [hstep]; exact b2)
      exact ⟨M', c1, c2, fun x hx => by rw [c3 x hx, b3 x (by omega) (by omega)]⟩
    · rw [if_neg c] at hstep
      rw [if_neg c, zlt_r, nI_1]
      exact ih (k + 1) M F (by omega) (by omega) (by rw [hstep]; exact hC)
theorem ca_flood {M : zM} {s : zR} {q n h : Nat} (hV : VR s n h) (hC : CB q M s n) : ∃ M', fX0_flood q M = some M' ∧ CB q M' (fdS s n) n ∧ OU q M M' :=
  ca_fdloop hV (fun  M14 => some M14) n 0 M zF (by omega) (show n < 1000 by have := hV.1; omega) hC
theorem zushr8 (x : Int32) : ∃ j, j < 16777216 ∧ zushr x 8 = nI j := by
  have e : (Int32.toUInt32 8 &&& Int32.toUInt32 31) = 8 := by decide
  have h0 : zushr x 8 = (x.toUInt32 >>> 8).toInt32 := by
    show (x.toUInt32 >>> (Int32.toUInt32 8 &&& Int32.toUInt32 31)).toInt32 = _
    rw [e]
  have hlt : (x.toUInt32 >>> 8).toNat < 16777216 := by
    rw [UInt32.toNat_shiftRight]
    have := x.toUInt32.toNat_lt
    show x.toUInt32.toNat >>> 8 < 16777216
    rw [Nat.shiftRight_eq_div_pow]
    omega
  refine ⟨(x.toUInt32 >>> 8).toNat, hlt, ?_⟩
  rw [h0]
  generalize x.toUInt32 >>> 8 = u
  exact Int32.toBitVec_inj.mp (by
    show u.toBitVec = BitVec.ofNat 32 u.toNat
    refine BitVec.eq_of_toNat_eq ?_
    rw [BitVec.toNat_ofNat, Nat.mod_eq_of_lt u.toNat_lt]
    rfl)
/-- the row while hours pass: both sides -/
def NOW (C0 R0 C R : zM) (s : zR) (n : Nat) : Prop := Rel2 C0 R0 ∧ OU 1 C0 C ∧ CB 1 C s n ∧ R 88 = s ∧ RH R0 R ∧ ∀ i, i = 3 ∨ i = 4 ∨ (365 ≤ i ∧ i < 449) → s i = R0 88 i
theorem NOW.rel {C0 R0 C R : zM} {s : zR} {n hh : Nat} (h : NOW C0 R0 C R s n) (hV : VR s n hh) (h9 : hh ≤ 9999) : Rel2 C R ∧ FC C0 C ∧ FR R0 R := by
  obtain ⟨h1, h2, h3, h4, h5, h6⟩ := h
  refine ⟨h1.now (by rw [h4]; exact ⟨n, hh, hV, h9, h3⟩) h2 h5 ?_ ?_ (fun k hk hk2 => ?_), h2.fc (by omega), h5.fr⟩
  · rw [h4]
    exact h6 3 (by omega)
  · rw [h4]
    exact h6 4 (by omega)
  · rw [h4]
    exact h6 k (by omega)
theorem NOW.hour {C0 R0 C R : zM} {s : zR} {n hh : Nat} (h : NOW C0 R0 C R s n) (hV : VR s n hh) (hb : hh + 1 < 100000) : ∃ r C' R', fX0_passHour 1 C = some (r, C') ∧ fX8_hour R = some R' ∧ NOW C0 R0 C' R' (hrS s n) n := by
  obtain ⟨h1, h2, h3, h4, h5, h6⟩ := h
  obtain ⟨C', a1, a2, a3, a4⟩ := ca_passHour hV h3
  obtain ⟨R', b1, b2, b3, b4, b5, b6⟩ := ra_hour (M := R) (by rw [h4]; exact hV)
  rw [h4] at b3
  exact ⟨_, C', R', a1, b1, h1, h2.tr a3, a2, b3, h5.tr b2, fun i hi => by
    rw [← h6 i hi]
    exact go_keep (k := 1) hV (by omega) (by omega) (by omega)⟩
theorem zmin_9 {x : Int32} (h : zbd x 9) : zmin (x + 1) 9 = hdS (x + 1) 0 9 := by
  obtain ⟨h0, h1⟩ := h
  have e1 : (1 : Int32).toInt = 1 := rfl
  have e9 : (9 : Int32).toInt = 9 := rfl
  have e0 : (0 : Int32).toInt = 0 := rfl
  have e : (x + 1).toInt = x.toInt + 1 := zadT (by omega) (by omega)
  have g1 : (0 : Int32) ≤ x + 1 := by rw [zle', e, e0]; omega
  unfold hdS
  rw [if_pos g1]
  unfold zmin
  by_cases c : x + 1 ≤ 9
  · rw [if_pos c, if_neg (fun z => by rw [zlt'] at z; rw [zle'] at c; omega)]
  · rw [if_neg c, if_pos (by rw [zlt']; rw [zle'] at c; omega)]
theorem zmax_0 {x : Int32} (h : zbd x 9) : zmax (x - 1) 0 = hdS (x + -1) 0 9 := by
  obtain ⟨h0, h1⟩ := h
  have e1 : (1 : Int32).toInt = 1 := rfl
  have e9 : (9 : Int32).toInt = 9 := rfl
  have e0 : (0 : Int32).toInt = 0 := rfl
  have e : (x - 1).toInt = x.toInt - 1 := zsbT (by omega) (by omega)
  have es : x + -1 = x - 1 := (Int32.sub_eq_add_neg x 1).symm
  rw [es]
  have g2 : x - 1 ≤ 9 := by rw [zle', e, e9]; omega
  unfold hdS zmax
  by_cases c : 0 ≤ x - 1
  · rw [if_pos c, if_pos g2, if_neg (fun z => by rw [zlt'] at z; rw [zle'] at c; omega)]
  · rw [if_neg c, if_pos (by rw [zlt']; rw [zle'] at c; omega)]
/-- the row drawn anew -/
def dzS (s : zR) : zR := upd s 5 (s 5 * 1103515245 + 12345)
def dwS (s : zR) (n : Nat) : zR :=
  let r := zrem (zushr (dzS s 5) 8) 16
  if r = 0 then fdS (dzS s) n else if 3 < r then (if 6 < r then dzS s else upd (dzS s) 2 (hdS (dzS s 2 + -1) 0 9)) else upd (dzS s) 2 (hdS (dzS s 2 + 1) 0 9)
theorem VR_dz {s : zR} {n h : Nat} (hV : VR s n h) : VR (dzS s) n h := VR_up hV (by omega) (by omega) (fun z => by omega) (fun _ _ _ => by omega) (fun _ _ _ => by omega) (fun _ _ _ => by omega) (fun _ _ _ => by omega)
theorem hd9 (v : Int32) : zbd (hdS v 0 9) 9 := hdS_r (lo := 0) (hi := 9) (by decide)
theorem VR_cold {s : zR} {n h : Nat} {v : Int32} (hV : VR s n h) (hv : zbd v 9) : VR (upd s 2 v) n h := VR_up hV (by omega) (by omega) (fun _ => hv) (fun _ _ _ => by omega) (fun _ _ _ => by omega) (fun _ _ _ => by omega) (fun _ _ _ => by omega)
theorem VR_dw {s : zR} {n h : Nat} (hV : VR s n h) : VR (dwS s n) n h := by
  have h1 := VR_dz hV
  show VR (if zrem (zushr (dzS s 5) 8) 16 = 0 then _ else _) n h
  by_cases c : zrem (zushr (dzS s 5) 8) 16 = 0
  · rw [if_pos c]
    exact VR_fd h1 n (Nat.le_refl _)
  · rw [if_neg c]
    by_cases c3 : 3 < zrem (zushr (dzS s 5) 8) 16
    · rw [if_pos c3]
      by_cases c6 : 6 < zrem (zushr (dzS s 5) 8) 16
      · rw [if_pos c6]
        exact h1
      · rw [if_neg c6]
        exact VR_cold h1 (hd9 _)
    · rw [if_neg c3]
      exact VR_cold h1 (hd9 _)
theorem dw_keep {s : zR} {n h i : Nat} (hV : VR s n h) (hi : i = 3 ∨ i = 4 ∨ (365 ≤ i ∧ i < 449)) : dwS s n i = s i := by
  have h1 := VR_dz hV
  have e : dzS s i = s i := upd_n _ (by omega)
  show (if zrem (zushr (dzS s 5) 8) 16 = 0 then fdS (dzS s) n else if 3 < zrem (zushr (dzS s 5) 8) 16 then (if 6 < zrem (zushr (dzS s 5) 8) 16 then dzS s else upd (dzS s) 2 (hdS (dzS s 2 + -1) 0 9)) else upd (dzS s) 2 (hdS (dzS s 2 + 1) 0 9)) i = s i
  by_cases c : zrem (zushr (dzS s 5) 8) 16 = 0
  · rw [if_pos c, fd_keep h1 (by omega) n (Nat.le_refl _), e]
  · rw [if_neg c]
    by_cases c3 : 3 < zrem (zushr (dzS s 5) 8) 16
    · rw [if_pos c3]
      by_cases c6 : 6 < zrem (zushr (dzS s 5) 8) 16
      · rw [if_pos c6, e]
      · rw [if_neg c6, upd_n _ (by omega), e]
    · rw [if_neg c3, upd_n _ (by omega), e]
theorem ca_drawWeather {M : zM} {s : zR} {q n h : Nat} (hV : VR s n h) (hC : CB q M s n) : ∃ M', fX0_drawWeather q M = some (if zrem (zushr (dzS s 5) 8) 16 = 0 then 1 else 0, M') ∧ CB q M' (dwS s n) n ∧ OU q M M' := by
  have hn := hV.1
  have h1 := VR_dz hV
  have c1 : CB q (zst M q 12 (s 5 * 1103515245 + 12345)) (dzS s) n := hC.up hn (by omega)
  have o1 : OU q M (zst M q 12 (s 5 * 1103515245 + 12345)) := OU.st (by omega) (by omega)
  have e5 : dzS s 5 = s 5 * 1103515245 + 12345 := upd_s _ _ _
  rw [fX0_drawWeather, hC.2.2.2.1, zlt_r, zlt_r, zlt_r, c1.2.2.2.1]
  show ∃ M', (if zrem (zushr (dzS s 5) 8) 16 = 0 then _ else _) = _ ∧ CB q M' (if zrem (zushr (dzS s 5) 8) 16 = 0 then _ else _) n ∧ _
  by_cases c : zrem (zushr (dzS s 5) 8) 16 = 0
  · obtain ⟨M', a1, a2, a3⟩ := ca_flood h1 c1
    rw [if_pos c, if_pos c, if_pos c, a1, zbv_s]
    exact ⟨M', rfl, a2, o1.tr a3⟩
  · rw [if_neg c, if_neg c, if_neg c]
    by_cases c3 : 3 < zrem (zushr (dzS s 5) 8) 16
    · rw [if_pos c3, if_pos c3]
      by_cases c6 : 6 < zrem (zushr (dzS s 5) 8) 16
      · rw [if_pos c6, if_pos c6]
        exact ⟨_, rfl, c1, o1⟩
      · rw [if_neg c6, if_neg c6, zlt_r, zlt_r, c1.2.2.1, zmax_0 h1.2.2.2.2.1]
        exact ⟨_, rfl, c1.up hn (by omega), o1.tr (OU.st (by omega) (by omega))⟩
    · rw [if_neg c3, if_neg c3, zlt_r, zlt_r, c1.2.2.1, zmin_9 h1.2.2.2.2.1]
      exact ⟨_, rfl, c1.up hn (by omega), o1.tr (OU.st (by omega) (by omega))⟩
theorem ra_nofd {y1 y2 y3 y4 : Int32} (h : ¬ y4 = 0) (kk : zM → Option (Int32 × zM)) (F : Nat) (M : zM) : fX8_draws_70 y1 y2 y3 y4 kk (F + 1) 0 M = kk M := by
  rw [fX8_draws_70]
  by_cases c : M 88 0 ≤ 0
  · rw [if_pos c]
  · rw [if_neg c, if_neg h]
theorem ra_dstep {M : zM} {n h : Nat} (hV : VR (M 88) n h) (y1 v2 v3 : Int32) (hy : ¬ y1 ≤ v3) (kk : Int32 → zM → Option (Int32 × zM)) (F : Nat) :
    ∃ M', fX8_draws_40 y1 kk (F + 1) v2 v3 M = zbv (fX8_hour M') (fun M7 => fX8_draws_40 y1 kk F (v2 + if zrem (zushr (dzS (M 88) 5) 8) 16 = 0 then 1 else 0) (v3 + 1) M7) ∧ M' 88 = dwS (M 88) n ∧ ∀ c, c ≠ 88 → M' c = M c := by
  have hn := hV.1
  have h1 := VR_dz hV
  have e5 : dzS (M 88) 5 = M 88 5 * 1103515245 + 12345 := upd_s _ _ _
  obtain ⟨j0, hj0, ej0⟩ := zushr8 (dzS (M 88) 5)
  have er : zrem (zushr (dzS (M 88) 5) 8) 16 = nI (j0 % 16) := zrem16 ej0 (by omega)
  have hj : j0 % 16 < 16 := by omega
  generalize j0 % 16 = j at er hj
  have ed : fX8_draw M = some (zushr (dzS (M 88) 5) 8, zst M 88 5 (M 88 5 * 1103515245 + 12345)) := by
    rw [fX8_draw, zlt_r, zlt_r, zst_k, if_pos ⟨rfl, rfl⟩, e5]
  generalize hM1 : zst M 88 5 (M 88 5 * 1103515245 + 12345) = M1 at ed
  have e88 : M1 88 = dzS (M 88) := by
    rw [← hM1, zst_s]
    rfl
  have o1 : ∀ c, c ≠ 88 → M1 c = M c := fun c hc => by rw [← hM1, zst_n _ hc]
  have dw : dwS (M 88) n = if nI j = 0 then fdS (dzS (M 88)) n else if 3 < nI j then (if 6 < nI j then dzS (M 88) else upd (dzS (M 88)) 2 (hdS (dzS (M 88) 2 + -1) 0 9)) else upd (dzS (M 88)) 2 (hdS (dzS (M 88) 2 + 1) 0 9) := by
    rw [← er]
    rfl
  rw [fX8_draws_40, if_neg hy, ed, zbi_s, er, zlt_r, dw]
  by_cases c : nI j = 0
  · have hj0 : j = 0 := nI_inj' (b := 0) c (by omega) (by omega)
    subst hj0
    rw [if_pos c, if_pos c, if_pos c, zlt_r]
    rw [show nI 0 = 0 from rfl]
    obtain ⟨M2, a1, a2, a3⟩ := ra_fdloop (s := dzS (M 88)) h1 y1 (v2 + 1) v3 (fun  M64 => zbi (fX8_in 0 (1 : Int32) (3 : Int32) M64) (fun r65 M66 => if r65 = 0 then (zbi (fX8_in 0 (4 : Int32) (6 : Int32) M66) (fun r69 M70 => if r69 = 0 then (zbi (fX8_held ((M64 88 (2)) + (0 : Int32)) (0 : Int32) (9 : Int32) M70) (fun r73 M74 => zlt (zst M74 88 (2) r73) (fun M76 => zbv (fX8_hour M76) (fun M78 => zlt (v3 + (1 : Int32)) (fun x80 => fX8_draws_40 y1 kk F (v2 + 1) x80 M78))))) else (zbi (fX8_held ((M64 88 (2)) + (-1 : Int32)) (0 : Int32) (9 : Int32) M70) (fun r81 M82 => zlt (zst M82 88 (2) r81) (fun M84 => zbv (fX8_hour M84) (fun M86 => zlt (v3 + (1 : Int32)) (fun x88 => fX8_draws_40 y1 kk F (v2 + 1) x88 M86))))))) else (zbi (fX8_held ((M64 88 (2)) + (1 : Int32)) (0 : Int32) (9 : Int32) M66) (fun r89 M90 => zlt (zst M90 88 (2) r89) (fun M92 => zbv (fX8_hour M92) (fun M94 => zlt (v3 + (1 : Int32)) (fun x96 => fX8_draws_40 y1 kk F (v2 + 1) x96 M94))))))) n 0 M1 zF (by omega) (show n < 1000 by omega) e88
    have hV2 := VR_fd h1 n (Nat.le_refl _)
    have hc2 : hdS (fdS (dzS (M 88)) n 2) 0 9 = fdS (dzS (M 88)) n 2 := hdS_bd hV2.2.2.2.2.1 rfl
    refine ⟨zst M2 88 2 (fdS (dzS (M 88)) n 2), a1.trans ?_, ?_, fun c hc => by rw [zst_n _ hc, a3 c hc, o1 c hc]⟩
    · show zbi (fX8_in 0 1 3 M2) _ = _
      rw [ra_in, if_neg (by decide), zbi_s, if_pos z00, ra_in, if_neg (by decide), zbi_s, if_pos z00, Int32.add_zero, ra_held, zbi_s, zlt_r, a2, hc2]
      rfl
    · rw [zst_s, a2]
      exact upd_id rfl
  · rw [if_neg c, if_neg c, if_neg c, zlt_r, Int32.add_zero]
    have hj1 : 1 ≤ j := by
      rcases Nat.eq_zero_or_pos j with z | z
      · exact absurd (by rw [z]; rfl) c
      · exact z
    have i1 : ∀ N : zM, fX8_in (nI j) 1 3 N = some (if j ≤ 3 then 1 else 0, N) := fun N => by
      rw [ra_in]
      by_cases g : j ≤ 3
      · rw [if_pos g, if_pos ⟨nI_leY (a := 1) (by omega) (by omega) hj1, nI_leY (b := 3) (by omega) (by omega) g⟩]
      · rw [if_neg g, if_neg (fun z => nI_leN (a := j) (b := 3) (by omega) (by omega) (by omega) z.2)]
    have i2 : ∀ N : zM, ¬ j ≤ 3 → fX8_in (nI j) 4 6 N = some (if j ≤ 6 then 1 else 0, N) := fun N g3 => by
      rw [ra_in]
      by_cases g : j ≤ 6
      · rw [if_pos g, if_pos ⟨nI_leY (a := 4) (by omega) (by omega) (by omega), nI_leY (b := 6) (by omega) (by omega) g⟩]
      · rw [if_neg g, if_neg (fun z => nI_leN (a := j) (b := 6) (by omega) (by omega) (by omega) z.2)]
    rw [show zF = 999 + 1 from rfl, ra_nofd c, i1, zbi_s]
    by_cases g3 : j ≤ 3
    · rw [if_pos g3, if_neg z10, ra_held, zbi_s, zlt_r, if_neg (show ¬ (3 : Int32) < nI j from nI_ltN (a := 3) (b := j) (by omega) (by omega) (by omega)), e88]
      exact ⟨_, rfl, by rw [zst_s, e88], fun c hc => by rw [zst_n _ hc, o1 c hc]⟩
    · rw [if_neg g3, if_pos z00, i2 _ g3, zbi_s, if_pos (show (3 : Int32) < nI j from nI_ltY (a := 3) (b := j) (by omega) (by omega) (by omega))]
      by_cases g6 : j ≤ 6
      · rw [if_pos g6, if_neg z10, ra_held, zbi_s, zlt_r, if_neg (show ¬ (6 : Int32) < nI j from nI_ltN (a := 6) (b := j) (by omega) (by omega) (by omega)), e88]
        exact ⟨_, rfl, by rw [zst_s, e88], fun c hc => by rw [zst_n _ hc, o1 c hc]⟩
      · rw [if_neg g6, if_pos z00, Int32.add_zero, ra_held, zbi_s, zlt_r, if_pos (show (6 : Int32) < nI j from nI_ltY (a := 6) (b := j) (by omega) (by omega) (by omega)), e88, hdS_bd h1.2.2.2.2.1 rfl]
        exact ⟨_, rfl, by rw [zst_s, e88]; exact upd_id rfl, fun c hc => by rw [zst_n _ hc, o1 c hc]⟩
theorem eq_drloop {C0 R0 : zM} {m : Nat} (hm : m ≤ 60) {n : Nat} :
    ∀ (d v : Nat) (x : Int32) (s : zR) (hh : Nat) (C R : zM) (F G : Nat), v + d = m → d < F → d < G → VR s n hh → hh + d ≤ 9999 → NOW C0 R0 C R s n →
      EQA C0 R0 (fX7_draws_41 (nI m) (fun x15 M16 => some (x15, M16)) F x (nI v) C) (fX8_draws_40 (nI m) (fun x97 M98 => some (x97, M98)) G x (nI v) R) := by
  intro d
  induction d with
  | zero =>
    intro v x s hh C R F G hv hF hG hV h9 t
    obtain ⟨F, rfl⟩ : ∃ E, F = E + 1 := ⟨F - 1, by omega⟩
    obtain ⟨G, rfl⟩ : ∃ E, G = E + 1 := ⟨G - 1, by omega⟩
    have e : v = m := by omega
    subst e
    have g1 : nI v ≤ nI v := nI_leY (by omega) (by omega) (by omega)
    obtain ⟨f2, f3, f4⟩ := t.rel hV (by omega)
    rw [fX7_draws_41, if_pos g1, fX8_draws_40, if_pos g1]
    exact EQA.done rfl f2 f3 f4
  | succ d ih =>
    intro v x s hh C R F G hv hF hG hV h9 t
    obtain ⟨F, rfl⟩ : ∃ E, F = E + 1 := ⟨F - 1, by omega⟩
    obtain ⟨G, rfl⟩ : ∃ E, G = E + 1 := ⟨G - 1, by omega⟩
    have g1 : ¬ nI m ≤ nI v := nI_leN (by omega) (by omega) (by omega)
    obtain ⟨t1, t2, t3, t4, t5, t6⟩ := t
    obtain ⟨C1, a1, a2, a3⟩ := ca_drawWeather hV t3
    obtain ⟨R1, b1, b2, b3⟩ := ra_dstep (M := R) (by rw [t4]; exact hV) (nI m) x (nI v) g1 (fun x97 M98 => some (x97, M98)) G
    rw [t4] at b1 b2
    have hV2 := VR_dw hV
    have t' : NOW C0 R0 C1 R1 (dwS s n) n := ⟨t1, t2.tr a3, a2, b2, t5.tr ⟨fun c _ h2 _ _ _ _ _ => b3 c h2, fun k _ _ => by rw [b3 87 (by decide)]⟩, fun i hi => by rw [dw_keep hV hi, t6 i hi]⟩
    obtain ⟨r, C2, R2, c1, c2, c3⟩ := t'.hour hV2 (by omega)
    rw [fX7_draws_41, if_neg g1, a1, zbi_s, zlt_r, c1, zbi_s, zlt_r, b1, c2, zbv_s, nI_1]
    exact ih (v + 1) _ (hrS (dwS s n) n) (hh + 1) C2 R2 F G (by omega) (by omega) (by omega) (VR_hr hV2 (by omega)) (by omega) c3
theorem eq_draws (p0 : Int32) {C R : zM} (h : Rel2 C R) : EQA C R (fX7_draws p0 C) (fX8_draws p0 R) := by
  unfold fX7_draws fX8_draws
  refine EQA.out1 h (m := 60) rfl (by omega) fun j j0 hj e => ?_
  subst e
  obtain ⟨n, hh, a1, a2, a3⟩ := h.1
  have e1 : C 1 10 = nI hh := a3.2.1.trans a1.2.2.1
  rw [e1, a1.2.2.1, nI_add]
  by_cases c : nI (hh + j) ≤ (9999 : Int32)
  · have c' := (nI_leI (a := hh + j) (b := 9999) (by omega) (by omega)).mp c
    rw [if_pos c, if_pos c]
    exact eq_drloop hj j 0 0 (R 88) hh C R zF zF (by omega) (show j < 1000 by omega) (show j < 1000 by omega) a1 (by omega) ⟨h, OU.rf, a3, rfl, RH.rf, fun i _ => rfl⟩
  · rw [if_neg c, if_neg c]
    exact EQA.err h (k := 3) rfl (by omega)
