/-! ===== turns in hours ahead ===== -/
/-- x and t a + t (a + 1) + .. of c numbers -/
def inS (t : Nat → Int32) (a : Nat) : Nat → Int32 → Int32
  | 0, x => x
  | c + 1, x => inS t a c x + t (a + c)
def tiS (s : zR) (n a c : Nat) : Nat → Int32
  | 0 => 0
  | i + 1 => inS (fun k => trS (goS s n i) n k) a c (tiS s n a c i)
theorem ca_inloop {s : zR} {q n h a c : Nat} (t : Nat → Int32) (hV : VR s n h) (hac : a + c ≤ n) (y1 y2 y5 x : Int32) (kk : Int32 → zM → Option (Int32 × zM)) (M : zM) (hC : CB q M s n) (ht : ∀ j, j < n → M (q + 8 + j) 8 = t j) :
    ∀ (d k F : Nat), k + d = c → d < F → fX0_turnsIn_20 q y1 y2 (nI (a + c)) y5 kk F (inS t a k x) (nI (a + k)) M = kk (inS t a c x) M := by
  have hn := hV.1
  have e9 : M q 9 = nI n := hC.1.trans hV.2.1
  intro d
  induction d with
  | zero =>
    intro k F hk hF
    obtain ⟨F, rfl⟩ : ∃ G, F = G + 1 := ⟨F - 1, by omega⟩
    have e : k = c := by omega
    subst e
    rw [fX0_turnsIn_20, if_pos (nI_leY (by omega) (by omega) (by omega))]
  | succ d ih =>
    intro k F hk hF
    obtain ⟨F, rfl⟩ : ∃ G, F = G + 1 := ⟨F - 1, by omega⟩
    rw [fX0_turnsIn_20, if_neg (nI_leN (by omega) (by omega) (by omega)), e9, if_neg (nI_leN (by omega) (by omega) (by omega)), zgd_n (zgi rfl (show a + k < 8 by omega) (by omega)), zlt_r, zcn (by omega), ht (a + k) (by omega), zlt_r, zlt_r, nI_1]
    exact ih (k + 1) F (by omega) (by omega)
theorem ca_tiloop {s : zR} {q n h m a c : Nat} (hV : VR s n h) (hm : h + m < 100000) (hm2 : m < 1000) (hac : a + c ≤ n) (kk : Int32 → zM → Option (Int32 × zM)) :
    ∀ (d k : Nat) (M : zM) (F : Nat), k + d = m → d < F → CB q M (goS s n k) n →
      ∃ M', fX0_turnsIn_6 q (nI m) (nI a) (nI (a + c)) kk F (tiS s n a c k) (nI k) M = kk (tiS s n a c m) M' ∧ CB q M' (goS s n m) n ∧ OU q M M' := by
  have hn := hV.1
  intro d
  induction d with
  | zero =>
    intro k M F hk hF hs
    obtain ⟨F, rfl⟩ : ∃ G, F = G + 1 := ⟨F - 1, by omega⟩
    have e : k = m := by omega
    subst e
    refine ⟨M, ?_, hs, OU.rf⟩
    rw [fX0_turnsIn_6, if_pos (nI_leY (by omega) (by omega) (by omega))]
  | succ d ih =>
    intro k M F hk hF hs
    obtain ⟨F, rfl⟩ : ∃ G, F = G + 1 := ⟨F - 1, by omega⟩
    have hVk := VR_go hV k (by omega)
    have hVk2 := VR_go hV (k + 1) (by omega)
    obtain ⟨M1, a1, a2, a3, a4⟩ := ca_passHour hVk hs
    obtain ⟨M', b1, b2, b3⟩ := ih (k + 1) M1 F (by omega) (by omega) a2
    refine ⟨M', ?_, b2, a3.tr b3⟩
    rw [fX0_turnsIn_6, if_neg (nI_leN (by omega) (by omega) (by omega)), a1, zbi_s]
    refine (ca_inloop (fun j => trS (goS s n k) n j) hVk2 hac (nI m) (nI a) (nI k) (tiS s n a c k) _ M1 a2 a4 c 0 zF (by omega) (show c < 1000 by omega)).trans ?_
    show zlt (nI k + 1) _ = _
    rw [zlt_r, nI_1]
    exact b1
theorem ca_turnsIn {M : zM} {s : zR} {q n h m a c : Nat} (hV : VR s n h) (hm : h + m < 100000) (hm2 : m < 1000) (hac : a + c ≤ n) (hC : CB q M s n) : ∃ M', fX0_turnsIn q (nI m) (nI a) (nI (a + c)) M = some (tiS s n a c m, M') ∧ OU q M M' := by
  obtain ⟨M', b1, b2, b3⟩ := ca_tiloop (q := q) hV hm hm2 hac (fun x14 M15 => some (x14, M15)) m 0 M zF (by omega) hm2 hC
  exact ⟨M', b1, b3⟩
/-- what findTurns changes -/
def RF (M M' : zM) : Prop := (∀ c, c ≠ 87 → M' c = M c) ∧ ∀ k, k ≠ 17 → k ≠ 18 → M' 87 k = M 87 k
theorem ra_inloop {n o : Nat} (hn : n ≤ 8) (ho : o ≤ n) (t : Nat → Int32) (x z : Int32) (y2 y3 : Int32) (kk : zM → Option zM) :
    ∀ (d k : Nat) (M : zM) (F : Nat), k + d = n → d < F → M 88 0 = nI n → (∀ j, j < n → M 97 j = t j) → M 87 17 = inS t 0 (min k o) x → M 87 18 = inS t o (k - o) z →
      ∃ M', fX8_findTurns_24 (nI o) y2 y3 kk F (nI k) M = kk M' ∧ RF M M' ∧ M' 87 17 = inS t 0 o x ∧ M' 87 18 = inS t o (n - o) z := by
  intro d
  induction d with
  | zero =>
    intro k M F hk hF h0 ht h1 h2
    obtain ⟨F, rfl⟩ : ∃ G, F = G + 1 := ⟨F - 1, by omega⟩
    have e : k = n := by omega
    subst e
    refine ⟨M, ?_, ⟨fun _ _ => rfl, fun _ _ _ => rfl⟩, ?_, h2⟩
    · rw [fX8_findTurns_24, h0, if_pos (nI_leY (by omega) (by omega) (by omega))]
    · rw [h1, show min k o = o by omega]
  | succ d ih =>
    intro k M F hk hF h0 ht h1 h2
    obtain ⟨F, rfl⟩ : ∃ G, F = G + 1 := ⟨F - 1, by omega⟩
    have hkn : k < n := by omega
    rw [fX8_findTurns_24, h0, if_neg (nI_leN (a := n) (b := k) (by omega) (by omega) (by omega))]
    by_cases c : o ≤ k
    · have g : nI o ≤ nI k := nI_leY (by omega) (by omega) c
      have e1 : ∀ v, zst M 87 17 v 87 18 = M 87 18 := fun v => by rw [zst_k, if_neg (by omega)]
      have e2 : ∀ v, zst M 87 17 v 97 = M 97 := fun v => zst_n _ (by decide)
      rw [if_pos g, zlt_r, if_pos g, zgd_n (zgi rfl (show k < 9 by omega) (by omega)), zcn (by omega), e1, e2, ht k hkn, zlt_r, zlt_r, nI_1, Int32.add_zero]
      obtain ⟨M', b1, b2, b3, b4⟩ := ih (k + 1) (zst (zst M 87 17 (M 87 17)) 87 18 (M 87 18 + t k)) F (by omega) (by omega) (by rw [zst_n _ (by decide), zst_n _ (by decide)]; exact h0) (fun j hj => by rw [zst_n _ (by decide), zst_n _ (by decide)]; exact ht j hj) (by
        rw [zst_k, if_neg (by omega), zst_k, if_pos ⟨rfl, rfl⟩, h1, show min k o = o by omega, show min (k + 1) o = o by omega]) (by
        rw [zst_k, if_pos ⟨rfl, rfl⟩, h2, show k + 1 - o = k - o + 1 by omega, inS, show o + (k - o) = k by omega])
      refine ⟨M', b1, ⟨fun c hc => by rw [b2.1 c hc, zst_n _ hc, zst_n _ hc], fun j h3 h4 => ?_⟩, b3, b4⟩
      rw [b2.2 j h3 h4, zst_k, if_neg (fun w => h4 w.2), zst_k, if_neg (fun w => h3 w.2)]
    · have g : ¬ nI o ≤ nI k := nI_leN (by omega) (by omega) (by omega)
      have e1 : ∀ v, zst M 87 17 v 87 18 = M 87 18 := fun v => by rw [zst_k, if_neg (by omega)]
      rw [if_neg g, zgd_n (zgi rfl (show k < 9 by omega) (by omega)), zcn (by omega), ht k hkn, zlt_r, if_neg g, e1, zlt_r, zlt_r, nI_1, Int32.add_zero]
      obtain ⟨M', b1, b2, b3, b4⟩ := ih (k + 1) (zst (zst M 87 17 (M 87 17 + t k)) 87 18 (M 87 18)) F (by omega) (by omega) (by rw [zst_n _ (by decide), zst_n _ (by decide)]; exact h0) (fun j hj => by rw [zst_n _ (by decide), zst_n _ (by decide)]; exact ht j hj) (by
        rw [zst_k, if_neg (by omega), zst_k, if_pos ⟨rfl, rfl⟩, h1, show min k o = k by omega, show min (k + 1) o = k + 1 by omega, inS, Nat.zero_add]) (by
        rw [zst_k, if_pos ⟨rfl, rfl⟩, h2, show k - o = 0 by omega, show k + 1 - o = 0 by omega])
      refine ⟨M', b1, ⟨fun c hc => by rw [b2.1 c hc, zst_n _ hc, zst_n _ hc], fun j h3 h4 => ?_⟩, b3, b4⟩
      rw [b2.2 j h3 h4, zst_k, if_neg (fun w => h4 w.2), zst_k, if_neg (fun w => h3 w.2)]
theorem RF.rx {M M' : zM} (h : RF M M') : RX M M' := ⟨fun c h1 _ _ _ _ _ _ _ => h.1 c h1, fun k _ _ h3 h4 => h.2 k h3 h4⟩
theorem ra_tiloop {s : zR} {n h m o : Nat} (hV : VR s n h) (hm : h + m < 100000) (hm2 : m < 1000) (ho : o ≤ n) (kk : zM → Option zM) :
    ∀ (d k : Nat) (M : zM) (F : Nat), k + d = m → d < F → M 88 = goS s n k → M 87 17 = tiS s n 0 o k → M 87 18 = tiS s n o (n - o) k →
      ∃ M', fX8_findTurns_12 (nI o) (nI m) kk F (nI k) M = kk M' ∧ M' 88 = goS s n m ∧ M' 87 17 = tiS s n 0 o m ∧ M' 87 18 = tiS s n o (n - o) m ∧ RX M M' ∧ M' 90 = M 90 := by
  have hn := hV.1
  intro d
  induction d with
  | zero =>
    intro k M F hk hF hs h1 h2
    obtain ⟨F, rfl⟩ : ∃ G, F = G + 1 := ⟨F - 1, by omega⟩
    have e : k = m := by omega
    subst e
    refine ⟨M, ?_, hs, h1, h2, RX.rf, rfl⟩
    rw [fX8_findTurns_12, if_pos (nI_leY (by omega) (by omega) (by omega))]
  | succ d ih =>
    intro k M F hk hF hs h1 h2
    obtain ⟨F, rfl⟩ : ∃ G, F = G + 1 := ⟨F - 1, by omega⟩
    have hVk := VR_go hV k (by omega)
    have hVk2 := VR_go hV (k + 1) (by omega)
    obtain ⟨M1, a1, a2, a3, a4, a5, a6⟩ := ra_hour (M := M) (by rw [hs]; exact hVk)
    rw [hs] at a6 a3
    rw [fX8_findTurns_12, if_neg (nI_leN (by omega) (by omega) (by omega)), a1, zbv_s]
    obtain ⟨M2, b1, b2, b3, b4⟩ := ra_inloop hn ho (fun j => trS (goS s n k) n j) (tiS s n 0 o k) (tiS s n o (n - o) k) (nI m) (nI k) (fun  M24 => zlt (nI k + (1 : Int32)) (fun x25 => fX8_findTurns_12 (nI o) (nI m) kk F x25 M24)) n 0 M1 zF (by omega) (show n < 1000 by omega) (by rw [a3]; exact hVk2.2.1) a6 (by rw [a2.2 17 (by decide) (by decide), h1, show min 0 o = 0 by omega]; rfl) (by rw [a2.2 18 (by decide) (by decide), h2, show 0 - o = 0 by omega]; rfl)
    obtain ⟨M', c1, c2, c3, c4, c5, c6⟩ := ih (k + 1) M2 F (by omega) (by omega) (by rw [b2.1 88 (by decide), a3]; rfl) b3 b4
    refine ⟨M', b1.trans ?_, c2, c3, c4, (a2.rx.tr b2.rx).tr c5, by rw [c6, b2.1 90 (by decide), a2.e90]⟩
    show zlt (nI k + 1) _ = _
    rw [zlt_r, nI_1]
    exact c1
/-- findTurns of the reference, ahead: it comes back -/
theorem TRI.turns {C0 R0 C R : zM} {s : zR} {n hh m o : Nat} (h : TRI C0 R0 C R s n) (hV : VR s n hh) (hm : hh + m < 100000) (hm2 : m < 1000) (ho : o ≤ n) :
    ∃ R', fX8_findTurns (nI o) (nI m) R = some R' ∧ R' 87 17 = tiS s n 0 o m ∧ R' 87 18 = tiS s n o (n - o) m ∧ (∀ k, k < 449 → R' 88 k = R0 88 k) ∧ RX R0 R' ∧ ∀ k, k < 449 → R' 90 k = R0 88 k := by
  have e := h.2.2.2.1
  obtain ⟨M', a1, a2, a3, a4, a5, a6⟩ := ra_tiloop (o := o) hV hm hm2 ho (fun  M26 => zbv (fX8_carry 90 88 M26) (fun M28 => some M28)) m 0 (zst (zst R 87 17 0) 87 18 0) zF (by omega) hm2 (by rw [zst_n _ (by decide), zst_n _ (by decide)]; exact e) (by rw [zst_k, if_neg (by omega), zst_k, if_pos ⟨rfl, rfl⟩]; rfl) (by rw [zst_k, if_pos ⟨rfl, rfl⟩]; rfl)
  have x0 : RX R (zst (zst R 87 17 0) 87 18 0) := ⟨fun c h1 _ _ _ _ _ _ _ => by rw [zst_n _ h1, zst_n _ h1], fun k _ _ h3 h4 => by rw [zst_k, if_neg (fun w => h4 w.2), zst_k, if_neg (fun w => h3 w.2)]⟩
  have t2 : TRI C0 R0 C M' s n ∨ True := Or.inr trivial
  have r2 : RX R0 M' := h.2.2.2.2.2.tr (x0.tr a5)
  have e90 : ∀ k, k < 449 → M' 90 k = R0 88 k := fun k hk => by
    rw [a6, zst_n _ (by decide), zst_n _ (by decide)]
    exact h.2.2.2.2.1 k hk
  refine ⟨zup M' 88 (cpS (M' 90) (M' 88) 449), ?_, ?_, ?_, fun k hk => ?_, r2.tr (RX.up (by omega)), fun k hk => ?_⟩
  · rw [fX8_findTurns, zlt_r, zlt_r]
    refine a1.trans ?_
    show zbv (fX8_carry 90 88 M') _ = _
    rw [ra_carry (by omega), zbv_s]
  · rw [zup_n _ (by decide), a3]
  · rw [zup_n _ (by decide), a4]
  · rw [zup_s, cpS_in hk]
    exact e90 k hk
  · rw [zup_n _ (by decide)]
    exact e90 k hk
theorem nI_10m (p : Nat) : (10 : Int32) * nI p = nI (10 * p) := pk_mul 10 p
/-- with one wheel more, ahead -/
theorem tri_add {C0 R0 C R : zM} {n hh j p : Nat} (h0 : Rel2 C0 R0) (o : OU 45 C0 C) (x : RX R0 R) (e88 : ∀ k, k < 449 → R 88 k = R0 88 k) (e90 : ∀ k, k < 449 → R 90 k = R0 88 k) (hV : VR (R0 88) n hh) (hC : CB 1 C0 (R0 88) n) (hn : n < 8) (hj : j < 70) (hp : p < 12) :
    ∃ C1 C' R', fX0_copyFrom 45 1 C = some C1 ∧ fX0_addWheel 45 (nI j) (nI p) 0 C1 = some C' ∧ fX8_adds (nI j) (nI (10 * p)) R = some (nI n, R') ∧ TRI C0 R0 C' R' (adS (R 88) n (nI (j / 10)) (nI (j % 10)) (nI p) 0) (n + 1) ∧ VR (adS (R 88) n (nI (j / 10)) (nI (j % 10)) (nI p) 0) (n + 1) hh ∧ OU 45 C C' := by
  have hVR : VR (R 88) n hh := hV.cg (fun k hk => e88 k (by omega))
  have hCC : CB 1 C (R 88) n := (hC.eq hV.1 (fun c _ _ => o c (by omega))).cg hV.1 (fun k hk => e88 k (by omega))
  obtain ⟨C1, a1, a2, a3⟩ := ca_copyFrom (q := 45) hVR hCC (by omega)
  obtain ⟨C', b1, b2, b3⟩ := ca_addWheel (p := p) (d := 0) hVR a2 hn hj
  obtain ⟨R', d1, d2, d3⟩ := ra_adds hVR hn hj (show 10 * p < 115 by omega)
  rw [show 10 * p / 10 = p by omega, show 10 * p % 10 = 0 by omega] at d2
  refine ⟨C1, C', R', a1, b1, d1, ⟨h0, o.tr (a3.tr b3), b2, d2, fun k hk => by rw [d3 90 (by decide)]; exact e90 k hk, x.tr ⟨fun c _ h2 _ _ _ _ _ _ => d3 c h2, fun k _ _ _ _ => by rw [d3 87 (by decide)]⟩⟩, ?_, a3.tr b3⟩
  exact VR_ad hVR hn (zbd_nI (by omega) (by omega)) (zbd_nI (by omega) (by omega)) (zbd_nI (by omega) (by omega)) (by unfold zbd; decide)
theorem ra_isTold (p0 p1 : Int32) (M : zM) : fX8_isTold p0 p1 M = some (if (0 ≤ p0 ∧ p0 ≤ 69) ∧ (1 ≤ p1 ∧ p1 ≤ 48) then 1 else 0, M) := by
  rw [fX8_isTold, ra_in, zbi_s]
  by_cases c : 0 ≤ p0 ∧ p0 ≤ (69 : Int32)
  · rw [if_pos c, if_neg z10, ra_in, zbi_s]
    by_cases g : 1 ≤ p1 ∧ p1 ≤ (48 : Int32)
    · rw [if_pos g, if_neg z10, if_pos ⟨c, g⟩]
    · rw [if_neg g, if_pos z00, if_neg (fun z => g z.2)]
  · rw [if_neg c, if_pos z00, if_neg (fun z => c z.1)]
theorem zrng {p : Int32} {m : Nat} {hi : Int32} (e : hi = nI m) (hm : m < 2147483648) (h : 0 ≤ p ∧ p ≤ hi) : ∃ j, j ≤ m ∧ p = nI j := by
  obtain ⟨h1, h2⟩ := h
  rw [zle'] at h1 h2
  rw [e, znT hm] at h2
  obtain ⟨j, a1, a2, -⟩ := zof h1 h2
  exact ⟨j, a1, a2⟩
theorem zrng1 {p : Int32} {m : Nat} {hi : Int32} (e : hi = nI m) (hm : m < 2147483648) (h : 1 ≤ p ∧ p ≤ hi) : ∃ j, 1 ≤ j ∧ j ≤ m ∧ p = nI j := by
  obtain ⟨h1, h2⟩ := h
  rw [zle'] at h1 h2
  rw [e, znT hm] at h2
  have e1 : (1 : Int32).toInt = 1 := rfl
  obtain ⟨j, a1, a2, a3⟩ := zof (by omega) h2
  rw [a2, znT a3] at h1
  exact ⟨j, by omega, a1, a2⟩
theorem eq_fewer (p0 p1 p2 : Int32) {C R : zM} (h : Rel2 C R) : EQA C R (fX7_fewer p0 p1 p2 C) (fX8_fewer p0 p1 p2 R) := by
  unfold fX7_fewer fX8_fewer
  have err := EQA.err h (k := 1) (x := 1) rfl (by omega)
  rw [ra_isTold, zbi_s, ca_outside, zbi_s, ra_isPlace]
  rcases (Decidable.em (0 ≤ p0 ∧ p0 ≤ (69 : Int32))).symm with c0 | c0
  · rw [if_neg c0, if_neg z10, if_neg (show ¬ ((0 ≤ p0 ∧ p0 ≤ (69 : Int32)) ∧ (1 ≤ p2 ∧ p2 ≤ (48 : Int32))) from fun z => c0 z.1), if_pos z00]
    exact err
  rw [if_pos c0, if_pos z00, ca_outside, zbi_s]
  rcases (Decidable.em (0 ≤ p1 ∧ p1 ≤ (11 : Int32))).symm with c1 | c1
  · rw [if_neg c1, if_neg z10]
    by_cases c2 : 1 ≤ p2 ∧ p2 ≤ (48 : Int32)
    · rw [if_pos (show (0 ≤ p0 ∧ p0 ≤ (69 : Int32)) ∧ (1 ≤ p2 ∧ p2 ≤ (48 : Int32)) from ⟨c0, c2⟩), if_neg z10, ra_in, zbi_s, if_neg c1, if_pos z00]
      exact err
    · rw [if_neg (show ¬ ((0 ≤ p0 ∧ p0 ≤ (69 : Int32)) ∧ (1 ≤ p2 ∧ p2 ≤ (48 : Int32))) from fun z => c2 z.2), if_pos z00]
      exact err
  rw [if_pos c1, if_pos z00, ca_outside, zbi_s]
  rcases (Decidable.em (1 ≤ p2 ∧ p2 ≤ (48 : Int32))).symm with c2 | c2
  · rw [if_neg c2, if_neg z10, if_neg (show ¬ ((0 ≤ p0 ∧ p0 ≤ (69 : Int32)) ∧ (1 ≤ p2 ∧ p2 ≤ (48 : Int32))) from fun z => c2 z.2), if_pos z00]
    exact err
  rw [if_pos c2, if_pos z00, if_pos (show (0 ≤ p0 ∧ p0 ≤ (69 : Int32)) ∧ (1 ≤ p2 ∧ p2 ≤ (48 : Int32)) from ⟨c0, c2⟩), if_neg z10, ra_in, zbi_s, if_pos c1, if_neg z10]
  obtain ⟨j, hj, ej⟩ := zrng (m := 69) rfl (by omega) c0
  obtain ⟨p, hp, ep⟩ := zrng (m := 11) rfl (by omega) c1
  obtain ⟨m, hm1, hm, em⟩ := zrng1 (m := 48) rfl (by omega) c2
  subst ej ep em
  obtain ⟨n, hh, hV, h9, hC⟩ := h.1
  have hn := hV.1
  have e9 : C 1 9 = nI n := hC.1.trans hV.2.1
  rw [e9, hV.2.1, zlt_r]
  by_cases f : n = 8
  · subst f
    rw [if_neg (show ¬ nI 8 < 8 by decide), if_pos (show nI 8 = 8 by decide)]
    exact EQA.err h (k := 4) rfl (by omega)
  have hn8 : n < 8 := by omega
  rw [if_pos (show nI n < (8 : Int32) from nI_ltY (b := 8) (by omega) (by omega) hn8), if_neg (show ¬ nI n = (8 : Int32) from fun z => f (nI_inj' (b := 8) z (by omega) (by omega))), zlt_r]
  obtain ⟨C1, R1, a1, a2, a3⟩ := tri_begin h hV hC
  obtain ⟨C2, b1, b2⟩ := ca_turnsIn (m := m) (a := 0) (c := n) hV (by omega) (by omega) (by omega) a3.2.2.1
  rw [Nat.zero_add] at b1
  obtain ⟨R2, d1, d2, d3, d4, d5, d6⟩ := a3.turns (m := m) (o := n) hV (by omega) (by omega) (Nat.le_refl _)
  obtain ⟨C3, C4, R4, f1, f2, f3, f4, f5, f6⟩ := tri_add (C := C2) h (a3.2.1.tr b2) d5 d4 d6 hV hC hn8 (show j < 70 by omega) (show p < 12 by omega)
  obtain ⟨C5, g1, g2⟩ := ca_turnsIn (m := m) (a := 0) (c := n) f5 (by omega) (by omega) (by omega) f4.2.2.1
  rw [Nat.zero_add] at g1
  obtain ⟨R6, i1, i2, i3, i4, i5, i6⟩ := f4.turns (m := m) (o := n) f5 (by omega) (by omega) (by omega)
  rw [a1, zbv_s, show (0 : Int32) = nI 0 from rfl, b1, zbi_s, f1, zbv_s, show nI 0 = 0 from rfl, f2, zbv_s, show (0 : Int32) = nI 0 from rfl, g1, zbi_s, a2, zbv_s, d1, zbv_s, zlt_r, nI_10m, f3, zbi_s, i1, zbv_s, d2, i2]
  exact EQA.done rfl ((h.ou (f4.2.1.tr g2)).rf (i5.rs i4)) ((f4.2.1.tr g2).fc (by omega)) i5.fr
theorem eq_bploop {C0 R0 : zM} {j m n hh : Nat} (h : Rel2 C0 R0) (hj : j < 70) (hm : m ≤ 48) (hV : VR (R0 88) n hh) (h9 : hh ≤ 9999) (hC : CB 1 C0 (R0 88) n) (hn : n < 8) :
    ∀ (d p : Nat) (best most : Int32) (C R : zM) (F G : Nat), p + d = 12 → d < F → d < G → OU 45 C0 C → RX R0 R → (∀ k, k < 449 → R 88 k = R0 88 k) → (∀ k, k < 449 → R 90 k = R0 88 k) →
      EQA C0 R0 (fX7_bestPlace_55 (nI j) (nI m) (nI n) (fun x27 M28 => some (x27, M28)) F best most (nI p) C) (fX8_bestPlace_59 (nI j) (nI m) (nI n) (fun x26 M27 => some (x26, M27)) G best most (nI p) R) := by
  intro d
  induction d with
  | zero =>
    intro p best most C R F G hv hF hG o x e88 e90
    obtain ⟨F, rfl⟩ : ∃ E, F = E + 1 := ⟨F - 1, by omega⟩
    obtain ⟨G, rfl⟩ : ∃ E, G = E + 1 := ⟨G - 1, by omega⟩
    have e : p = 12 := by omega
    subst e
    rw [fX7_bestPlace_55, fX8_bestPlace_59, if_pos (show (12 : Int32) ≤ nI 12 by decide), if_pos (show (12 : Int32) ≤ nI 12 by decide)]
    exact EQA.done rfl ((h.ou o).rf (x.rs e88)) (o.fc (by omega)) x.fr
  | succ d ih =>
    intro p best most C R F G hv hF hG o x e88 e90
    obtain ⟨F, rfl⟩ : ∃ E, F = E + 1 := ⟨F - 1, by omega⟩
    obtain ⟨G, rfl⟩ : ∃ E, G = E + 1 := ⟨G - 1, by omega⟩
    have hp : p < 12 := by omega
    obtain ⟨C3, C4, R4, f1, f2, f3, f4, f5, f6⟩ := tri_add (C := C) h o x e88 e90 hV hC hn hj hp
    obtain ⟨C5, g1, g2⟩ := ca_turnsIn (m := m) (a := n) (c := 1) f5 (by omega) (by omega) (by omega) f4.2.2.1
    obtain ⟨R6, i1, i2, i3, i4, i5, i6⟩ := f4.turns (m := m) (o := n) f5 (by omega) (by omega) (by omega)
    rw [show n + 1 - n = 1 by omega] at i3
    rw [fX7_bestPlace_55, fX8_bestPlace_59, if_neg (nI_lt12 hp), if_neg (nI_lt12 hp), f1, zbv_s, f2, zbv_s, nI_1 n, g1, zbi_s, nI_10m, f3, zbi_s, i1, zbv_s, i3]
    have o5 : OU 45 C0 C5 := o.tr (f6.tr g2)
    by_cases c : tiS (adS (R 88) n (nI (j / 10)) (nI (j % 10)) (nI p) 0) (n + 1) n 1 m ≤ most
    · rw [if_pos c, if_pos c, if_pos c, zlt_r, zlt_r, nI_1]
      exact ih (p + 1) best most C5 R6 F G (by omega) (by omega) (by omega) o5 i5 i4 i6
    · rw [if_neg c, if_neg c, if_neg c, zlt_r, zlt_r, zlt_r, nI_1]
      exact ih (p + 1) _ _ C5 R6 F G (by omega) (by omega) (by omega) o5 i5 i4 i6
theorem eq_bestPlace (p0 p1 : Int32) {C R : zM} (h : Rel2 C R) : EQA C R (fX7_bestPlace p0 p1 C) (fX8_bestPlace p0 p1 R) := by
  unfold fX7_bestPlace fX8_bestPlace
  have err := EQA.err h (k := 1) (x := 1) rfl (by omega)
  rw [ra_isTold, zbi_s, ca_outside, zbi_s]
  rcases (Decidable.em (0 ≤ p0 ∧ p0 ≤ (69 : Int32))).symm with c0 | c0
  · rw [if_neg c0, if_neg z10, if_neg (show ¬ ((0 ≤ p0 ∧ p0 ≤ (69 : Int32)) ∧ (1 ≤ p1 ∧ p1 ≤ (48 : Int32))) from fun z => c0 z.1), if_pos z00]
    exact err
  rw [if_pos c0, if_pos z00, ca_outside, zbi_s]
  rcases (Decidable.em (1 ≤ p1 ∧ p1 ≤ (48 : Int32))).symm with c2 | c2
  · rw [if_neg c2, if_neg z10, if_neg (show ¬ ((0 ≤ p0 ∧ p0 ≤ (69 : Int32)) ∧ (1 ≤ p1 ∧ p1 ≤ (48 : Int32))) from fun z => c2 z.2), if_pos z00]
    exact err
  rw [if_pos c2, if_pos z00, if_pos (show (0 ≤ p0 ∧ p0 ≤ (69 : Int32)) ∧ (1 ≤ p1 ∧ p1 ≤ (48 : Int32)) from ⟨c0, c2⟩), if_neg z10]
  obtain ⟨j, hj, ej⟩ := zrng (m := 69) rfl (by omega) c0
  obtain ⟨m, hm1, hm, em⟩ := zrng1 (m := 48) rfl (by omega) c2
  subst ej em
  obtain ⟨n, hh, hV, h9, hC⟩ := h.1
  have hn := hV.1
  have e9 : C 1 9 = nI n := hC.1.trans hV.2.1
  rw [e9, hV.2.1, zlt_r]
  by_cases f : n = 8
  · subst f
    rw [if_neg (show ¬ nI 8 < 8 by decide), if_pos (show nI 8 = 8 by decide)]
    exact EQA.err h (k := 4) rfl (by omega)
  have hn8 : n < 8 := by omega
  rw [if_pos (show nI n < (8 : Int32) from nI_ltY (b := 8) (by omega) (by omega) hn8), if_neg (show ¬ nI n = (8 : Int32) from fun z => f (nI_inj' (b := 8) z (by omega) (by omega))), zlt_r, ra_carry (by omega), zbv_s]
  exact eq_bploop h (by omega) hm hV h9 hC hn8 12 0 0 (-1) C _ zF zF (by omega) (show 12 < 1000 by omega) (show 12 < 1000 by omega) OU.rf (RX.up (by omega)) (fun k hk => by rw [zup_n _ (by decide)]) (fun k hk => by rw [zup_s, cpS_in hk])
