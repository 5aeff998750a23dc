theorem nI_30 (p : Nat) : (30 : Int32) + nI p = nI (30 + p) := nI_add 30 p
theorem nI_6 (p : Nat) : (6 : Int32) + nI p = nI (6 + p) := nI_add 6 p
theorem nI_lt12 {p : Nat} (h : p < 12) : ¬ (12 : Int32) ≤ nI p := fun z => by
  have := (nI_leI (a := 12) (b := p) (by omega) (by omega)).mp z
  omega
theorem ra_outer {s : zR} {n h : Nat} (hV : VR s n h) (kk : Int32 → zM → Option zM) (t0 g0 : zR) :
    ∀ (d p : Nat) (M : zM) (F : Nat), p + d = 12 → d < F → M 88 = s → M 96 = (flS s n t0 g0 p).1.2.1 → M 87 15 = (flS s n t0 g0 p).1.2.2 → M 87 14 = (flS s n t0 g0 p).2.1 → M 95 = (flS s n t0 g0 p).2.2 →
      ∃ M', fX8_flow_25 kk F (flS s n t0 g0 p).1.1 (nI p) M = kk (flS s n t0 g0 12).1.1 M' ∧ M' 96 = (flS s n t0 g0 12).1.2.1 ∧ M' 87 15 = (flS s n t0 g0 12).1.2.2 ∧ M' 87 14 = (flS s n t0 g0 12).2.1 ∧ M' 95 = (flS s n t0 g0 12).2.2 ∧ (∀ c, c ≠ 87 → c ≠ 93 → c ≠ 94 → c ≠ 95 → c ≠ 96 → M' c = M c) ∧ ∀ k, k ≠ 14 → k ≠ 15 → M' 87 k = M 87 k := by
  have hn := hV.1
  intro d
  induction d with
  | zero =>
    intro p M F hp hF hs h1 h2 h3 h4
    obtain ⟨F, rfl⟩ : ∃ G, F = G + 1 := ⟨F - 1, by omega⟩
    have e : p = 12 := by omega
    subst e
    refine ⟨M, ?_, h1, h2, h3, h4, fun _ _ _ _ _ _ => rfl, fun _ _ _ => rfl⟩
    rw [fX8_flow_25, if_pos (by decide)]
  | succ d ih =>
    intro p M F hp hF hs h1 h2 h3 h4
    obtain ⟨F, rfl⟩ : ∃ G, F = G + 1 := ⟨F - 1, by omega⟩
    have hp12 : p < 12 := by omega
    generalize hy : flS s n t0 g0 p = y at *
    have hstep : flS s n t0 g0 (p + 1) = (fpS s (nI p) n (y.1.1 - wdS s p y.1.1, y.1.2.1, y.1.2.2), y.2.1 + wdS s p y.1.1, upd y.2.2 p y.1.1) := by rw [flS, hy]
    rw [fX8_flow_25, if_neg (nI_lt12 hp12), zgd_n (zgi rfl (show p < 13 by omega) (by omega)), zlt_r, zcn (by omega), nI_30, zgd_n (zgi rfl (show 30 + p < 449 by omega) (by omega)), zcn (by omega), zst_n _ (show 88 ≠ 95 by decide), hs]
    have go : ∀ (M2 : zM) (v : Int32), v = y.1.1 - wdS s p y.1.1 → M2 = zst (zst M 95 p y.1.1) 87 14 ((zst M 95 p y.1.1) 87 14 + wdS s p y.1.1) →
        ∃ M', fX8_flow_82 (nI p) (fun x31 M32 => zlt (nI p + (1 : Int32)) (fun x33 => fX8_flow_25 kk F x31 x33 M32)) zF v (0 : Int32) M2 = kk (flS s n t0 g0 12).1.1 M' ∧ M' 96 = (flS s n t0 g0 12).1.2.1 ∧ M' 87 15 = (flS s n t0 g0 12).1.2.2 ∧ M' 87 14 = (flS s n t0 g0 12).2.1 ∧ M' 95 = (flS s n t0 g0 12).2.2 ∧ (∀ c, c ≠ 87 → c ≠ 93 → c ≠ 94 → c ≠ 95 → c ≠ 96 → M' c = M c) ∧ ∀ k, k ≠ 14 → k ≠ 15 → M' 87 k = M 87 k := by
      intro M2 v hv hM2
      have e88 : M2 88 = s := by rw [hM2, zst_n _ (by decide), zst_n _ (by decide)]; exact hs
      have e96 : M2 96 = y.1.2.1 := by rw [hM2, zst_n _ (by decide), zst_n _ (by decide)]; exact h1
      have e15 : M2 87 15 = y.1.2.2 := by rw [hM2, zst_k, if_neg (by decide), zst_n _ (by decide)]; exact h2
      have e14 : M2 87 14 = y.2.1 + wdS s p y.1.1 := by rw [hM2, zst_k, if_pos ⟨rfl, rfl⟩, zst_n _ (by decide), h3]
      have e95 : M2 95 = upd y.2.2 p y.1.1 := by rw [hM2, zst_n _ (by decide), zst_s, h4]
      obtain ⟨M3, b1, b2, b3, b4, b5⟩ := ra_inner hV (fun x31 M32 => zlt (nI p + (1 : Int32)) (fun x33 => fX8_flow_25 kk F x31 x33 M32)) (v, y.1.2.1, y.1.2.2) n 0 M2 zF (by omega) (show n < 1000 by omega) e88 e96 e15
      subst hv
      obtain ⟨M', c1, c2, c3, c4, c5, c6, c7⟩ := ih (p + 1) M3 F (by omega) (by omega) ((b4 88 (by decide) (by decide) (by decide) (by decide)).trans e88) (by rw [hstep]; exact b2) (by rw [hstep]; exact b3) (by rw [hstep]; exact (b5 14 (by decide)).trans e14) (by rw [hstep]; exact (b4 95 (by decide) (by decide) (by decide) (by decide)).trans e95)
      refine ⟨M', ?_, c2, c3, c4, c5, fun c g1 g2 g3 g4 g5 => ?_, fun k g1 g2 => ?_⟩
      · refine b1.trans ?_
        show fX8_flow_25 kk F (fpS s (nI p) n _).1 (nI p + 1) M3 = _
        rw [nI_1, ← c1, hstep]
      · rw [c6 c g1 g2 g3 g4 g5, b4 c g1 g2 g3 g5, hM2, zst_n _ g1, zst_n _ g4]
      · rw [c7 k g1 g2, b5 k g2, hM2, zst_k, if_neg (fun z => g1 z.2), zst_n _ (by decide)]
    by_cases c : y.1.1 ≤ s (30 + p)
    · have hd : wdS s p y.1.1 = y.1.1 := by rw [wdS, if_pos c]
      rw [if_pos c, zlt_r, zlt_r]
      exact go _ _ (by rw [hd]) (by rw [hd])
    · have hd : wdS s p y.1.1 = s (30 + p) := by rw [wdS, if_neg c]
      rw [if_neg c, zgd_n (zgj (show 30 + p < 449 by omega) (by omega)), zlt_r, zlt_r, zlt_r]
      exact go _ _ (by rw [hd]) (by rw [hd])
/-- flow() of the reference -/
theorem ra_flow {M : zM} {n h : Nat} (hV : VR (M 88) n h) : ∃ M', fX8_flow M = some M' ∧ RU M M' ∧ M' 87 14 = (flA (M 88) n).2.1 ∧ M' 87 15 = (flA (M 88) n).1.2.2 ∧ (∀ i, i < n → M' 96 i = (flA (M 88) n).1.2.1 i) ∧ (∀ j, j < 12 → M' 95 j = (flA (M 88) n).2.2 j) ∧ M' 95 12 = (flA (M 88) n).1.1 := by
  have hn := hV.1
  obtain ⟨he, he2, hl⟩ := VR_hod hV
  rw [fX8_flow, ra_hourOfDay (h := h) _ hV.2.2.1 (by have := hV.2.2.2.1; omega), zbi_s, nI_6, zgd_n (zgi rfl (show 6 + h % 24 < 449 by omega) (by omega)), zlt_r, zcn (by omega), zlt_r, zlt_r]
  obtain ⟨M', a1, a2, a3, a4, a5, a6, a7⟩ := ra_outer hV (fun x41 M42 => zlt (zst M42 95 (12) x41) (fun M43 => some M43)) (M 96) (M 95) 12 0 (zst (zst M 87 14 0) 87 15 0) zF (by omega) (show 12 < 1000 by omega) (by rw [zst_n _ (by decide), zst_n _ (by decide)]) (by rw [zst_n _ (by decide), zst_n _ (by decide)]; rfl) (by rw [zst_k, if_pos ⟨rfl, rfl⟩]; rfl) (by rw [zst_k, if_neg (by decide), zst_k, if_pos ⟨rfl, rfl⟩]; rfl) (by rw [zst_n _ (by decide), zst_n _ (by decide)]; rfl)
  obtain ⟨f1, f2, f3, f4, f5⟩ := flA_of hV (M 96) (M 95)
  refine ⟨zst M' 95 12 (flS (M 88) n (M 96) (M 95) 12).1.1, ?_, ⟨fun c g1 g2 g3 g4 g5 => ?_, fun k g1 g2 => ?_⟩, ?_, ?_, fun i hi => ?_, fun j hj => ?_, ?_⟩
  · have e0 : (flS (M 88) n (M 96) (M 95) 0).1.1 = M 88 (6 + h % 24) := by
      show M 88 (6 + (zrem (M 88 1) 24).toNatClampNeg) = _
      rw [he2]
    rw [e0] at a1
    exact a1
  · rw [zst_n _ g4, a6 c g1 g2 g3 g4 g5, zst_n _ g1, zst_n _ g1]
  · rw [zst_n _ (by decide), a7 k g1 g2, zst_k, if_neg (fun z => g2 z.2), zst_k, if_neg (fun z => g1 z.2)]
  · rw [zst_n _ (by decide), a4, f3]
  · rw [zst_n _ (by decide), a3, f2]
  · rw [zst_n _ (by decide), a2, f4 i hi]
  · rw [zst_k, if_neg (fun z => by omega), a5, f5 j hj]
  · rw [zst_k, if_pos ⟨rfl, rfl⟩, f1]
theorem ca_outer {s : zR} {q n h : Nat} (hV : VR s n h) (kk : Int32 → zM → Option zM) (t0 g0 : zR) :
    ∀ (d p : Nat) (M : zM) (F : Nat), p + d = 12 → d < F → CB q M s n → (∀ i, i < n → M (q + 8 + i) 7 = (flS s n t0 g0 p).1.2.1 i) → M q 14 = (flS s n t0 g0 p).2.1 → M (q + 7) = (flS s n t0 g0 p).2.2 →
      ∃ M', fX0_letFlow_12 q kk F (flS s n t0 g0 p).1.1 (nI p) M = kk (flS s n t0 g0 12).1.1 M' ∧ (∀ i, i < n → M' (q + 8 + i) 7 = (flS s n t0 g0 12).1.2.1 i) ∧ M' q 14 = (flS s n t0 g0 12).2.1 ∧ M' (q + 7) = (flS s n t0 g0 12).2.2 ∧ AG q M M' ∧ OU q M M' := by
  have hn := hV.1
  intro d
  induction d with
  | zero =>
    intro p M F hp hF hC h1 h3 h4
    obtain ⟨F, rfl⟩ : ∃ G, F = G + 1 := ⟨F - 1, by omega⟩
    have e : p = 12 := by omega
    subst e
    refine ⟨M, ?_, h1, h3, h4, AG.rf, OU.rf⟩
    rw [fX0_letFlow_12, if_pos (by decide)]
  | succ d ih =>
    intro p M F hp hF hC h1 h3 h4
    obtain ⟨F, rfl⟩ : ∃ G, F = G + 1 := ⟨F - 1, by omega⟩
    have hp12 : p < 12 := by omega
    have hr := flS_r hV t0 g0 p (by omega)
    generalize hy : flS s n t0 g0 p = y at *
    have hstep : flS s n t0 g0 (p + 1) = (fpS s (nI p) n (y.1.1 - wdS s p y.1.1, y.1.2.1, y.1.2.2), y.2.1 + wdS s p y.1.1, upd y.2.2 p y.1.1) := by rw [flS, hy]
    have hwd : zmin y.1.1 (s (30 + p)) = wdS s p y.1.1 := by
      unfold zmin wdS
      by_cases c : y.1.1 ≤ s (30 + p)
      · rw [if_pos c, if_neg (fun z => by rw [zlt'] at z; rw [zle'] at c; omega)]
      · rw [if_neg c, if_pos (by rw [zlt']; rw [zle'] at c; omega)]
    rw [fX0_letFlow_12, if_neg (nI_lt12 hp12), zgd_n (zgi rfl hp12 (by omega)), zlt_r, zcn (by omega), zgd_n (zgj hp12 (by omega)), zlt_r, zst_n _ (show q + 2 ≠ q + 7 by omega), hC.2.2.2.2.2.1 p hp12, hwd, zlt_r, zlt_r]
    generalize hM2 : zst (zst M (q + 7) p y.1.1) q 14 _ = M2
    have f0 : ∀ c, c ≠ q → c ≠ q + 7 → M2 c = M c := fun c g1 g2 => by rw [← hM2, zst_n _ g1, zst_n _ g2]
    have fq : ∀ k, k ≠ 14 → M2 q k = M q k := fun k g => by rw [← hM2, zst_k, if_neg (fun z => g z.2), zst_n _ (by omega)]
    have e14 : M2 q 14 = y.2.1 + wdS s p y.1.1 := by rw [← hM2, zst_k, if_pos ⟨rfl, rfl⟩, zst_n _ (by omega), h3]
    have e7 : M2 (q + 7) = upd y.2.2 p y.1.1 := by rw [← hM2, zst_n _ (by omega), zst_s, h4]
    have g2 : AG q M M2 := by
      refine ⟨fq _ (by decide), fq _ (by decide), fq _ (by decide), fq _ (by decide), f0 _ (by omega) (by omega), f0 _ (by omega) (by omega), f0 _ (by omega) (by omega), f0 _ (by omega) (by omega), fun w hw k hk => by rw [f0 _ (by omega) (by omega)], ?_, f0 _ (by omega) (by omega), ?_, f0 _ (by omega) (by omega)⟩
      · rw [f0 _ (by omega) (by omega)]
      · rw [f0 _ (by omega) (by omega)]
    obtain ⟨w0, w1⟩ := wdS_r hV hp12 hr.1
    have hxr : 0 ≤ (y.1.1 - wdS s p y.1.1).toInt := by
      have e : (y.1.1 - wdS s p y.1.1).toInt = y.1.1.toInt - (wdS s p y.1.1).toInt := zsbT (by omega) (by omega)
      omega
    obtain ⟨M3, b1, b2, b3, b4, b5, b6⟩ := ca_inner (q := q) (p := p) hV (fun x23 M24 => zlt (nI p + (1 : Int32)) (fun x25 => fX0_letFlow_12 q kk F x23 x25 M24)) (y.1.1 - wdS s p y.1.1, y.1.2.1, y.1.2.2) hxr n 0 M2 zF (by omega) (show n < 1000 by omega) (hC.ag hn g2) (fun i hi => by rw [f0 _ (by omega) (by omega)]; exact h1 i hi)
    obtain ⟨M', c1, c2, c3, c4, c5, c6⟩ := ih (p + 1) M3 F (by omega) (by omega) ((hC.ag hn g2).ag hn b3) (by rw [hstep]; exact b2) (by rw [hstep, b6]; exact e14) (by rw [hstep, b5]; exact e7)
    refine ⟨M', ?_, c2, c3, c4, (g2.tr b3).tr c5, fun c hc => ?_⟩
    · refine b1.trans ?_
      show fX0_letFlow_12 q kk F (fpS s (nI p) n _).1 (nI p + 1) M3 = _
      rw [nI_1, ← c1, hstep]
    · rw [c6 c hc, b4 c hc, f0 c (by omega) (by omega)]
/-- letFlow() of the class -/
theorem ca_letFlow {M : zM} {s : zR} {q n h : Nat} (hV : VR s n h) (hC : CB q M s n) : ∃ M', fX0_letFlow q M = some M' ∧ AG q M M' ∧ OU q M M' ∧ M' q 14 = (flA s n).2.1 ∧ M' q 13 = (flA s n).1.1 ∧ (∀ i, i < n → M' (q + 8 + i) 7 = (flA s n).1.2.1 i) ∧ ∀ j, j < 12 → M' (q + 7) j = (flA s n).2.2 j := by
  have hn := hV.1
  obtain ⟨he, he2, hl⟩ := VR_hod hV
  have e1 : fX0_forceNow q M = some (s (6 + h % 24), M) := by
    rw [fX0_forceNow, zlt_r, hC.2.1, he, zgd_n (zgi rfl hl (by omega)), zcn (by omega), hC.2.2.2.2.1 _ hl]
  rw [fX0_letFlow, e1, zbi_s, zlt_r]
  have f0 : ∀ c, c ≠ q → (zst M q 14 0) c = M c := fun c g1 => zst_n _ g1
  have fq : ∀ k, k ≠ 14 → (zst M q 14 0) q k = M q k := fun k g => by rw [zst_k, if_neg (fun z => g z.2)]
  have g2 : AG q M (zst M q 14 0) := by
    refine ⟨fq _ (by decide), fq _ (by decide), fq _ (by decide), fq _ (by decide), f0 _ (by omega), f0 _ (by omega), f0 _ (by omega), f0 _ (by omega), fun w hw k hk => by rw [f0 _ (by omega)], ?_, f0 _ (by omega), ?_, f0 _ (by omega)⟩
    · rw [f0 _ (by omega)]
    · rw [f0 _ (by omega)]
  obtain ⟨M', a1, a2, a3, a4, a5, a6⟩ := ca_outer (q := q) hV (fun x26 M27 => zlt (zst M27 q 13 x26) (fun M28 => some M28)) (fun i => M (q + 8 + i) 7) (M (q + 7)) 12 0 (zst M q 14 0) zF (by omega) (show 12 < 1000 by omega) (hC.ag hn g2) (fun i hi => by rw [f0 _ (by omega)]; rfl) (by rw [zst_k, if_pos ⟨rfl, rfl⟩]; rfl) (by rw [f0 _ (by omega)]; rfl)
  obtain ⟨f1, f2, f3, f4, f5⟩ := flA_of hV (fun i => M (q + 8 + i) 7) (M (q + 7))
  generalize hz : (flS s n (fun i => M (q + 8 + i) 7) (M (q + 7)) 12).1.1 = z at *
  have k0 : ∀ c, c ≠ q → (zst M' q 13 z) c = M' c := fun c g1 => zst_n _ g1
  have kq : ∀ k, k ≠ 13 → (zst M' q 13 z) q k = M' q k := fun k g => by rw [zst_k, if_neg (fun z => g z.2)]
  refine ⟨zst M' q 13 z, ?_, (g2.tr a5).tr ?_, fun c hc => ?_, ?_, ?_, fun i hi => ?_, fun j hj => ?_⟩
  · have e0 : (flS s n (fun i => M (q + 8 + i) 7) (M (q + 7)) 0).1.1 = s (6 + h % 24) := by
      show s (6 + (zrem (s 1) 24).toNatClampNeg) = _
      rw [he2]
    rw [e0] at a1
    exact a1
  · refine ⟨kq _ (by decide), kq _ (by decide), kq _ (by decide), kq _ (by decide), k0 _ (by omega), k0 _ (by omega), k0 _ (by omega), k0 _ (by omega), fun w hw k hk => by rw [k0 _ (by omega)], ?_, k0 _ (by omega), ?_, k0 _ (by omega)⟩
    · rw [k0 _ (by omega)]
    · rw [k0 _ (by omega)]
  · rw [k0 c (by omega), a6 c hc, f0 c (by omega)]
  · rw [kq _ (by decide), a3, f3]
  · rw [zst_k, if_pos ⟨rfl, rfl⟩, f1]
  · rw [k0 _ (by omega), a2 i hi, f4 i hi]
  · rw [k0 _ (by omega), a4, f5 j hj]
