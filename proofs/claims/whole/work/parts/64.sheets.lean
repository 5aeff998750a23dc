/-! ===== sheets ===== -/
theorem ca_noSheet (p : Int32) : fX7_noSheet p = fX7_outside p 0 3 := funext fun M => by
  rw [fX7_noSheet, ca_outside, zbi_s]
  by_cases c : 0 ≤ p ∧ p ≤ (3 : Int32)
  · rw [if_pos c, zgd_n (by decide)]
  · rw [if_neg c, zgd_n (by decide)]
theorem Rel2.sheet {C C' R R' : zM} (h : Rel2 C R) (s : SH C' R') (hc : ∀ c, (c < 80 ∨ 86 ≤ c) → C' c = C c) (hr : ∀ c, c ≠ 99 → c ≠ 100 → c ≠ 101 → c ≠ 102 → R' c = R c) : Rel2 C' R' := by
  obtain ⟨a1, a2, a3, a4, a5, a6, a7⟩ := h
  have r88 : R' 88 = R 88 := hr _ (by decide) (by decide) (by decide) (by decide)
  have r89 : R' 89 = R 89 := hr _ (by decide) (by decide) (by decide) (by decide)
  have r87 : R' 87 = R 87 := hr _ (by decide) (by decide) (by decide) (by decide)
  refine ⟨?_, ?_, ?_, fun z => ⟨?_, ?_⟩, fun k hk => ?_, ?_, s⟩
  · rw [r88]
    exact a1.cg (AG.eq fun c _ _ => hc c (by omega)) (fun _ _ => rfl)
  · rw [r88]
    exact a2.cg (by rw [hc _ (by omega)]) (by rw [hc _ (by omega)]) (hc _ (by omega)) (hc _ (by omega)) rfl rfl (fun _ _ _ => rfl)
  · rw [hc _ (by omega), r87]
    exact a3
  · rw [r89]
    rw [r87] at z
    exact (a4 z).1.cg (AG.eq fun c _ _ => hc c (by omega)) (fun _ _ => rfl)
  · rw [r89]
    rw [r87] at z
    exact (a4 z).2.cg (by rw [hc _ (by omega)]) (by rw [hc _ (by omega)]) (hc _ (by omega)) (hc _ (by omega)) rfl rfl (fun _ _ _ => rfl)
  · rw [hc _ (by omega), hr 91 (by decide) (by decide) (by decide) (by decide)]
    exact a5 k hk
  · obtain ⟨t, b1, b2, b3, b4⟩ := a6
    exact ⟨t, b1, by rw [hc 76 (by omega)]; exact b2, by rw [r87]; exact b3, fun j hj => by rw [hc 77 (by omega), hr 98 (by decide) (by decide) (by decide) (by decide)]; exact b4 j hj⟩
theorem nI_24m (k j : Nat) : (24 : Int32) * nI k + nI j = nI (24 * k + j) := by
  rw [show (24 : Int32) * nI k = nI (24 * k) from pk_mul 24 k, nI_add]
theorem nI_lt24 {p : Nat} (h : p < 24) : ¬ (24 : Int32) ≤ nI p := nI_leN (a := 24) (by omega) (by omega) h
theorem ca_bgloop {k : Nat} (hk : k < 4) (p1 p2 : Int32) (kk : zM → Option zM) : ∀ (d v : Nat) (M : zM) (F : Nat), v + d = 24 → d < F → (∀ j, j < v → M (82 + k) j = 0) →
    ∃ M', fX4_begin_3 (nI k) p1 p2 kk F (nI v) M = kk M' ∧ (∀ j, j < 24 → M' (82 + k) j = 0) ∧ ∀ c, c ≠ 82 + k → M' c = M c := by
  intro d
  induction d with
  | zero =>
    intro v M F hv hF h0
    obtain ⟨F, rfl⟩ : ∃ G, F = G + 1 := ⟨F - 1, by omega⟩
    have e : v = 24 := by omega
    subst e
    rw [fX4_begin_3, if_pos (by decide)]
    exact ⟨M, rfl, h0, fun _ _ => rfl⟩
  | succ d ih =>
    intro v M F hv hF h0
    obtain ⟨F, rfl⟩ : ∃ G, F = G + 1 := ⟨F - 1, by omega⟩
    rw [fX4_begin_3, if_neg (nI_lt24 (by omega)), zgd_n (zgi rfl (show k < 4 by omega) (by omega)), zlt_r, zgd_n (zgi rfl (show v < 24 by omega) (by omega)), zcn (by omega), zcn (by omega), zlt_r, zlt_r, nI_1]
    obtain ⟨M', a1, a2, a3⟩ := ih (v + 1) (zst M (82 + k) v 0) F (by omega) (by omega) (fun j hj => by
      rw [zst_k]
      by_cases e : j = v
      · rw [if_pos ⟨rfl, e⟩]
      · rw [if_neg (fun z => e z.2)]
        exact h0 j (by omega))
    exact ⟨M', a1, a2, fun c hc => by rw [a3 c hc, zst_n _ hc]⟩
theorem ca_begin {k : Nat} (hk : k < 4) (b n : Int32) (C : zM) : ∃ C', fX4_begin (nI k) b n C = some C' ∧ (∀ j, j < 24 → C' (82 + k) j = 0) ∧ C' 80 = upd (C 80) k b ∧ C' 81 = upd (C 81) k n ∧ ∀ c, c ≠ 80 → c ≠ 81 → c ≠ 82 + k → C' c = C c := by
  obtain ⟨M', a1, a2, a3⟩ := ca_bgloop hk b n (fun  M7 => zgd (nI k < 0 ∨ 4 ≤ (nI k).toNatClampNeg) (zlt (zst M7 80 ((nI k).toNatClampNeg) b) (fun M8 => zgd (nI k < 0 ∨ 4 ≤ (nI k).toNatClampNeg) (zlt (zst M8 81 ((nI k).toNatClampNeg) n) (fun M10 => some M10))))) 24 0 C zF (by omega) (show 24 < 1000 by omega) (fun j hj => by omega)
  refine ⟨zst (zst M' 80 k b) 81 k n, ?_, fun j hj => ?_, ?_, ?_, fun c h1 h2 h3 => ?_⟩
  · refine a1.trans ?_
    show zgd (nI k < 0 ∨ 4 ≤ (nI k).toNatClampNeg) _ = _
    rw [zgd_n (zgi rfl (show k < 4 by omega) (by omega)), zcn (by omega), zlt_r, zgd_n (zgj (show k < 4 by omega) (by omega)), zlt_r]
  · rw [zst_n _ (by omega), zst_n _ (by omega)]
    exact a2 j hj
  · rw [zst_n _ (by omega), zst_s, a3 _ (by omega)]
  · rw [zst_s, zst_n _ (by omega), a3 _ (by omega)]
  · rw [zst_n _ h2, zst_n _ h1, a3 c h3]
theorem ra_zrloop {k : Nat} (hk : k < 4) (kk : zM → Option (Int32 × zM)) : ∀ (d v : Nat) (M : zM) (F : Nat), v + d = 24 → d < F → (∀ j, j < v → M 101 (24 * k + j) = 0) →
    ∃ M', fX8_sheet_90 (nI k) kk F (nI v) M = kk M' ∧ (∀ j, j < 24 → M' 101 (24 * k + j) = 0) ∧ (∀ i, i < 24 * k ∨ 24 * k + 24 ≤ i → M' 101 i = M 101 i) ∧ ∀ c, c ≠ 101 → M' c = M c := by
  intro d
  induction d with
  | zero =>
    intro v M F hv hF h0
    obtain ⟨F, rfl⟩ : ∃ G, F = G + 1 := ⟨F - 1, by omega⟩
    have e : v = 24 := by omega
    subst e
    rw [fX8_sheet_90, if_pos (by decide)]
    exact ⟨M, rfl, h0, fun _ _ => rfl, fun _ _ => rfl⟩
  | succ d ih =>
    intro v M F hv hF h0
    obtain ⟨F, rfl⟩ : ∃ G, F = G + 1 := ⟨F - 1, by omega⟩
    rw [fX8_sheet_90, if_neg (nI_lt24 (by omega)), nI_24m, zgd_n (zgi rfl (show 24 * k + v < 96 by omega) (by omega)), zcn (by omega), zlt_r, zlt_r, nI_1]
    obtain ⟨M', a1, a2, a3, a4⟩ := ih (v + 1) (zst M 101 (24 * k + v) 0) F (by omega) (by omega) (fun j hj => by
      rw [zst_k]
      by_cases e : j = v
      · rw [if_pos ⟨rfl, by omega⟩]
      · rw [if_neg (fun z => e (by omega))]
        exact h0 j (by omega))
    exact ⟨M', a1, a2, fun i hi => by rw [a3 i hi, zst_k, if_neg (by omega)], fun c hc => by rw [a4 c hc, zst_n _ hc]⟩
/-- a sheet begun, on both sides -/
theorem eq_begin {C R : zM} (h : Rel2 C R) {k z : Nat} (hk : k < 4) (hz : z ≤ 24) {b : Int32} (hb : b = 0 ∨ b = 8 ∨ b = 16 ∨ b = 32) :
    EQA C R (zbv (fX4_begin (nI k) b (nI z) C) (fun M16 => some ((1 : Int32), M16))) (fX8_sheet_90 (nI k) (fun M23 => some ((1 : Int32), M23)) zF (0 : Int32) (zst (zst R 99 k b) 100 k (nI z))) := by
  obtain ⟨C', a1, a2, a3, a4, a5⟩ := ca_begin hk b (nI z) C
  obtain ⟨R', b1, b2, b3, b4⟩ := ra_zrloop hk (fun M23 => some ((1 : Int32), M23)) 24 0 (zst (zst R 99 k b) 100 k (nI z)) zF (by omega) (show 24 < 1000 by omega) (fun j hj => by omega)
  have e99 : R' 99 = upd (R 99) k b := by rw [b4 _ (by decide), zst_n _ (by decide), zst_s]
  have e100 : R' 100 = upd (R 100) k (nI z) := by rw [b4 _ (by decide), zst_s, zst_n _ (by decide)]
  have e101 : ∀ i, i < 24 * k ∨ 24 * k + 24 ≤ i → R' 101 i = R 101 i := fun i hi => by rw [b3 i hi, zst_n _ (by decide), zst_n _ (by decide)]
  rw [a1, zbv_s]
  refine Eq.mpr (congrArg (EQA C R _) b1) ?_
  refine EQA.done rfl (h.sheet (fun j hj => ?_) (fun c hc => a5 c (by omega) (by omega) (by omega)) (fun c h1 h2 h3 _ => by rw [b4 c h3, zst_n _ h2, zst_n _ h1])) (fun c hc => a5 c (by omega) (by omega) (by omega)) (fun c hc => by rw [b4 c (by omega), zst_n _ (by omega), zst_n _ (by omega)])
  obtain ⟨s1, s2, y, s3, s4, s5, s6⟩ := h.2.2.2.2.2.2 j hj
  rw [e99, e100, a3, a4]
  by_cases e : j = k
  · subst e
    rw [upd_s, upd_s, upd_s, upd_s]
    exact ⟨hb, rfl, z, hz, rfl, rfl, fun i hi => by rw [a2 i hi, b2 i hi]⟩
  · rw [upd_n _ e, upd_n _ e, upd_n _ e, upd_n _ e]
    exact ⟨s1, s2, y, s3, s4, s5, fun i hi => by rw [a5 _ (by omega) (by omega) (by omega), e101 _ (by omega)]; exact s6 i hi⟩
theorem zt8 : ((8 : Int32) = 0) = False := eq_false (by decide)
theorem zt16 : ((16 : Int32) = 0) = False := eq_false (by decide)
theorem zt32 : ((32 : Int32) = 0) = False := eq_false (by decide)
theorem zt16a : ((16 : Int32) = 8) = False := eq_false (by decide)
theorem zt32a : ((32 : Int32) = 8) = False := eq_false (by decide)
theorem zt32b : ((32 : Int32) = 16) = False := eq_false (by decide)
theorem eq_sheet (p0 p1 p2 : Int32) {C R : zM} (h : Rel2 C R) : EQA C R (fX7_sheet p0 p1 p2 C) (fX8_sheet p0 p1 p2 R) := by
  unfold fX7_sheet fX8_sheet
  rw [ca_noSheet, ra_isSheet]
  refine EQA.out0 h (m := 3) rfl (by omega) fun k hk e => ?_
  subst e
  have er1 := EQA.err h (k := 1) (x := 1) rfl (by omega)
  have er3 := EQA.err h (k := 3) (x := 3) rfl (by omega)
  by_cases c0 : p1 = 0
  · subst c0
    simp only [if_true]
    rw [zgd_n (zgi rfl (show k < 4 by omega) (by omega)), zlt_r, zgd_n (zgi rfl (show k < 4 by omega) (by omega)), zlt_r, zcn (by omega)]
    exact eq_begin h (z := 0) (by omega) (by omega) (Or.inl rfl)
  have fin : (p1 = 8 ∨ p1 = 16 ∨ p1 = 32) → EQA C R (if 0 ≤ p2 then (if p2 ≤ (24 : Int32) then (zbv (fX4_begin (nI k) p1 p2 C) (fun M41 => some ((1 : Int32), M41))) else (zbi (fX7_error (1 : Int32) C) (fun r46 M47 => some (r46, M47)))) else (zbi (fX7_error (3 : Int32) C) (fun r49 M50 => some (r49, M50))))
      (if 0 ≤ p2 then (if p2 ≤ (24 : Int32) then (zgd (nI k < 0 ∨ 4 ≤ (nI k).toNatClampNeg) (zlt (zst R 99 ((nI k).toNatClampNeg) p1) (fun M49 => (zgd (nI k < 0 ∨ 4 ≤ (nI k).toNatClampNeg) (zlt (zst M49 100 ((nI k).toNatClampNeg) p2) (fun M52 => fX8_sheet_90 (nI k) (fun  M54 => some ((1 : Int32), M54)) zF (0 : Int32) M52)))))) else (zbi (fX8_error (1 : Int32) R) (fun r58 M59 => some (r58, M59)))) else (zbi (fX8_error (3 : Int32) R) (fun r61 M62 => some (r61, M62)))) := by
    intro hp
    by_cases g : 0 ≤ p2
    · rw [if_pos g, if_pos g]
      by_cases g2 : p2 ≤ (24 : Int32)
      · obtain ⟨z, hz, ez⟩ := zrng (m := 24) rfl (by omega) ⟨g, g2⟩
        subst ez
        rw [if_pos g2, if_pos g2, zgd_n (zgi rfl (show k < 4 by omega) (by omega)), zlt_r, zgd_n (zgi rfl (show k < 4 by omega) (by omega)), zlt_r, zcn (by omega)]
        exact eq_begin h (by omega) hz (by rcases hp with e | e | e <;> simp [e])
      · rw [if_neg g2, if_neg g2]
        exact er1
    · rw [if_neg g, if_neg g]
      exact er3
  by_cases c8 : p1 = 8
  · subst c8
    simp only [zt8, if_true, if_false]
    exact fin (Or.inl rfl)
  by_cases c16 : p1 = 16
  · subst c16
    simp only [zt16, zt16a, if_true, if_false]
    exact fin (Or.inr (Or.inl rfl))
  by_cases c32 : p1 = 32
  · subst c32
    simp only [zt32, zt32a, zt32b, if_true, if_false]
    exact fin (Or.inr (Or.inr rfl))
  rw [if_neg c0, if_neg c8, if_neg c16, if_neg c32, if_neg c0, if_neg c8, if_neg c16, if_neg c32]
  exact er1
