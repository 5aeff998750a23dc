theorem zsx8 (x : BitVec 32) : (x <<< 24).sshiftRight 24 = (x.signExtend 8).signExtend 32 := by
  apply BitVec.eq_of_getLsbD_eq
  intro i hi
  rw [BitVec.getLsbD_sshiftRight, BitVec.getLsbD_signExtend, BitVec.getLsbD_signExtend, BitVec.msb_eq_getLsbD_last, BitVec.msb_eq_getLsbD_last, BitVec.msb_eq_getLsbD_last, BitVec.getLsbD_signExtend]
  by_cases h : i < 8
  · simp [hi, h, show ¬ 32 ≤ i by omega, show 24 + i < 32 by omega, show i < 32 by omega]
  · simp [hi, h, show ¬ 32 ≤ i by omega, show ¬ 24 + i < 32 by omega]
theorem zsx16 (x : BitVec 32) : (x <<< 16).sshiftRight 16 = (x.signExtend 16).signExtend 32 := by
  apply BitVec.eq_of_getLsbD_eq
  intro i hi
  rw [BitVec.getLsbD_sshiftRight, BitVec.getLsbD_signExtend, BitVec.getLsbD_signExtend, BitVec.msb_eq_getLsbD_last, BitVec.msb_eq_getLsbD_last, BitVec.msb_eq_getLsbD_last, BitVec.getLsbD_signExtend]
  by_cases h : i < 16
  · simp [hi, h, show ¬ 32 ≤ i by omega, show 16 + i < 32 by omega, show i < 32 by omega]
  · simp [hi, h, show ¬ 32 ≤ i by omega, show ¬ 16 + i < 32 by omega]
theorem zlow8 (x : Int32) : (x <<< ((24 : Int32) &&& 31)) >>> ((24 : Int32) &&& 31) = x.toInt8.toInt32 := by
  apply Int32.toBitVec_inj.mp
  rw [Int8.toBitVec_toInt32, Int32.toBitVec_toInt8]
  exact zsx8 x.toBitVec
theorem zlow16 (x : Int32) : (x <<< ((16 : Int32) &&& 31)) >>> ((16 : Int32) &&& 31) = x.toInt16.toInt32 := by
  apply Int32.toBitVec_inj.mp
  rw [Int16.toBitVec_toInt32, Int32.toBitVec_toInt16]
  exact zsx16 x.toBitVec
theorem zlow32 (x : Int32) : (x <<< ((0 : Int32) &&& 31)) >>> ((0 : Int32) &&& 31) = x := by
  apply Int32.toBitVec_inj.mp
  show (x.toBitVec <<< (0#32 : BitVec 32)).sshiftRight 0 = x.toBitVec
  simp
/-- a number put on a sheet -/
def lwS (b v : Int32) : Int32 := if b = 8 then v.toInt8.toInt32 else if b = 16 then v.toInt16.toInt32 else v
theorem ra_low {b v : Int32} (h : b = 8 ∨ b = 16 ∨ b = 32) : (v <<< (((32 : Int32) - b) &&& 31)) >>> (((32 : Int32) - b) &&& 31) = lwS b v := by
  rcases h with e | e | e <;> subst e
  · exact zlow8 v
  · exact zlow16 v
  · exact zlow32 v
theorem ca_lowest {k : Nat} (hk : k < 4) (v : Int32) (C : zM) : fX4_lowest (nI k) v C = some (lwS (C 80 k) v, C) := by
  rw [fX4_lowest, zgd_n (zgi rfl hk (by omega)), zlt_r, zcn (by omega), lwS]
  by_cases a : C 80 k = 8
  · rw [if_pos a, if_pos a]
  · rw [if_neg a, if_neg a]
    by_cases b : C 80 k = 16
    · rw [if_pos b, if_pos b]
    · rw [if_neg b, if_neg b]
theorem ca_isMissing {k : Nat} (hk : k < 4) (C : zM) : fX4_isMissing (nI k) C = some (if C 80 k = 0 then 1 else 0, C) := by
  rw [fX4_isMissing, zgd_n (zgi rfl hk (by omega)), zcn (by omega)]
  by_cases a : C 80 k = 0
  · rw [if_pos a, if_pos a]
  · rw [if_neg a, if_neg a]
/-- one number of the sheets changes -/
theorem Rel2.put {C R : zM} (h : Rel2 C R) {k i : Nat} (hk : k < 4) (hi : i < 24) (v : Int32) : Rel2 (zst C (82 + k) i v) (zst R 101 (24 * k + i) v) := by
  refine h.sheet (fun j hj => ?_) (fun c hc => zst_n _ (by omega)) (fun c _ _ h3 _ => zst_n _ h3)
  obtain ⟨s1, s2, y, s3, s4, s5, s6⟩ := h.2.2.2.2.2.2 j hj
  rw [zst_n R (show 99 ≠ 101 by omega), zst_n R (show 100 ≠ 101 by omega), zst_n C (show 80 ≠ 82 + k by omega), zst_n C (show 81 ≠ 82 + k by omega)]
  refine ⟨s1, s2, y, s3, s4, s5, fun x hx => ?_⟩
  rw [zst_k, zst_k]
  by_cases e : j = k ∧ x = i
  · rw [if_pos ⟨by omega, e.2⟩, if_pos ⟨rfl, by omega⟩]
  · rw [if_neg (fun z => e ⟨by omega, z.2⟩), if_neg (fun z => e (by omega))]
    exact s6 x hx
theorem eq_put (p0 p1 p2 : Int32) {C R : zM} (h : Rel2 C R) : EQA C R (fX7_put p0 p1 p2 C) (fX8_put p0 p1 p2 R) := by
  unfold fX7_put fX8_put
  rw [ca_noSheet, ra_isSheet]
  refine EQA.out0 h (m := 3) rfl (by omega) fun k hk e => ?_
  subst e
  obtain ⟨s1, s2, z, s3, s4, s5, s6⟩ := h.2.2.2.2.2.2 k (by omega)
  rw [ca_isMissing (by omega), zbi_s, zgd_n (zgi rfl (show k < 4 by omega) (by omega)), zgd_n (zgi rfl (show k < 4 by omega) (by omega)), zcn (by omega), s2]
  by_cases c : R 99 k = 0
  · rw [if_pos c, if_neg z10, if_pos c]
    exact EQA.err h (k := 2) rfl (by omega)
  rw [if_neg c, if_pos z00, if_neg c, s5, zgd_n (zgj (show k < 4 by omega) (by omega)), s4, ca_outside, zbi_s, ra_in, zbi_s]
  by_cases g : 0 ≤ p1 ∧ p1 ≤ nI z - 1
  · obtain ⟨i, hi, ei⟩ := (zwix (by omega) p1).mp g
    subst ei
    have hw : R 99 k = 8 ∨ R 99 k = 16 ∨ R 99 k = 32 := s1.resolve_left c
    rw [if_pos g, if_pos z00, if_pos g, if_neg z10, zgd_n (zgj (show k < 4 by omega) (by omega)), zlt_r, ca_lowest (by omega), zbi_s, zgd_n (zgi rfl (show i < 24 by omega) (by omega)), zlt_r, zgd_n (zgj (show k < 4 by omega) (by omega)), zlt_r, zlt_r, zlt_r, ra_low hw, nI_24m, zgd_n (zgi rfl (show 24 * k + i < 96 by omega) (by omega)), zlt_r, zcn (by omega), zcn (by omega), s2]
    exact EQA.done rfl (h.put (by omega) (by omega) _) (zst_fc (by omega)) (zst_fr (by omega))
  · rw [if_neg g, if_neg z10, if_neg g, if_pos z00]
    exact EQA.err h (k := 1) rfl (by omega)
/-! forces, judge -/
theorem eq_fcloop {C0 R0 : zM} {k : Nat} (hk : k < 4) :
    ∀ (d v : Nat) (C R : zM) (F G : Nat), v + d = 24 → d < F → d < G → Rel2 C R → FC C0 C → FR R0 R →
      EQA C0 R0 (fX7_forces_32 (nI k) (fun x25 M26 => some (x25, M26)) F (nI v) C) (fX8_forces_18 (nI k) (fun x17 M18 => some (x17, M18)) G (nI v) R) := by
  intro d
  induction d with
  | zero =>
    intro v C R F G hv hF hG h f g
    obtain ⟨F, rfl⟩ : ∃ E, F = E + 1 := ⟨F - 1, by omega⟩
    obtain ⟨G, rfl⟩ : ∃ E, G = E + 1 := ⟨G - 1, by omega⟩
    have e : v = 24 := by omega
    subst e
    obtain ⟨s1, s2, z, s3, s4, s5, s6⟩ := h.2.2.2.2.2.2 k hk
    have g1 : nI z ≤ nI 24 := nI_leY (by omega) (by omega) s3
    rw [fX7_forces_32, fX8_forces_18, zgd_n (zgi rfl hk (by omega)), zgd_n (zgi rfl hk (by omega)), zgd_n (zgi rfl hk (by omega)), zcn (by omega), s5, s4, if_pos g1, if_pos g1]
    exact EQA.done rfl h f g
  | succ d ih =>
    intro v C R F G hv hF hG h f g
    obtain ⟨F, rfl⟩ : ∃ E, F = E + 1 := ⟨F - 1, by omega⟩
    obtain ⟨G, rfl⟩ : ∃ E, G = E + 1 := ⟨G - 1, by omega⟩
    have hv24 : v < 24 := by omega
    obtain ⟨s1, s2, z, s3, s4, s5, s6⟩ := h.2.2.2.2.2.2 k hk
    rw [fX7_forces_32, fX8_forces_18, zgd_n (zgi rfl hk (by omega)), zgd_n (zgi rfl hk (by omega)), zgd_n (zgi rfl hk (by omega)), zcn (by omega), s5, s4]
    by_cases c : nI z ≤ nI v
    · rw [if_pos c, if_pos c]
      exact EQA.done rfl h f g
    rw [if_neg c, if_neg c, if_neg (nI_lt24 hv24), if_neg (nI_lt24 hv24), zlt_r, zgd_n (zgi rfl hv24 (by omega)), zcn (by omega), s6 v hv24, ca_outside, zbi_s, nI_24m, zgd_n (zgi rfl (show 24 * k + v < 96 by omega) (by omega)), zcn (by omega), ra_in, zbi_s]
    by_cases q : 0 ≤ R 101 (24 * k + v) ∧ R 101 (24 * k + v) ≤ 99
    · rw [if_pos q, if_pos z00, if_pos q, if_neg z10, zgd_n (zgj hk (by omega)), zlt_r, zgd_n (zgj hv24 (by omega)), zgd_n (zgj hv24 (by omega)), zlt_r, zlt_r, s6 v hv24, zgd_n (zgj (show 24 * k + v < 96 by omega) (by omega)), nI_6, zgd_n (zgi rfl (show 6 + v < 449 by omega) (by omega)), zcn (by omega), zlt_r, zlt_r, nI_1]
      obtain ⟨n, hh, hV, h9, hC⟩ := h.1
      have hb : zbd (R 101 (24 * k + v)) 99 := ⟨(zle' _ _).mp q.1, (zle' _ _).mp q.2⟩
      exact ih (v + 1) _ _ F G (by omega) (by omega) (by omega) (h.set (c := 2) (k := v) (i := 6 + v) (VR_up hV (by omega) (by omega) (fun z => by omega) (fun _ _ _ => hb) (fun x _ hx => by omega) (fun x _ hx => by omega) (fun x _ hx => by omega)) h9 (hC.up hV.1 (by omega)) (by omega) (by omega) (by omega)) (f.tr (zst_fc (by omega))) (g.tr (zst_fr (by omega)))
    · rw [if_neg q, if_neg z10, if_neg q, if_pos z00]
      exact EQA.done rfl h f g
theorem ra_lacks {k : Nat} (hk : k < 4) (R : zM) : fX8_lacks (nI k) R = some (if R 99 k = 0 then 2 else 0, R) := by
  rw [fX8_lacks, ra_isSheet, ra_in, zbi_s, if_pos (show 0 ≤ nI k ∧ nI k ≤ (3 : Int32) from ⟨nI_leY (a := 0) (by omega) (by omega) (by omega), nI_leY (b := 3) (by omega) (by omega) (by omega)⟩), if_neg z10, zgd_n (zgi rfl hk (by omega)), zcn (by omega)]
  by_cases c : R 99 k = 0
  · rw [if_pos c, if_pos c]
  · rw [if_neg c, if_neg c]
theorem eq_lack {C R : zM} (h : Rel2 C R) {v : Int32} {A B : zM → Option (Int32 × zM)} (kk : ∀ k, k < 4 → v = nI k → EQA C R (A C) (B R)) :
    EQA C R (zbi (fX7_noSheet v C) (fun r1 M2 => if r1 = 0 then (zbi (fX4_isMissing v M2) (fun r5 M6 => if r5 = 0 then A M6 else (zbi (fX7_error (2 : Int32) M6) (fun r27 M28 => some (r27, M28))))) else (zbi (fX7_error (1 : Int32) M2) (fun r30 M31 => some (r30, M31))))) (zbi (fX8_lacks v R) (fun r1 M2 => if r1 ≤ 0 then B M2 else (zbi (fX8_error r1 M2) (fun r19 M20 => some (r19, M20))))) := by
  rw [ca_noSheet, ca_outside, zbi_s]
  by_cases c : 0 ≤ v ∧ v ≤ (3 : Int32)
  · obtain ⟨k, hk, e⟩ := zrng (m := 3) rfl (by omega) c
    subst e
    obtain ⟨s1, s2, -⟩ := h.2.2.2.2.2.2 k (by omega)
    rw [if_pos c, if_pos z00, ca_isMissing (by omega), zbi_s, s2, ra_lacks (by omega), zbi_s]
    by_cases g : R 99 k = 0
    · rw [if_pos g, if_neg z10, if_pos g, if_neg (show ¬ (2 : Int32) ≤ 0 by decide)]
      exact EQA.err h (k := 2) rfl (by omega)
    · rw [if_neg g, if_pos z00, if_neg g, if_pos (show (0 : Int32) ≤ 0 by decide)]
      exact kk k (by omega) rfl
  · rw [if_neg c, if_neg z10, fX8_lacks, ra_isSheet, ra_in, zbi_s, if_neg c, if_pos z00, zbi_s, if_neg (show ¬ (1 : Int32) ≤ 0 by decide)]
    exact EQA.err h (k := 1) rfl (by omega)
theorem eq_forces (p0 : Int32) {C R : zM} (h : Rel2 C R) : EQA C R (fX7_forces p0 C) (fX8_forces p0 R) := by
  unfold fX7_forces fX8_forces
  refine eq_lack h fun k hk e => ?_
  subst e
  exact eq_fcloop hk 24 0 C R zF zF (by omega) (show 24 < 1000 by omega) (show 24 < 1000 by omega) h FC.rf FR.rf
theorem eq_jgloop {C0 R0 C R : zM} {k : Nat} (hk : k < 4) (h : Rel2 C R) (f : FC C0 C) (g : FR R0 R) (hf : ∀ j, j < 12 → C 8 j = R 95 j) :
    ∀ (d v : Nat) (F : Nat), v + d = 12 → d < F →
      EQA C0 R0 (fX7_judge_39 (nI k) (fun x21 M22 => some (x21, M22)) F (nI v) C) (fX8_judge_22 (nI k) (fun x15 M16 => some (x15, M16)) F (nI v) R) := by
  obtain ⟨s1, s2, z, s3, s4, s5, s6⟩ := h.2.2.2.2.2.2 k hk
  intro d
  induction d with
  | zero =>
    intro v F hv hF
    obtain ⟨F, rfl⟩ : ∃ E, F = E + 1 := ⟨F - 1, by omega⟩
    have e : v = 12 := by omega
    subst e
    rw [fX7_judge_39, fX8_judge_22, zgd_n (zgi rfl hk (by omega)), zgd_n (zgi rfl hk (by omega)), zgd_n (zgi rfl hk (by omega)), zcn (by omega), s5, s4]
    by_cases c : nI z ≤ nI 12
    · rw [if_pos c, if_pos c]
      exact EQA.done rfl h f g
    · rw [if_neg c, if_neg c, if_pos (show (12 : Int32) ≤ nI 12 by decide), if_pos (show (12 : Int32) ≤ nI 12 by decide)]
      exact EQA.done rfl h f g
  | succ d ih =>
    intro v F hv hF
    obtain ⟨F, rfl⟩ : ∃ E, F = E + 1 := ⟨F - 1, by omega⟩
    have hv12 : v < 12 := by omega
    rw [fX7_judge_39, fX8_judge_22, zgd_n (zgi rfl hk (by omega)), zgd_n (zgi rfl hk (by omega)), zgd_n (zgi rfl hk (by omega)), zcn (by omega), s5, s4]
    by_cases c : nI z ≤ nI v
    · rw [if_pos c, if_pos c]
      exact EQA.done rfl h f g
    rw [if_neg c, if_neg c, if_neg (nI_lt12 hv12), if_neg (nI_lt12 hv12), zlt_r, zgd_n (zgi rfl (show v < 24 by omega) (by omega)), zgd_n (zgi rfl hv12 (by omega)), zcn (by omega), s6 v (by omega), hf v hv12, nI_24m, zgd_n (zgi rfl (show 24 * k + v < 96 by omega) (by omega)), zgd_n (zgj (show v < 13 by omega) (by omega)), zcn (by omega)]
    by_cases q : R 101 (24 * k + v) = R 95 v
    · rw [if_pos q, if_pos q, zlt_r, zlt_r, nI_1]
      exact ih (v + 1) F (by omega) (by omega)
    · rw [if_neg q, if_neg q]
      exact EQA.done rfl h f g
theorem eq_judge (p0 : Int32) {C R : zM} (h : Rel2 C R) : EQA C R (fX7_judge p0 C) (fX8_judge p0 R) := by
  unfold fX7_judge fX8_judge
  refine eq_lack h fun k hk e => ?_
  subst e
  obtain ⟨n, hh, hV, h9, hC⟩ := h.1
  obtain ⟨C', b1, b2, b3, b4, b5, b6, b7⟩ := ca_letFlow hV hC
  obtain ⟨R', d1, d2, d3, d4, d5, d6, d7⟩ := ra_flow hV
  rw [b1, zbv_s, d1, zbv_s]
  exact eq_jgloop hk ((h.ou1 b2 b3).rf d2.rs) (b3.fc (by omega)) d2.fr (fun j hj => by rw [d6 j hj]; exact b7 j hj) 12 0 zF (by omega) (show 12 < 1000 by omega)
