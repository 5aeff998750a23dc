/-! ===== counts ===== -/
theorem nI_sub' {a b : Nat} (h : b ≤ a) (ha : a < 2147483648) : nI a - nI b = nI (a - b) := by
  have e : (nI a - nI b).toInt = (a : Int) - b := by rw [zsbT (by rw [znT ha, znT (by omega)]; omega) (by rw [znT ha, znT (by omega)]; omega), znT ha, znT (by omega)]
  rw [zeq', e, znT (by omega)]
  omega
theorem eq_count (p0 : Int32) {C R : zM} (h : Rel2 C R) : EQA C R (fX7_count p0 C) (fX8_count p0 R) := by
  unfold fX7_count fX8_count
  obtain ⟨n, hh, hV, h9, hC⟩ := h.1
  have hn := hV.1
  rw [ca_outside, ra_in, zbi_s, zbi_s]
  by_cases c : 0 ≤ p0 ∧ p0 ≤ (22 : Int32)
  · obtain ⟨j, hj, ej, -⟩ : ∃ j : Nat, j ≤ 22 ∧ p0 = nI j ∧ j < 2147483648 := zof (n := 22) (by have := (zle' _ _).mp c.1; exact this) (by have := (zle' _ _).mp c.2; exact this)
    subst ej
    rw [if_pos c, if_pos z00]
    by_cases g : 11 ≤ j
    · have e1 : nI j - 11 = nI (j - 11) := nI_sub' (b := 11) g (by omega)
      have e2 : (30 : Int32) + nI j - 11 = nI (30 + (j - 11)) := by
        rw [nI_30, show (11 : Int32) = nI 11 from rfl, nI_sub' (by omega) (by omega)]
        congr 1
        omega
      have ne : ∀ k : Nat, k ≤ 10 → ¬ nI j = nI k := fun k hk z => by
        have := nI_inj' z (by omega) (by omega)
        omega
      rw [if_neg (show ¬ nI j = (0 : Int32) from ne 0 (by omega)), if_neg (show ¬ nI j = (1 : Int32) from ne 1 (by omega)), if_neg (show ¬ nI j = (2 : Int32) from ne 2 (by omega)), if_neg (show ¬ nI j = (3 : Int32) from ne 3 (by omega)), if_neg (show ¬ nI j = (4 : Int32) from ne 4 (by omega)), if_neg (show ¬ nI j = (5 : Int32) from ne 5 (by omega)), if_neg (show ¬ nI j = (6 : Int32) from ne 6 (by omega)), if_neg (show ¬ nI j = (7 : Int32) from ne 7 (by omega)), if_neg (show ¬ nI j = (8 : Int32) from ne 8 (by omega)), if_neg (show ¬ nI j = (9 : Int32) from ne 9 (by omega)), if_neg (show ¬ nI j = (10 : Int32) from ne 10 (by omega)), e1, e2, zgd_n (zgi rfl (show j - 11 < 12 by omega) (by omega)), zcn (by omega), if_pos (show (11 : Int32) ≤ nI j ∧ nI j ≤ 22 from ⟨nI_leY (a := 11) (by omega) (by omega) g, c.2⟩), if_neg z10, zgd_n (zgi rfl (show 30 + (j - 11) < 449 by omega) (by omega)), zcn (by omega)]
      exact EQA.done (hC.2.2.2.2.2.1 (j - 11) (by omega)) h FC.rf FR.rf
    · obtain ⟨C', b1, b2, b3, b4, b5, b6, b7⟩ := ca_letFlow hV hC
      obtain ⟨R', d1, d2, d3, d4, d5, d6, d7⟩ := ra_flow hV
      have e88 : R' 88 = R 88 := d2.e88
      have h2 := h.rf d2.rs
      rw [if_neg (show ¬ ((11 : Int32) ≤ nI j ∧ nI j ≤ 22) from fun z => nI_leN (a := 11) (b := j) (by omega) (by omega) (by omega) z.1), if_pos z00, d1, zbv_s]
      rcases (show j = 0 ∨ j = 1 ∨ j = 2 ∨ j = 3 ∨ j = 4 ∨ j = 5 ∨ j = 6 ∨ j = 7 ∨ j = 8 ∨ j = 9 ∨ j = 10 by omega) with e | e | e | e | e | e | e | e | e | e | e <;> subst e
      · exact EQA.done (by rw [e88]; exact hC.1) h2 FC.rf d2.fr
      · exact EQA.done (by rw [e88]; exact hC.2.1) h2 FC.rf d2.fr
      · obtain ⟨he, he2, hl⟩ := VR_hod hV
        have e1 : fX0_forceNow 1 C = some (R 88 (6 + hh % 24), C) := by
          rw [fX0_forceNow, zlt_r, hC.2.1, he, zgd_n (zgi rfl hl (by omega)), zcn (by omega), hC.2.2.2.2.1 _ hl]
        rw [if_neg (show ¬ nI 2 = (0 : Int32) by decide), if_neg (show ¬ nI 2 = (1 : Int32) by decide), if_pos (show nI 2 = (2 : Int32) by decide), if_neg (show ¬ nI 2 = (0 : Int32) by decide), if_neg (show ¬ nI 2 = (1 : Int32) by decide), if_pos (show nI 2 = (2 : Int32) by decide)]
        rw [e1, zbi_s, ra_hourOfDay (h := hh) R' (by rw [e88]; exact hV.2.2.1) (by omega), zbi_s, nI_6, zgd_n (zgi rfl (show 6 + hh % 24 < 449 by omega) (by omega)), zcn (by omega), e88]
        exact EQA.done rfl h2 FC.rf d2.fr
      · show EQA C R (zbv (fX0_letFlow 1 C) _) (some (R' 95 12, R'))
        rw [b1, zbv_s]
        exact EQA.done (b5.trans d7.symm) (h2.ou1 b2 b3) (b3.fc (by omega)) d2.fr
      · show EQA C R (zbv (fX0_letFlow 1 C) _) (some (R' 87 14, R'))
        rw [b1, zbv_s]
        exact EQA.done (b4.trans d3.symm) (h2.ou1 b2 b3) (b3.fc (by omega)) d2.fr
      · exact EQA.done (by rw [e88]; exact hC.2.2.1) h2 FC.rf d2.fr
      · rw [if_neg (show ¬ nI 6 = (0 : Int32) by decide), if_neg (show ¬ nI 6 = (1 : Int32) by decide), if_neg (show ¬ nI 6 = (2 : Int32) by decide), if_neg (show ¬ nI 6 = (3 : Int32) by decide), if_neg (show ¬ nI 6 = (4 : Int32) by decide), if_neg (show ¬ nI 6 = (5 : Int32) by decide), if_pos (show nI 6 = (6 : Int32) by decide), if_neg (show ¬ nI 6 = (0 : Int32) by decide), if_neg (show ¬ nI 6 = (1 : Int32) by decide), if_neg (show ¬ nI 6 = (2 : Int32) by decide), if_neg (show ¬ nI 6 = (3 : Int32) by decide), if_neg (show ¬ nI 6 = (4 : Int32) by decide), if_neg (show ¬ nI 6 = (5 : Int32) by decide), if_pos (show nI 6 = (6 : Int32) by decide)]
        rw [ca_prayedOfAll hC, zbi_s, ra_allPrayed, zbi_s, e88]
        exact EQA.done rfl h2 FC.rf d2.fr
      · obtain ⟨t, u, a1, a2, a3, a4, a5, a6, a7, a8, a9⟩ := h.2.1
        exact EQA.done (by rw [e88, a3]; exact a4) h2 FC.rf d2.fr
      · obtain ⟨t, u, a1, a2, a3, a4, a5, a6, a7, a8, a9⟩ := h.2.1
        exact EQA.done (by rw [e88, a5]; exact a6) h2 FC.rf d2.fr
      · obtain ⟨t, a1, a2, a3, a4⟩ := h2.2.2.2.2.2.1
        exact EQA.done (by rw [a3]; exact a2) h2 FC.rf d2.fr
      · exact EQA.done (by rw [e88]; exact hC.2.2.2.1) h2 FC.rf d2.fr
  · obtain ⟨R', d1, d2, d3, d4, d5, d6, d7⟩ := ra_flow hV
    have h2 := h.rf d2.rs
    have c2 : ¬ ((11 : Int32) ≤ p0 ∧ p0 ≤ 22) := fun z => c ⟨by
      have := (zle' _ _).mp z.1
      have e1 : (11 : Int32).toInt = 11 := rfl
      have e0 : (0 : Int32).toInt = 0 := rfl
      rw [zle']
      omega, z.2⟩
    have ne : ∀ k : Nat, k ≤ 10 → ¬ p0 = nI k := fun k hk z => c (by
      rw [z]
      exact ⟨nI_leY (a := 0) (by omega) (by omega) (by omega), nI_leY (b := 22) (by omega) (by omega) (by omega)⟩)
    rw [if_neg c, if_neg z10, if_neg c2, if_pos z00, d1, zbv_s, if_neg (show ¬ p0 = (0 : Int32) from ne 0 (by omega)), if_neg (show ¬ p0 = (1 : Int32) from ne 1 (by omega)), if_neg (show ¬ p0 = (2 : Int32) from ne 2 (by omega)), if_neg (show ¬ p0 = (3 : Int32) from ne 3 (by omega)), if_neg (show ¬ p0 = (4 : Int32) from ne 4 (by omega)), if_neg (show ¬ p0 = (5 : Int32) from ne 5 (by omega)), if_neg (show ¬ p0 = (6 : Int32) from ne 6 (by omega)), if_neg (show ¬ p0 = (7 : Int32) from ne 7 (by omega)), if_neg (show ¬ p0 = (8 : Int32) from ne 8 (by omega)), if_neg (show ¬ p0 = (9 : Int32) from ne 9 (by omega)), if_neg (show ¬ p0 = (10 : Int32) from ne 10 (by omega))]
    exact (EQA.err h2 (k := 1) rfl (by omega)).fr FC.rf d2.fr
/-- the wheels that have slipped -/
theorem eq_slloop {C R : zM} {n hh : Nat} (h : Rel2 C R) (hV : VR (R 88) n hh) (hC : CB 1 C (R 88) n) :
    ∀ (d k : Nat) (x : Int32) (F : Nat), k + d = n → d < F → EQA C R (fX7_slipped_4 (fun x11 M12 => some (x11, M12)) F x (nI k) C) (fX8_slipped_4 (fun x14 M15 => some (x14, M15)) F x (nI k) R) := by
  have hn := hV.1
  intro d
  induction d with
  | zero =>
    intro k x F hk hF
    obtain ⟨F, rfl⟩ : ∃ G, F = G + 1 := ⟨F - 1, by omega⟩
    have e : k = n := by omega
    subst e
    rw [fX7_slipped_4, fX8_slipped_4, hC.1, hV.2.1, if_pos (nI_leY (a := k) (b := k) (by omega) (by omega) (by omega)), if_pos (nI_leY (a := k) (b := k) (by omega) (by omega) (by omega))]
    exact EQA.done rfl h FC.rf FR.rf
  | succ d ih =>
    intro k x F hk hF
    obtain ⟨F, rfl⟩ : ∃ G, F = G + 1 := ⟨F - 1, by omega⟩
    have hkn : k < n := by omega
    rw [fX7_slipped_4, fX8_slipped_4, hC.1, hV.2.1, if_neg (nI_leN (a := n) (b := k) (by omega) (by omega) (by omega)), if_neg (nI_leN (a := n) (b := k) (by omega) (by omega) (by omega)), zgd_n (zgi rfl (show k < 8 by omega) (by omega)), zlt_r, zgd_n (zgi rfl (show k < 8 by omega) (by omega)), zlt_r, zcn (by omega), show 9 + k = 1 + 8 + k by omega, cb_its hC hkn (show 5 < 7 by omega), cb_its hC hkn (show 6 < 7 by omega), ra_itsS (k := 5) (x := (5 : Int32)) rfl (by omega) (by omega), zbi_s, ra_itsS (k := 6) (x := (6 : Int32)) rfl (by omega) (by omega), zbi_s]
    by_cases c : itS (R 88) k 5 = itS (R 88) k 6
    · rw [if_pos c, if_pos c, zlt_r, zlt_r, zlt_r, Int32.or_zero, nI_1]
      exact ih (k + 1) x F (by omega) (by omega)
    · rw [if_neg c, if_neg c, zlt_r, zlt_r, zlt_r, zlt_r, zlt_r, zlt_r, nI_1]
      exact ih (k + 1) _ F (by omega) (by omega)
theorem eq_slipped {C R : zM} (h : Rel2 C R) : EQA C R (fX7_slipped C) (fX8_slipped R) := by
  obtain ⟨n, hh, hV, h9, hC⟩ := h.1
  exact eq_slloop h hV hC n 0 0 zF (by omega) (show n < 1000 by have := hV.1; omega)
/-! ===== sluices ===== -/
def opS (s : zR) (b : Int32) : Nat → zR
  | 0 => s
  | k + 1 => upd (opS s b k) (52 + 7 * k + 4) ((b >>> (nI k &&& 31)) &&& 1)
theorem and1 (x : Int32) : zbd (x &&& 1) 1 := by
  have e : (x &&& 1).toBitVec = x.toBitVec &&& 1#32 := rfl
  have h1 : (x &&& 1).toBitVec.toNat = x.toBitVec.toNat % 2 := by
    rw [e, BitVec.toNat_and]
    exact Nat.and_one_is_mod _
  unfold zbd
  show 0 ≤ (x &&& 1).toBitVec.toInt ∧ (x &&& 1).toBitVec.toInt ≤ 1
  rw [BitVec.toInt_eq_toNat_cond]
  omega
theorem VR_op {s : zR} {n h : Nat} (hV : VR s n h) (b : Int32) : ∀ k, k ≤ n → VR (opS s b k) n h := by
  intro k
  have hn := hV.1
  induction k with
  | zero => intro _; exact hV
  | succ k ih =>
    intro hk
    exact VR_upw (ih (by omega)) (by omega) (by omega) (and1 _)
theorem ra_oploop {s : zR} {n h : Nat} (hV : VR s n h) (b : Int32) (kk : zM → Option zM) :
    ∀ (d k : Nat) (M : zM) (F : Nat), k + d = n → d < F → M 88 = opS s b k →
      ∃ M', fX8_opens__2 b kk F (nI k) M = kk M' ∧ M' 88 = opS s b n ∧ ∀ c, c ≠ 88 → M' c = M c := by
  have hn := hV.1
  intro d
  induction d with
  | zero =>
    intro k M F hk hF hs
    obtain ⟨F, rfl⟩ : ∃ G, F = G + 1 := ⟨F - 1, by omega⟩
    have e : k = n := by omega
    subst e
    refine ⟨M, ?_, hs, fun _ _ => rfl⟩
    rw [fX8_opens__2, hs, (VR_op hV b k (Nat.le_refl _)).2.1, if_pos (nI_leY (by omega) (by omega) (by omega))]
  | succ d ih =>
    intro k M F hk hF hs
    obtain ⟨F, rfl⟩ : ∃ G, F = G + 1 := ⟨F - 1, by omega⟩
    rw [fX8_opens__2, show M 88 0 = nI n by rw [hs]; exact (VR_op hV b k (by omega)).2.1, if_neg (nI_leN (by omega) (by omega) (by omega)), zlt_r, ra_lays (k := 4) (x := (4 : Int32)) rfl (by omega) (by omega), zbv_s, zlt_r, nI_1]
    obtain ⟨M', c1, c2, c3⟩ := ih (k + 1) (zst M 88 (52 + 7 * k + 4) ((b >>> (nI k &&& 31)) &&& 1)) F (by omega) (by omega) (by rw [zst_s, hs]; rfl)
    exact ⟨M', c1, c2, fun x hx => by rw [c3 x hx, zst_n _ hx]⟩
theorem ra_opens {M : zM} {n h : Nat} (hV : VR (M 88) n h) (b : Int32) : ∃ M', fX8_opens_ b M = some M' ∧ M' 88 = opS (M 88) b n ∧ ∀ c, c ≠ 88 → M' c = M c :=
  ra_oploop hV b (fun  M7 => some M7) n 0 M zF (by omega) (show n < 1000 by have := hV.1; omega) rfl
theorem ca_oploop {s : zR} {q n h : Nat} (hV : VR s n h) (b : Int32) (kk : zM → Option zM) :
    ∀ (d k : Nat) (M : zM) (F : Nat), k + d = n → d < F → CB q M (opS s b k) n →
      ∃ M', fX0_openOnly_2 q b kk F (nI k) M = kk M' ∧ CB q M' (opS s b n) n ∧ OU q M M' := by
  have hn := hV.1
  intro d
  induction d with
  | zero =>
    intro k M F hk hF hC
    obtain ⟨F, rfl⟩ : ∃ G, F = G + 1 := ⟨F - 1, by omega⟩
    have e : k = n := by omega
    subst e
    refine ⟨M, ?_, hC, OU.rf⟩
    rw [fX0_openOnly_2, hC.1, (VR_op hV b k (Nat.le_refl _)).2.1, if_pos (nI_leY (by omega) (by omega) (by omega))]
  | succ d ih =>
    intro k M F hk hF hC
    obtain ⟨F, rfl⟩ : ∃ G, F = G + 1 := ⟨F - 1, by omega⟩
    rw [fX0_openOnly_2, hC.1, (VR_op hV b k (by omega)).2.1, if_neg (nI_leN (by omega) (by omega) (by omega)), zgd_n (zgi rfl (show k < 8 by omega) (by omega)), zlt_r, zcn (by omega), zlt_r, zlt_r, zlt_r, nI_1]
    obtain ⟨M', c1, c2, c3⟩ := ih (k + 1) (zst M (q + 8 + k) 4 ((b >>> (nI k &&& 31)) &&& 1)) F (by omega) (by omega) (CB.upw (q := q) hn hC (by omega) (by omega))
    exact ⟨M', c1, c2, fun x hx => by rw [c3 x hx, zst_n _ (by omega)]⟩
theorem ca_openOnly {M : zM} {s : zR} {q n h : Nat} (hV : VR s n h) (hC : CB q M s n) (b : Int32) : ∃ M', fX0_openOnly q b M = some M' ∧ CB q M' (opS s b n) n ∧ OU q M M' :=
  ca_oploop hV b (fun  M7 => some M7) n 0 M zF (by omega) (show n < 1000 by have := hV.1; omega) hC
theorem TRI.opens {C0 R0 C R : zM} {s : zR} {n hh : Nat} (h : TRI C0 R0 C R s n) (hV : VR s n hh) (b : Int32) : ∃ C' R', fX0_openOnly 45 b C = some C' ∧ fX8_opens_ b R = some R' ∧ TRI C0 R0 C' R' (opS s b n) n := by
  obtain ⟨C', a1, a2, a3⟩ := ca_openOnly hV h.2.2.1 b
  have e := h.2.2.2.1
  obtain ⟨R', b1, b2, b3⟩ := ra_opens (M := R) (by rw [e]; exact hV) b
  rw [e] at b2
  exact ⟨C', R', a1, b1, h.to a3 a2 b2 ⟨fun c _ h2 _ _ _ _ _ _ => b3 c h2, fun k _ _ _ _ => by rw [b3 87 (by decide)]⟩ (b3 90 (by decide))⟩
/-- whether families 5 - d .. 4 are paid -/
def apS (s : zR) : Nat → Int32
  | 0 => 1
  | d + 1 => if pdS s (4 - d) = 0 then 0 else apS s d
theorem ca_aploop {M : zM} {s : zR} {q n : Nat} (hC : CB q M s n) : ∀ (d F : Nat), d ≤ 5 → d < F → fX0_allArePaid_2 q (fun  M7 => some ((1 : Int32), M7)) F (nI (5 - d)) M = some (apS s d, M) := by
  intro d
  induction d with
  | zero =>
    intro F _ hF
    obtain ⟨F, rfl⟩ : ∃ G, F = G + 1 := ⟨F - 1, by omega⟩
    rw [fX0_allArePaid_2, if_pos (by decide)]
    rfl
  | succ d ih =>
    intro F hd hF
    obtain ⟨F, rfl⟩ : ∃ G, F = G + 1 := ⟨F - 1, by omega⟩
    have e : 5 - (d + 1) = 4 - d := by omega
    have e2 : 4 - d + 1 = 5 - d := by omega
    rw [fX0_allArePaid_2, e, if_neg (nI_lt5 (by omega)), ca_isPaid hC (by omega), zbi_s, nI_1, e2, apS]
    by_cases c : pdS s (4 - d) = 0
    · rw [if_pos c, if_pos c]
    · rw [if_neg c, if_neg c, zlt_r]
      exact ih F (by omega) (by omega)
theorem ra_ap0 (M : zM) : ∀ (d F : Nat), d ≤ 5 → d < F → fX8_areAllPaid_4 (fun x10 M11 => zgd (¬ (x10 = 0 ∨ x10 = 1)) (some (x10, M11))) F 0 (nI (5 - d)) M = some (0, M) := by
  intro d
  induction d with
  | zero =>
    intro F _ hF
    obtain ⟨F, rfl⟩ : ∃ G, F = G + 1 := ⟨F - 1, by omega⟩
    rw [fX8_areAllPaid_4, if_pos (by decide), zgd_n (by decide)]
  | succ d ih =>
    intro F hd hF
    obtain ⟨F, rfl⟩ : ∃ G, F = G + 1 := ⟨F - 1, by omega⟩
    have e : 5 - (d + 1) = 4 - d := by omega
    have e2 : 4 - d + 1 = 5 - d := by omega
    rw [fX8_areAllPaid_4, e, if_neg (nI_lt5 (by omega)), if_pos z00, zlt_r, nI_1, e2]
    exact ih F (by omega) (by omega)
theorem ra_aploop (M : zM) : ∀ (d F : Nat), d ≤ 5 → d < F → fX8_areAllPaid_4 (fun x10 M11 => zgd (¬ (x10 = 0 ∨ x10 = 1)) (some (x10, M11))) F 1 (nI (5 - d)) M = some (apS (M 88) d, M) := by
  intro d
  induction d with
  | zero =>
    intro F _ hF
    obtain ⟨F, rfl⟩ : ∃ G, F = G + 1 := ⟨F - 1, by omega⟩
    rw [fX8_areAllPaid_4, if_pos (by decide), zgd_n (by decide)]
    rfl
  | succ d ih =>
    intro F hd hF
    obtain ⟨F, rfl⟩ : ∃ G, F = G + 1 := ⟨F - 1, by omega⟩
    have e : 5 - (d + 1) = 4 - d := by omega
    have e2 : 4 - d + 1 = 5 - d := by omega
    rw [fX8_areAllPaid_4, e, if_neg (nI_lt5 (by omega)), if_neg z10, ra_isPaid (by omega), zbi_s, nI_1, e2, apS]
    by_cases c : pdS (M 88) (4 - d) = 0
    · rw [if_pos c, if_pos c, zlt_r]
      exact ra_ap0 M d F (by omega) (by omega)
    · rw [if_neg c, if_neg c, zlt_r]
      exact ih F (by omega) (by omega)
theorem ca_allArePaid {M : zM} {s : zR} {q n : Nat} (hC : CB q M s n) : fX0_allArePaid q M = some (apS s 5, M) := ca_aploop hC 5 zF (Nat.le_refl _) (show 5 < 1000 by omega)
theorem ra_areAllPaid (M : zM) : fX8_areAllPaid M = some (apS (M 88) 5, M) := ra_aploop M 5 zF (Nat.le_refl _) (show 5 < 1000 by omega)
/-- the reference's hours with what was taken -/
theorem ra_tkloop {s : zR} {n h m : Nat} (hV : VR s n h) (hm : h + m < 100000) (hm2 : m < 1000) (y2 y3 y4 y5 : Int32) (kk : Int32 → zM → Option (Int32 × zM)) :
    ∀ (d k : Nat) (M : zM) (F : Nat), k + d = m → d < F → M 88 = goS s n k →
      ∃ M', fX8_sluices_69 (nI m) y2 y3 y4 y5 kk F (gtS s n k) (nI k) M = kk (gtS s n m) M' ∧ M' 88 = goS s n m ∧ RH M M' := by
  intro d
  induction d with
  | zero =>
    intro k M F hk hF hs
    obtain ⟨F, rfl⟩ : ∃ G, F = G + 1 := ⟨F - 1, by omega⟩
    have e : k = m := by omega
    subst e
    refine ⟨M, ?_, hs, RH.rf⟩
    rw [fX8_sluices_69, if_pos (nI_leY (by omega) (by omega) (by omega))]
  | succ d ih =>
    intro k M F hk hF hs
    obtain ⟨F, rfl⟩ : ∃ G, F = G + 1 := ⟨F - 1, by omega⟩
    have hVk := VR_go hV k (by omega)
    obtain ⟨M1, a1, a2, a3, a4, -, -⟩ := ra_hour (M := M) (by rw [hs]; exact hVk)
    rw [fX8_sluices_69, if_neg (nI_leN (by omega) (by omega) (by omega)), a1, zbv_s, a4, zlt_r, zlt_r, nI_1, hs]
    obtain ⟨M', b1, b2, b3⟩ := ih (k + 1) M1 F (by omega) (by omega) (by rw [a3, hs]; rfl)
    exact ⟨M', b1, b2, a2.tr b3⟩
theorem shl1 {n : Nat} (h : n ≤ 8) : (1 : Int32) <<< (nI n &&& 31) = nI (2 ^ n) := by
  rcases (show n = 0 ∨ n = 1 ∨ n = 2 ∨ n = 3 ∨ n = 4 ∨ n = 5 ∨ n = 6 ∨ n = 7 ∨ n = 8 by omega) with e | e | e | e | e | e | e | e | e <;> subst e <;> decide
theorem pow8 {n : Nat} (h : n ≤ 8) : 2 ^ n ≤ 256 := by
  rcases (show n = 0 ∨ n = 1 ∨ n = 2 ∨ n = 3 ∨ n = 4 ∨ n = 5 ∨ n = 6 ∨ n = 7 ∨ n = 8 by omega) with e | e | e | e | e | e | e | e | e <;> subst e <;> decide
/-- between two looks ahead -/
def SL (C0 R0 C R : zM) : Prop := Rel2 C0 R0 ∧ OU 45 C0 C ∧ (∀ k, k < 449 → R 88 k = R0 88 k) ∧ RX R0 R
theorem SL.rel {C0 R0 C R : zM} (h : SL C0 R0 C R) : Rel2 C R ∧ FC C0 C ∧ FR R0 R := ⟨(h.1.ou h.2.1).rf (h.2.2.2.rs h.2.2.1), h.2.1.fc (by omega), h.2.2.2.fr⟩
theorem SL.row {C0 R0 C R : zM} {n hh : Nat} (h : SL C0 R0 C R) (hV : VR (R0 88) n hh) (hC : CB 1 C0 (R0 88) n) : VR (R 88) n hh ∧ CB 1 C (R 88) n :=
  ⟨hV.cg (fun k hk => h.2.2.1 k (by omega)), (hC.eq hV.1 (fun c _ _ => h.2.1 c (by omega))).cg hV.1 (fun k hk => h.2.2.1 k (by omega))⟩
theorem SL.next {C0 R0 C R C' R' : zM} (h : SL C0 R0 C R) (o : OU 45 C C') (e : ∀ k, k < 449 → R' 88 k = R 88 k) (x : RX R R') : SL C0 R0 C' R' := ⟨h.1, h.2.1.tr o, fun k hk => by rw [e k hk, h.2.2.1 k hk], h.2.2.2.tr x⟩
