theorem eq_slucloop {C0 R0 : zM} {m n hh : Nat} {p1 : Int32} (hm : m ≤ 6) (hV0 : VR (R0 88) n hh) (h9 : hh ≤ 9999) (hC0 : CB 1 C0 (R0 88) n) :
    ∀ (d v : Nat) (best : Int32) (least : Int32) (C R : zM) (F G : Nat), v + d = 2 ^ n → d < F → d < G → (best = -1 ∨ 0 ≤ best.toInt) → SL C0 R0 C R →
      EQA C0 R0 (fX7_sluices_33 (nI m) p1 (fun x33 x34 M35 => if 0 ≤ x33 then (if p1 = 0 then (some (x33, M35)) else (some (x34, M35))) else (zbi (fX7_error (2 : Int32) M35) (fun r38 M39 => some (r38, M39)))) F best least (nI v) C)
        (fX8_sluices_33 (nI m) p1 (fun x50 x51 M52 => if x50 = (-1 : Int32) then (zbi (fX8_error (2 : Int32) M52) (fun r55 M56 => some (r55, M56))) else (if p1 = 0 then (some (x50, M52)) else (some (x51, M52)))) G best least (nI v) R) := by
  have hn := hV0.1
  have hp := pow8 hn
  intro d
  induction d with
  | zero =>
    intro v best least C R F G hv hF hG hb t
    obtain ⟨F, rfl⟩ : ∃ E, F = E + 1 := ⟨F - 1, by omega⟩
    obtain ⟨G, rfl⟩ : ∃ E, G = E + 1 := ⟨G - 1, by omega⟩
    obtain ⟨hV, hC⟩ := t.row hV0 hC0
    obtain ⟨f2, f3, f4⟩ := t.rel
    have e9 : C 1 9 = nI n := hC.1.trans hV.2.1
    rw [fX7_sluices_33, fX8_sluices_33, e9, hV.2.1, shl1 hn, zlt_r, zlt_r, if_pos (nI_leY (a := 2 ^ n) (b := v) (by omega) (by omega) (by omega)), if_pos (nI_leY (a := 2 ^ n) (b := v) (by omega) (by omega) (by omega))]
    rcases hb with e | e
    · subst e
      rw [if_neg (show ¬ (0 : Int32) ≤ -1 by decide), if_pos (show (-1 : Int32) = -1 from rfl)]
      exact (EQA.err f2 (k := 2) rfl (by omega)).fr f3 f4
    · have g1 : (0 : Int32) ≤ best := by rw [zle']; exact e
      have g2 : ¬ best = -1 := fun z => by rw [z] at e; exact absurd e (by decide)
      rw [if_pos g1, if_neg g2]
      by_cases c : p1 = 0
      · rw [if_pos c, if_pos c]
        exact EQA.done rfl f2 f3 f4
      · rw [if_neg c, if_neg c]
        exact EQA.done rfl f2 f3 f4
  | succ d ih =>
    intro v best least C R F G hv hF hG hb t
    obtain ⟨F, rfl⟩ : ∃ E, F = E + 1 := ⟨F - 1, by omega⟩
    obtain ⟨G, rfl⟩ : ∃ E, G = E + 1 := ⟨G - 1, by omega⟩
    obtain ⟨hV, hC⟩ := t.row hV0 hC0
    obtain ⟨f2, f3, f4⟩ := t.rel
    have e9 : C 1 9 = nI n := hC.1.trans hV.2.1
    obtain ⟨C1, R1, a1, a2, a3⟩ := tri_begin f2 hV hC
    obtain ⟨C2, R2, b1, b2, b3⟩ := a3.opens hV (nI v)
    have hVo := VR_op hV (nI v) n (Nat.le_refl _)
    obtain ⟨C3, c1, c2, c3⟩ := ca_passHours (m := m) hVo (by omega) (by omega) b3.2.2.1
    obtain ⟨R3, d1, d2, d3⟩ := ra_tkloop (m := m) hVo (by omega) (by omega) p1 best least (nI v) (fun x26 M27 => zbi (fX8_areAllPaid M27) (fun r28 M29 => if r28 = 0 then (zbv (fX8_carry 90 88 M29) (fun M33 => zlt (nI v + (1 : Int32)) (fun x35 => fX8_sluices_33 (nI m) p1 (fun x50 x51 M52 => if x50 = (-1 : Int32) then (zbi (fX8_error (2 : Int32) M52) (fun r55 M56 => some (r55, M56))) else (if p1 = 0 then (some (x50, M52)) else (some (x51, M52)))) G best least x35 M33))) else (if best = (-1 : Int32) then (zbv (fX8_carry 90 88 M29) (fun M38 => zlt (nI v + (1 : Int32)) (fun x40 => fX8_sluices_33 (nI m) p1 (fun x50 x51 M52 => if x50 = (-1 : Int32) then (zbi (fX8_error (2 : Int32) M52) (fun r55 M56 => some (r55, M56))) else (if p1 = 0 then (some (x50, M52)) else (some (x51, M52)))) G (nI v) x26 x40 M38))) else (if least ≤ x26 then (zbv (fX8_carry 90 88 M29) (fun M43 => zlt (nI v + (1 : Int32)) (fun x45 => fX8_sluices_33 (nI m) p1 (fun x50 x51 M52 => if x50 = (-1 : Int32) then (zbi (fX8_error (2 : Int32) M52) (fun r55 M56 => some (r55, M56))) else (if p1 = 0 then (some (x50, M52)) else (some (x51, M52)))) G best least x45 M43))) else (zbv (fX8_carry 90 88 M29) (fun M47 => zlt (nI v + (1 : Int32)) (fun x49 => fX8_sluices_33 (nI m) p1 (fun x50 x51 M52 => if x50 = (-1 : Int32) then (zbi (fX8_error (2 : Int32) M52) (fun r55 M56 => some (r55, M56))) else (if p1 = 0 then (some (x50, M52)) else (some (x51, M52)))) G (nI v) x26 x49 M47))))))) m 0 R2 zF (by omega) (show m < 1000 by omega) b3.2.2.2.1
    have t3 : TRI C R C3 R3 (goS (opS (R 88) (nI v) n) n m) n := b3.to c3 c2 d2 d3.rx d3.e90
    obtain ⟨R4, g1, g2, g3, g4, g5, g6, -⟩ := t3.back
    have t4 : SL C0 R0 C3 R4 := t.next t3.2.1 g5 g6
    have hbv : nI v = -1 ∨ 0 ≤ (nI v).toInt := Or.inr (by rw [znT (by omega)]; omega)
    rw [fX7_sluices_33, fX8_sluices_33, e9, hV.2.1, shl1 hn, zlt_r, zlt_r, if_neg (nI_leN (a := 2 ^ n) (b := v) (by omega) (by omega) (by omega)), if_neg (nI_leN (a := 2 ^ n) (b := v) (by omega) (by omega) (by omega)), a1, zbv_s, b1, zbv_s, c1, zbi_s, ca_allArePaid c2, zbi_s, a2, zbv_s, b2, zbv_s]
    refine Eq.mpr (congrArg (EQA C0 R0 _) d1) ?_
    show EQA C0 R0 _ (zbi (fX8_areAllPaid R3) _)
    rw [ra_areAllPaid, zbi_s, d2]
    by_cases k0 : apS (goS (opS (R 88) (nI v) n) n m) 5 = 0
    · rw [if_pos k0, if_pos k0, g1, zbv_s, zlt_r, zlt_r, nI_1]
      exact ih (v + 1) best least C3 R4 F G (by omega) (by omega) (by omega) hb t4
    rw [if_neg k0, if_neg k0]
    rcases hb with e | e
    · subst e
      rw [if_pos (show (-1 : Int32) < 0 by decide), if_pos (show (-1 : Int32) = -1 from rfl), g1, zbv_s, zlt_r, zlt_r, nI_1]
      exact ih (v + 1) (nI v) _ C3 R4 F G (by omega) (by omega) (by omega) hbv t4
    · have l1 : ¬ best < 0 := fun z => by
        rw [zlt'] at z
        have : (0 : Int32).toInt = 0 := rfl
        omega
      have l2 : ¬ best = -1 := fun z => by rw [z] at e; exact absurd e (by decide)
      rw [if_neg l1, if_neg l2]
      by_cases k1 : least ≤ gtS (opS (R 88) (nI v) n) n m
      · rw [if_pos k1, if_pos k1, g1, zbv_s, zlt_r, zlt_r, nI_1]
        exact ih (v + 1) best least C3 R4 F G (by omega) (by omega) (by omega) (Or.inr e) t4
      · rw [if_neg k1, if_neg k1, g1, zbv_s, zlt_r, zlt_r, nI_1]
        exact ih (v + 1) (nI v) _ C3 R4 F G (by omega) (by omega) (by omega) hbv t4
theorem eq_sluices (p0 p1 : Int32) {C R : zM} (h : Rel2 C R) : EQA C R (fX7_sluices p0 p1 C) (fX8_sluices p0 p1 R) := by
  unfold fX7_sluices fX8_sluices
  refine EQA.out1 h (m := 6) rfl (by omega) fun m _ hm em => ?_
  refine EQA.out0 h (m := 1) rfl (by omega) fun x hx ex => ?_
  subst em
  obtain ⟨n, hh, hV, h9, hC⟩ := h.1
  have hp := pow8 hV.1
  exact eq_slucloop hm hV h9 hC (2 ^ n) 0 (-1) 0 C R zF zF (by omega) (show 2 ^ n < 1000 by omega) (show 2 ^ n < 1000 by omega) (Or.inl rfl) ⟨h, OU.rf, fun _ _ => rfl, RX.rf⟩
/-! ===== what was missing ===== -/
theorem eq_wholoop {C0 R0 : zM} {gone p1 : Int32} {n hh : Nat} (hp1 : p1 = 0 ∨ p1 = 1 ∨ p1 = 2 ∨ p1 = 3) (hn : n ≤ 8) (hC9 : C0 1 9 = nI n) :
    ∀ (d v c : Nat) (least best sure may : Int32) (s : zR) (C R : zM) (F G : Nat), v + d = 2 ^ n → d < F → d < G → c ≤ v → ((c = 0 ∧ best = -1) ∨ (c ≠ 0 ∧ best = least ∧ 0 ≤ best.toInt)) → VR s n hh → TRI C0 R0 C R s n →
      EQA C0 R0 (fX7_who_60 gone p1 (fun x36 x37 x38 x39 M40 => if x36 = 0 then (if p1 = (1 : Int32) then (zbi (fX7_error (2 : Int32) M40) (fun r46 M47 => some (r46, M47))) else (if p1 = (2 : Int32) then (zbi (fX7_error (2 : Int32) M40) (fun r53 M54 => some (r53, M54))) else (if p1 = (0 : Int32) then (some (x36, M40)) else (if p1 = (1 : Int32) then (some (x37, M40)) else (if p1 = (2 : Int32) then (some (x38, M40)) else (some (x39, M40))))))) else (if p1 = (0 : Int32) then (some (x36, M40)) else (if p1 = (1 : Int32) then (some (x37, M40)) else (if p1 = (2 : Int32) then (some (x38, M40)) else (some (x39, M40)))))) F (nI c) least sure may (nI v) C)
        (fX8_who_62 gone p1 (nI (2 ^ n) - 1) (fun x34 x35 x36 x37 M38 => zbv (fX8_carry 90 88 M38) (fun M40 => if x34 = 0 then (if p1 = (1 : Int32) then (zbi (fX8_error (2 : Int32) M40) (fun r47 M48 => some (r47, M48))) else (if p1 = (2 : Int32) then (zbi (fX8_error (2 : Int32) M40) (fun r54 M55 => some (r54, M55))) else (if p1 = 0 then (some (x34, M40)) else (if p1 = (1 : Int32) then (some (x35, M40)) else (if p1 = (2 : Int32) then (some (x36, M40)) else (some (x37, M40))))))) else (if p1 = 0 then (some (x34, M40)) else (if p1 = (1 : Int32) then (some (x35, M40)) else (if p1 = (2 : Int32) then (some (x36, M40)) else (some (x37, M40))))))) G (nI c) best sure may (nI v) R) := by
  have hp := pow8 hn
  have hp0 : 0 < 2 ^ n := Nat.two_pow_pos n
  have e1 : nI (2 ^ n) - 1 = nI (2 ^ n - 1) := nI_sub' (b := 1) (by omega) (by omega)
  intro d
  induction d with
  | zero =>
    intro v c least best sure may s C R F G hv hF hG hc hb hV t
    obtain ⟨F, rfl⟩ : ∃ E, F = E + 1 := ⟨F - 1, by omega⟩
    obtain ⟨G, rfl⟩ : ∃ E, G = E + 1 := ⟨G - 1, by omega⟩
    have e9 : C 1 9 = nI n := by rw [t.2.1 1 (by omega)]; exact hC9
    obtain ⟨R4, g1, g2, g3, g4, -⟩ := t.back
    rw [fX7_who_60, fX8_who_62, e9, shl1 hn, zlt_r, if_pos (nI_leY (a := 2 ^ n) (b := v) (by omega) (by omega) (by omega)), e1, if_pos (nI_ltY (a := 2 ^ n - 1) (b := v) (by omega) (by omega) (by omega)), g1, zbv_s]
    rcases hb with ⟨h1, h2⟩ | ⟨h1, h2, h3⟩
    · subst h1
      rw [show nI 0 = 0 from rfl, if_pos z00, if_pos z00]
      rcases hp1 with e | e | e | e <;> subst e
      · exact EQA.done rfl g2 g3 g4
      · exact (EQA.err g2 (k := 2) rfl (by omega)).fr g3 g4
      · exact (EQA.err g2 (k := 2) rfl (by omega)).fr g3 g4
      · exact EQA.done rfl g2 g3 g4
    · have hcn : ¬ nI c = 0 := fun z => h1 (nI_inj' (b := 0) z (by omega) (by omega))
      rw [if_neg hcn, if_neg hcn]
      rcases hp1 with e | e | e | e <;> subst e
      · exact EQA.done rfl g2 g3 g4
      · exact EQA.done h2.symm g2 g3 g4
      · exact EQA.done rfl g2 g3 g4
      · exact EQA.done rfl g2 g3 g4
  | succ d ih =>
    intro v c least best sure may s C R F G hv hF hG hc hb hV t
    obtain ⟨F, rfl⟩ : ∃ E, F = E + 1 := ⟨F - 1, by omega⟩
    obtain ⟨G, rfl⟩ : ∃ E, G = E + 1 := ⟨G - 1, by omega⟩
    have e9 : C 1 9 = nI n := by rw [t.2.1 1 (by omega)]; exact hC9
    obtain ⟨C2, R2, b1, b2, b3⟩ := t.opens hV (nI v)
    have hVo := VR_op hV (nI v) n (Nat.le_refl _)
    obtain ⟨C3, c1, c2, c3, c4, c5, -, -⟩ := ca_letFlow hVo b3.2.2.1
    obtain ⟨R3, d1, d2, d3, d4, -, -, d7⟩ := ra_flow (M := R2) (by rw [b3.2.2.2.1]; exact hVo)
    have t3 : TRI C0 R0 C3 R3 (opS s (nI v) n) n := (b3.ou hn c2 c3).to OU.rf (b3.2.2.1.ag hn c2) (d2.e88.trans b3.2.2.2.1) d2.rh.rx d2.e90
    rw [b3.2.2.2.1] at d7
    rw [fX7_who_60, fX8_who_62, e9, shl1 hn, zlt_r, if_neg (nI_leN (a := 2 ^ n) (b := v) (by omega) (by omega) (by omega)), e1, if_neg (nI_ltN (a := 2 ^ n - 1) (b := v) (by omega) (by omega) (by omega)), b1, zbv_s, c1, zbv_s, b2, zbv_s, d1, zbv_s, c5, d7]
    rw [e1] at ih
    by_cases g : (flA (opS s (nI v) n) n).1.1 = gone
    · rw [if_pos g, if_pos g]
      rcases hb with ⟨h1, h2⟩ | ⟨h1, h2, h3⟩
      · subst h1
        rw [show nI 0 = 0 from rfl, if_pos z00, zlt_r, zlt_r, zlt_r, zlt_r, zlt_r, if_pos h2, zlt_r, zlt_r, zlt_r, nI_1]
        exact ih (v + 1) 1 (nI v) (nI v) _ _ _ C3 R3 F G (by omega) (by omega) (by omega) (by omega) (Or.inr ⟨by omega, rfl, by rw [znT (by omega)]; omega⟩) hVo t3
      · have hcn : ¬ nI c = 0 := fun z => h1 (nI_inj' (b := 0) z (by omega) (by omega))
        have l2 : ¬ best = -1 := fun z => by rw [z] at h3; exact absurd h3 (by decide)
        rw [if_neg hcn, zlt_r, zlt_r, zlt_r, zlt_r, zlt_r, if_neg l2, zlt_r, zlt_r, zlt_r, nI_1, nI_1]
        exact ih (v + 1) (c + 1) least best _ _ _ C3 R3 F G (by omega) (by omega) (by omega) (by omega) (Or.inr ⟨by omega, h2, h3⟩) hVo t3
    · rw [if_neg g, if_neg g, zlt_r, zlt_r, nI_1]
      exact ih (v + 1) c least best sure may _ C3 R3 F G (by omega) (by omega) (by omega) (by omega) hb hVo t3
theorem eq_who (p0 p1 : Int32) {C R : zM} (h : Rel2 C R) : EQA C R (fX7_who p0 p1 C) (fX8_who p0 p1 R) := by
  unfold fX7_who fX8_who
  refine EQA.out0 h (m := 99) rfl (by omega) fun g hg eg => ?_
  refine EQA.out0 h (m := 3) rfl (by omega) fun x hx ex => ?_
  obtain ⟨n, hh, hV, h9, hC⟩ := h.1
  have hp := pow8 hV.1
  have e9 : C 1 9 = nI n := hC.1.trans hV.2.1
  obtain ⟨C1, R1, a1, a2, a3⟩ := tri_begin h hV hC
  rw [e9, hV.2.1, shl1 hV.1, zlt_r, zlt_r, zlt_r, zlt_r, a1, zbv_s, a2, zbv_s]
  have hp1 : p1 = 0 ∨ p1 = 1 ∨ p1 = 2 ∨ p1 = 3 := by
    rcases (show x = 0 ∨ x = 1 ∨ x = 2 ∨ x = 3 by omega) with e | e | e | e <;> subst e
    · exact Or.inl ex
    · exact Or.inr (Or.inl ex)
    · exact Or.inr (Or.inr (Or.inl ex))
    · exact Or.inr (Or.inr (Or.inr ex))
  exact eq_wholoop (hh := hh) hp1 hV.1 e9 (2 ^ n) 0 0 0 (-1) _ 0 (R 88) C1 R1 zF zF (by omega) (show 2 ^ n < 1000 by omega) (show 2 ^ n < 1000 by omega) (Nat.le_refl _) (Or.inl ⟨rfl, rfl⟩) hV a3
