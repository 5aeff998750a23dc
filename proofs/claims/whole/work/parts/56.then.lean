/-! ===== the brook ahead ===== -/
/-- what the reference changes while it looks ahead -/
def RX (M M' : zM) : Prop := (∀ c, c ≠ 87 → c ≠ 88 → c ≠ 90 → c ≠ 93 → c ≠ 94 → c ≠ 95 → c ≠ 96 → c ≠ 97 → M' c = M c) ∧ ∀ k, k ≠ 14 → k ≠ 15 → k ≠ 17 → k ≠ 18 → M' 87 k = M 87 k
theorem RX.rf {M : zM} : RX M M := ⟨fun _ _ _ _ _ _ _ _ _ => rfl, fun _ _ _ _ _ => rfl⟩
theorem RX.tr {M M' M'' : zM} (h : RX M M') (g : RX M' M'') : RX M M'' := ⟨fun c h1 h2 h3 h4 h5 h6 h7 h8 => (g.1 c h1 h2 h3 h4 h5 h6 h7 h8).trans (h.1 c h1 h2 h3 h4 h5 h6 h7 h8), fun k h1 h2 h3 h4 => (g.2 k h1 h2 h3 h4).trans (h.2 k h1 h2 h3 h4)⟩
theorem RH.rx {M M' : zM} (h : RH M M') : RX M M' := ⟨fun c h1 h2 _ h4 h5 h6 h7 h8 => h.1 c h1 h2 h4 h5 h6 h7 h8, fun k h1 h2 _ _ => h.2 k h1 h2⟩
theorem RX.up {M : zM} {q : Nat} {f : zR} (h : q = 88 ∨ q = 90) : RX M (zup M q f) := ⟨fun c _ h2 h3 _ _ _ _ _ => zup_n M (by omega), fun k _ _ _ _ => by rw [zup_n M (by omega)]⟩
theorem RX.fr {M M' : zM} (h : RX M M') : FR M M' := fun c hc => h.1 c (by omega) (by omega) (by omega) (by omega) (by omega) (by omega) (by omega) (by omega)
theorem RX.rs {M M' : zM} (h : RX M M') (e : ∀ k, k < 449 → M' 88 k = M 88 k) : RS M M' := by
  obtain ⟨h1, h2⟩ := h
  exact ⟨e, h1 _ (by decide) (by decide) (by decide) (by decide) (by decide) (by decide) (by decide) (by decide), h1 _ (by decide) (by decide) (by decide) (by decide) (by decide) (by decide) (by decide) (by decide), h1 _ (by decide) (by decide) (by decide) (by decide) (by decide) (by decide) (by decide) (by decide), h1 _ (by decide) (by decide) (by decide) (by decide) (by decide) (by decide) (by decide) (by decide), h1 _ (by decide) (by decide) (by decide) (by decide) (by decide) (by decide) (by decide) (by decide), h1 _ (by decide) (by decide) (by decide) (by decide) (by decide) (by decide) (by decide) (by decide), h2 _ (by decide) (by decide) (by decide) (by decide), h2 _ (by decide) (by decide) (by decide) (by decide)⟩
/-- both look ahead: C0 and R0 are before, the class's brook ahead and the reference's row are s -/
def TRI (C0 R0 C R : zM) (s : zR) (n : Nat) : Prop := Rel2 C0 R0 ∧ OU 45 C0 C ∧ CB 45 C s n ∧ R 88 = s ∧ (∀ k, k < 449 → R 90 k = R0 88 k) ∧ RX R0 R
theorem tri_begin {C R : zM} (h : Rel2 C R) {n hh : Nat} (hV : VR (R 88) n hh) (hC : CB 1 C (R 88) n) : ∃ C' R', fX0_copyFrom 45 1 C = some C' ∧ fX8_carry 88 90 R = some R' ∧ TRI C R C' R' (R 88) n := by
  obtain ⟨C', a1, a2, a3⟩ := ca_copyFrom (q := 45) hV hC (by omega)
  refine ⟨C', _, a1, ra_carry (by omega) R, h, a3, a2, zup_n R (by omega), fun k hk => ?_, RX.up (by omega)⟩
  rw [zup_s]
  exact cpS_in hk
/-- the reference is back: only what counts not has changed -/
theorem TRI.back {C0 R0 C R : zM} {s : zR} {n : Nat} (h : TRI C0 R0 C R s n) : ∃ R', fX8_carry 90 88 R = some R' ∧ Rel2 C R' ∧ FC C0 C ∧ FR R0 R' ∧ (∀ k, k < 449 → R' 88 k = R0 88 k) ∧ RX R0 R' ∧ (∀ k, k < 449 → R' 90 k = R0 88 k) ∧ ∀ c, c ≠ 88 → R' c = R c := by
  obtain ⟨h1, h2, h3, h4, h5, h6⟩ := h
  have x : RX R0 (zup R 88 (cpS (R 90) (R 88) 449)) := h6.tr (RX.up (by omega))
  have e : ∀ k, k < 449 → zup R 88 (cpS (R 90) (R 88) 449) 88 k = R0 88 k := fun k hk => by
    rw [zup_s, cpS_in hk]
    exact h5 k hk
  exact ⟨_, ra_carry (by omega) R, (h1.ou h2).rf (x.rs e), h2.fc (by omega), x.fr, e, x, fun k hk => by rw [zup_n R (by omega)]; exact h5 k hk, fun c hc => zup_n R hc⟩
theorem TRI.ou {C0 R0 C R C' : zM} {s : zR} {n : Nat} (h : TRI C0 R0 C R s n) (hn : n ≤ 8) (a : AG 45 C C') (o : OU 45 C C') : TRI C0 R0 C' R s n := by
  obtain ⟨h1, h2, h3, h4, h5, h6⟩ := h
  exact ⟨h1, h2.tr o, h3.ag hn a, h4, h5, h6⟩
theorem TRI.to {C0 R0 C R C' R' : zM} {s s' : zR} {n n' : Nat} (h : TRI C0 R0 C R s n) (o : OU 45 C C') (b : CB 45 C' s' n') (e : R' 88 = s') (r : RX R R') (e90 : R' 90 = R 90) : TRI C0 R0 C' R' s' n' := by
  obtain ⟨h1, h2, h3, h4, h5, h6⟩ := h
  exact ⟨h1, h2.tr o, b, e, fun k hk => by rw [e90]; exact h5 k hk, h6.tr r⟩
theorem RH.e90 {M M' : zM} (h : RH M M') : M' 90 = M 90 := h.1 90 (by decide) (by decide) (by decide) (by decide) (by decide) (by decide) (by decide)
theorem RU.e90 {M M' : zM} (h : RU M M') : M' 90 = M 90 := h.1 90 (by decide) (by decide) (by decide) (by decide) (by decide)
theorem RU.e88 {M M' : zM} (h : RU M M') : M' 88 = M 88 := h.1 88 (by decide) (by decide) (by decide) (by decide) (by decide)
/-- an hour ahead -/
theorem TRI.hour {C0 R0 C R : zM} {s : zR} {n hh : Nat} (h : TRI C0 R0 C R s n) (hV : VR s n hh) : ∃ C' R', fX0_passHour 45 C = some ((flA s n).1.2.2, C') ∧ fX8_hour R = some R' ∧ TRI C0 R0 C' R' (hrS s n) n ∧ R' 87 15 = (flA s n).1.2.2 ∧ (∀ j, j < n → C' (45 + 8 + j) 8 = trS s n j) ∧ (∀ j, j < n → R' 97 j = trS s n j) ∧ (∀ k, k ≠ 14 → k ≠ 15 → R' 87 k = R 87 k) := by
  obtain ⟨C', a1, a2, a3, a4⟩ := ca_passHour hV h.2.2.1
  have e := h.2.2.2.1
  obtain ⟨R', b1, b2, b3, b4, b5, b6⟩ := ra_hour (M := R) (by rw [e]; exact hV)
  rw [e] at b3 b4 b6
  exact ⟨C', R', a1, b1, h.to a3 a2 b3 b2.rx b2.e90, b4, a4, b6, b2.2⟩
theorem TRI.hours {C0 R0 C R : zM} {s : zR} {n hh m : Nat} (h : TRI C0 R0 C R s n) (hV : VR s n hh) (hm : hh + m < 100000) (hm2 : m < 1000) : ∃ C' R', fX0_passHours 45 (nI m) C = some (gtS s n m, C') ∧ fX8_go (nI m) R = some R' ∧ TRI C0 R0 C' R' (goS s n m) n := by
  obtain ⟨C', a1, a2, a3⟩ := ca_passHours hV hm hm2 h.2.2.1
  have e := h.2.2.2.1
  obtain ⟨R', b1, b2, b3⟩ := ra_go (M := R) (by rw [e]; exact hV) hm hm2
  rw [e] at b2
  exact ⟨C', R', a1, b1, h.to a3 a2 b2 b3.rx b3.e90⟩
theorem eq_then (p0 p1 p2 : Int32) {C R : zM} (h : Rel2 C R) : EQA C R (fX7_then p0 p1 p2 C) (fX8_then p0 p1 p2 R) := by
  unfold fX7_then fX8_then
  rw [ra_isAhead]
  refine EQA.out0 h (m := 240) rfl (by omega) fun m hm em => ?_
  refine EQA.whl h fun n hh w hV h9 hC hw ew => ?_
  refine EQA.out0 h (m := 9) rfl (by omega) fun x hx ex => ?_
  subst em ew ex
  obtain ⟨C1, R1, a1, a2, a3⟩ := tri_begin h hV hC
  obtain ⟨C2, R2, b1, b2, b3⟩ := a3.hours (m := m) hV (by omega) (by omega)
  have hV2 := VR_go hV m (by omega)
  obtain ⟨C3, c1, c2, c3⟩ := ca_wheelPart hV2 b3.2.2.1 hw (show x < 10 by omega)
  obtain ⟨R3, d1, d2⟩ := ra_toldWheel (M := R2) (by rw [b3.2.2.2.1]; exact hV2) hw (show x < 10 by omega)
  have t3 : TRI C R C3 R3 (goS (R 88) n m) n := (b3.ou hV.1 c2 c3).to OU.rf (b3.2.2.1.ag hV.1 c2) (d2.e88.trans b3.2.2.2.1) d2.rh.rx d2.e90
  obtain ⟨R4, f1, f2, f3, f4, -⟩ := t3.back
  rw [a1, zbv_s, b1, zbi_s, c1, zbi_s, a2, zbv_s, b2, zbv_s, d1, zbi_s, f1, zbv_s, b3.2.2.2.1]
  exact EQA.done rfl f2 f3 f4
theorem eq_thenFamily (p0 p1 p2 : Int32) {C R : zM} (h : Rel2 C R) : EQA C R (fX7_thenFamily p0 p1 p2 C) (fX8_thenFamily p0 p1 p2 R) := by
  unfold fX7_thenFamily fX8_thenFamily
  rw [ra_isAhead, ra_isFamily]
  refine EQA.out0 h (m := 240) rfl (by omega) fun m hm em => ?_
  refine EQA.out0 h (m := 4) rfl (by omega) fun f hf ef => ?_
  refine EQA.out0 h (m := 3) rfl (by omega) fun x hx ex => ?_
  subst em ef ex
  obtain ⟨n, hh, hV, h9, hC⟩ := h.1
  obtain ⟨C1, R1, a1, a2, a3⟩ := tri_begin h hV hC
  obtain ⟨C2, R2, b1, b2, b3⟩ := a3.hours (m := m) hV (by omega) (by omega)
  have hV2 := VR_go hV m (by omega)
  obtain ⟨R4, f1, f2, f3, f4, -⟩ := b3.back
  rw [a1, zbv_s, b1, zbi_s, ca_familyPart hV2 b3.2.2.1 (by omega) (by omega), zbi_s, a2, zbv_s, b2, zbv_s, ra_toldFamily (M := R2) (n := n) (h := hh + m) (by rw [b3.2.2.2.1]; exact hV2) (by omega) (by omega), zbi_s, f1, zbv_s, b3.2.2.2.1]
  exact EQA.done rfl f2 f3 f4
theorem pd_cases (s : zR) (f : Nat) : pdS s f = 0 ∨ pdS s f = 1 := by
  unfold pdS
  by_cases c : s (43 + 2 * f) < s (42 + 2 * f)
  · rw [if_pos c]
    exact Or.inl rfl
  · rw [if_neg c]
    exact Or.inr rfl
theorem nI_leN {a b : Nat} (ha : a < 2147483648) (hb : b < 2147483648) (h : b < a) : ¬ nI a ≤ nI b := fun z => by
  have := (nI_leI ha hb).mp z
  omega
theorem nI_leY {a b : Nat} (ha : a < 2147483648) (hb : b < 2147483648) (h : a ≤ b) : nI a ≤ nI b := (nI_leI ha hb).mpr h
theorem nI_ltN {a b : Nat} (ha : a < 2147483648) (hb : b < 2147483648) (h : b ≤ a) : ¬ nI a < nI b := fun z => by
  rw [zlt', znT ha, znT hb] at z
  omega
theorem nI_ltY {a b : Nat} (ha : a < 2147483648) (hb : b < 2147483648) (h : a < b) : nI a < nI b := by
  rw [zlt', znT ha, znT hb]
  omega
theorem eq_whenloop {C0 R0 : zM} {f m : Nat} (hf : f < 5) (hm : m ≤ 240) {s : zR} {n hh : Nat} (hV : VR s n hh) (h9 : hh ≤ 9999) :
    ∀ (d v : Nat) (C R : zM) (F G : Nat), v + d = m → d + 1 < F → d < G → TRI C0 R0 C R (goS s n v) n →
      EQA C0 R0 (fX7_when_39 (nI f) (nI m) (fun  M24 => zbi (fX7_error (2 : Int32) M24) (fun r25 M26 => some (r25, M26))) F (nI v) C)
        (fX8_when_33 (nI f) (nI m) (fun x24 M25 => zbi (fX8_isPaid (nI f) M25) (fun r26 M27 => zbv (fX8_carry 90 88 M27) (fun M30 => if r26 = 0 then (zbi (fX8_error (2 : Int32) M30) (fun r33 M34 => some (r33, M34))) else (some (x24, M30))))) G (nI v) R) := by
  intro d
  induction d with
  | zero =>
    intro v C R F G hv hF hG t
    obtain ⟨F, rfl⟩ : ∃ E, F = E + 2 := ⟨F - 2, by omega⟩
    obtain ⟨G, rfl⟩ : ∃ E, G = E + 1 := ⟨G - 1, by omega⟩
    have e : v = m := by omega
    subst e
    have hV2 := VR_go hV v (by omega)
    obtain ⟨R4, f1, f2, f3, f4, -⟩ := t.back
    rw [fX7_when_39, if_neg (nI_ltN (show v < 2147483648 by omega) (show v < 2147483648 by omega) (by omega)), ca_isPaid t.2.2.1 hf, zbi_s, fX8_when_33, if_pos (nI_leY (show v < 2147483648 by omega) (show v < 2147483648 by omega) (by omega)), ra_isPaid hf, zbi_s, f1, zbv_s, t.2.2.2.1]
    rcases pd_cases (goS s n v) f with c | c
    · rw [c, if_pos z00, if_pos z00]
      obtain ⟨C5, R5, g1, g2, g3, -⟩ := t.hour hV2
      obtain ⟨R6, i1, i2, i3, i4, -⟩ := g3.back
      have o : OU 45 C C5 := by
        obtain ⟨C6, j1, -, j3, -⟩ := ca_passHour hV2 t.2.2.1
        rw [g1] at j1
        cases j1
        exact j3
      rw [g1, zbi_s, zlt_r, fX7_when_39, nI_1, if_pos (nI_ltY (show v < 2147483648 by omega) (show v + 1 < 2147483648 by omega) (by omega))]
      exact (EQA.err (f2.ou o) (k := 2) rfl (by omega)).fr i3 f4
    · rw [c, if_neg z10, if_neg z10]
      exact EQA.done rfl f2 f3 f4
  | succ d ih =>
    intro v C R F G hv hF hG t
    obtain ⟨F, rfl⟩ : ∃ E, F = E + 1 := ⟨F - 1, by omega⟩
    obtain ⟨G, rfl⟩ : ∃ E, G = E + 1 := ⟨G - 1, by omega⟩
    have hV2 := VR_go hV v (by omega)
    rw [fX7_when_39, if_neg (nI_ltN (show m < 2147483648 by omega) (show v < 2147483648 by omega) (by omega)), ca_isPaid t.2.2.1 hf, zbi_s, fX8_when_33, if_neg (nI_leN (show m < 2147483648 by omega) (show v < 2147483648 by omega) (by omega)), ra_isPaid hf, zbi_s, t.2.2.2.1]
    rcases pd_cases (goS s n v) f with c | c
    · rw [c, if_pos z00, if_pos z00]
      obtain ⟨C5, R5, g1, g2, g3, -⟩ := t.hour hV2
      rw [g1, zbi_s, zlt_r, g2, zbv_s, zlt_r, nI_1]
      exact ih (v + 1) C5 R5 F G (by omega) (by omega) (by omega) g3
    · obtain ⟨R4, f1, f2, f3, f4, -⟩ := t.back
      rw [c, if_neg z10, if_neg z10, ra_isPaid hf, zbi_s, f1, zbv_s, t.2.2.2.1, c, if_neg z10]
      exact EQA.done rfl f2 f3 f4
theorem eq_when (p0 p1 : Int32) {C R : zM} (h : Rel2 C R) : EQA C R (fX7_when p0 p1 C) (fX8_when p0 p1 R) := by
  unfold fX7_when fX8_when
  rw [ra_isFamily, ra_isAhead]
  refine EQA.out0 h (m := 4) rfl (by omega) fun f hf ef => ?_
  refine EQA.out0 h (m := 240) rfl (by omega) fun m hm em => ?_
  subst em ef
  obtain ⟨n, hh, hV, h9, hC⟩ := h.1
  obtain ⟨C1, R1, a1, a2, a3⟩ := tri_begin h hV hC
  rw [a1, zbv_s, a2, zbv_s]
  exact eq_whenloop (s := R 88) (by omega) hm hV h9 m 0 C1 R1 zF zF (by omega) (show m + 1 < 1000 by omega) (show m < 1000 by omega) a3
