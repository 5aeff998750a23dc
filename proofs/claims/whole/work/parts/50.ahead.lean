/-! ===== hours ahead ===== -/
def goS (s : zR) (n : Nat) : Nat → zR
  | 0 => s
  | k + 1 => hrS (goS s n k) n
/-- what was taken in k hours -/
def gtS (s : zR) (n : Nat) : Nat → Int32
  | 0 => 0
  | k + 1 => gtS s n k + (flA (goS s n k) n).1.2.2
theorem VR_go {s : zR} {n h : Nat} (hV : VR s n h) : ∀ k, h + k < 100000 → VR (goS s n k) n (h + k) := by
  intro k
  induction k with
  | zero => intro _; exact hV
  | succ k ih =>
    intro hk
    exact VR_hr (ih (by omega)) (by omega)
theorem ra_goloop {s : zR} {n h m : Nat} (hV : VR s n h) (hm : h + m < 100000) (hm2 : m < 1000) (kk : zM → Option zM) :
    ∀ (d k : Nat) (M : zM) (F : Nat), k + d = m → d < F → M 88 = goS s n k →
      ∃ M', fX8_go_2 (nI m) kk F (nI k) M = kk M' ∧ M' 88 = goS s n m ∧ RH M M' := by
  intro d
  induction d with
  | zero =>
    intro k M F hk hF hs
    obtain ⟨F, rfl⟩ : ∃ G, F = G + 1 := ⟨F - 1, by omega⟩
    have e : k = m := by omega
    subst e
    refine ⟨M, ?_, hs, RH.rf⟩
    rw [fX8_go_2, if_pos (by rw [nI_leI (by omega) (by omega)]; omega)]
  | succ d ih =>
    intro k M F hk hF hs
    obtain ⟨F, rfl⟩ : ∃ G, F = G + 1 := ⟨F - 1, by omega⟩
    have hVk := VR_go hV k (by omega)
    obtain ⟨M1, a1, a2, a3, -, -, -⟩ := ra_hour (M := M) (by rw [hs]; exact hVk)
    rw [fX8_go_2, if_neg (fun z => by rw [nI_leI (by omega) (by omega)] at z; omega), a1, zbv_s, zlt_r, nI_1]
    obtain ⟨M', b1, b2, b3⟩ := ih (k + 1) M1 F (by omega) (by omega) (by rw [a3, hs]; rfl)
    exact ⟨M', b1, b2, a2.tr b3⟩
theorem ra_go {M : zM} {n h m : Nat} (hV : VR (M 88) n h) (hm : h + m < 100000) (hm2 : m < 1000) : ∃ M', fX8_go (nI m) M = some M' ∧ M' 88 = goS (M 88) n m ∧ RH M M' :=
  ra_goloop hV hm hm2 (fun M6 => some M6) m 0 M zF (by omega) hm2 rfl
theorem ca_goloop {s : zR} {q n h m : Nat} (hV : VR s n h) (hm : h + m < 100000) (hm2 : m < 1000) (kk : Int32 → zM → Option (Int32 × zM)) :
    ∀ (d k : Nat) (M : zM) (F : Nat), k + d = m → d < F → CB q M (goS s n k) n →
      ∃ M', fX0_passHours_4 q (nI m) kk F (gtS s n k) (nI k) M = kk (gtS s n m) M' ∧ CB q M' (goS s n m) n ∧ OU q M M' := by
  intro d
  induction d with
  | zero =>
    intro k M F hk hF hs
    obtain ⟨F, rfl⟩ : ∃ G, F = G + 1 := ⟨F - 1, by omega⟩
    have e : k = m := by omega
    subst e
    refine ⟨M, ?_, hs, OU.rf⟩
    rw [fX0_passHours_4, if_pos (by rw [nI_leI (by omega) (by omega)]; omega)]
  | succ d ih =>
    intro k M F hk hF hs
    obtain ⟨F, rfl⟩ : ∃ G, F = G + 1 := ⟨F - 1, by omega⟩
    have hVk := VR_go hV k (by omega)
    obtain ⟨M1, a1, a2, a3, -⟩ := ca_passHour hVk hs
    rw [fX0_passHours_4, if_neg (fun z => by rw [nI_leI (by omega) (by omega)] at z; omega), a1, zbi_s, zlt_r, zlt_r, nI_1]
    obtain ⟨M', b1, b2, b3⟩ := ih (k + 1) M1 F (by omega) (by omega) a2
    exact ⟨M', b1, b2, a3.tr b3⟩
theorem ca_passHours {M : zM} {s : zR} {q n h m : Nat} (hV : VR s n h) (hm : h + m < 100000) (hm2 : m < 1000) (hC : CB q M s n) : ∃ M', fX0_passHours q (nI m) M = some (gtS s n m, M') ∧ CB q M' (goS s n m) n ∧ OU q M M' :=
  ca_goloop hV hm hm2 (fun x7 M8 => some (x7, M8)) m 0 M zF (by omega) hm2 hC
/-! a row carried to another -/
def cpS (f g : zR) (m : Nat) : zR := fun k => if k < m then f k else g k
theorem cpS_in {f g : zR} {m k : Nat} (h : k < m) : cpS f g m k = f k := if_pos h
theorem cpS_s {f g : zR} {m : Nat} : upd (cpS f g m) m (f m) = cpS f g (m + 1) := by
  funext k
  unfold cpS
  rw [upd_a]
  by_cases e : k = m
  · rw [if_pos e, if_pos (by omega), e]
  · rw [if_neg e]
    by_cases c : k < m
    · rw [if_pos c, if_pos (by omega)]
    · rw [if_neg c, if_neg (by omega)]
theorem ra_carloop {w0 w1 : Nat} (hw : w0 ≠ w1) (M0 : zM) (kk : zM → Option zM) :
    ∀ (d k F : Nat), k + d = 449 → d < F → fX8_carry_2 w0 w1 kk F (nI k) (zup M0 w1 (cpS (M0 w0) (M0 w1) k)) = kk (zup M0 w1 (cpS (M0 w0) (M0 w1) 449)) := by
  intro d
  induction d with
  | zero =>
    intro k F hk hF
    obtain ⟨F, rfl⟩ : ∃ G, F = G + 1 := ⟨F - 1, by omega⟩
    have e : k = 449 := by omega
    subst e
    rw [fX8_carry_2, if_pos (by decide)]
  | succ d ih =>
    intro k F hk hF
    obtain ⟨F, rfl⟩ : ∃ G, F = G + 1 := ⟨F - 1, by omega⟩
    rw [fX8_carry_2, if_neg (fun z => by
      have := (nI_leI (a := 449) (b := k) (by omega) (by omega)).mp z
      omega), zgd_n (zgi rfl (show k < 449 by omega) (by omega)), zgd_n (zgi rfl (show k < 449 by omega) (by omega)), zcn (by omega), zlt_r, zlt_r, nI_1]
    have e : zst (zup M0 w1 (cpS (M0 w0) (M0 w1) k)) w1 k (zup M0 w1 (cpS (M0 w0) (M0 w1) k) w0 k) = zup M0 w1 (cpS (M0 w0) (M0 w1) (k + 1)) := by
      funext c
      rw [zst_a, zup_a, zup_a, if_pos rfl, zup_a, if_neg hw]
      by_cases e : c = w1
      · rw [if_pos e, cpS_s, zup_a, if_pos e]
      · rw [if_neg e, zup_a, if_neg e, if_neg e]
    rw [e]
    exact ih (k + 1) F (by omega) (by omega)
theorem zup_id {M : zM} {w : Nat} {f : zR} (h : f = M w) : zup M w f = M := by
  funext c
  rw [zup_a]
  by_cases e : c = w
  · rw [if_pos e, h, e]
  · rw [if_neg e]
theorem ra_carry {w0 w1 : Nat} (hw : w0 ≠ w1) (M : zM) : fX8_carry w0 w1 M = some (zup M w1 (cpS (M w0) (M w1) 449)) := by
  have h := ra_carloop hw M (fun M6 => some M6) 449 0 zF (by omega) (show 449 < 1000 by omega)
  rw [zup_id (f := cpS (M w0) (M w1) 0) (funext fun k => by unfold cpS; rw [if_neg (by omega)])] at h
  exact h
theorem zup_n (M : zM) {q : Nat} {f : zR} {c : Nat} (h : c ≠ q) : zup M q f c = M c := if_neg h
theorem zup_s (M : zM) (q : Nat) (f : zR) : zup M q f q = f := if_pos rfl
/-! rows that agree where it matters -/
theorem VTX.cg {s s' : zR} {b u : Nat} (h : VTX s b u) (hb : b + 125 ≤ 365) (e : ∀ k, k < 365 → s' k = s k) : VTX s' b u := by
  obtain ⟨c, hc, hv⟩ := h
  have h60 := hv.1
  refine ⟨c, by rw [e _ (by omega)]; exact hc, ?_⟩
  have e' : ∀ k, k < c → zTS s' b k = zTS s b k := by
    intro k hk
    show (s' _, s' _) = (s _, s _)
    rw [e _ (by omega), e _ (by omega)]
  have ed : ∀ k, k ≤ c → dpS (zTS s' b) k = dpS (zTS s b) k := by
    intro k
    induction k with
    | zero => intro _; rfl
    | succ k ih =>
      intro hk
      rw [dpS, dpS, e' k (by omega), ih (by omega)]
  refine ⟨h60, fun k hk => ?_, fun h0 => by rw [ed c (Nat.le_refl _)]; exact hv.2.2 h0⟩
  rw [e' k hk, ed k (by omega)]
  exact hv.2.1 k hk
theorem VR.cg {s s' : zR} {n h : Nat} (hV : VR s n h) (e : ∀ k, k < 365 → s' k = s k) : VR s' n h := by
  obtain ⟨a1, a2, a3, a4, a5, a6, a7, a8, a9, a10, a11⟩ := hV
  refine ⟨a1, by rw [e _ (by omega)]; exact a2, by rw [e _ (by omega)]; exact a3, a4, by rw [e _ (by omega)]; exact a5, fun j hj => by rw [e _ (by omega)]; exact a6 j hj, fun j hj => by rw [e _ (by omega)]; exact a7 j hj, fun j hj => by rw [e _ (by omega), e _ (by omega)]; exact a8 j hj, fun x hx => ?_, a10.cg (by omega) e, a11.cg (by omega) e⟩
  obtain ⟨b0, b1, b2, b3, b4, b5, b6⟩ := a9 x hx
  refine ⟨?_, ?_, ?_, ?_, ?_, ?_, ?_⟩ <;> rw [e _ (by omega)] <;> assumption
theorem CB.cg {q n : Nat} {M : zM} {s s' : zR} (hn : n ≤ 8) (hC : CB q M s n) (e : ∀ k, k < 365 → s' k = s k) : CB q M s' n := by
  obtain ⟨a1, a2, a3, a4, a5, a6, a7, a8, a9, a10⟩ := hC
  refine ⟨by rw [e _ (by omega)]; exact a1, by rw [e _ (by omega)]; exact a2, by rw [e _ (by omega)]; exact a3, by rw [e _ (by omega)]; exact a4, fun j hj => by rw [e _ (by omega)]; exact a5 j hj, fun j hj => by rw [e _ (by omega)]; exact a6 j hj, fun j hj => by rw [e _ (by omega), e _ (by omega)]; exact a7 j hj, fun x hx j hj => by rw [e _ (by omega)]; exact a8 x hx j hj, ⟨by rw [e _ (by omega)]; exact a9.1, ?_⟩, ⟨by rw [e _ (by omega)]; exact a10.1, ?_⟩⟩
  · intro c hc h60 j hj
    rw [e _ (by omega)] at hc
    rw [e _ (by omega), e _ (by omega)]
    exact a9.2 c hc h60 j hj
  · intro c hc h60 j hj
    rw [e _ (by omega)] at hc
    rw [e _ (by omega), e _ (by omega)]
    exact a10.2 c hc h60 j hj
