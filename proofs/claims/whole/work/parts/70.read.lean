/-! ===== the reader: small steps of both ===== -/
def rkI (x : Int32) : Int32 := if x = 37 then 5 else if x = 38 then 2 else if x = 42 then 5 else if x = 43 then 4 else if x = 45 then 4 else if x = 47 then 5 else if x = 60 then 3 else if x = 61 then 3 else if x = 62 then 3 else if x = 124 then 1 else 0
theorem ca_rankOf (x : Int32) (M : zM) : fX3_rankOf x M = some (rkI x, M) := by
  unfold fX3_rankOf rkI
  by_cases h1 : x = 37
  · rw [if_pos h1, if_pos h1]
  rw [if_neg h1, if_neg h1]
  by_cases h2 : x = 38
  · rw [if_pos h2, if_pos h2]
  rw [if_neg h2, if_neg h2]
  by_cases h3 : x = 42
  · rw [if_pos h3, if_pos h3]
  rw [if_neg h3, if_neg h3]
  by_cases h4 : x = 43
  · rw [if_pos h4, if_pos h4]
  rw [if_neg h4, if_neg h4]
  by_cases h5 : x = 45
  · rw [if_pos h5, if_pos h5]
  rw [if_neg h5, if_neg h5]
  by_cases h6 : x = 47
  · rw [if_pos h6, if_pos h6]
  rw [if_neg h6, if_neg h6]
  by_cases h7 : x = 60
  · rw [if_pos h7, if_pos h7]
  rw [if_neg h7, if_neg h7]
  by_cases h8 : x = 61
  · rw [if_pos h8, if_pos h8]
  rw [if_neg h8, if_neg h8]
  by_cases h9 : x = 62
  · rw [if_pos h9, if_pos h9]
  rw [if_neg h9, if_neg h9]
  by_cases h10 : x = 124
  · rw [if_pos h10, if_pos h10]
  rw [if_neg h10, if_neg h10]
theorem nI_lt60 {p : Nat} (h : p < 60) : ¬ (60 : Int32) ≤ nI p := nI_leN (a := 60) (by omega) (by omega) h
/-- write: a step more -/
theorem ca_write {C : zM} {z : Nat} (h : C 73 2 = nI z) (hz : z < 60) (v : Int32) : fX3_write v C = some (zst (zst C 74 z v) 73 2 (nI (z + 1))) := by
  have e : zst C 74 z v 73 2 = nI z := by rw [zst_n _ (by decide)]; exact h
  rw [fX3_write, h, if_neg (nI_lt60 hz), zgd_n (zgi rfl hz (by omega)), zcn (by omega), zlt_r, zlt_r, e, nI_1]
/-- hold: a sign more -/
theorem ca_hold {C : zM} {q : Nat} (h : C 73 3 = nI q) (hq : q < 60) (v : Int32) : fX3_hold v C = some (zst (zst C 75 q v) 73 3 (nI (q + 1))) := by
  have e : zst C 75 q v 73 3 = nI q := by rw [zst_n _ (by decide)]; exact h
  rw [fX3_hold, h, if_neg (nI_lt60 hq), zgd_n (zgi rfl hq (by omega)), zcn (by omega), zlt_r, zlt_r, e, nI_1]
/-- how many of the signs q .. q + m - 1 are '!' -/
def exC (g : Nat → Int32) (q : Nat) : Nat → Nat
  | 0 => 0
  | m + 1 => exC g q m + if g (q + m) = 33 then 1 else 0
theorem exC_low (g : Nat → Int32) (q : Nat) : ∀ m, exC g q (m + 1) = (if g q = 33 then 1 else 0) + exC g (q + 1) m := by
  intro m
  induction m with
  | zero => rw [exC, exC, exC, Nat.add_zero, Nat.zero_add, Nat.add_zero]
  | succ m ih => rw [exC, ih, exC, show q + 1 + m = q + (m + 1) by omega, Nat.add_assoc]
theorem exC_le (g : Nat → Int32) (q : Nat) : ∀ m, exC g q m ≤ m := by
  intro m
  induction m with
  | zero => exact Nat.le_refl _
  | succ m ih =>
    rw [exC]
    by_cases c : g (q + m) = 33
    · rw [if_pos c]; omega
    · rw [if_neg c]; omega
theorem exC_cg {g g' : Nat → Int32} {q : Nat} : ∀ m, (∀ k, k < m → g' (q + k) = g (q + k)) → exC g' q m = exC g q m := by
  intro m
  induction m with
  | zero => intro _; rfl
  | succ m ih =>
    intro h
    rw [exC, exC, ih (fun k hk => h k (by omega)), h m (by omega)]
/-- the signs that wait above q are written -/
theorem ca_flush {r q o : Nat} (hr : r < 10) : ∀ (m : Nat) (C : zM) (z v F : Nat), C 73 2 = nI z → C 73 3 = nI (q + m) → C 73 4 = nI (o + exC (C 75) q m) → z + q + m ≤ 60 → o ≤ 1000 → v + q + m ≤ 60 → m < F → (∀ k, k < m → C 75 (q + k) = 33 ∨ nI r ≤ rkI (C 75 (q + k))) → (q = 0 ∨ (C 75 (q - 1) ≠ 33 ∧ ¬ nI r ≤ rkI (C 75 (q - 1)))) →
    ∃ C', fX3_writeSigns_2 (nI r) (fun M36 => some M36) F (nI v) C = some C' ∧ C' 73 2 = nI (z + m) ∧ C' 73 3 = nI q ∧ C' 73 4 = nI o ∧ (∀ j, j ≠ 2 → j ≠ 3 → j ≠ 4 → C' 73 j = C 73 j) ∧ (∀ k, k < z → C' 74 k = C 74 k) ∧ (∀ k, k < m → C' 74 (z + k) = -(C 75 (q + m - 1 - k))) ∧ ∀ c, c ≠ 73 → c ≠ 74 → C' c = C c := by
  intro m
  induction m with
  | zero =>
    intro C z v F h2 h3 h4 hz ho hv hF hp ht
    obtain ⟨F, rfl⟩ : ∃ G, F = G + 1 := ⟨F - 1, by omega⟩
    have h4' : C 73 4 = nI o := h4
    refine ⟨C, ?_, h2, h3, h4', fun _ _ _ _ => rfl, fun _ _ => rfl, fun k hk => by omega, fun _ _ _ => rfl⟩
    rw [fX3_writeSigns_2]
    by_cases c : (60 : Int32) ≤ nI v
    · rw [if_pos c]
    rw [if_neg c, h3]
    rcases ht with e | ⟨t1, t2⟩
    · subst e
      rw [if_pos (show nI (0 + 0) ≤ 0 by decide)]
    · by_cases q0 : q = 0
      · subst q0
        rw [if_pos (show nI (0 + 0) ≤ 0 by decide)]
      · have e1 : nI (q + 0) - 1 = nI (q - 1) := nI_sub' (b := 1) (by omega) (by omega)
        rw [if_neg (show ¬ nI (q + 0) ≤ 0 from nI_leN (b := 0) (by omega) (by omega) (by omega)), e1, zgd_n (zgi rfl (show q - 1 < 60 by omega) (by omega)), zcn (by omega), zlt_r, if_neg t1, ca_rankOf, zbi_s, if_neg t2]
  | succ m ih =>
    intro C z v F h2 h3 h4 hz ho hv hF hp ht
    obtain ⟨F, rfl⟩ : ∃ G, F = G + 1 := ⟨F - 1, by omega⟩
    have e1 : nI (q + (m + 1)) - 1 = nI (q + m) := nI_sub' (b := 1) (by omega) (by omega)
    have hex := exC_le (C 75) q m
    have fin : ∀ (x : Int32), (x = nI (o + exC (C 75) q m)) → ∃ C', zbv (fX3_write (-(C 75 (q + m))) (zst (zst C 73 4 x) 73 3 (nI (q + m)))) (fun M16 => zlt (nI v + (1 : Int32)) (fun x18 => fX3_writeSigns_2 (nI r) (fun M36 => some M36) F x18 M16)) = some C' ∧ C' 73 2 = nI (z + (m + 1)) ∧ C' 73 3 = nI q ∧ C' 73 4 = nI o ∧ (∀ j, j ≠ 2 → j ≠ 3 → j ≠ 4 → C' 73 j = C 73 j) ∧ (∀ k, k < z → C' 74 k = C 74 k) ∧ (∀ k, k < m + 1 → C' 74 (z + k) = -(C 75 (q + (m + 1) - 1 - k))) ∧ ∀ c, c ≠ 73 → c ≠ 74 → C' c = C c := by
      intro x hx
      have f2 : zst (zst C 73 4 x) 73 3 (nI (q + m)) 73 2 = nI z := by rw [zst_k, if_neg (by omega), zst_k, if_neg (by omega)]; exact h2
      rw [ca_write f2 (by omega), zbv_s, zlt_r, nI_1]
      generalize hD : zst (zst (zst (zst C 73 4 x) 73 3 (nI (q + m))) 74 z (-(C 75 (q + m)))) 73 2 (nI (z + 1)) = D
      have d75 : D 75 = C 75 := by rw [← hD, zst_n _ (by decide), zst_n _ (by decide), zst_n _ (by decide), zst_n _ (by decide)]
      have d74 : ∀ k, D 74 k = if k = z then -(C 75 (q + m)) else C 74 k := fun k => by
        rw [← hD, zst_n _ (by decide), zst_k]
        by_cases e : k = z
        · rw [if_pos ⟨rfl, e⟩, if_pos e]
        · rw [if_neg (fun w => e w.2), if_neg e, zst_n _ (by decide), zst_n _ (by decide)]
      have d73 : ∀ j, D 73 j = if j = 2 then nI (z + 1) else if j = 3 then nI (q + m) else if j = 4 then x else C 73 j := fun j => by
        rw [← hD]
        simp [zst_k]
      have do' : ∀ c, c ≠ 73 → c ≠ 74 → D c = C c := fun c g1 g2 => by rw [← hD, zst_n _ g1, zst_n _ g2, zst_n _ g1, zst_n _ g1]
      obtain ⟨C', b1, b2, b3, b4, b5, b6, b7, b8⟩ := ih D (z + 1) (v + 1) F (by rw [d73, if_pos rfl]) (by rw [d73, if_neg (by decide), if_pos rfl]) (by rw [d73, if_neg (by decide), if_neg (by decide), if_pos rfl, d75, hx]) (by omega) ho (by omega) (by omega) (fun k hk => by rw [d75]; exact hp k (by omega)) (by rw [d75]; exact ht)
      refine ⟨C', b1, by rw [b2, show z + 1 + m = z + (m + 1) by omega], b3, b4, fun j g1 g2 g3 => by rw [b5 j g1 g2 g3, d73, if_neg g1, if_neg g2, if_neg g3], fun k hk => by rw [b6 k (by omega), d74, if_neg (by omega)], fun k hk => ?_, fun c g1 g2 => by rw [b8 c g1 g2, do' c g1 g2]⟩
      by_cases e : k = 0
      · subst e
        rw [b6 (z + 0) (by omega), d74, if_pos (by omega), show q + (m + 1) - 1 - 0 = q + m by omega]
      · have := b7 (k - 1) (by omega)
        rw [d75, show z + 1 + (k - 1) = z + k by omega, show q + m - 1 - (k - 1) = q + (m + 1) - 1 - k by omega] at this
        exact this
    rw [fX3_writeSigns_2, if_neg (nI_lt60 (show v < 60 by omega)), h3, if_neg (show ¬ nI (q + (m + 1)) ≤ 0 from nI_leN (b := 0) (by omega) (by omega) (by omega)), e1, zgd_n (zgi rfl (show q + m < 60 by omega) (by omega)), zcn (by omega), zlt_r, h4]
    have eo : ∀ x, zst C 73 4 x 73 3 = nI (q + (m + 1)) := fun x => by rw [zst_k, if_neg (by omega)]; exact h3
    by_cases c : C 75 (q + m) = 33
    · rw [if_pos c, if_pos c, zlt_r, zlt_r, eo, e1]
      refine fin _ ?_
      rw [exC, if_pos c]
      exact nI_sub' (b := 1) (by omega) (by omega)
    · have hrk : nI r ≤ rkI (C 75 (q + m)) := (hp m (by omega)).resolve_left c
      rw [if_neg c, ca_rankOf, zbi_s, if_pos hrk, if_neg c, zlt_r, zlt_r, eo, e1]
      refine fin _ ?_
      rw [h4]
      show nI (o + (exC (C 75) q m + if C 75 (q + m) = 33 then 1 else 0)) - 0 = _
      rw [if_neg c, Nat.add_zero]
      exact Int32.sub_zero _
