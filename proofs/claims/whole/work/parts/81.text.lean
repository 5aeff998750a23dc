/-- the reference copies its steps -/
theorem ra_tcopy {y s : Nat} (hy : y + 1 + 2 * s ≤ 365) (hs : s ≤ 60) (kk : zM → Option (Int32 × zM)) : ∀ (d v : Nat) (M : zM) (F : Nat), v + d = 2 * s → d < F → M 87 7 = nI s → (∀ k, k < v → M 88 (y + 1 + k) = M 92 k) →
    ∃ M', fX8_text_101 (nI y) kk F (nI v) M = kk M' ∧ (∀ k, k < 2 * s → M' 88 (y + 1 + k) = M 92 k) ∧ (∀ i, i < y + 1 ∨ y + 1 + 2 * s ≤ i → M' 88 i = M 88 i) ∧ ∀ c, c ≠ 88 → M' c = M c := by
  intro d
  induction d with
  | zero =>
    intro v M F hv hF h7 h0
    obtain ⟨F, rfl⟩ : ∃ G, F = G + 1 := ⟨F - 1, by omega⟩
    have e : v = 2 * s := by omega
    subst e
    rw [fX8_text_101, h7, show (2 : Int32) * nI s = nI (2 * s) from pk_mul 2 s, if_pos (nI_leY (by omega) (by omega) (Nat.le_refl _))]
    exact ⟨M, rfl, h0, fun _ _ => rfl, fun _ _ => rfl⟩
  | succ d ih =>
    intro v M F hv hF h7 h0
    obtain ⟨F, rfl⟩ : ∃ G, F = G + 1 := ⟨F - 1, by omega⟩
    rw [fX8_text_101, h7, show (2 : Int32) * nI s = nI (2 * s) from pk_mul 2 s, if_neg (nI_leN (by omega) (by omega) (by omega)), zgd_n (zgi rfl (show v < 124 by omega) (by omega)), nI_1, nI_add, zgd_n (zgi rfl (show y + 1 + v < 449 by omega) (by omega)), zcn (by omega), zcn (by omega), zlt_r, zlt_r, nI_1]
    obtain ⟨M', a1, a2, a3, a4⟩ := ih (v + 1) (zst M 88 (y + 1 + v) (M 92 v)) F (by omega) (by omega) (by rw [zst_n _ (by decide)]; exact h7) (fun k hk => by
      rw [zst_k, zst_n M (show 92 ≠ 88 by omega)]
      by_cases e : k = v
      · rw [if_pos ⟨rfl, by omega⟩, e]
      · rw [if_neg (fun z => e (by omega))]
        exact h0 k (by omega))
    refine ⟨M', a1, fun k hk => by rw [a2 k hk, zst_n M (show 92 ≠ 88 by omega)], fun i hi => by rw [a3 i hi, zst_k, if_neg (by omega)], fun c hc => by rw [a4 c hc, zst_n _ hc]⟩
