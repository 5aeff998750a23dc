theorem eq_text (p0 : Int32) {C R : zM} (h : Rel2 C R) : EQA C R (fX7_text p0 C) (fX8_text p0 R) := by
  unfold fX7_text fX8_text
  refine EQA.out0 h (m := 1) rfl (by omega) fun u hu1 e => ?_
  subst e
  have hu : u < 2 := by omega
  obtain ⟨t, w, a1, a2, a3, a4, a5, a6, a7, a8, a9⟩ := h.2.1
  obtain ⟨hI, hW, hV⟩ := rd_in (C := C) (R := R) hu a1 a3 a8
  have eR : fX3_read 68 (C 67 2) (nI u) C = fX3_read_33 68 (nI t) (nI u) (rdK t) zF 0 (zst (zst (zst (zst (zst (zst C 73 2 0) 73 3 0) 73 4 0) 73 5 0) 73 6 0) 73 7 1) := by
    rw [a4]
    rfl
  rw [eR, zlt_r, zlt_r, zlt_r, zlt_r]
  generalize hC6 : zst (zst (zst (zst (zst (zst C 73 2 0) 73 3 0) 73 4 0) 73 5 0) 73 6 0) 73 7 1 = C6 at hI hW hV
  generalize hR8 : zst (zst (zst (zst R 87 8 (nI u)) 87 5 0) 87 6 0) 87 7 0 = R8 at hI hW hV
  have c6 : ∀ c, c ≠ 73 → C6 c = C c := fun c hc => by rw [← hC6, zst_n _ hc, zst_n _ hc, zst_n _ hc, zst_n _ hc, zst_n _ hc, zst_n _ hc]
  have r8 : ∀ c, c ≠ 87 → R8 c = R c := fun c hc => by rw [← hR8, zst_n _ hc, zst_n _ hc, zst_n _ hc, zst_n _ hc]
  have r87 : ∀ k, k ≠ 5 → k ≠ 6 → k ≠ 7 → k ≠ 8 → R8 87 k = R 87 k := fun k g1 g2 g3 g4 => by rw [← hR8, zst_k, if_neg (fun z => g3 z.2), zst_k, if_neg (fun z => g2 z.2), zst_k, if_neg (fun z => g1 z.2), zst_k, if_neg (fun z => g4 z.2)]
  -- a fault
  have bad : ∀ (j : Nat) (C' R' : zM), j ≤ t → fX3_read_33 68 (nI t) (nI u) (rdK t) zF 0 C6 = some (nI j, C') → CF C6 C' → RG R8 R' → Rel2 (zst C' 67 2 0) (zst R' 88 3 0) ∧ FC C (zst C' 67 2 0) ∧ FR R (zst R' 88 3 0) := by
    intro j C' R' hj _ f g
    refine ⟨h.untape (fun c g1 g2 g3 => ?_) (fun c g1 g2 => ?_) ?_ ?_, fun c hc => ?_, fun c hc => ?_⟩
    · rw [zst_a, f 67 (by decide) (by decide) (by decide), c6 67 (by decide)]
      by_cases e : c = 67
      · rw [if_pos e, if_pos e]
      · rw [if_neg e, if_neg e, f c g1 g2 g3, c6 c g1]
    · rw [zst_a, g.1 88 (by decide) (by decide), r8 88 (by decide)]
      by_cases e : c = 88
      · rw [if_pos e, if_pos e]
      · rw [if_neg e, if_neg e, g.1 c g1 g2, r8 c g1]
    · rw [zst_n _ (by decide), g.2 3 (by decide) (by decide) (by decide), r87 3 (by decide) (by decide) (by decide) (by decide)]
    · rw [zst_n _ (by decide), g.2 20 (by decide) (by decide) (by decide), r87 20 (by decide) (by decide) (by decide) (by decide)]
    · rw [zst_n _ (by omega), f c (by omega) (by omega) (by omega), c6 c (by omega)]
    · rw [zst_n _ (by omega), g.1 c (by omega) (by omega), r8 c (by omega)]
  have nneg : ∀ j : Nat, j ≤ 60 → ¬ nI j < 0 := fun j hj => nI_ltN (b := 0) (by omega) (by omega) (by omega)
  rcases lev_chain hu (lev_one hu 20) C6 R8 0 0 0 0 0 0 hI hW (by omega) (by omega) (Or.inl rfl) hV (by omega) with ⟨R', C', j, z, m, e1, e2, e3, e4, -, e6, -, e8, e9, e10, e11, e12⟩ | ⟨R', j, e1, e2, e3, e4, e5⟩
  · rw [e1, zbi_s, if_neg z10]
    have g88 : R' 88 3 = nI t := by rw [e2.1 88 (by decide) (by decide), r8 88 (by decide)]; exact a3
    rw [e8.2.2.2.2.2.1, g88]
    by_cases jt : j = t
    · subst jt
      rw [if_pos rfl, zlt_r, if_neg z10]
      sorry
    · have jn : j < t := by omega
      have hI2 := hI.fr e4 e2
      obtain ⟨C3, k1, k2⟩ := stuck e8 jn a1 (hI.2.2.1 j jn) e9 e11 e10 (Or.inr rfl)
      obtain ⟨C4, f1, f2⟩ := rd_fault hI e6 ⟨C', e3, e4, Or.inl ⟨jn, C3, k1, k2⟩⟩
      obtain ⟨q1, q2, q3⟩ := bad j C4 R' e6 f1 f2 e2
      rw [if_neg (show ¬ nI j = nI t from fun z => jt (nI_inj' z (by omega) (by omega))), zlt_r, if_pos z00, f1, zbi_s, zlt_r, if_neg (nneg j (by omega))]
      exact EQA.done (by rw [zst_n _ (by decide), e8.2.2.2.2.2.1]) q1 q2 q3
  · obtain ⟨C4, f1, f2⟩ := rd_fault hI e4 e5
    obtain ⟨q1, q2, q3⟩ := bad j C4 R' e4 f1 f2 e2
    rw [e1, zbi_s, if_pos z00, zlt_r, if_pos z00, f1, zbi_s, zlt_r, if_neg (nneg j (by omega))]
    exact EQA.done (by rw [zst_n _ (by decide), e3]) q1 q2 q3
