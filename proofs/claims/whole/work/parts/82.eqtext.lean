/-- begin of reading, on both sides -/
theorem rd_in {C R : zM} {t u : Nat} (hu : u < 2) (ht : t ≤ 60) (h3 : R 88 3 = nI t) (h8 : ∀ j, j < t → C 68 j &&& 255 = R 88 (365 + j)) :
    IN (fun j => (R 88 (365 + j)).toNatClampNeg) t u (zst (zst (zst (zst (zst (zst C 73 2 0) 73 3 0) 73 4 0) 73 5 0) 73 6 0) 73 7 1) (zst (zst (zst (zst R 87 8 (nI u)) 87 5 0) 87 6 0) 87 7 0) ∧
    WS u (zst (zst (zst (zst (zst (zst C 73 2 0) 73 3 0) 73 4 0) 73 5 0) 73 6 0) 73 7 1) (zst (zst (zst (zst R 87 8 (nI u)) 87 5 0) 87 6 0) 87 7 0) 0 0 0 0 0 ∧ VD u (zst (zst (zst (zst R 87 8 (nI u)) 87 5 0) 87 6 0) 87 7 0) 0 0 := by
  have hb : ∀ j, j < t → ∃ k, k < 256 ∧ R 88 (365 + j) = nI k := fun j hj => by
    obtain ⟨k, k1, k2⟩ := and255 (C 68 j)
    exact ⟨k, k1, by rw [← h8 j hj]; exact k2⟩
  have hc : ∀ j, j < t → R 88 (365 + j) = nI ((R 88 (365 + j)).toNatClampNeg) ∧ (R 88 (365 + j)).toNatClampNeg < 256 := fun j hj => by
    obtain ⟨k, k1, k2⟩ := hb j hj
    rw [k2, zcn (by omega)]
    exact ⟨rfl, k1⟩
  have c68 : ∀ c, c ≠ 73 → (zst (zst (zst (zst (zst (zst C 73 2 0) 73 3 0) 73 4 0) 73 5 0) 73 6 0) 73 7 1) c = C c := fun c hc => by rw [zst_n _ hc, zst_n _ hc, zst_n _ hc, zst_n _ hc, zst_n _ hc, zst_n _ hc]
  have r88 : ∀ c, c ≠ 87 → (zst (zst (zst (zst R 87 8 (nI u)) 87 5 0) 87 6 0) 87 7 0) c = R c := fun c hc => by rw [zst_n _ hc, zst_n _ hc, zst_n _ hc, zst_n _ hc]
  refine ⟨⟨ht, hu, fun j hj => (hc j hj).2, fun j hj => ?_, ?_, fun j hj => ?_, ?_⟩, ⟨?_, ?_, ?_, ?_, ?_, ?_, ?_, ?_, by omega, by omega, by omega, fun k hk => by omega⟩, fun k hk => by omega, rfl⟩
  · rw [c68 68 (by decide), h8 j hj]
    exact (hc j hj).1
  · rw [r88 88 (by decide)]
    exact h3
  · rw [r88 88 (by decide)]
    exact (hc j hj).1
  all_goals simp [zst_k]
  all_goals rfl
