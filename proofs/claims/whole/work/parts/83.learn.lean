/-- both forget the tape -/
theorem Rel2.untape {C C' R R' : zM} (h : Rel2 C R) (hc : ∀ c, c ≠ 73 → c ≠ 74 → c ≠ 75 → C' c = if c = 67 then upd (C 67) 2 0 else C c) (hr : ∀ c, c ≠ 87 → c ≠ 92 → R' c = if c = 88 then upd (R 88) 3 0 else R c) (h3 : R' 87 3 = R 87 3) (h20 : R' 87 20 = R 87 20) : Rel2 C' R' := by
  obtain ⟨t, w, a1, a2, a3, a4, a5, a6, a7, a8, a9⟩ := h.2.1
  have h2 : Rel2 (zst C 67 2 0) (zst R 88 3 0) := by
    refine h.desk ⟨0, w, by omega, a2, ?_, ?_, ?_, ?_, fun j hj => ?_, fun j hj => by omega, fun j hj => ?_⟩ (fun c h1 _ _ => zst_n _ h1) (fun c hc => zst_n _ hc) (fun k hk h3 h4 => by rw [zst_s, upd_n _ h3])
    · rw [zst_s, upd_s]
      rfl
    · rw [zst_k, if_pos ⟨rfl, rfl⟩]
      rfl
    · rw [zst_s, upd_n _ (by omega)]
      exact a5
    · rw [zst_k, if_neg (by omega)]
      exact a6
    · rw [zst_n _ (by decide)]
      exact a7 j hj
    · rw [zst_n _ (by decide), zst_s, upd_n _ (by omega)]
      exact a9 j hj
  have ec : ∀ c, c ≠ 73 → c ≠ 74 → c ≠ 75 → C' c = zst C 67 2 0 c := fun c g1 g2 g3 => by
    rw [hc c g1 g2 g3, zst_a]
  have er : ∀ c, c ≠ 87 → c ≠ 92 → R' c = zst R 88 3 0 c := fun c g1 g2 => by
    rw [hr c g1 g2, zst_a]
  obtain ⟨b1, b2, b3, b4, b5, b6, b7⟩ := h2
  have r88 := er 88 (by decide) (by decide)
  have r89 := er 89 (by decide) (by decide)
  have q3 : R' 87 3 = zst R 88 3 0 87 3 := by rw [h3, zst_n _ (by decide)]
  have q20 : R' 87 20 = zst R 88 3 0 87 20 := by rw [h20, zst_n _ (by decide)]
  refine ⟨?_, ?_, ?_, fun z => ⟨?_, ?_⟩, fun k hk => ?_, ?_, fun k hk => ?_⟩
  · rw [r88]
    exact b1.cg (AG.eq fun c _ _ => ec c (by omega) (by omega) (by omega)) (fun _ _ => rfl)
  · rw [r88]
    exact b2.cg (by rw [ec _ (by decide) (by decide) (by decide)]) (by rw [ec _ (by decide) (by decide) (by decide)]) (ec _ (by decide) (by decide) (by decide)) (ec _ (by decide) (by decide) (by decide)) rfl rfl (fun _ _ _ => rfl)
  · rw [ec 0 (by decide) (by decide) (by decide), q3]
    exact b3
  · rw [r89]
    rw [q3] at z
    exact (b4 z).1.cg (AG.eq fun c _ _ => ec c (by omega) (by omega) (by omega)) (fun _ _ => rfl)
  · rw [r89]
    rw [q3] at z
    exact (b4 z).2.cg (by rw [ec _ (by decide) (by decide) (by decide)]) (by rw [ec _ (by decide) (by decide) (by decide)]) (ec _ (by decide) (by decide) (by decide)) (ec _ (by decide) (by decide) (by decide)) rfl rfl (fun _ _ _ => rfl)
  · rw [ec 86 (by decide) (by decide) (by decide), er 91 (by decide) (by decide)]
    exact b5 k hk
  · obtain ⟨t, d1, d2, d3, d4⟩ := b6
    exact ⟨t, d1, by rw [ec 76 (by decide) (by decide) (by decide)]; exact d2, by rw [q20]; exact d3, fun j hj => by rw [ec 77 (by decide) (by decide) (by decide), er 98 (by decide) (by decide)]; exact d4 j hj⟩
  · rw [er 99 (by decide) (by decide), er 100 (by decide) (by decide), er 101 (by decide) (by decide), ec 80 (by decide) (by decide) (by decide), ec 81 (by decide) (by decide) (by decide), ec (82 + k) (by omega) (by omega) (by omega)]
    exact b7 k hk
