/-! ===== the two, one after the other, on one heap ===== -/
theorem Rel2.cgR {C R R' : zM} (h : Rel2 C R) (g : ∀ c, 87 ≤ c → R' c = R c) : Rel2 C R' :=
  h.rf ⟨fun k _ => by rw [g 88 (by decide)], g _ (by decide), g _ (by decide), g _ (by decide), g _ (by decide), g _ (by decide), g _ (by decide), by rw [g 87 (by decide)], by rw [g 87 (by decide)]⟩
theorem Rel2.cgC {C C' R : zM} (h : Rel2 C R) (g : ∀ c, c < 87 → C' c = C c) : Rel2 C' R :=
  h.cl (by rw [g 0 (by decide)]) (AG.eq fun c _ _ => g c (by omega)) (fun c _ _ => g c (by omega)) (fun c _ h => g c h)
theorem eq_use {fC fR : zM → Option (Int32 × zM)} (h : ∀ C R, Rel2 C R → EQA C R (fC C) (fR R)) {M : zM} (hM : Rel2 M M) : ∃ (r : Int32) (M1 M2 : zM), fC M = some (r, M1) ∧ fR M1 = some (r, M2) ∧ Rel2 M2 M2 := by
  obtain ⟨r, C1, R1, a1, a2, a3, a4, a5⟩ := h M M hM
  obtain ⟨r2, C2, R2, b1, b2, b3, b4, b5⟩ := h M C1 (hM.cgR a4)
  have e := a1.symm.trans b1
  cases e
  exact ⟨r, C1, R2, a1, b2, b3.cgC b5⟩
