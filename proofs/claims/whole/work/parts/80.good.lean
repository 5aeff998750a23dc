/-- the class has read all: its steps are the reference's -/
theorem rd_good {b : Nat → Nat} {n u : Nat} {C R C1 R1 : zM} {z m o br : Nat} (hI : IN b n u C R) (r : CRun n u C 0 C1 n) (f : CF C C1) (hP : PS u C1 R1 n z 0 m o br) (hb : br = 0) (rk : RK 1 C1 0 m) :
    ∃ C', fX3_read_33 68 (nI n) (nI u) (rdK n) zF (0 : Int32) C = some (-1, C') ∧ CF C C' ∧ C' 73 2 = nI (z + m) ∧ TKs u (z + m) C' R1 := by
  have hn60 := hI.1
  have e := r.2 (rdK n) (1000 - n)
  rw [Nat.sub_zero, show 1000 - n + n = 1000 by omega] at e
  have e0 : fX3_read_33 68 (nI n) (nI u) (rdK n) zF (0 : Int32) C = fX3_read_33 68 (nI n) (nI u) (rdK n) (1000 - n) (nI n) C1 := e
  obtain ⟨F, hF⟩ : ∃ G, 1000 - n = G + 1 := ⟨999 - n, by omega⟩
  obtain ⟨h1, h2, h3, h4, h5, h6, h7, h8, h9, h10, h11, h12, h13⟩ := hP
  obtain ⟨C2, b1, b2, b3, b4, b5, b6, b7, b8⟩ := ca_flush (r := 1) (q := 0) (o := o) (by omega) m C1 z 0 zF h2 h3 h4 (by omega) (by omega) (by omega) (show m < 1000 by omega) rk (Or.inl rfl)
  have b1' : fX3_writeSigns (1 : Int32) C1 = some C2 := b1
  refine ⟨C2, ?_, f.tr (fun c g1 g2 _ => b8 c g1 g2), b2, fun k hk => ?_⟩
  · rw [e0, hF, fX3_read_33, if_pos (nI_leY (by omega) (by omega) (Nat.le_refl _)), rdK, if_pos h1, h5, hb, if_pos (show nI 0 ≤ 0 by decide), b1', zbv_s]
  · by_cases g : k < z
    · rw [b6 k g]
      exact h12 k g
    · have e7 := b7 (k - z) (by omega)
      have t := h13 (k - z) (by omega)
      rw [show z + (k - z) = k by omega] at e7 t
      rw [e7]
      exact t
