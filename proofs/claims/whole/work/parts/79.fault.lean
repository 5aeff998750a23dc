/-! ===== the reader: its end ===== -/
theorem and255 (x : Int32) : ∃ j, j < 256 ∧ x &&& 255 = nI j := by
  have e : (x &&& 255).toBitVec = x.toBitVec &&& 255#32 := rfl
  have h1 : (x &&& 255).toBitVec.toNat = x.toBitVec.toNat % 256 := by
    rw [e, BitVec.toNat_and]
    exact Nat.and_two_pow_sub_one_eq_mod (n := 8) x.toBitVec.toNat
  have h2 : (x &&& 255).toInt = ((x.toBitVec.toNat % 256 : Nat) : Int) := by
    show (x &&& 255).toBitVec.toInt = _
    rw [BitVec.toInt_eq_toNat_cond, h1]
    have : x.toBitVec.toNat % 256 < 256 := Nat.mod_lt _ (by omega)
    rw [if_pos (by omega)]
  refine ⟨x.toBitVec.toNat % 256, Nat.mod_lt _ (by omega), ?_⟩
  rw [zeq', h2, znT (by have : x.toBitVec.toNat % 256 < 256 := Nat.mod_lt _ (by omega); omega)]
def rdK (n : Nat) (M15 : zM) : Option (Int32 × zM) := if M15 73 7 = 0 then (if M15 73 5 ≤ 0 then (zbv (fX3_writeSigns (1 : Int32) M15) (fun M19 => some ((-1 : Int32), M19))) else (some (nI n, M15))) else (some (nI n, M15))
/-- the class answers the fault -/
theorem rd_fault {b : Nat → Nat} {n u : Nat} {C R : zM} {j : Nat} (hI : IN b n u C R) (hj : j ≤ n) (h : CFault b n u C 0 j) : ∃ C', fX3_read_33 68 (nI n) (nI u) (rdK n) zF (0 : Int32) C = some (nI j, C') ∧ CF C C' := by
  obtain ⟨C1, r, f, h⟩ := h
  have hn60 := hI.1
  have e := r.2 (rdK n) (1000 - j)
  rw [Nat.sub_zero, show 1000 - j + j = 1000 by omega] at e
  have e0 : fX3_read_33 68 (nI n) (nI u) (rdK n) zF (0 : Int32) C = fX3_read_33 68 (nI n) (nI u) (rdK n) (1000 - j) (nI j) C1 := e
  obtain ⟨F, hF⟩ : ∃ G, 1000 - j = G + 1 := ⟨999 - j, by omega⟩
  rw [e0, hF]
  have hI1 := hI.fr f (RG.rf (C := R))
  rcases h with ⟨jn, C2, g, f2⟩ | ⟨jn, g⟩
  · refine ⟨C2, ?_, f.tr f2⟩
    rw [fX3_read_33, if_neg (nI_leN (by omega) (by omega) jn), if_neg (nI_lt60 (by omega)), zgd_n (zgi rfl (show j < 60 by omega) (by omega)), zcn (by omega), hI1.2.2.2.1 j jn, g, zbi_s, if_pos z00]
  · subst jn
    refine ⟨C1, ?_, f⟩
    rw [fX3_read_33, if_pos (nI_leY (by omega) (by omega) (Nat.le_refl _)), rdK]
    rcases g with g | g
    · rw [if_neg (by rw [g]; exact z10)]
    · by_cases c : C1 73 7 = 0
      · rw [if_pos c, if_neg g]
      · rw [if_neg c]
