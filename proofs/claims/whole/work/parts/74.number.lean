/-! ===== the reader: numbers ===== -/
def NS (u : Nat) (C R : zM) (j z q o br val k : Nat) : Prop := C 73 7 = 0 ∧ C 73 2 = nI (z + 1) ∧ C 73 3 = nI q ∧ C 73 4 = nI o ∧ C 73 5 = nI br ∧ C 73 6 = nI k ∧ C 74 z = nI val ∧ R 87 5 = nI j ∧ R 87 6 = nI o ∧ R 87 7 = nI z ∧ z + 1 + q ≤ j ∧ o ≤ 5 ∧ br ≤ 60 ∧ TKs u z C R
theorem p10 {k : Nat} (h : k ≤ 4) : 10 ^ k ≤ 10000 := by
  rcases (show k = 0 ∨ k = 1 ∨ k = 2 ∨ k = 3 ∨ k = 4 by omega) with e | e | e | e | e <;> subst e <;> decide
theorem ra_digit {v c : Nat} (hv : v < 10000) (h1 : 48 ≤ c) (h2 : c ≤ 57) : (10 : Int32) * nI v + nI c - 48 = nI (v * 10 + (c - 48)) := by
  rw [show (10 : Int32) * nI v = nI (10 * v) from pk_mul 10 v, nI_add, show (48 : Int32) = nI 48 from rfl, nI_sub' (by omega) (by omega)]
  congr 1
  omega
theorem ra_isdig {c : Nat} (hc : c < 256) (R : zM) : fX8_in (nI c) 48 57 R = some (if 48 ≤ c ∧ c ≤ 57 then 1 else 0, R) := by
  rw [ra_in]
  by_cases g : 48 ≤ c ∧ c ≤ 57
  · rw [if_pos g, if_pos ⟨nI_leY (a := 48) (by omega) (by omega) g.1, nI_leY (b := 57) (by omega) (by omega) g.2⟩]
  · rw [if_neg g, if_neg (fun z => g ⟨(nI_leI (a := 48) (by omega) (by omega)).mp z.1, (nI_leI (b := 57) (by omega) (by omega)).mp z.2⟩)]
theorem num_loop {b : Nat → Nat} {n u : Nat} (kk : Int32 → zM → Option (Int32 × zM)) {z q o br : Nat} :
    ∀ (e k val : Nat) (C R : zM) (j F : Nat), k + e = 4 → 1 ≤ k → e < F → IN b n u C R → NS u C R j z q o br val k → val < 10 ^ k → j ≤ n →
      ∃ C' R' j' val' k', fX8_one_46 kk F (nI val) (nI k) R = kk (nI val') R' ∧ CRun n u C j C' j' ∧ CF C C' ∧ RG R R' ∧ NS u C' R' j' z q o br val' k' ∧ val' < 10000 ∧ j ≤ j' ∧ j' ≤ n ∧ C' 75 = C 75 ∧ R' 92 = R 92 ∧ DG b n u C' j' := by
  intro e
  induction e with
  | zero =>
    intro k val C R j F hk h1 hF hI hN hv hj
    obtain ⟨F, rfl⟩ : ∃ G, F = G + 1 := ⟨F - 1, by omega⟩
    have ek : k = 4 := by omega
    subst ek
    refine ⟨C, R, j, val, 4, ?_, CRun.rf, CF.rf, RG.rf, hN, hv, Nat.le_refl _, hj, rfl, rfl, DG.of hN.1 (Or.inr hN.2.2.2.2.2.1)⟩
    rw [fX8_one_46, if_pos (by decide)]
  | succ e ih =>
    intro k val C R j F hk h1 hF hI hN hv hj
    obtain ⟨F, rfl⟩ : ∃ G, F = G + 1 := ⟨F - 1, by omega⟩
    have hp := p10 (show k ≤ 4 by omega)
    have g4 : ¬ (4 : Int32) ≤ nI k := nI_leN (a := 4) (by omega) (by omega) (by omega)
    obtain ⟨n1, n2, n3, n4, n5, n6, n7, n8, n9, n10, n11, n12, n13, n14⟩ := id hN
    have hn60 := hI.1
    have fin : ∀ (x : Int32), (fX8_look R = some (x, R)) → (fX8_in x 48 57 R = some (0, R)) → DG b n u C j → ∃ C' R' j' val' k', fX8_one_46 kk (F + 1) (nI val) (nI k) R = kk (nI val') R' ∧ CRun n u C j C' j' ∧ CF C C' ∧ RG R R' ∧ NS u C' R' j' z q o br val' k' ∧ val' < 10000 ∧ j ≤ j' ∧ j' ≤ n ∧ C' 75 = C 75 ∧ R' 92 = R 92 ∧ DG b n u C' j' := by
      intro x hx hy hdg
      refine ⟨C, R, j, val, k, ?_, CRun.rf, CF.rf, RG.rf, hN, by omega, Nat.le_refl _, hj, rfl, rfl, hdg⟩
      rw [fX8_one_46, if_neg g4, hx, zbi_s, hy, zbi_s, if_pos z00]
    by_cases jn : j < n
    · have hb := hI.2.2.1 j jn
      have hl := ra_look hI n8 hj
      rw [if_pos jn] at hl
      by_cases d : 48 ≤ b j ∧ b j ≤ 57
      · have hg : fX3_digit (nI (b j - 48)) C = some (1, zst (zst C 74 z (nI (val * 10 + (b j - 48)))) 73 6 (nI (k + 1))) := by
          have e1 : nI (z + 1) - 1 = nI z := nI_sub' (b := 1) (by omega) (by omega)
          have e6 : ∀ x, zst C 74 z x 73 6 = nI k := fun x => by rw [zst_n _ (by decide)]; exact n6
          have em : nI val * (10 : Int32) + nI (b j - 48) = nI (val * 10 + (b j - 48)) := by rw [show nI val * (10 : Int32) = nI (val * 10) from pk_mul val 10, nI_add]
          rw [fX3_digit, if_pos n1, n6, if_neg (nI_z (by omega) (by omega)), if_neg g4, n2, if_neg (nI_z (by omega) (by omega)), e1, zgd_n (zgi rfl (show z < 60 by omega) (by omega)), zgd_n (zgi rfl (show z < 60 by omega) (by omega)), zcn (by omega), zlt_r, zlt_r, n7, em, e6, nI_1]
        have go := go_digit (u := u) d.1 d.2 (Or.inr rfl) hg
        have run := CRun.step hI jn go
        generalize hC1 : zst (zst C 74 z (nI (val * 10 + (b j - 48)))) 73 6 (nI (k + 1)) = C1 at go run
        have cf : CF C C1 := fun x g1 g2 _ => by rw [← hC1, zst_n _ g1, zst_n _ g2]
        have rg : RG R (zst R 87 5 (nI (j + 1))) := ⟨fun x g1 _ => zst_n _ g1, fun x g1 _ _ => by rw [zst_k, if_neg (fun w => g1 w.2)]⟩
        have c73 : ∀ x, x ≠ 6 → C1 73 x = C 73 x := fun x hx => by rw [← hC1, zst_k, if_neg (fun w => hx w.2), zst_n _ (by decide)]
        have c75 : C1 75 = C 75 := by rw [← hC1, zst_n _ (by decide), zst_n _ (by decide)]
        obtain ⟨C', R', j', val', k', a1, a2, a3, a4, a5, a6, a7, a8, a9, a10, a11⟩ := ih (k + 1) (val * 10 + (b j - 48)) C1 (zst R 87 5 (nI (j + 1))) (j + 1) F (by omega) (by omega) (by omega) (hI.fr cf rg) ⟨by rw [c73 7 (by decide)]; exact n1, by rw [c73 2 (by decide)]; exact n2, by rw [c73 3 (by decide)]; exact n3, by rw [c73 4 (by decide)]; exact n4, by rw [c73 5 (by decide)]; exact n5, by rw [← hC1, zst_k, if_pos ⟨rfl, rfl⟩], by rw [← hC1, zst_n _ (by decide), zst_k, if_pos ⟨rfl, rfl⟩], by rw [zst_k, if_pos ⟨rfl, rfl⟩], by rw [zst_k, if_neg (by omega)]; exact n9, by rw [zst_k, if_neg (by omega)]; exact n10, by omega, n12, n13, fun x hx => by
          rw [← hC1, zst_n _ (by decide), zst_k, if_neg (by omega), zst_n _ (by decide)]
          exact n14 x hx⟩ (by rw [Nat.pow_succ]; omega) (by omega)
        refine ⟨C', R', j', val', k', ?_, run.tr a2, cf.tr a3, rg.tr a4, a5, a6, by omega, a8, a9.trans c75, by rw [a10, zst_n _ (by decide)], a11⟩
        rw [fX8_one_46, if_neg g4, hl, zbi_s, ra_isdig hb, if_pos d, zbi_s, if_neg z10, hl, zbi_s, ra_digit (by omega) d.1 d.2, zlt_r, n8, zlt_r, zlt_r, nI_1, nI_1]
        exact a1
      · exact fin (nI (b j)) hl (by rw [ra_isdig hb, if_neg d]) (fun _ h2 h3 => absurd ⟨h2, h3⟩ d)
    · have hl := ra_look hI n8 hj
      rw [if_neg jn] at hl
      exact fin (-1) hl (by rw [ra_in, if_neg (by decide)]) (fun h2 _ _ => absurd h2 jn)
/-- a number -/
theorem num_step {b : Nat → Nat} {n u : Nat} {C R : zM} {i z q o br D : Nat} (hI : IN b n u C R) (h : WS u C R i z q o br) (hi : i < n) (h1 : 48 ≤ b i) (h2 : b i ≤ 57) (hv : VD u R z D) :
    ∃ C' R' j, fX8_one_46 (fun x54 M55 => zbv (fX8_step1 (0 : Int32) x54 M55) (fun M57 => some ((1 : Int32), M57))) zF (0 : Int32) (0 : Int32) R = some (1, R') ∧ CRun n u C i C' j ∧ CF C C' ∧ RG R R' ∧ PS u C' R' j (z + 1) q 0 o br ∧ VD u R' (z + 1) (D + 1) ∧ i < j ∧ j ≤ n ∧ C' 75 = C 75 ∧ DG b n u C' j := by
  obtain ⟨s1, s2, s3, s4, s5, s6, s7, s8, s9, s10, s11, s12⟩ := h
  have hb := hI.2.2.1 i hi
  have hn60 := hI.1
  have hl := ra_look hI s6 (by omega)
  rw [if_pos hi] at hl
  have s7' : ¬ C 73 7 = 0 := by rw [s1]; exact z10
  have hg : fX3_digit (nI (b i - 48)) C = some (1, zst (zst (zst (zst C 74 z (nI (b i - 48))) 73 2 (nI (z + 1))) 73 7 0) 73 6 1) := by
    rw [fX3_digit, if_neg s7', ca_write s2 (by omega), zbv_s, zlt_r, zlt_r]
  have go := go_digit (u := u) h1 h2 (Or.inr rfl) hg
  have run := CRun.step hI hi go
  generalize hC1 : zst (zst (zst (zst C 74 z (nI (b i - 48))) 73 2 (nI (z + 1))) 73 7 0) 73 6 1 = C1 at go run
  have cf : CF C C1 := fun x g1 g2 _ => by rw [← hC1, zst_n _ g1, zst_n _ g1, zst_n _ g1, zst_n _ g2]
  have rg : RG R (zst R 87 5 (nI (i + 1))) := ⟨fun x g1 _ => zst_n _ g1, fun x g1 _ _ => by rw [zst_k, if_neg (fun w => g1 w.2)]⟩
  have c73 : ∀ x, C1 73 x = if x = 6 then 1 else if x = 7 then 0 else if x = 2 then nI (z + 1) else C 73 x := fun x => by
    rw [← hC1]
    simp [zst_k]
  have c75 : C1 75 = C 75 := by rw [← hC1, zst_n _ (by decide), zst_n _ (by decide), zst_n _ (by decide), zst_n _ (by decide)]
  have c74 : C1 74 = upd (C 74) z (nI (b i - 48)) := by rw [← hC1, zst_n _ (by decide), zst_n _ (by decide), zst_n _ (by decide), zst_s]
  obtain ⟨C', R', j', val', k', a1, a2, a3, a4, a5, a6, a7, a8, a9, a10, a11⟩ := num_loop (b := b) (fun x54 M55 => zbv (fX8_step1 (0 : Int32) x54 M55) (fun M57 => some ((1 : Int32), M57))) (z := z) (q := q) (o := o) (br := br) 3 1 (b i - 48) C1 (zst R 87 5 (nI (i + 1))) (i + 1) 999 (by omega) (by omega) (by omega) (hI.fr cf rg) ⟨by rw [c73]; rfl, by rw [c73]; rfl, by rw [c73]; exact s3, by rw [c73]; exact s4, by rw [c73]; exact s5, by rw [c73]; rfl, by rw [c74, upd_s], by rw [zst_k, if_pos ⟨rfl, rfl⟩], by rw [zst_k, if_neg (by omega)]; exact s7, by rw [zst_k, if_neg (by omega)]; exact s8, by omega, s10, s11, fun x hx => by
    rw [c74, upd_n _ (by omega), zst_n _ (by decide)]
    exact s12 x hx⟩ (by omega) (by omega)
  obtain ⟨t1, t2, t3, t4, t5, t6, t7, t8, t9, t10, t11, t12, t13, t14⟩ := a5
  have e92 := ra_step1_92 R' z 0 (nI val') (nI (z + 1))
  have r92 : R' 92 = R 92 := by rw [a10, zst_n _ (by decide)]
  have tok : zTK u (nI val') 0 (nI val') := Or.inl ⟨rfl, rfl, by rw [znT (by omega)]; omega, by rw [znT (by omega)]; omega⟩
  refine ⟨C', zst (zst (zst R' 92 (2 * z) 0) 92 (2 * z + 1) (nI val')) 87 7 (nI (z + 1)), j', ?_, run.tr a2, cf.tr a3, (rg.tr a4).tr ⟨fun y g1 g2 => by rw [zst_n _ g1, zst_n _ g2, zst_n _ g2], fun k g1 g2 g3 => by rw [zst_k, if_neg (fun w => g3 w.2), zst_n _ (by decide), zst_n _ (by decide)]⟩, ⟨t1, t2, t3, t4, t5, ?_, ?_, ?_, by omega, t12, t13, fun k hk => ?_, fun k hk => by omega⟩, ?_, by omega, a8, a9.trans c75, a11⟩
  · have g4 : ¬ (4 : Int32) ≤ 0 := by decide
    have ed := ra_digit (v := 0) (by omega) h1 h2
    rw [show nI 0 = 0 from rfl, Nat.zero_mul, Nat.zero_add] at ed
    rw [show zF = 999 + 1 from rfl, fX8_one_46, if_neg g4, hl, zbi_s, ra_isdig hb, if_pos ⟨h1, h2⟩, zbi_s, if_neg z10, hl, zbi_s, ed, zlt_r, s6, zlt_r, zlt_r, nI_1]
    refine Eq.trans a1 ?_
    show zbv (fX8_step1 0 (nI val') R') _ = _
    rw [ra_step1 t10 (by omega), zbv_s]
  · rw [zst_k, if_neg (by omega), zst_n _ (by decide), zst_n _ (by decide)]
    exact t8
  · rw [zst_k, if_neg (by omega), zst_n _ (by decide), zst_n _ (by decide)]
    exact t9
  · rw [zst_k, if_pos ⟨rfl, rfl⟩]
  · rw [e92, e92]
    by_cases g : k = z
    · subst g
      rw [if_pos rfl, if_neg (by omega), if_pos rfl, t7]
      exact tok
    · rw [if_neg (by omega), if_neg (by omega), if_neg (by omega), if_neg (by omega)]
      exact t14 k (by omega)
  · exact (hv.cg r92).step (s := z) (w := 0) (v := nI val') (c := nI val') e92 tok (fun w => absurd w (by decide)) (fun w => absurd w (by decide)) (by rw [if_pos rfl])
