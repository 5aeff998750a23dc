/-! ===== the reader: one value ===== -/
theorem lev_chain {b : Nat → Nat} {n u dd : Nat} {rec : zM → Option (Int32 × zM)} (hu : u < 2) (hf : LEV b n u 6 (fun _ _ => True) dd rec) : LEV b n u 1 (TOP 1) dd (fX8_whole rec) := lev_O hu (lev_B hu (lev_C hu (lev_S hu (lev_P hu hf))))
theorem RK0 {p : Nat} {C : zM} {q : Nat} : RK p C q 0 := fun k hk => by omega
theorem ra_opens1 {R : zM} {o i : Nat} (h6 : R 87 6 = nI o) (h5 : R 87 5 = nI i) (ho : o ≤ 5) : fX8_opens R = some (if o = 5 then 0 else 1, if o = 5 then R else zst (zst R 87 6 (nI (o + 1))) 87 5 (nI (i + 1))) := by
  rw [fX8_opens, h6]
  by_cases c : o = 5
  · subst c
    rw [if_pos (show nI 5 = (5 : Int32) from rfl), if_pos rfl, if_pos rfl]
  · have e5 : zst R 87 6 (nI (o + 1)) 87 5 = nI i := by rw [zst_k, if_neg (by omega)]; exact h5
    rw [if_neg (show ¬ nI o = (5 : Int32) from fun z => c (nI_inj' (b := 5) z (by omega) (by omega))), if_neg c, if_neg c, nI_1, zlt_r, e5, nI_1, zlt_r]
theorem nx6 {b : Nat → Nat} {n u : Nat} {C R : zM} (hI : IN b n u C R) {C' : zM} {q m j : Nat} : NX b n 6 C' q m j := fun jn => Or.inl (no_rk (hI.2.2.1 j jn)).1
theorem lev_one {b : Nat → Nat} {n u : Nat} (hu : u < 2) : ∀ dd, LEV b n u 6 (fun _ _ => True) dd (fX8_one dd) := by
  intro dd
  induction dd with
  | zero =>
    intro C R i z q o br D hI hW hi hbr _ hV ho
    have := hW.2.2.2.2.2.2.2.2.2.1
    omega
  | succ dd ih =>
    intro C R i z q o br D hI hW hi hbr _ hV ho
    have hn60 := hI.1
    obtain ⟨s1, s2, s3, s4, s5, s6, s7, s8, s9, s10, s11, s12⟩ := id hW
    have hl := ra_look hI s6 hi
    rcases (Decidable.em (i < n)).symm with jn | jn
    · rw [if_neg jn] at hl
      have e8 := hI.2.2.2.2.2.2
      have en : fX8_isName (-1) R = some (0, R) := by
        unfold fX8_isName
        rw [e8]
        rcases (show u = 0 ∨ u = 1 by omega) with g | g <;> subst g <;> rfl
      refine Or.inr ⟨R, i, ?_, RG.rf, s6, hi, C, CRun.rf, CF.rf, Or.inr ⟨by omega, Or.inl s1⟩⟩
      rw [fX8_one, hl, zbi_s, en, zbi_s, if_pos z00, ra_in, if_neg (by decide), zbi_s, if_pos z00, if_neg (by decide), if_neg (by decide)]
    rw [if_pos jn] at hl
    have hb := hI.2.2.1 i jn
    have hnm := ra_isName hu hb hI.2.2.2.2.2.2
    cases hn : isNm u (b i) with
    | true =>
      rw [hn, if_pos rfl] at hnm
      have hd : b i < 48 ∨ 57 < b i := by
        simp [isNm] at hn
        omega
      obtain ⟨C1, R1, a1, a2, a3, a4, a5, a6, a7, a8⟩ := name_step (b := b) (n := n) hW (by omega) hu hb hd hn hV
      refine Or.inl ⟨R1, C1, i + 1, z + 1, 0, ?_, a4, CRun.step hI jn a1, a3, fun k _ => by rw [a8], by omega, by omega, a5, RK0, a7, nx6 hI, a6⟩
      rw [fX8_one, hl, zbi_s, hnm, zbi_s, if_neg z10, s6, nI_1, zlt_r, a2, zbv_s]
    | false =>
      rw [hn, if_neg (by decide)] at hnm
      by_cases d : 48 ≤ b i ∧ b i ≤ 57
      · obtain ⟨C', R', j, a1, a2, a3, a4, a5, a6, a7, a8, a9, a10⟩ := num_step hI hW jn d.1 d.2 hV
        refine Or.inl ⟨R', C', j, z + 1, 0, ?_, a4, a2, a3, fun k _ => by rw [a9], a8, by omega, a5, RK0, a10, nx6 hI, a6⟩
        rw [fX8_one, hl, zbi_s, hnm, zbi_s, if_pos z00, ra_isdig hb, if_pos d, zbi_s, if_neg z10]
        exact a1
      have hd : b i < 48 ∨ 57 < b i := by omega
      have pre : fX8_one (dd + 1) R = if nI (b i) = (33 : Int32) then (zbi (fX8_opens R) (fun r28 M29 => if r28 = 0 then (some ((0 : Int32), M29)) else (zbi (fX8_one dd M29) (fun r32 M33 => if r32 = 0 then (some ((0 : Int32), M33)) else (zlt (zst M33 87 6 ((M33 87 6) - (1 : Int32))) (fun M36 => zbv (fX8_step1 (2 : Int32) (0 : Int32) M36) (fun M38 => some ((1 : Int32), M38)))))))) else (if nI (b i) = (40 : Int32) then (zbi (fX8_opens R) (fun r14 M15 => if r14 = 0 then (some ((0 : Int32), M15)) else (zbi (fX8_whole (fX8_one dd) M15) (fun r18 M19 => if r18 = 0 then (some ((0 : Int32), M19)) else (zbi (fX8_look M19) (fun r22 M23 => if r22 = (41 : Int32) then (zlt (zst M23 87 5 ((M23 87 5) + (1 : Int32))) (fun M26 => zlt (zst M26 87 6 ((M26 87 6) - (1 : Int32))) (fun M27 => some ((1 : Int32), M27)))) else (some ((0 : Int32), M23)))))))) else (some ((0 : Int32), R))) := by
        rw [fX8_one, hl, zbi_s, hnm, zbi_s, if_pos z00, ra_isdig hb, if_neg d, zbi_s, if_pos z00]
      rw [pre]
      have hop := ra_opens1 s7 s6 s10
      have bad : ((b i = 33 ∨ b i = 40) → o = 5) → NOR b n u C R i (some (0, R)) := fun h5 => by
        obtain ⟨C1, q1, q2⟩ := bad_step hW hu hb hd hn h5
        exact ⟨R, i, rfl, RG.rf, s6, hi, C, CRun.rf, CF.rf, Or.inl ⟨jn, C1, q1, q2⟩⟩
      by_cases c33 : b i = 33
      · rw [if_pos (show nI (b i) = (33 : Int32) by rw [c33]; rfl), hop, zbi_s]
        by_cases o5 : o = 5
        · rw [if_pos o5, if_pos z00, if_pos o5]
          exact Or.inr (bad (fun _ => o5))
        rw [if_neg o5, if_neg z10, if_neg o5]
        obtain ⟨C1, a1, a2, a3, a4, a5⟩ := open_step hW (by omega) (Or.inl c33) (by omega) hbr
        rw [if_neg (show ¬ b i = 40 by omega), Nat.add_zero] at a3
        have run := CRun.step hI jn a1
        have rg1 : RG R (zst (zst R 87 6 (nI (o + 1))) 87 5 (nI (i + 1))) := ⟨fun x g1 _ => by rw [zst_n _ g1, zst_n _ g1], fun x g1 g2 _ => by rw [zst_k, if_neg (fun w => g1 w.2), zst_k, if_neg (fun w => g2 w.2)]⟩
        rcases ih C1 _ (i + 1) z (q + 1) (o + 1) br D (hI.fr a2 rg1) a3 (by omega) (by omega) trivial (hV.cg (by rw [zst_n _ (by decide), zst_n _ (by decide)])) (by omega) with ⟨R2, C2, j2, z2, m2, e1, e2, e3, e4, e5, e6, e7, e8, e9, e10, e11, e12⟩ | ⟨R2, j2, e1, e2, e3, e4, e5⟩
        · have hc2 : C2 75 q = 33 := by rw [e5 q (by omega), a4, c33]; rfl
          obtain ⟨R3, k1, k2, k3, k4⟩ := op_not e8 hc2 (by omega) e12
          have e6o : R2 87 6 - 1 = nI o := by rw [e8.2.2.2.2.2.2.1]; exact nI_sub' (b := 1) (by omega) (by omega)
          rw [e1, zbi_s, if_neg z10, e6o, zlt_r, k1, zbv_s]
          refine Or.inl ⟨R3, C2, j2, z2, m2 + 1, rfl, (rg1.tr e2).tr k2, run.tr e3, a2.tr e4, fun k hk => by rw [e5 k (by omega), a5 k hk], e6, by omega, k3, fun k hk => ?_, e10, nx6 hI, k4⟩
          by_cases k0 : k = 0
          · subst k0
            exact Or.inl (by rw [Nat.add_zero]; exact hc2)
          · have := e9 (k - 1) (by omega)
            rw [show q + 1 + (k - 1) = q + k by omega] at this
            exact this
        · rw [e1, zbi_s, if_pos z00]
          exact Or.inr ⟨R2, j2, rfl, rg1.tr e2, e3, e4, e5.fr run a2⟩
      rw [if_neg (ne_n (x := 33) (k := 33) rfl hb (by omega) c33)]
      by_cases c40 : b i = 40
      · rw [if_pos (show nI (b i) = (40 : Int32) by rw [c40]; rfl), hop, zbi_s]
        by_cases o5 : o = 5
        · rw [if_pos o5, if_pos z00, if_pos o5]
          exact Or.inr (bad (fun _ => o5))
        rw [if_neg o5, if_neg z10, if_neg o5]
        obtain ⟨C1, a1, a2, a3, a4, a5⟩ := open_step hW (by omega) (Or.inr c40) (by omega) hbr
        rw [if_pos c40] at a3
        have run := CRun.step hI jn a1
        have rg1 : RG R (zst (zst R 87 6 (nI (o + 1))) 87 5 (nI (i + 1))) := ⟨fun x g1 _ => by rw [zst_n _ g1, zst_n _ g1], fun x g1 g2 _ => by rw [zst_k, if_neg (fun w => g1 w.2), zst_k, if_neg (fun w => g2 w.2)]⟩
        have tp : TOP 1 C1 (q + 1) := Or.inr (by
          rw [show q + 1 - 1 = q by omega, a4, c40]
          decide)
        rcases lev_chain hu ih C1 _ (i + 1) z (q + 1) (o + 1) (br + 1) D (hI.fr a2 rg1) a3 (by omega) (by omega) tp (hV.cg (by rw [zst_n _ (by decide), zst_n _ (by decide)])) (by omega) with ⟨R2, C2, j2, z2, m2, e1, e2, e3, e4, e5, e6, e7, e8, e9, e10, e11, e12⟩ | ⟨R2, j2, e1, e2, e3, e4, e5⟩
        · have hc2 : C2 75 q = 40 := by rw [e5 q (by omega), a4, c40]; rfl
          have hI2 := hI.fr (a2.tr e4) (rg1.tr e2)
          have hl2 := ra_look hI2 e8.2.2.2.2.2.1 e6
          rw [e1, zbi_s, if_neg z10, hl2, zbi_s]
          by_cases g : j2 < n ∧ b j2 = 41
          · obtain ⟨C3, k1, k2, k3, k4, k5⟩ := close_step e8 (by omega) e9 hc2
            have run2 := CRun.step (C' := C3) hI2 g.1 (by rw [g.2]; exact k1)
            have e6o : zst R2 87 5 (nI (j2 + 1)) 87 6 - 1 = nI o := by rw [zst_k, if_neg (by omega), e8.2.2.2.2.2.2.1]; exact nI_sub' (b := 1) (by omega) (by omega)
            rw [if_pos g.1, if_pos (show nI (b j2) = (41 : Int32) by rw [g.2]; rfl), e8.2.2.2.2.2.1, nI_1, zlt_r, e6o, zlt_r]
            refine Or.inl ⟨_, C3, j2 + 1, z2 + m2, 0, rfl, (rg1.tr e2).tr ⟨fun x g1 _ => by rw [zst_n _ g1, zst_n _ g1], fun x g1 g2 _ => by rw [zst_k, if_neg (fun w => g2 w.2), zst_k, if_neg (fun w => g1 w.2)]⟩, (run.tr e3).tr run2, (a2.tr e4).tr k2, fun k hk => by rw [k5 k hk, e5 k (by omega), a5 k hk], by omega, by omega, k3, RK0, DG.of k3.1 (Or.inl k4), nx6 hI, e12.cg (by rw [zst_n _ (by decide), zst_n _ (by decide)])⟩
          · have hne : ¬ (if j2 < n then nI (b j2) else -1) = (41 : Int32) := by
              by_cases jn2 : j2 < n
              · rw [if_pos jn2]
                exact ne_n (x := 41) (k := 41) rfl (hI.2.2.1 j2 jn2) (by omega) (fun w => g ⟨jn2, w⟩)
              · rw [if_neg jn2]
                decide
            rw [if_neg hne]
            refine Or.inr ⟨R2, j2, rfl, rg1.tr e2, e8.2.2.2.2.2.1, e6, C2, run.tr e3, a2.tr e4, ?_⟩
            by_cases jn2 : j2 < n
            · obtain ⟨C3, k1, k2⟩ := stuck e8 jn2 hn60 (hI.2.2.1 j2 jn2) e9 e11 e10 (Or.inl (fun w => g ⟨jn2, w⟩))
              exact Or.inl ⟨jn2, C3, k1, k2⟩
            · exact Or.inr ⟨by omega, Or.inr (by rw [e8.2.2.2.2.1]; exact nI_leN (b := 0) (by omega) (by omega) (by omega))⟩
        · rw [e1, zbi_s, if_pos z00]
          exact Or.inr ⟨R2, j2, rfl, rg1.tr e2, e3, e4, e5.fr run a2⟩
      rw [if_neg (ne_n (x := 40) (k := 40) rfl hb (by omega) c40)]
      exact Or.inr (bad (fun w => absurd w (by omega)))
