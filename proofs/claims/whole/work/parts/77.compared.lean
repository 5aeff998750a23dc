/-! ===== the reader: comparisons ===== -/
def cmK (rec : zM → Option (Int32 × zM)) (M2 : zM) : Option (Int32 × zM) := zbi (fX8_look M2) (fun r5 M6 => if r5 = (60 : Int32) then (zlt (zst M6 87 5 ((M6 87 5) + (1 : Int32))) (fun M9 => zbi (fX8_sum rec M9) (fun r10 M11 => if r10 = 0 then (some ((0 : Int32), M11)) else (zbv (fX8_step1 (3 : Int32) r5 M11) (fun M15 => some ((1 : Int32), M15)))))) else (if r5 = (61 : Int32) then (zlt (zst M6 87 5 ((M6 87 5) + (1 : Int32))) (fun M18 => zbi (fX8_sum rec M18) (fun r19 M20 => if r19 = 0 then (some ((0 : Int32), M20)) else (zbv (fX8_step1 (3 : Int32) r5 M20) (fun M24 => some ((1 : Int32), M24)))))) else (if r5 = (62 : Int32) then (zlt (zst M6 87 5 ((M6 87 5) + (1 : Int32))) (fun M27 => zbi (fX8_sum rec M27) (fun r28 M29 => if r28 = 0 then (some ((0 : Int32), M29)) else (zbv (fX8_step1 (3 : Int32) r5 M29) (fun M33 => some ((1 : Int32), M33)))))) else (some ((1 : Int32), M6)))))
theorem cmp_eq3 (rec : zM → Option (Int32 × zM)) (R : zM) : fX8_compared rec R = zbi (fX8_sum rec R) (fun r1 M2 => if r1 = 0 then (some ((0 : Int32), M2)) else cmK rec M2) := rfl
theorem cm_k {b : Nat → Nat} {n u : Nat} {rec : zM → Option (Int32 × zM)} (C R : zM) (j : Nat) (hI : IN b n u C R) (e : R 87 5 = nI j) (hj : j ≤ n) : cmK rec R = if j < n ∧ isC (b j) = true then zbi (fX8_sum rec (zst R 87 5 (nI (j + 1)))) (fun r M => if r = 0 then some ((0 : Int32), M) else zbv (fX8_step1 (3 : Int32) (nI (b j)) M) (fun M2 => some ((1 : Int32), M2))) else some ((1 : Int32), R) := by
  have hl := ra_look hI e hj
  by_cases jn : j < n
  · rw [if_pos jn] at hl
    have hb := hI.2.2.1 j jn
    rw [cmK, hl, zbi_s, e, nI_1]
    by_cases c1 : b j = 60
    · rw [if_pos (show j < n ∧ isC (b j) = true from ⟨jn, by rw [c1]; rfl⟩), if_pos (show nI (b j) = (60 : Int32) by rw [c1]; rfl), zlt_r]
    rw [if_neg (ne_n (x := 60) (k := 60) rfl hb (by omega) c1)]
    by_cases c2 : b j = 61
    · rw [if_pos (show j < n ∧ isC (b j) = true from ⟨jn, by rw [c2]; rfl⟩), if_pos (show nI (b j) = (61 : Int32) by rw [c2]; rfl), zlt_r]
    rw [if_neg (ne_n (x := 61) (k := 61) rfl hb (by omega) c2)]
    by_cases c3 : b j = 62
    · rw [if_pos (show j < n ∧ isC (b j) = true from ⟨jn, by rw [c3]; rfl⟩), if_pos (show nI (b j) = (62 : Int32) by rw [c3]; rfl), zlt_r]
    rw [if_neg (ne_n (x := 62) (k := 62) rfl hb (by omega) c3), if_neg (show ¬ (j < n ∧ isC (b j) = true) from fun z => by
      have := z.2
      simp [isC, c1, c2, c3] at this)]
  · rw [if_neg jn] at hl
    rw [if_neg (show ¬ (j < n ∧ isC (b j) = true) from fun z => jn z.1), cmK, hl, zbi_s, if_neg (by decide), if_neg (by decide), if_neg (by decide)]
theorem lev_C {b : Nat → Nat} {n u dd : Nat} {rec : zM → Option (Int32 × zM)} (hu : u < 2) (hf : LEV b n u 4 (TOP 4) dd (fX8_sum rec)) : LEV b n u 3 (TOP 3) dd (fX8_compared rec) := by
  intro C R i z q o br D hI hW hi hbr ht hV ho
  have hn60 := hI.1
  rw [cmp_eq3]
  rcases hf C R i z q o br D hI hW hi hbr (ht.up (by omega) (by omega)) hV ho with ⟨R2, C2, j, z2, m, e1, e2, e3, e4, e5, e6, e7, e8, e9, e10, e11, e12⟩ | ⟨R2, j2, e1, e2, e3, e4, e5⟩
  · have hI2 := hI.fr e4 e2
    have hT2 : TOP 3 C2 q := ht.cg e5
    rw [e1, zbi_s, if_neg z10, cm_k C2 R2 j hI2 e8.2.2.2.2.2.1 e6]
    by_cases g : j < n ∧ isC (b j) = true
    · have hb := hI.2.2.1 j g.1
      obtain ⟨o1, o2, o3, o4⟩ := (op_rk hb).2.2.1 g.2
      obtain ⟨C1, a1, a2, a3, a4, a5⟩ := op_step (c := b j) (r := 3) (r' := 4) e8 (by omega) rfl (by omega) (by omega) e9 (hT2.up (by omega) (by omega)) (fun _ => hT2.imp id (fun w v => w.2 (by rw [v]; decide))) o1 o2 o3 hb
      have run := CRun.step hI2 g.1 a1
      have rg1 : RG R2 (zst R2 87 5 (nI (j + 1))) := ⟨fun x g1 _ => zst_n _ g1, fun x g1 _ _ => by rw [zst_k, if_neg (fun w => g1 w.2)]⟩
      have hI1 := hI2.fr a2 rg1
      have hV1 : VD u (zst R2 87 5 (nI (j + 1))) (z2 + m) (D + 1) := e12.cg (zst_n _ (by decide))
      rw [if_pos g]
      rcases hf C1 (zst R2 87 5 (nI (j + 1))) (j + 1) (z2 + m) (q + 1) o br (D + 1) hI1 a3 (by omega) hbr (top_of a4 o1 o4 hb (by omega) (by omega)) hV1 ho with ⟨R3, C3, j3, z3, m3, f1, f2, f3, f4, f5, f6, f7, f8, f9, f10, f11, f12⟩ | ⟨R3, j3, f1, f2, f3, f4, f5⟩
      · have hc3 : C3 75 q = nI (b j) := by rw [f5 q (by omega), a4]
        have h33 : nI (b j) ≠ 33 := fun w => o4 (nI_inj' (b := 33) w (by omega) (by omega))
        obtain ⟨R4, k1, k2, k3, k4⟩ := op_join f8 hc3 h33 (sgnC g.2) (by omega) f12
        rw [f1, zbi_s, if_neg z10, k1, zbv_s]
        refine Or.inl ⟨R4, C3, j3, z3, m3 + 1, rfl, ((e2.tr rg1).tr f2).tr k2, (e3.tr run).tr f3, (e4.tr a2).tr f4, fun k hk => by rw [f5 k (by omega), a5 k hk, e5 k hk], f6, by omega, k3, fun k hk => ?_, f10, fun jn => ?_, k4⟩
        · by_cases k0 : k = 0
          · subst k0
            exact Or.inr (by rw [Nat.add_zero, hc3, o1, zle']; exact Int.le_refl _)
          · have := (f9.weak (p := 3) (by omega) (by omega)) (k - 1) (by omega)
            rw [show q + 1 + (k - 1) = q + k by omega] at this
            exact this
        · have hb3 := hI.2.2.1 j3 jn
          rcases f11.low jn with w | w
          · cases hc : isC (b j3) with
            | false => exact Or.inl ((no_rk hb3).2.2.2.1 hc w)
            | true =>
              refine Or.inr ⟨((op_rk hb3).2.2.1 hc).1, 0, by omega, by rw [Nat.add_zero, hc3, o1]; rfl, fun k g1 g2 => ?_⟩
              have := f9 (k - 1) (by omega)
              rw [show q + 1 + (k - 1) = q + k by omega] at this
              exact this
          · exact Or.inr w
      · rw [f1, zbi_s, if_pos z00]
        exact Or.inr ⟨R3, j3, rfl, (e2.tr rg1).tr f2, f3, f4, f5.fr (e3.tr run) (e4.tr a2)⟩
    · rw [if_neg g]
      refine Or.inl ⟨R2, C2, j, z2, m, rfl, e2, e3, e4, e5, e6, e7, e8, e9.weak (by omega) (by omega), e10, fun jn => ?_, e12⟩
      have hb := hI.2.2.1 j jn
      have no : isC (b j) = false := by
        cases h : isC (b j) with
        | false => rfl
        | true => exact absurd ⟨jn, h⟩ g
      exact (e11 jn).imp ((no_rk hb).2.2.2.1 no) id
  · rw [e1, zbi_s, if_pos z00]
    exact Or.inr ⟨R2, j2, rfl, e2, e3, e4, e5⟩
