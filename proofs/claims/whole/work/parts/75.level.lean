/-! ===== the reader: levels ===== -/
def OKR (b : Nat → Nat) (n u p : Nat) (C R : zM) (i q o br D : Nat) (res : Option (Int32 × zM)) : Prop := ∃ R' C' j z m, res = some (1, R') ∧ RG R R' ∧ CRun n u C i C' j ∧ CF C C' ∧ (∀ k, k < q → C' 75 k = C 75 k) ∧ j ≤ n ∧ i ≤ j ∧ PS u C' R' j z q m o br ∧ RK p C' q m ∧ DG b n u C' j ∧ NX b n p C' q m j ∧ VD u R' (z + m) (D + 1)
def NOR (b : Nat → Nat) (n u : Nat) (C R : zM) (i : Nat) (res : Option (Int32 × zM)) : Prop := ∃ R' j, res = some (0, R') ∧ RG R R' ∧ R' 87 5 = nI j ∧ j ≤ n ∧ CFault b n u C i j
/-- f reads a value of level p; t: what must hold of the sign below -/
def LEV (b : Nat → Nat) (n u p : Nat) (t : zM → Nat → Prop) (dd : Nat) (f : zM → Option (Int32 × zM)) : Prop := ∀ C R i z q o br D, IN b n u C R → WS u C R i z q o br → i ≤ n → br ≤ o → t C q → VD u R z D → 6 ≤ dd + o → OKR b n u p C R i q o br D (f R) ∨ NOR b n u C R i (f R)
theorem RK.weak {p p' : Nat} {C : zM} {q m : Nat} (h : RK p' C q m) (hp : p ≤ p') (hp' : p' < 10) : RK p C q m := fun k hk => (h k hk).imp id (fun z => by
  rw [zle', znT (by omega)] at z
  rw [zle', znT (by omega)]
  omega)
theorem CMP.low {C : zM} {q m : Nat} (h : CMP C (q + 1) m) : CMP C q (m + 1) := by
  obtain ⟨h, h1, h2, h3⟩ := h
  refine ⟨h + 1, by omega, by rw [show q + (h + 1) = q + 1 + h by omega]; exact h2, fun k g1 g2 => ?_⟩
  have := h3 (k - 1) (by omega) (by omega)
  rw [show q + 1 + (k - 1) = q + k by omega] at this
  exact this
theorem NX.low {b : Nat → Nat} {n p : Nat} {C : zM} {q m j : Nat} (h : NX b n p C (q + 1) m j) : NX b n p C q (m + 1) j := fun hj => (h hj).imp id (fun z => ⟨z.1, z.2.low⟩)
theorem TOP.cg {p : Nat} {C C' : zM} {q : Nat} (h : TOP p C q) (e : ∀ k, k < q → C' 75 k = C 75 k) : TOP p C' q := by
  by_cases q0 : q = 0
  · exact Or.inl q0
  · have := h.resolve_left q0
    exact Or.inr (by rw [e (q - 1) (by omega)]; exact this)
/-- the loop of a level p: signs of rank p between values of the level above -/
theorem lev_loop {b : Nat → Nat} {n u p pf dd : Nat} {t : zM → Nat → Prop} {f : zM → Option (Int32 × zM)} {lp : Nat → zM → Option (Int32 × zM)} {isOp : Nat → Bool} (hu : u < 2) (hp1 : 1 ≤ p) (hp5 : p ≤ 5) (hp3 : p ≠ 3) (hpf : p + 1 ≤ pf) (hpf6 : pf < 10)
    (hop : ∀ c, c < 256 → isOp c = true → rkI (nI c) = nI p ∧ c ≠ 41 ∧ (c < 48 ∨ 57 < c) ∧ c ≠ 33 ∧ zsgn (nI c))
    (hno : ∀ c, c < 256 → isOp c = false → ¬ nI pf ≤ rkI (nI c) → ¬ nI p ≤ rkI (nI c))
    (ht : ∀ C q c, c < 256 → isOp c = true → C 75 q = nI c → t C (q + 1))
    (hf : LEV b n u pf t dd f)
    (hlp : ∀ C R j F, IN b n u C R → R 87 5 = nI j → j ≤ n → lp (F + 1) R = if j < n ∧ isOp (b j) = true then zbi (f (zst R 87 5 (nI (j + 1)))) (fun r M => if r = 0 then some ((0 : Int32), M) else zbv (fX8_step1 (3 : Int32) (nI (b j)) M) (fun M2 => lp F M2)) else some ((1 : Int32), R)) :
    ∀ (d : Nat) (C R : zM) (j z q m o br D F : Nat), n - j ≤ d → j ≤ n → d < F → IN b n u C R → PS u C R j z q m o br → RK p C q m → TOP p C q → DG b n u C j → NX b n pf C q m j → VD u R (z + m) (D + 1) → br ≤ o → 6 ≤ dd + o →
      OKR b n u p C R j q o br D (lp F R) ∨ NOR b n u C R j (lp F R) := by
  intro d
  induction d with
  | zero =>
    intro C R j z q m o br D F hd hj hF hI hP hK hT hG hX hV hbr ho
    obtain ⟨F, rfl⟩ : ∃ G, F = G + 1 := ⟨F - 1, by omega⟩
    have jn : ¬ (j < n ∧ isOp (b j) = true) := fun z => by omega
    rw [hlp C R j F hI hP.2.2.2.2.2.1 hj, if_neg jn]
    exact Or.inl ⟨R, C, j, z, m, rfl, RG.rf, CRun.rf, CF.rf, fun _ _ => rfl, hj, Nat.le_refl _, hP, hK, hG, fun z => by omega, hV⟩
  | succ d ih =>
    intro C R j z q m o br D F hd hj hF hI hP hK hT hG hX hV hbr ho
    obtain ⟨F, rfl⟩ : ∃ G, F = G + 1 := ⟨F - 1, by omega⟩
    have hn60 := hI.1
    by_cases g : j < n ∧ isOp (b j) = true
    · have hb := hI.2.2.1 j g.1
      obtain ⟨o1, o2, o3, o4, o5⟩ := hop (b j) hb g.2
      obtain ⟨C1, a1, a2, a3, a4, a5⟩ := op_step (c := b j) (r := p) (r' := p) hP (by omega) (by rw [if_neg hp3]) hp1 hp5 hK hT (fun w => absurd w hp3) o1 o2 o3 hb
      have run := CRun.step hI g.1 a1
      have rg1 : RG R (zst R 87 5 (nI (j + 1))) := ⟨fun x g1 _ => zst_n _ g1, fun x g1 _ _ => by rw [zst_k, if_neg (fun w => g1 w.2)]⟩
      have hI1 := hI.fr a2 rg1
      have hV1 : VD u (zst R 87 5 (nI (j + 1))) (z + m) (D + 1) := hV.cg (zst_n _ (by decide))
      rw [hlp C R j F hI hP.2.2.2.2.2.1 hj, if_pos g]
      rcases hf C1 (zst R 87 5 (nI (j + 1))) (j + 1) (z + m) (q + 1) o br (D + 1) hI1 a3 (by omega) hbr (ht C1 q (b j) hb g.2 a4) hV1 ho with ⟨R2, C2, j2, z2, m2, e1, e2, e3, e4, e5, e6, e7, e8, e9, e10, e11, e12⟩ | ⟨R2, j2, e1, e2, e3, e4, e5⟩
      · have hc2 : C2 75 q = nI (b j) := by rw [e5 q (by omega), a4]
        have h33 : nI (b j) ≠ 33 := fun w => o4 (nI_inj' (b := 33) w (by omega) (by omega))
        obtain ⟨R3, k1, k2, k3, k4⟩ := op_join e8 hc2 h33 o5 (by omega) e12
        rw [e1, zbi_s, if_neg z10, k1, zbv_s]
        have q75 : ∀ k, k < q → C2 75 k = C 75 k := fun k hk => by rw [e5 k (by omega), a5 k hk]
        have hK2 : RK p C2 q (m2 + 1) := by
          intro k hk
          by_cases k0 : k = 0
          · subst k0
            exact Or.inr (by rw [Nat.add_zero, hc2, o1, zle']; exact Int.le_refl _)
          · have := (e9.weak (p := p) (by omega) hpf6) (k - 1) (by omega)
            rw [show q + 1 + (k - 1) = q + k by omega] at this
            exact this
        have cf2 := a2.tr e4
        have rg3 := (rg1.tr e2).tr k2
        rcases ih C2 R3 j2 z2 q (m2 + 1) o br D F (by omega) e6 (by omega) (hI.fr cf2 rg3) k3 hK2 (hT.cg q75) e10 e11.low k4 hbr ho with ⟨R4, C4, j4, z4, m4, f1, f2, f3, f4, f5, f6, f7, f8, f9, f10, f11, f12⟩ | ⟨R4, j4, f1, f2, f3, f4, f5⟩
        · exact Or.inl ⟨R4, C4, j4, z4, m4, f1, rg3.tr f2, (run.tr e3).tr f3, cf2.tr f4, fun k hk => by rw [f5 k hk, q75 k hk], f6, by omega, f8, f9, f10, f11, f12⟩
        · exact Or.inr ⟨R4, j4, f1, rg3.tr f2, f3, f4, f5.fr (run.tr e3) cf2⟩
      · rw [e1, zbi_s, if_pos z00]
        exact Or.inr ⟨R2, j2, rfl, rg1.tr e2, e3, e4, e5.fr run a2⟩
    · rw [hlp C R j F hI hP.2.2.2.2.2.1 hj, if_neg g]
      refine Or.inl ⟨R, C, j, z, m, rfl, RG.rf, CRun.rf, CF.rf, fun _ _ => rfl, hj, Nat.le_refl _, hP, hK, hG, fun jn => ?_, hV⟩
      have hb := hI.2.2.1 j jn
      have no : isOp (b j) = false := by
        cases h : isOp (b j) with
        | false => rfl
        | true => exact absurd ⟨jn, h⟩ g
      exact (hX jn).imp (hno (b j) hb no) id
/-- a level: a value of the level above, then the loop -/
theorem lev_all {b : Nat → Nat} {n u p pf dd : Nat} {t t' : zM → Nat → Prop} {f g : zM → Option (Int32 × zM)} {lp : Nat → zM → Option (Int32 × zM)} (hpp : p ≤ pf) (hpf6 : pf < 10)
    (htt : ∀ C q, t' C q → t C q) (htp : ∀ C q, t' C q → TOP p C q)
    (hf : LEV b n u pf t dd f)
    (hl : ∀ (d : Nat) (C R : zM) (j z q m o br D F : Nat), n - j ≤ d → j ≤ n → d < F → IN b n u C R → PS u C R j z q m o br → RK p C q m → TOP p C q → DG b n u C j → NX b n pf C q m j → VD u R (z + m) (D + 1) → br ≤ o → 6 ≤ dd + o → OKR b n u p C R j q o br D (lp F R) ∨ NOR b n u C R j (lp F R))
    (hg : ∀ R, g R = zbi (f R) (fun r1 M2 => if r1 = 0 then (some ((0 : Int32), M2)) else lp zF M2)) : LEV b n u p t' dd g := by
  intro C R i z q o br D hI hW hi hbr ht hV ho
  have hn60 := hI.1
  rw [hg]
  rcases hf C R i z q o br D hI hW hi hbr (htt C q ht) hV ho with ⟨R2, C2, j2, z2, m2, e1, e2, e3, e4, e5, e6, e7, e8, e9, e10, e11, e12⟩ | ⟨R2, j2, e1, e2, e3, e4, e5⟩
  · rw [e1, zbi_s, if_neg z10]
    rcases hl (n - j2) C2 R2 j2 z2 q m2 o br D zF (Nat.le_refl _) e6 (show n - j2 < 1000 by omega) (hI.fr e4 e2) e8 (e9.weak hpp hpf6) ((htp C q ht).cg e5) e10 e11 e12 hbr ho with ⟨R4, C4, j4, z4, m4, f1, f2, f3, f4, f5, f6, f7, f8, f9, f10, f11, f12⟩ | ⟨R4, j4, f1, f2, f3, f4, f5⟩
    · exact Or.inl ⟨R4, C4, j4, z4, m4, f1, e2.tr f2, e3.tr f3, e4.tr f4, fun k hk => by rw [f5 k hk, e5 k hk], f6, by omega, f8, f9, f10, f11, f12⟩
    · exact Or.inr ⟨R4, j4, f1, e2.tr f2, f3, f4, f5.fr e3 e4⟩
  · rw [e1, zbi_s, if_pos z00]
    exact Or.inr ⟨R2, j2, rfl, e2, e3, e4, e5⟩
