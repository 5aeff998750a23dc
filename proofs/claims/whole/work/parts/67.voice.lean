/-! ===== voices ===== -/
def VS (k w : Nat) (m : Int32) (C R : zM) : Prop := k < 7 ∧ w < 8 ∧ TR C R ∧ C 76 2 = R 87 22 ∧ C 76 3 = nI k ∧ C 76 4 = nI w ∧ C 76 5 = m ∧ R 87 21 = nI w ∧ itS (R 88) w 0 = nI k ∧ itS (R 88) w 1 = m
def VC (C C' : zM) : Prop := ∀ c, c ≠ 76 → c ≠ 77 → C' c = C c
def VG (R R' : zM) : Prop := (∀ c, c ≠ 87 → c ≠ 98 → R' c = R c) ∧ ∀ j, j ≠ 20 → j ≠ 22 → R' 87 j = R 87 j
theorem VC.rf {C : zM} : VC C C := fun _ _ _ => rfl
theorem VC.tr {A B C : zM} (h : VC A B) (g : VC B C) : VC A C := fun c h1 h2 => (g c h1 h2).trans (h c h1 h2)
theorem VG.rf {C : zM} : VG C C := ⟨fun _ _ _ => rfl, fun _ _ _ => rfl⟩
theorem VG.tr {A B C : zM} (h : VG A B) (g : VG B C) : VG A C := ⟨fun c h1 h2 => (g.1 c h1 h2).trans (h.1 c h1 h2), fun c h1 h2 => (g.2 c h1 h2).trans (h.2 c h1 h2)⟩
/-- both answer the same; p: whether PARTED may have changed -/
def VJ (k w : Nat) (m : Int32) (p : Prop) (C R : zM) (oC oR : Option (Int32 × zM)) : Prop := ∃ r C' R', oC = some (r, C') ∧ oR = some (r, R') ∧ VS k w m C' R' ∧ VC C C' ∧ VG R R' ∧ (p ∨ C' 76 2 = C 76 2)
theorem VJ.done {k w : Nat} {m : Int32} {p : Prop} {C R : zM} (h : VS k w m C R) {r r' : Int32} (e : r = r') : VJ k w m p C R (some (r, C)) (some (r', R)) := ⟨r, C, R, rfl, by rw [e], h, VC.rf, VG.rf, Or.inr rfl⟩
theorem VJ.fr {k w : Nat} {m : Int32} {p : Prop} {C R C1 R1 : zM} {oC oR : Option (Int32 × zM)} (h : VJ k w m p C1 R1 oC oR) (f : VC C C1) (g : VG R R1) (e : C1 76 2 = C 76 2) : VJ k w m p C R oC oR := by
  obtain ⟨r, C', R', a1, a2, a3, a4, a5, a6⟩ := h
  exact ⟨r, C', R', a1, a2, a3, f.tr a4, g.tr a5, a6.imp id (fun z => z.trans e)⟩
theorem VJ.map {k w : Nat} {m : Int32} {p : Prop} {C R : zM} {oC oR : Option (Int32 × zM)} (h : VJ k w m p C R oC oR) {A B : Int32 → zM → Option (Int32 × zM)} (kk : ∀ r C' R', VS k w m C' R' → ∃ v, A r C' = some (v, C') ∧ B r R' = some (v, R')) : VJ k w m p C R (zbi oC A) (zbi oR B) := by
  obtain ⟨r, C', R', a1, a2, a3, a4, a5, a6⟩ := h
  obtain ⟨v, b1, b2⟩ := kk r C' R' a3
  exact ⟨v, C', R', by rw [a1, zbi_s, b1], by rw [a2, zbi_s, b2], a3, a4, a5, a6⟩
/-- a body begins, on both sides -/
theorem VS.begin {k w : Nat} {m : Int32} {C R : zM} (h : VS k w m C R) (b : Int32) : ∃ C1 R1, fX8_begins b R = some R1 ∧ VS k w m C1 R1 ∧ VC C C1 ∧ VG R R1 ∧ C1 76 2 = C 76 2 ∧
    ∀ kk : zM → Option (Int32 × zM), (if (30 : Int32) ≤ C 76 1 then kk C else (zgd (C 76 1 < 0 ∨ 30 ≤ (C 76 1).toNatClampNeg) (zlt (zst C 77 ((C 76 1).toNatClampNeg) b) (fun M25 => zlt (zst M25 76 1 ((M25 76 1) + (1 : Int32))) (fun M27 => kk M27))))) = kk C1 := by
  obtain ⟨h1, h2, ⟨t, t1, t2, t3, t4⟩, h4, h5, h6, h7, h8, h9, h10⟩ := id h
  by_cases c : t = 30
  · subst c
    refine ⟨C, R, ?_, h, VC.rf, VG.rf, rfl, fun kk => ?_⟩
    · rw [fX8_begins, t3, if_pos (by decide)]
    · rw [t2, if_pos (by decide)]
  · have ht : t < 30 := by omega
    have g : ¬ (30 : Int32) ≤ nI t := nI_leN (a := 30) (by omega) (by omega) ht
    have eC : ∀ v, zst C 77 t v 76 = C 76 := fun v => zst_n _ (by decide)
    have eR : ∀ v, zst R 98 t v 87 = R 87 := fun v => zst_n _ (by decide)
    refine ⟨zst (zst C 77 t b) 76 1 (nI (t + 1)), zst (zst R 98 t b) 87 20 (nI (t + 1)), ?_, ⟨h1, h2, ⟨t + 1, by omega, ?_, ?_, fun j hj => ?_⟩, ?_, ?_, ?_, ?_, ?_, ?_, ?_⟩, fun c g1 g2 => by rw [zst_n _ g1, zst_n _ g2], ⟨fun c g1 g2 => by rw [zst_n _ g1, zst_n _ g2], fun j g1 g2 => by rw [zst_k, if_neg (fun z => g1 z.2), eR]⟩, ?_, fun kk => ?_⟩
    · rw [fX8_begins, t3, if_neg g, zgd_n (zgi rfl ht (by omega)), zcn (by omega), zlt_r, zlt_r, eR, t3, nI_1]
    · rw [zst_k, if_pos ⟨rfl, rfl⟩]
    · rw [zst_k, if_pos ⟨rfl, rfl⟩]
    · rw [zst_n (zst C 77 t b) (show 77 ≠ 76 by decide), zst_n (zst R 98 t b) (show 98 ≠ 87 by decide), zst_k, zst_k]
      by_cases e : j = t
      · rw [if_pos ⟨rfl, e⟩, if_pos ⟨rfl, e⟩]
      · rw [if_neg (fun z => e z.2), if_neg (fun z => e z.2)]
        exact t4 j (by omega)
    · rw [zst_k, if_neg (by omega), eC, zst_k, if_neg (by omega), eR]
      exact h4
    · rw [zst_k, if_neg (by omega), eC]
      exact h5
    · rw [zst_k, if_neg (by omega), eC]
      exact h6
    · rw [zst_k, if_neg (by omega), eC]
      exact h7
    · rw [zst_k, if_neg (by omega), eR]
      exact h8
    · rw [zst_n _ (by decide), zst_n _ (by decide)]
      exact h9
    · rw [zst_n _ (by decide), zst_n _ (by decide)]
      exact h10
    · rw [zst_k, if_neg (by omega), eC]
    · rw [t2, if_neg g, zgd_n (zgi rfl ht (by omega)), zcn (by omega), zlt_r, zlt_r, eC, t2, nI_1]
/-- where the body of a voice is, from kind a on -/
def atS (s a : Nat) : Nat := if zBODY (4 * a + s) = 0 then (if zBODY (4 * (zABOVE a).toNatClampNeg + s) = 0 then (zABOVE (zABOVE a).toNatClampNeg).toNatClampNeg else (zABOVE a).toNatClampNeg) else a
theorem ca_spk {s a : Nat} (hs : s < 4) (ha : a < 7) (y3 y4 : Int32) (kk : Int32 → zM → Option (Int32 × zM)) (C : zM) : fX5_speak_24 (nI s) y3 y4 kk zF (nI a) 0 C = kk (nI (atS s a)) C := by
  rcases (show s = 0 ∨ s = 1 ∨ s = 2 ∨ s = 3 by omega) with e | e | e | e <;> subst e <;> rcases (show a = 0 ∨ a = 1 ∨ a = 2 ∨ a = 3 ∨ a = 4 ∨ a = 5 ∨ a = 6 by omega) with e | e | e | e | e | e | e <;> subst e <;> rfl
/-- speak of the class, once its body has begun -/
def spB (dd : Nat) (s a : Nat) (x e : Int32) (C : zM) : Option (Int32 × zM) := if (20 : Int32) ≤ zBODY (4 * atS s a + s) then (zbi (fX5_ofOthers (fX5_speak dd) (zBODY (4 * atS s a + s)) (zABOVE (atS s a)) x e C) (fun r19 M20 => some (r19, M20))) else (zbi (fX5_ofWheel (fX5_speak dd) (zBODY (4 * atS s a + s)) x e C) (fun r22 M23 => some (r22, M23)))
theorem atS_lt {s a : Nat} (hs : s < 4) (ha : a < 7) : atS s a < 7 := by
  rcases (show s = 0 ∨ s = 1 ∨ s = 2 ∨ s = 3 by omega) with e | e | e | e <;> subst e <;> rcases (show a = 0 ∨ a = 1 ∨ a = 2 ∨ a = 3 ∨ a = 4 ∨ a = 5 ∨ a = 6 by omega) with e | e | e | e | e | e | e <;> subst e <;> decide
theorem ca_speak {k w : Nat} {m : Int32} {C R : zM} (h : VS k w m C R) {s a e : Nat} (hs : s < 4) (ha : a < 7) (he : e ≤ 40) (x : Int32) :
    ∃ C1 R1, fX8_begins (zBODY (4 * atS s a + s)) R = some R1 ∧ VS k w m C1 R1 ∧ VC C C1 ∧ VG R R1 ∧ C1 76 2 = C 76 2 ∧ ∀ dd, fX5_speak (dd + 1) (nI a) (nI s) x (nI e) C = spB dd s a x (nI e) C1 := by
  obtain ⟨C1, R1, a1, a2, a3, a4, a5, a6⟩ := h.begin (zBODY (4 * atS s a + s))
  refine ⟨C1, R1, a1, a2, a3, a4, a5, fun dd => ?_⟩
  have hat := atS_lt hs ha
  have g0 : ¬ (40 : Int32) < nI e := nI_ltN (a := 40) (b := e) (by omega) (by omega) he
  have g1 : ¬ nI s < 0 := nI_ltN (a := s) (b := 0) (by omega) (by omega) (by omega)
  have g2 : nI s ≤ 3 := nI_leY (a := s) (b := 3) (by omega) (by omega) (by omega)
  have ei : (4 : Int32) * nI (atS s a) + nI s = nI (4 * atS s a + s) := by rw [show (4 : Int32) * nI (atS s a) = nI (4 * atS s a) from pk_mul 4 _, nI_add]
  rw [fX5_speak, if_neg g0, if_neg g1, if_pos g2, ca_spk hs ha, ei, zgd_n (zgi rfl (show 4 * atS s a + s < 28 by omega) (by omega)), zcn (by omega), zlt_r]
  have hz : ∀ k : Option (Int32 × zM), zgd (nI (atS s a) < 0 ∨ 7 ≤ (nI (atS s a)).toNatClampNeg) k = k := fun k => zgd_n (zgi rfl hat (by omega))
  have hc : (nI (atS s a)).toNatClampNeg = atS s a := zcn (by omega)
  simp only [hz]
  rw [hc]
  exact a6 (fun M => spB dd s a x (nI e) M)
theorem ra_above {a : Nat} (ha : a < 7) (M : zM) : fX8_above (nI a) M = some (zABOVE a, M) := by
  rcases (show a = 0 ∨ a = 1 ∨ a = 2 ∨ a = 3 ∨ a = 4 ∨ a = 5 ∨ a = 6 by omega) with e | e | e | e | e | e | e <;> subst e <;> rfl
theorem VS.kind {k w : Nat} {m : Int32} {C R : zM} (h : VS k w m C R) : fX8_kindNow R = some (nI k, R) := by
  obtain ⟨h1, h2, -, h4, h5, h6, h7, h8, h9, h10⟩ := h
  rw [fX8_kindNow, h8, ra_itsS (k := 0) (x := (0 : Int32)) rfl (by omega) (by omega), zbi_s, h9]
theorem VS.mNow {k w : Nat} {m : Int32} {C R : zM} (h : VS k w m C R) : fX8_mNow R = some (m, R) := by
  obtain ⟨h1, h2, -, h4, h5, h6, h7, h8, h9, h10⟩ := h
  rw [fX8_mNow, h8, ra_itsS (k := 1) (x := (1 : Int32)) rfl (by omega) (by omega), zbi_s, h10]
theorem VJ.id {k w : Nat} {m : Int32} {p : Prop} {C R : zM} {oC oR : Option (Int32 × zM)} (h : VJ k w m p C R oC oR) : VJ k w m p C R (zbi oC (fun r M => some (r, M))) (zbi oR (fun r M => some (r, M))) := h.map fun r C' R' _ => ⟨r, rfl, rfl⟩
theorem VJ.idL {k w : Nat} {m : Int32} {p : Prop} {C R : zM} {oC oR : Option (Int32 × zM)} (h : VJ k w m p C R oC oR) : VJ k w m p C R (zbi oC (fun r M => some (r, M))) oR := by
  obtain ⟨r, C', R', a1, a2, a3⟩ := h
  exact ⟨r, C', R', by rw [a1, zbi_s], a2, a3⟩
theorem VJ.idR {k w : Nat} {m : Int32} {p : Prop} {C R : zM} {oC oR : Option (Int32 × zM)} (h : VJ k w m p C R oC oR) : VJ k w m p C R oC (zbi oR (fun r M => some (r, M))) := by
  obtain ⟨r, C', R', a1, a2, a3⟩ := h
  exact ⟨r, C', R', a1, by rw [a2, zbi_s], a3⟩
theorem spO {dd s a : Nat} {b c x e : Int32} {C : zM} (hb : zBODY (4 * atS s a + s) = b) (ha : zABOVE (atS s a) = c) (h : (20 : Int32) ≤ b) : spB dd s a x e C = zbi (fX5_ofOthers (fX5_speak dd) b c x e C) (fun r M => some (r, M)) := by
  rw [spB, hb, ha, if_pos h]
theorem spW {dd s a : Nat} {b x e : Int32} {C : zM} (hb : zBODY (4 * atS s a + s) = b) (h : ¬ (20 : Int32) ≤ b) : spB dd s a x e C = zbi (fX5_ofWheel (fX5_speak dd) b x e C) (fun r M => some (r, M)) := by
  rw [spB, hb, if_neg h]
section oo
variable (rec : Int32 → Int32 → Int32 → Int32 → zM → Option (Int32 × zM)) (a x e : Int32) (M : zM)
theorem oo20 : fX5_ofOthers rec 20 a x e M = zbi (rec a 0 x (e + 1) M) (fun r M => some (r - 4, M)) := rfl
theorem oo21 : fX5_ofOthers rec 21 a x e M = zbi (fX5_partsOfSlow rec a x (e + 1) M) (fun r M => some (r, M)) := rfl
theorem oo30 : fX5_ofOthers rec 30 a x e M = zbi (rec a 1 x (e + 1) M) (fun r M => some (0 - r, M)) := rfl
theorem oo40 : fX5_ofOthers rec 40 a x e M = zbi (rec a 2 (x / 2) (e + 1) M) (fun r M => some (r, M)) := rfl
theorem oo50 : fX5_ofOthers rec 50 a x e M = zbi (rec a 0 x (e + 1) M) (fun r M => some (r * 3, M)) := rfl
theorem oo51 : fX5_ofOthers rec 51 a x e M = zbi (rec a 2 x (e + 1) M) (fun r M => some (r ^^^ (M 76 4), M)) := rfl
theorem oo60 : fX5_ofOthers rec 60 a x e M = zbi (rec a 1 (x + 1) (e + 1) M) (fun r M => some (r, M)) := rfl
theorem oo71 : fX5_ofOthers rec 71 a x e M = zbi (rec a 1 x (e + 1) M) (fun r M => some (r + (M 76 5), M)) := rfl
theorem ow11 : fX5_ofWheel rec 11 x e M = zbi (rec (M 76 3) 0 x (e + 1) M) (fun r M => some (r * 2, M)) := rfl
theorem ow12 : fX5_ofWheel rec 12 x e M = zbi (rec (M 76 3) 1 x (e + 1) M) (fun r M => some (r - (M 76 5), M)) := rfl
end oo
/-! flows -/
theorem vF0 {k w : Nat} {m : Int32} {C R : zM} (h : VS k w m C R) {p : Prop} {a e dd gg : Nat} (ha : a < 7) (hat : atS 0 a = 0) (he : e ≤ 40) (x : Int32) : VJ k w m p C R (fX5_speak (dd + 1) (nI a) 0 x (nI e) C) (fX8_flowsAs (gg + 1) 0 x R) := by
  obtain ⟨C1, R1, a1, a2, a3, a4, a5, a6⟩ := ca_speak h (s := 0) (by omega) ha he x
  rw [hat] at a1
  refine VJ.fr (C1 := C1) (R1 := R1) ?_ a3 a4 a5
  rw [show (0 : Int32) = nI 0 from rfl, a6 dd, spB, hat]
  show VJ k w m p C1 R1 (some (x + C1 76 4, C1)) (zbv (fX8_begins 10 R) _)
  rw [show (10 : Int32) = zBODY (4 * 0 + 0) from rfl, a1, zbv_s]
  exact VJ.done a2 (by rw [a2.2.2.2.2.2.1, a2.2.2.2.2.2.2.2.1])
theorem vF1 {k w : Nat} {m : Int32} {C R : zM} (h : VS k w m C R) {p : Prop} {e dd gg : Nat} (he : e ≤ 39) (x : Int32) : VJ k w m p C R (fX5_speak (dd + 2) 1 0 x (nI e) C) (fX8_flowsAs (gg + 2) 1 x R) := by
  obtain ⟨C1, R1, a1, a2, a3, a4, a5, a6⟩ := ca_speak h (s := 0) (a := 1) (e := e) (by omega) (by omega) (by omega) x
  refine VJ.fr (C1 := C1) (R1 := R1) ?_ a3 a4 a5
  have g := vF0 a2 (p := p) (a := 0) (e := e + 1) (dd := dd) (gg := gg) (by omega) rfl (by omega) x
  rw [show (1 : Int32) = nI 1 from rfl, show (0 : Int32) = nI 0 from rfl, a6 (dd + 1), spO (b := 20) (c := 0) (rfl) (rfl) (by decide), oo20]
  show VJ k w m p C1 R1 _ (zbv (fX8_begins 20 R) _)
  rw [show (20 : Int32) = zBODY (4 * atS 0 1 + 0) from rfl, a1, zbv_s, nI_1]
  exact VJ.idL (g.map fun r C' R' _ => ⟨r - 4, rfl, rfl⟩)
theorem vF {k w : Nat} {m : Int32} {C R : zM} (h : VS k w m C R) {p : Prop} {a e dd gg : Nat} (ha : a < 7) (he : e ≤ 38) (x : Int32) : VJ k w m p C R (fX5_speak (dd + 3) (nI a) 0 x (nI e) C) (fX8_flowsAs (gg + 4) (nI a) x R) := by
  rcases (show a = 0 ∨ a = 1 ∨ a = 2 ∨ a = 3 ∨ a = 4 ∨ a = 5 ∨ a = 6 by omega) with q | q | q | q | q | q | q <;> subst q
  · exact vF0 h (a := 0) (dd := dd + 2) (gg := gg + 3) (by omega) rfl (by omega) x
  · exact vF1 h (dd := dd + 1) (gg := gg + 2) (by omega) x
  · exact (vF0 h (a := 2) (dd := dd + 2) (gg := gg + 2) (by omega) rfl (by omega) x).idR
  · exact (vF0 h (a := 3) (dd := dd + 2) (gg := gg + 2) (by omega) rfl (by omega) x).idR
  · obtain ⟨C1, R1, a1, a2, a3, a4, a5, a6⟩ := ca_speak h (s := 0) (a := 4) (e := e) (by omega) (by omega) (by omega) x
    refine VJ.fr (C1 := C1) (R1 := R1) ?_ a3 a4 a5
    have g := vF1 a2 (p := p) (e := e + 1) (dd := dd) (gg := gg + 1) (by omega) x
    rw [show (0 : Int32) = nI 0 from rfl, a6 (dd + 2), spO (b := 50) (c := 1) (rfl) (rfl) (by decide), oo50]
    show VJ k w m p C1 R1 _ (zbv (fX8_begins 50 R) _)
    rw [show (50 : Int32) = zBODY (4 * atS 0 4 + 0) from rfl, a1, zbv_s, nI_1]
    exact VJ.idL (g.map fun r C' R' _ => ⟨r * 3, rfl, rfl⟩)
  · exact (vF0 h (a := 5) (dd := dd + 2) (gg := gg + 1) (by omega) rfl (by omega) x).idR.idR
  · obtain ⟨C1, R1, a1, a2, a3, a4, a5, a6⟩ := ca_speak h (s := 0) (a := 6) (e := e) (by omega) (by omega) (by omega) x
    refine VJ.fr (C1 := C1) (R1 := R1) ?_ a3 a4 a5
    rw [show (0 : Int32) = nI 0 from rfl, a6 (dd + 2), spB]
    show VJ k w m p C1 R1 (some (2, C1)) (zbv (fX8_begins 70 R) _)
    rw [show (70 : Int32) = zBODY (4 * atS 0 6 + 0) from rfl, a1, zbv_s]
    exact VJ.done a2 rfl
/-! turns -/
theorem vT0 {k w : Nat} {m : Int32} {C R : zM} (h : VS k w m C R) {p : Prop} {a e dd gg : Nat} (ha : a < 7) (hat : atS 1 a = 0) (he : e ≤ 37) (x : Int32) : VJ k w m p C R (fX5_speak (dd + 4) (nI a) 1 x (nI e) C) (fX8_turnsAs (gg + 1) 0 x R) := by
  obtain ⟨C1, R1, a1, a2, a3, a4, a5, a6⟩ := ca_speak h (s := 1) (e := e) (by omega) ha (by omega) x
  rw [hat] at a1
  refine VJ.fr (C1 := C1) (R1 := R1) ?_ a3 a4 a5
  rw [show (1 : Int32) = nI 1 from rfl, a6 (dd + 3), spW (b := 11) (by rw [hat]; rfl) (by decide), ow11]
  show VJ k w m p C1 R1 _ (zbv (fX8_begins 11 R) _)
  rw [show (11 : Int32) = zBODY (4 * 0 + 1) from rfl, a1, zbv_s, nI_1, a2.kind, zbi_s, a2.2.2.2.2.1]
  exact VJ.idL ((vF a2 (gg := 4) a2.1 (by omega) x).map fun r C' R' _ => ⟨r * 2, rfl, rfl⟩)
theorem vT {k w : Nat} {m : Int32} {C R : zM} (h : VS k w m C R) {p : Prop} {a e dd gg : Nat} (ha : a < 7) (he : e ≤ 36) (x : Int32) : VJ k w m p C R (fX5_speak (dd + 5) (nI a) 1 x (nI e) C) (fX8_turnsAs (gg + 4) (nI a) x R) := by
  rcases (show a = 0 ∨ a = 1 ∨ a = 2 ∨ a = 3 ∨ a = 4 ∨ a = 5 ∨ a = 6 by omega) with q | q | q | q | q | q | q <;> subst q
  · exact vT0 h (a := 0) (dd := dd + 1) (gg := gg + 3) (by omega) rfl (by omega) x
  · exact (vT0 h (a := 1) (dd := dd + 1) (gg := gg + 2) (by omega) rfl (by omega) x).idR
  · obtain ⟨C1, R1, a1, a2, a3, a4, a5, a6⟩ := ca_speak h (s := 1) (a := 2) (e := e) (by omega) (by omega) (by omega) x
    refine VJ.fr (C1 := C1) (R1 := R1) ?_ a3 a4 a5
    have g := vT0 a2 (p := p) (a := 0) (e := e + 1) (dd := dd) (gg := gg + 2) (by omega) rfl (by omega) x
    rw [show (1 : Int32) = nI 1 from rfl, a6 (dd + 4), spO (b := 30) (c := 0) (rfl) (rfl) (by decide), oo30]
    show VJ k w m p C1 R1 _ (zbv (fX8_begins 30 R) _)
    rw [show (30 : Int32) = zBODY (4 * atS 1 2 + 1) from rfl, a1, zbv_s, nI_1]
    exact VJ.idL (g.map fun r C' R' _ => ⟨0 - r, rfl, rfl⟩)
  · exact (vT0 h (a := 3) (dd := dd + 1) (gg := gg + 2) (by omega) rfl (by omega) x).idR
  · exact (vT0 h (a := 4) (dd := dd + 1) (gg := gg + 1) (by omega) rfl (by omega) x).idR.idR
  · obtain ⟨C1, R1, a1, a2, a3, a4, a5, a6⟩ := ca_speak h (s := 1) (a := 5) (e := e) (by omega) (by omega) (by omega) x
    refine VJ.fr (C1 := C1) (R1 := R1) ?_ a3 a4 a5
    have g := vT0 a2 (p := p) (a := 3) (e := e + 1) (dd := dd) (gg := gg + 1) (by omega) rfl (by omega) (x + 1)
    rw [show (1 : Int32) = nI 1 from rfl, a6 (dd + 4), spO (b := 60) (c := 3) (rfl) (rfl) (by decide), oo60]
    show VJ k w m p C1 R1 _ (zbv (fX8_begins 60 R) _)
    rw [show (60 : Int32) = zBODY (4 * atS 1 5 + 1) from rfl, a1, zbv_s, nI_1]
    exact VJ.idL (g.idR.map fun r C' R' _ => ⟨r, rfl, rfl⟩)
  · obtain ⟨C1, R1, a1, a2, a3, a4, a5, a6⟩ := ca_speak h (s := 1) (a := 6) (e := e) (by omega) (by omega) (by omega) x
    refine VJ.fr (C1 := C1) (R1 := R1) ?_ a3 a4 a5
    have g := vT0 a2 (p := p) (a := 0) (e := e + 1) (dd := dd) (gg := gg + 2) (by omega) rfl (by omega) x
    rw [show (1 : Int32) = nI 1 from rfl, a6 (dd + 4), spO (b := 71) (c := 0) (rfl) (rfl) (by decide), oo71]
    show VJ k w m p C1 R1 _ (zbv (fX8_begins 71 R) _)
    rw [show (71 : Int32) = zBODY (4 * atS 1 6 + 1) from rfl, a1, zbv_s, nI_1]
    exact VJ.idL (g.map (A := fun r M => some (r + M 76 5, M)) (B := fun r38 M39 => zbi (fX8_mNow M39) (fun r41 M42 => some (r38 + r41, M42))) fun r C' R' z => ⟨r + m, by rw [z.2.2.2.2.2.2.1], by rw [z.mNow, zbi_s]⟩)
/-! prays -/
theorem vP0 {k w : Nat} {m : Int32} {C R : zM} (h : VS k w m C R) {p : Prop} {a e dd gg : Nat} (ha : a < 7) (hat : atS 2 a = 0) (he : e ≤ 35) (x : Int32) : VJ k w m p C R (fX5_speak (dd + 6) (nI a) 2 x (nI e) C) (fX8_praysAs (gg + 1) 0 x R) := by
  obtain ⟨C1, R1, a1, a2, a3, a4, a5, a6⟩ := ca_speak h (s := 2) (e := e) (by omega) ha (by omega) x
  rw [hat] at a1
  refine VJ.fr (C1 := C1) (R1 := R1) ?_ a3 a4 a5
  rw [show (2 : Int32) = nI 2 from rfl, a6 (dd + 5), spW (b := 12) (by rw [hat]; rfl) (by decide), ow12]
  show VJ k w m p C1 R1 _ (zbv (fX8_begins 12 R) _)
  rw [show (12 : Int32) = zBODY (4 * 0 + 2) from rfl, a1, zbv_s, nI_1, a2.kind, zbi_s, a2.2.2.2.2.1]
  exact VJ.idL ((vT a2 (gg := 4) a2.1 (by omega) x).map fun r C' R' z => ⟨r - m, by rw [z.2.2.2.2.2.2.1], by rw [z.mNow, zbi_s]⟩)
theorem vP3 {k w : Nat} {m : Int32} {C R : zM} (h : VS k w m C R) {p : Prop} {a e dd gg : Nat} (ha : a < 7) (hat : atS 2 a = 3) (he : e ≤ 34) (x : Int32) : VJ k w m p C R (fX5_speak (dd + 7) (nI a) 2 x (nI e) C) (fX8_praysAs (gg + 2) 3 x R) := by
  obtain ⟨C1, R1, a1, a2, a3, a4, a5, a6⟩ := ca_speak h (s := 2) (e := e) (by omega) ha (by omega) x
  rw [hat] at a1
  refine VJ.fr (C1 := C1) (R1 := R1) ?_ a3 a4 a5
  have g := vP0 a2 (p := p) (a := 0) (e := e + 1) (dd := dd) (gg := gg) (by omega) rfl (by omega) (x / 2)
  have e2 : (2 : Int32) = nI 2 := rfl
  have ew := a6 (dd + 6)
  rw [show nI 2 = (2 : Int32) from rfl] at ew
  rw [ew, spO (b := 40) (c := 0) (by rw [hat]; rfl) (by rw [hat]; rfl) (by decide), oo40]
  show VJ k w m p C1 R1 _ (zbv (fX8_begins 40 R) _)
  rw [show (40 : Int32) = zBODY (4 * 3 + 2) from rfl, a1, zbv_s, nI_1]
  exact VJ.idL (g.map fun r C' R' _ => ⟨r, rfl, rfl⟩)
theorem vP {k w : Nat} {m : Int32} {C R : zM} (h : VS k w m C R) {p : Prop} {a e dd gg : Nat} (ha : a < 7) (he : e ≤ 34) (x : Int32) : VJ k w m p C R (fX5_speak (dd + 7) (nI a) 2 x (nI e) C) (fX8_praysAs (gg + 4) (nI a) x R) := by
  rcases (show a = 0 ∨ a = 1 ∨ a = 2 ∨ a = 3 ∨ a = 4 ∨ a = 5 ∨ a = 6 by omega) with q | q | q | q | q | q | q <;> subst q
  · exact vP0 h (a := 0) (dd := dd + 1) (gg := gg + 3) (by omega) rfl (by omega) x
  · exact (vP0 h (a := 1) (dd := dd + 1) (gg := gg + 2) (by omega) rfl (by omega) x).idR
  · exact (vP0 h (a := 2) (dd := dd + 1) (gg := gg + 2) (by omega) rfl (by omega) x).idR
  · exact vP3 h (a := 3) (dd := dd) (gg := gg + 2) (by omega) rfl (by omega) x
  · obtain ⟨C1, R1, a1, a2, a3, a4, a5, a6⟩ := ca_speak h (s := 2) (a := 4) (e := e) (by omega) (by omega) (by omega) x
    refine VJ.fr (C1 := C1) (R1 := R1) ?_ a3 a4 a5
    have g := vP0 a2 (p := p) (a := 1) (e := e + 1) (dd := dd) (gg := gg + 1) (by omega) rfl (by omega) x
    rw [show (2 : Int32) = nI 2 from rfl, a6 (dd + 6), spO (b := 51) (c := 1) (rfl) (rfl) (by decide), oo51]
    show VJ k w m p C1 R1 _ (zbv (fX8_begins 51 R) _)
    rw [show (51 : Int32) = zBODY (4 * atS 2 4 + 2) from rfl, a1, zbv_s, nI_1]
    exact VJ.idL (g.idR.map (A := fun r M => some (r ^^^ M 76 4, M)) (B := fun r31 M32 => some (r31 ^^^ (M32 87 21), M32)) fun r C' R' z => ⟨r ^^^ nI w, by rw [z.2.2.2.2.2.1], by rw [z.2.2.2.2.2.2.2.1]⟩)
  · exact (vP3 h (a := 5) (dd := dd) (gg := gg + 1) (by omega) rfl (by omega) x).idR
  · exact (vP0 h (a := 6) (dd := dd + 1) (gg := gg + 2) (by omega) rfl (by omega) x).idR
