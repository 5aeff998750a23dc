theorem ow13 (rec : Int32 → Int32 → Int32 → Int32 → zM → Option (Int32 × zM)) (x e : Int32) (M : zM) : fX5_ofWheel rec 13 x e M = zbi (fX5_divided x ((M 76 5) - (M 76 4)) M) (fun r M => some (r, M)) := rfl
theorem zdivm1 (x : Int32) : x / (-1) = -x := by
  apply Int32.toInt_inj.mp
  have e : (-1 : Int32).toInt = -1 := by decide
  rw [Int32.toInt_div, e, Int.tdiv_neg, Int.tdiv_one, Int32.toInt_neg]
/-- what of the state is VS after PARTED has been set -/
theorem VS.part {k w : Nat} {m : Int32} {C R : zM} (h : VS k w m C R) (v : Int32) : VS k w m (zst C 76 2 v) (zst R 87 22 v) := by
  obtain ⟨h1, h2, ⟨t, t1, t2, t3, t4⟩, h4, h5, h6, h7, h8, h9, h10⟩ := h
  refine ⟨h1, h2, ⟨t, t1, ?_, ?_, fun j hj => ?_⟩, ?_, ?_, ?_, ?_, ?_, ?_, ?_⟩
  · rw [zst_k, if_neg (by omega)]
    exact t2
  · rw [zst_k, if_neg (by omega)]
    exact t3
  · rw [zst_n _ (by decide), zst_n _ (by decide)]
    exact t4 j hj
  · rw [zst_k, if_pos ⟨rfl, rfl⟩, zst_k, if_pos ⟨rfl, rfl⟩]
  · rw [zst_k, if_neg (by omega)]
    exact h5
  · rw [zst_k, if_neg (by omega)]
    exact h6
  · rw [zst_k, if_neg (by omega)]
    exact h7
  · rw [zst_k, if_neg (by omega)]
    exact h8
  · rw [zst_n _ (by decide)]
    exact h9
  · rw [zst_n _ (by decide)]
    exact h10
theorem vR0 {k w : Nat} {m : Int32} {C R : zM} (h : VS k w m C R) (h0 : C 76 2 = 0) {a e dd gg : Nat} (ha : a < 7) (hat : atS 3 a = 0) (he : e ≤ 40) (x : Int32) : VJ k w m True C R (fX5_speak (dd + 1) (nI a) 3 x (nI e) C) (fX8_partsAs (gg + 1) 0 x R) := by
  obtain ⟨C1, R1, a1, a2, a3, a4, a5, a6⟩ := ca_speak h (s := 3) (e := e) (by omega) ha he x
  rw [hat] at a1
  refine VJ.fr (C1 := C1) (R1 := R1) ?_ a3 a4 a5
  rw [h0] at a5
  have e87 : R1 87 22 = 0 := by rw [← a2.2.2.2.1, a5]
  rw [show (3 : Int32) = nI 3 from rfl, a6 dd, spW (b := 13) (by rw [hat]; rfl) (by decide), ow13]
  show VJ k w m True C1 R1 _ (zbv (fX8_begins 13 R) _)
  rw [show (13 : Int32) = zBODY (4 * 0 + 3) from rfl, a1, zbv_s, a2.mNow, zbi_s, a2.2.2.2.2.2.1, a2.2.2.2.2.2.2.1, a2.2.2.2.2.2.2.2.1, zlt_r, fX5_divided]
  by_cases c : m - nI w = 0
  · rw [if_pos c, zlt_r, zbi_s, if_pos c, zlt_r, if_pos c]
    refine ⟨0, zst C1 76 2 1, zst R1 87 22 1, rfl, rfl, a2.part 1, fun c g1 _ => zst_n _ g1, ⟨fun c g1 _ => zst_n _ g1, fun j _ g2 => by rw [zst_k, if_neg (fun z => g2 z.2)]⟩, Or.inl trivial⟩
  · have eC : zst C1 76 2 0 = C1 := by
      funext c
      rw [zst_a]
      by_cases g : c = 76
      · rw [if_pos g, g, upd_id a5.symm]
      · rw [if_neg g]
    have v1 := a2.part 0
    rw [eC] at v1
    rw [if_neg c, zgd_n c, zbi_s, if_neg c, zlt_r, if_neg c]
    have fin : ∀ r r' : Int32, r = r' → VJ k w m True C1 R1 (some (r, C1)) (some (r', zst R1 87 22 0)) := fun r r' er => ⟨r, C1, zst R1 87 22 0, rfl, by rw [er], v1, VC.rf, ⟨fun c g1 _ => zst_n _ g1, fun j _ g2 => by rw [zst_k, if_neg (fun z => g2 z.2)]⟩, Or.inl trivial⟩
    by_cases g : m - nI w = -1
    · rw [if_pos g, g]
      exact fin _ _ (zdivm1 x)
    · rw [if_neg g, zgd_n c]
      exact fin _ _ rfl
theorem VJ.fr2 {k w : Nat} {m : Int32} {C R C1 R1 : zM} {oC oR : Option (Int32 × zM)} (h : VJ k w m True C1 R1 oC oR) (f : VC C C1) (g : VG R R1) : VJ k w m True C R oC oR := by
  obtain ⟨r, C', R', a1, a2, a3, a4, a5, a6⟩ := h
  exact ⟨r, C', R', a1, a2, a3, f.tr a4, g.tr a5, Or.inl trivial⟩
theorem vR1 {k w : Nat} {m : Int32} {C R : zM} (h : VS k w m C R) (h0 : C 76 2 = 0) {a e dd gg : Nat} (ha : a < 7) (hat : atS 3 a = 1) (he : e ≤ 35) (x : Int32) : VJ k w m True C R (fX5_speak (dd + 6) (nI a) 3 x (nI e) C) (fX8_partsAs (gg + 2) 1 x R) := by
  obtain ⟨C1, R1, a1, a2, a3, a4, a5, a6⟩ := ca_speak h (s := 3) (e := e) (by omega) ha (by omega) x
  rw [hat] at a1
  refine VJ.fr (C1 := C1) (R1 := R1) ?_ a3 a4 a5
  rw [h0] at a5
  obtain ⟨r, C2, R2, b1, b2, b3, b4, b5, -⟩ := vR0 a2 a5 (a := 0) (e := e + 1) (dd := dd + 4) (gg := gg) (by omega) rfl (by omega) x
  rw [show (3 : Int32) = nI 3 from rfl, a6 (dd + 5), spO (b := 21) (c := 0) (by rw [hat]; rfl) (by rw [hat]; rfl) (by decide), oo21, fX5_partsOfSlow, nI_1]
  show VJ k w m True C1 R1 (zbi (zbi (zbi (fX5_speak (dd + 4 + 1) (nI 0) 3 x (nI (e + 1)) C1) _) _) _) (zbv (fX8_begins 21 R) _)
  rw [show (21 : Int32) = zBODY (4 * 1 + 3) from rfl, a1, zbv_s, b1, zbi_s]
  have eab : fX8_above 1 R1 = some (0, R1) := rfl
  rw [eab, zbi_s, b2, zbi_s]
  refine VJ.fr2 ?_ b4 b5
  by_cases c : C2 76 2 = 0
  · rw [if_pos c, if_pos (by rw [← b3.2.2.2.1]; exact c), b3.kind, zbi_s, b3.2.2.2.2.1]
    exact VJ.idL (VJ.idL ((vT b3 (p := True) (dd := dd) (gg := 4) b3.1 (by omega) 1).map (A := fun r5 M6 => some (r + r5, M6)) (B := fun r32 M33 => some (r + r32, M33)) fun r' C' R' _ => ⟨r + r', rfl, rfl⟩))
  · rw [if_neg c, if_neg (fun z => c (by rw [b3.2.2.2.1]; exact z)), zbi_s, zbi_s]
    exact VJ.done b3 rfl
theorem vR {k w : Nat} {m : Int32} {C R : zM} (h : VS k w m C R) (h0 : C 76 2 = 0) {a e dd gg : Nat} (ha : a < 7) (he : e ≤ 35) (x : Int32) : VJ k w m True C R (fX5_speak (dd + 6) (nI a) 3 x (nI e) C) (fX8_partsAs (gg + 4) (nI a) x R) := by
  rcases (show a = 0 ∨ a = 1 ∨ a = 2 ∨ a = 3 ∨ a = 4 ∨ a = 5 ∨ a = 6 by omega) with q | q | q | q | q | q | q <;> subst q
  · exact vR0 h h0 (a := 0) (dd := dd + 5) (gg := gg + 3) (by omega) rfl (by omega) x
  · exact vR1 h h0 (a := 1) (dd := dd) (gg := gg + 2) (by omega) rfl (by omega) x
  · exact (vR0 h h0 (a := 2) (dd := dd + 5) (gg := gg + 2) (by omega) rfl (by omega) x).idR
  · exact (vR0 h h0 (a := 3) (dd := dd + 5) (gg := gg + 2) (by omega) rfl (by omega) x).idR
  · exact (vR1 h h0 (a := 4) (dd := dd) (gg := gg + 1) (by omega) rfl (by omega) x).idR
  · exact (vR0 h h0 (a := 5) (dd := dd + 5) (gg := gg + 1) (by omega) rfl (by omega) x).idR.idR
  · exact (vR0 h h0 (a := 6) (dd := dd + 5) (gg := gg + 2) (by omega) rfl (by omega) x).idR
theorem Rel2.voice {C C' R R' : zM} (h : Rel2 C R) (t : TR C' R') (hc : VC C C') (hr : ∀ c, c ≠ 87 → c ≠ 98 → R' c = R c) (h3 : R' 87 3 = R 87 3) : Rel2 C' R' := by
  obtain ⟨a1, a2, a3, a4, a5, a6, a7⟩ := h
  have r88 : R' 88 = R 88 := hr _ (by decide) (by decide)
  have r89 : R' 89 = R 89 := hr _ (by decide) (by decide)
  refine ⟨?_, ?_, ?_, fun z => ⟨?_, ?_⟩, fun k hk => ?_, t, fun k hk => ?_⟩
  · rw [r88]
    exact a1.cg (AG.eq fun c _ _ => hc c (by omega) (by omega)) (fun _ _ => rfl)
  · rw [r88]
    exact a2.cg (by rw [hc _ (by omega) (by omega)]) (by rw [hc _ (by omega) (by omega)]) (hc _ (by omega) (by omega)) (hc _ (by omega) (by omega)) rfl rfl (fun _ _ _ => rfl)
  · rw [hc _ (by omega) (by omega), h3]
    exact a3
  · rw [r89]
    rw [h3] at z
    exact (a4 z).1.cg (AG.eq fun c _ _ => hc c (by omega) (by omega)) (fun _ _ => rfl)
  · rw [r89]
    rw [h3] at z
    exact (a4 z).2.cg (by rw [hc _ (by omega) (by omega)]) (by rw [hc _ (by omega) (by omega)]) (hc _ (by omega) (by omega)) (hc _ (by omega) (by omega)) rfl rfl (fun _ _ _ => rfl)
  · rw [hc _ (by omega) (by omega), hr 91 (by decide) (by decide)]
    exact a5 k hk
  · obtain ⟨b1, b2, z, b3, b4, b5, b6⟩ := a7 k hk
    rw [hr 99 (by decide) (by decide), hr 100 (by decide) (by decide), hr 101 (by decide) (by decide), hc 80 (by decide) (by decide), hc 81 (by decide) (by decide), hc (82 + k) (by omega) (by omega)]
    exact ⟨b1, b2, z, b3, b4, b5, b6⟩
theorem eq_voice (p0 p1 p2 : Int32) {C R : zM} (h : Rel2 C R) : EQA C R (fX7_voice p0 p1 p2 C) (fX8_voice p0 p1 p2 R) := by
  unfold fX7_voice fX8_voice
  refine EQA.whl h fun n hh w hV h9 hC hw ew => ?_
  refine EQA.out0 h (m := 3) rfl (by omega) fun j hj e => ?_
  subst ew
  have hn := hV.1
  obtain ⟨a, ha, ea, -⟩ : ∃ a : Nat, a ≤ 6 ∧ itS (R 88) w 0 = nI a ∧ a < 2147483648 := zof (n := 6) (hV.2.2.2.2.2.2.2.2.1 w hw).1.1 (hV.2.2.2.2.2.2.2.2.1 w hw).1.2
  rw [zgd_n (zgi rfl (show w < 8 by omega) (by omega)), zlt_r, zcn (by omega), show 9 + w = 1 + 8 + w by omega, cb_its hC hw (show 0 < 7 by omega), cb_its hC hw (show 1 < 7 by omega), fX5_answer, zlt_r, zlt_r, zlt_r, zlt_r, zlt_r, zlt_r, zlt_r, zlt_r, ea]
  generalize hC1 : zst (zst (zst (zst (zst C 76 3 (nI a)) 76 4 (nI w)) 76 5 (itS (R 88) w 1)) 76 1 0) 76 2 0 = C1
  generalize hR1 : zst (zst (zst R 87 20 0) 87 21 (nI w)) 87 22 0 = R1
  have fc : VC C C1 := fun c g1 _ => by rw [← hC1, zst_n _ g1, zst_n _ g1, zst_n _ g1, zst_n _ g1, zst_n _ g1]
  have fr : ∀ c, c ≠ 87 → R1 c = R c := fun c g1 => by rw [← hR1, zst_n _ g1, zst_n _ g1, zst_n _ g1]
  have f3 : ∀ j, j ≠ 20 → j ≠ 21 → j ≠ 22 → R1 87 j = R 87 j := fun j g1 g2 g3 => by rw [← hR1, zst_k, if_neg (fun z => g3 z.2), zst_k, if_neg (fun z => g2 z.2), zst_k, if_neg (fun z => g1 z.2)]
  have e2 : C1 76 2 = 0 := by rw [← hC1]; simp [zst_k]
  have e3 : C1 76 3 = nI a := by rw [← hC1]; simp [zst_k]
  have v : VS a w (itS (R 88) w 1) C1 R1 := by
    refine ⟨by omega, by omega, ⟨0, by omega, ?_, ?_, fun j hj => by omega⟩, ?_, e3, ?_, ?_, ?_, ?_, ?_⟩
    · rw [← hC1]; simp [zst_k]; rfl
    · rw [← hR1]; simp [zst_k]; rfl
    · rw [e2, ← hR1]; simp [zst_k]
    · rw [← hC1]; simp [zst_k]
    · rw [← hC1]; simp [zst_k]
    · rw [← hR1]; simp [zst_k]
    · rw [fr 88 (by decide)]
      exact ea
    · rw [fr 88 (by decide)]
  rw [e3, v.kind, zbi_s]
  have fin : ∀ oC oR, VJ a w (itS (R 88) w 1) True C1 R1 oC oR → EQA C R (zbi (zbi oC (fun r6 M7 => some (r6, M7))) (fun r14 M15 => if M15 76 2 = 0 then (some (r14, M15)) else (zbi (fX7_error (6 : Int32) M15) (fun r18 M19 => some (r18, M19))))) (zbi oR (fun r42 M43 => if M43 87 22 = 0 then (some (r42, M43)) else (zbi (fX8_error (6 : Int32) M43) (fun r46 M47 => some (r46, M47))))) := by
    intro oC oR hJ
    obtain ⟨r, C', R', b1, b2, b3, b4, b5, -⟩ := hJ
    have hrel : Rel2 C' R' := h.voice b3.2.2.1 (fc.tr b4) (fun c g1 g2 => by rw [b5.1 c g1 g2, fr c g1]) (by rw [b5.2 3 (by decide) (by decide), f3 3 (by decide) (by decide) (by decide)])
    have ffc : FC C C' := fun c hc => (fc.tr b4) c (by omega) (by omega)
    have ffr : FR R R' := fun c hc => by rw [b5.1 c (by omega) (by omega), fr c (by omega)]
    rw [b1, zbi_s, zbi_s, b2, zbi_s, b3.2.2.2.1]
    by_cases c : R' 87 22 = 0
    · rw [if_pos c, if_pos c]
      exact EQA.done rfl hrel ffc ffr
    · rw [if_neg c, if_neg c]
      exact (EQA.err hrel (k := 6) rfl (by omega)).fr ffc ffr
  rcases (show j = 0 ∨ j = 1 ∨ j = 2 ∨ j = 3 by omega) with q | q | q | q <;> subst q <;> subst e
  · rw [if_pos (show nI 0 = 0 from rfl)]
    exact fin _ _ (vF v (dd := 57) (gg := 4) (by omega) (e := 0) (by omega) p2)
  · rw [if_neg (show ¬ nI 1 = 0 by decide), if_pos (show nI 1 = 1 from rfl)]
    exact fin _ _ (vT v (dd := 55) (gg := 4) (by omega) (e := 0) (by omega) p2)
  · rw [if_neg (show ¬ nI 2 = 0 by decide), if_neg (show ¬ nI 2 = 1 by decide), if_pos (show nI 2 = 2 from rfl)]
    exact fin _ _ (vP v (dd := 53) (gg := 4) (by omega) (e := 0) (by omega) p2)
  · rw [if_neg (show ¬ nI 3 = 0 by decide), if_neg (show ¬ nI 3 = 1 by decide), if_neg (show ¬ nI 3 = 2 by decide)]
    exact fin _ _ (vR v e2 (dd := 54) (gg := 4) (by omega) (e := 0) (by omega) p2)
