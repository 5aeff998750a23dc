/-! ===== the tape ===== -/
theorem zb255 (i : Nat) : (255#32).getLsbD i = decide (i < 8) := by
  rcases Nat.lt_or_ge i 32 with h | h
  · have : ∀ j : Fin 32, (255#32).getLsbD j.val = decide (j.val < 8) := by decide
    exact this ⟨i, h⟩
  · rw [BitVec.getLsbD_of_ge _ _ h, decide_eq_false (by omega)]
theorem zb255' (i : Nat) : (255#64).getLsbD i = decide (i < 8) := by
  rcases Nat.lt_or_ge i 64 with h | h
  · have : ∀ j : Fin 64, (255#64).getLsbD j.val = decide (j.val < 8) := by decide
    exact this ⟨i, h⟩
  · rw [BitVec.getLsbD_of_ge _ _ h, decide_eq_false (by omega)]
theorem zbits (b : BitVec 64) (k : Nat) (hk : k ≤ 56) : (((b >>> k).signExtend 32).signExtend 8).signExtend 32 &&& 255#32 = ((b.sshiftRight k) &&& 255#64).signExtend 32 := by
  apply BitVec.eq_of_getLsbD_eq
  intro i hi
  have i64 : i < 64 := by omega
  by_cases h : i < 8
  · rw [BitVec.getLsbD_and, zb255, BitVec.getLsbD_signExtend, BitVec.getLsbD_signExtend, BitVec.getLsbD_signExtend, BitVec.getLsbD_signExtend, BitVec.getLsbD_and, zb255', BitVec.getLsbD_ushiftRight, BitVec.getLsbD_sshiftRight]
    simp [h, hi, i64, show ¬ 64 ≤ i by omega, show k + i < 64 by omega]
  · rw [BitVec.getLsbD_and, zb255, BitVec.getLsbD_signExtend (x := (b.sshiftRight k) &&& 255#64), BitVec.getLsbD_and, zb255']
    simp [h, hi, i64]
theorem zshb (y : Int64) (x : Int32) (k : Nat) (hk : k ≤ 56) (h1 : (UInt64.mod (x.toInt64.toUInt64 &&& Int64.toUInt64 63) 64).toBitVec.toNat = k) (h2 : ((x.toInt64 &&& 63).toBitVec.smod 64).toNat = k) : (vp_nar .byte (zlushr y x).toInt32.toInt8.toInt32) &&& 255 = ((zlshr y x) &&& (255 : Int64)).toInt32 := by
  rw [vp_nar_byte, Int8.toInt8_toInt32]
  apply Int32.toBitVec_inj.mp
  have e1 : (zlushr y x).toBitVec = y.toBitVec >>> k := by
    rw [← h1]
    rfl
  have e2 : (zlshr y x).toBitVec = y.toBitVec.sshiftRight k := by
    rw [← h2]
    rfl
  have z := zbits y.toBitVec k hk
  rw [← e1, ← e2] at z
  rw [Int32.toBitVec_and, Int8.toBitVec_toInt32, Int32.toBitVec_toInt8, Int64.toBitVec_toInt32, Int64.toBitVec_toInt32, Int64.toBitVec_and]
  exact z
theorem zbyte (y : Int64) {v : Nat} (hv : v < 8) : (vp_nar .byte (zlushr y ((8 : Int32) * nI v)).toInt32.toInt8.toInt32) &&& 255 = ((zlshr y ((8 : Int32) * nI v)) &&& (255 : Int64)).toInt32 := by
  rcases (show v = 0 ∨ v = 1 ∨ v = 2 ∨ v = 3 ∨ v = 4 ∨ v = 5 ∨ v = 6 ∨ v = 7 by omega) with e | e | e | e | e | e | e | e <;> subst e
  · exact zshb y _ 0 (by omega) (by decide) (by decide)
  · exact zshb y _ 8 (by omega) (by decide) (by decide)
  · exact zshb y _ 16 (by omega) (by decide) (by decide)
  · exact zshb y _ 24 (by omega) (by decide) (by decide)
  · exact zshb y _ 32 (by omega) (by decide) (by decide)
  · exact zshb y _ 40 (by omega) (by decide) (by decide)
  · exact zshb y _ 48 (by omega) (by decide) (by decide)
  · exact zshb y _ 56 (by omega) (by decide) (by decide)
theorem zfits (x : Int32) : fits .byte (.int (vp_nar .byte x)) = true := by
  rw [vp_nar_byte]
  show (decide (-128 ≤ x.toInt8.toInt32) && decide (x.toInt8.toInt32 ≤ 127)) = true
  have h0 := Int8.le_toInt x.toInt8
  have h1 := Int8.toInt_lt x.toInt8
  have e : x.toInt8.toInt32.toInt = x.toInt8.toInt := Int8.toInt_toInt32 x.toInt8
  have e1 : (-128 : Int32).toInt = -128 := rfl
  have e2 : (127 : Int32).toInt = 127 := rfl
  rw [Bool.and_eq_true, decide_eq_true_eq, decide_eq_true_eq, zle', zle', e, e1, e2]
  omega
/-- one byte more -/
theorem Rel2.byte {C R : zM} {t : Nat} {b y : Int32} (h : Rel2 C R) (ht : t < 60) (e1 : C 67 2 = nI t) (hb : fits .byte (.int b) = true) (hy : b &&& 255 = y) : Rel2 (zst (zst C 68 t b) 67 2 (nI (t + 1))) (zst (zst R 88 (365 + t) y) 88 3 (nI (t + 1))) := by
  obtain ⟨t', u, a1, a2, a3, a4, a5, a6, a7, a8, a9⟩ := h.2.1
  have e : t' = t := nI_inj' (a4.symm.trans e1) (by omega) (by omega)
  subst e
  refine h.desk ⟨t' + 1, u, by omega, a2, ?_, ?_, ?_, ?_, fun j hj => ?_, fun j hj => ?_, fun j hj => ?_⟩ (fun c h1 h2 _ => by rw [zst_n _ h1, zst_n _ h2]) (fun c hc => by rw [zst_n _ hc, zst_n _ hc]) (fun k hk h3 h4 => by rw [zst_s, zst_s, upd_n _ h3, upd_n _ (by omega)])
  · rw [zst_s, upd_s]
  · rw [zst_k, if_pos ⟨rfl, rfl⟩]
  · rw [zst_s, zst_s, upd_n _ (by omega), upd_n _ (by omega)]
    exact a5
  · rw [zst_k, if_neg (by omega), zst_n _ (by decide)]
    exact a6
  · rw [zst_n _ (by decide), zst_k]
    by_cases g : j = t'
    · rw [if_pos ⟨rfl, g⟩]
      exact hb
    · rw [if_neg (fun z => g z.2)]
      exact a7 j hj
  · rw [zst_n _ (by decide), zst_k, zst_s, zst_s, upd_n _ (by omega), upd_a]
    by_cases g : j = t'
    · rw [if_pos ⟨rfl, g⟩, if_pos (by omega)]
      exact hy
    · rw [if_neg (fun z => g z.2), if_neg (by omega)]
      exact a8 j (by omega)
  · rw [zst_n _ (by decide), zst_n _ (by decide), zst_s, zst_s, upd_n _ (by omega), upd_n _ (by omega)]
    exact a9 j hj
theorem eq_fdloop2 {C0 R0 : zM} {p0 : Int64} {m : Nat} (hm : m ≤ 8) :
    ∀ (d v t : Nat) (C R : zM) (F G : Nat), v + d = m → d < F → d < G → t + d ≤ 60 → Rel2 C R → C 67 2 = nI t → FC C0 C → FR R0 R →
      EQA C0 R0 (zbv (fX1_addBytes_3 67 p0 (nI m) (fun  M8 => some M8) F (nI v) C) (fun M7 => some (M7 67 2, M7))) (fX8_feed_38 p0 (nI m) (fun  M12 => some (M12 88 (3), M12)) G (nI v) R) := by
  intro d
  induction d with
  | zero =>
    intro v t C R F G hv hF hG ht h e1 f g
    obtain ⟨F, rfl⟩ : ∃ E, F = E + 1 := ⟨F - 1, by omega⟩
    obtain ⟨G, rfl⟩ : ∃ E, G = E + 1 := ⟨G - 1, by omega⟩
    have e : v = m := by omega
    subst e
    have g1 : nI v ≤ nI v := nI_leY (by omega) (by omega) (by omega)
    obtain ⟨t', u, a1, a2, a3, a4, -⟩ := h.2.1
    rw [fX1_addBytes_3, if_pos g1, zbv_s, fX8_feed_38, if_pos g1]
    exact EQA.done (a4.trans a3.symm) h f g
  | succ d ih =>
    intro v t C R F G hv hF hG ht h e1 f g
    obtain ⟨F, rfl⟩ : ∃ E, F = E + 1 := ⟨F - 1, by omega⟩
    obtain ⟨G, rfl⟩ : ∃ E, G = E + 1 := ⟨G - 1, by omega⟩
    have g1 : ¬ nI m ≤ nI v := nI_leN (by omega) (by omega) (by omega)
    have g2 : ¬ (60 : Int32) ≤ nI t := nI_leN (a := 60) (b := t) (by omega) (by omega) (by omega)
    obtain ⟨t', u, a1, a2, a3, a4, -⟩ := id h.2.1
    have e3 : R 88 3 = nI t := by rw [a3, ← a4, e1]
    have eC : ∀ b, zst C 68 t b 67 2 = nI t := fun b => by rw [zst_n _ (by decide)]; exact e1
    have eR : ∀ b, zst R 88 (365 + t) b 88 3 = nI t := fun b => by rw [zst_k, if_neg (by omega)]; exact e3
    rw [fX1_addBytes_3, if_neg g1, e1, if_neg g2, zlt_r, zgd_n (zgi rfl (show t < 60 by omega) (by omega)), zcn (by omega), zlt_r, zlt_r, eC, zlt_r, nI_1, nI_1, fX8_feed_38, if_neg g1, zlt_r, e3, show (365 : Int32) + nI t = nI (365 + t) from nI_add 365 t, zgd_n (zgi rfl (show 365 + t < 449 by omega) (by omega)), zcn (by omega), zlt_r, zlt_r, eR, zlt_r, nI_1, nI_1]
    exact ih (v + 1) (t + 1) _ _ F G (by omega) (by omega) (by omega) (by omega) (h.byte (by omega) e1 (zfits _) (zbyte p0 (by omega))) (by rw [zst_k, if_pos ⟨rfl, rfl⟩]) (f.tr (fun c hc => by rw [zst_n _ (by omega), zst_n _ (by omega)])) (g.tr (fun c hc => by rw [zst_n _ (by omega), zst_n _ (by omega)]))
theorem eq_feed (p0 : Int64) (p1 : Int32) {C R : zM} (h : Rel2 C R) : EQA C R (fX7_feed p0 p1 C) (fX8_feed p0 p1 R) := by
  unfold fX7_feed fX8_feed
  refine EQA.out1 h (m := 8) rfl (by omega) fun j j0 hj e => ?_
  subst e
  obtain ⟨t, u, a1, a2, a3, a4, -⟩ := id h.2.1
  rw [a4, a3, nI_add]
  by_cases c : nI (t + j) ≤ (60 : Int32)
  · have c' := (nI_leI (a := t + j) (b := 60) (by omega) (by omega)).mp c
    rw [if_pos c, if_pos c]
    exact eq_fdloop2 hj j 0 t C R zF zF (by omega) (show j < 1000 by omega) (show j < 1000 by omega) c' h a4 FC.rf FR.rf
  · rw [if_neg c, if_neg c]
    exact EQA.err h (k := 4) rfl (by omega)
/-! ===== texts forgotten ===== -/
theorem VR.tx {s s' : zR} {n h : Nat} (hV : VR s n h) (e : ∀ k, k < 115 → k ≠ 3 → k ≠ 4 → s' k = s k) (t0 : VTX s' 115 0) (t1 : VTX s' 240 1) : VR s' n h := by
  obtain ⟨a1, a2, a3, a4, a5, a6, a7, a8, a9, a10, a11⟩ := hV
  refine ⟨a1, by rw [e _ (by omega) (by omega) (by omega)]; exact a2, by rw [e _ (by omega) (by omega) (by omega)]; exact a3, a4, by rw [e _ (by omega) (by omega) (by omega)]; exact a5, fun j hj => by rw [e _ (by omega) (by omega) (by omega)]; exact a6 j hj, fun j hj => by rw [e _ (by omega) (by omega) (by omega)]; exact a7 j hj, fun j hj => by rw [e _ (by omega) (by omega) (by omega), e _ (by omega) (by omega) (by omega)]; exact a8 j hj, fun x hx => ?_, t0, t1⟩
  obtain ⟨b0, b1, b2, b3, b4, b5, b6⟩ := a9 x hx
  refine ⟨?_, ?_, ?_, ?_, ?_, ?_, ?_⟩ <;> rw [e _ (by omega) (by omega) (by omega)] <;> assumption
theorem CB.tx {q n : Nat} {M M' : zM} {s s' : zR} (hn : n ≤ 8) (hC : CB q M s n) (e : ∀ k, k < 115 → k ≠ 3 → k ≠ 4 → s' k = s k) (f : ∀ c, q ≤ c → c < q + 16 → M' c = M c) (l0 : CLX (q + 16) M' s' 115 0) (l1 : CLX (q + 19) M' s' 240 1) : CB q M' s' n := by
  obtain ⟨a1, a2, a3, a4, a5, a6, a7, a8, a9, a10⟩ := hC
  refine ⟨by rw [f _ (by omega) (by omega), e _ (by omega) (by omega) (by omega)]; exact a1, by rw [f _ (by omega) (by omega), e _ (by omega) (by omega) (by omega)]; exact a2, by rw [f _ (by omega) (by omega), e _ (by omega) (by omega) (by omega)]; exact a3, by rw [f _ (by omega) (by omega), e _ (by omega) (by omega) (by omega)]; exact a4, fun j hj => by rw [f _ (by omega) (by omega), e _ (by omega) (by omega) (by omega)]; exact a5 j hj, fun j hj => by rw [f _ (by omega) (by omega), e _ (by omega) (by omega) (by omega)]; exact a6 j hj, fun j hj => by rw [f _ (by omega) (by omega), f _ (by omega) (by omega), e _ (by omega) (by omega) (by omega), e _ (by omega) (by omega) (by omega)]; exact a7 j hj, fun x hx j hj => by rw [f _ (by omega) (by omega), e _ (by omega) (by omega) (by omega)]; exact a8 x hx j hj, l0, l1⟩
theorem CLX.up {l : Nat} {M M' : zM} {s : zR} {b u i : Nat} {v : Int32} (h : CLX l M s b u) (hi : i < b ∨ b + 125 ≤ i) (e1 : M' l 2 = M l 2) (e2 : M' (l + 1) = M (l + 1)) : CLX l M' (upd s i v) b u := by
  refine ⟨by rw [e1, upd_n _ (by omega)]; exact h.1, fun c hc h60 k hk => ?_⟩
  rw [upd_n _ (by omega)] at hc
  rw [e2, upd_n _ (by omega), upd_n _ (by omega)]
  exact h.2 c hc h60 k hk
theorem VTX.nil {s : zR} {b u : Nat} (h : s b = 0) : VTX s b u := ⟨0, h, by omega, fun k hk => by omega, fun z => by omega⟩
theorem CLX.nil {l : Nat} {M : zM} {s : zR} {b u : Nat} (h : s b = 0) (e : M l 2 = 0) : CLX l M s b u :=
  ⟨e.trans h.symm, fun c hc _ k hk => by
    have : c = 0 := nI_inj' (b := 0) (hc.symm.trans h) (by omega) (by omega)
    omega⟩
theorem eq_untell (p0 : Int32) {C R : zM} (h : Rel2 C R) : EQA C R (fX7_untell p0 C) (fX8_untell p0 R) := by
  unfold fX7_untell fX8_untell
  refine EQA.out0 h (m := 1) rfl (by omega) fun j hj e => ?_
  subst e
  obtain ⟨n, hh, hV, h9, hC⟩ := h.1
  have hn := hV.1
  obtain ⟨c0, hc0, hv0⟩ := hV.2.2.2.2.2.2.2.2.2.1
  obtain ⟨c1, hc1, hv1⟩ := hV.2.2.2.2.2.2.2.2.2.2
  have h60 := hv0.1
  have h61 := hv1.1
  have fin : ∀ (x : Nat) (y : Nat) (l : Nat), (l = 17 ∧ y = 115) ∨ (l = 20 ∧ y = 240) → Rel2 (zst C l 2 0) (zst R 88 y 0) := by
    intro x y l hy
    have ea : ∀ k, k < 115 → k ≠ 3 → k ≠ 4 → zst R 88 y 0 88 k = R 88 k := fun k hk _ _ => by rw [zst_k, if_neg (by omega)]
    refine h.now ⟨n, hh, hV.tx ea ?_ ?_, h9, hC.tx hn ea (fun c g1 g2 => zst_n _ (by omega)) ?_ ?_⟩ (OU.st (by omega) (by omega)) ⟨fun c _ g2 _ _ _ _ _ => zst_n _ g2, fun k _ _ => by rw [zst_n _ (by decide)]⟩ (by rw [zst_k, if_neg (by omega)]) (by rw [zst_k, if_neg (by omega)]) (fun k hk _ => by rw [zst_k, if_neg (by omega)])
    · rcases hy with ⟨-, e⟩ | ⟨-, e⟩ <;> subst e
      · exact VTX.nil (by rw [zst_k, if_pos ⟨rfl, rfl⟩])
      · rw [zst_s]
        exact VTX_up hV.2.2.2.2.2.2.2.2.2.1 (by omega)
    · rcases hy with ⟨-, e⟩ | ⟨-, e⟩ <;> subst e
      · rw [zst_s]
        exact VTX_up hV.2.2.2.2.2.2.2.2.2.2 (by omega)
      · exact VTX.nil (by rw [zst_k, if_pos ⟨rfl, rfl⟩])
    · rcases hy with ⟨e', e⟩ | ⟨e', e⟩ <;> subst e <;> subst e'
      · exact CLX.nil (by rw [zst_k, if_pos ⟨rfl, rfl⟩]) (by rw [zst_k, if_pos ⟨rfl, rfl⟩])
      · rw [zst_s]
        exact hC.2.2.2.2.2.2.2.2.1.up (by omega) (by rw [zst_n _ (by decide)]) (zst_n _ (by decide))
    · rcases hy with ⟨e', e⟩ | ⟨e', e⟩ <;> subst e <;> subst e'
      · rw [zst_s]
        exact hC.2.2.2.2.2.2.2.2.2.up (by omega) (by rw [zst_n _ (by decide)]) (zst_n _ (by decide))
      · exact CLX.nil (by rw [zst_k, if_pos ⟨rfl, rfl⟩]) (by rw [zst_k, if_pos ⟨rfl, rfl⟩])
  rcases (show j = 0 ∨ j = 1 by omega) with e | e <;> subst e
  · have el : fX0_law 1 (nI 0) C = some (17, C) := rfl
    have e2 : C 17 2 = nI c0 := hC.2.2.2.2.2.2.2.2.1.1.trans hc0
    have ei : (115 : Int32) + (125 : Int32) * nI 0 = nI 115 := by decide
    rw [el, show fX8_hasText (nI 0) R = fX8_hasText 0 R from rfl, ra_hasText0 hc0 h60, ei]
    show EQA C R (if C 17 2 ≤ 0 then _ else _) _
    rw [e2, zbi_s, zlt_r, zlt_r]
    by_cases g : c0 = 0
    · subst g
      rw [if_pos (show nI 0 ≤ 0 by decide), if_pos rfl, if_pos z00, zgd_n (zgi rfl (show 115 < 449 by omega) (by omega)), zcn (by omega), zlt_r]
      exact EQA.done rfl (fin 0 115 17 (Or.inl ⟨rfl, rfl⟩)) (zst_fc (by omega)) (zst_fr (by omega))
    · rw [if_neg (show ¬ nI c0 ≤ 0 from nI_leN (b := 0) (by omega) (by omega) (by omega)), if_neg g, if_neg z10, zgd_n (zgi rfl (show 115 < 449 by omega) (by omega)), zcn (by omega), zlt_r]
      exact EQA.done rfl (fin 0 115 17 (Or.inl ⟨rfl, rfl⟩)) (zst_fc (by omega)) (zst_fr (by omega))
  · have el : fX0_law 1 (nI 1) C = some (20, C) := rfl
    have e2 : C 20 2 = nI c1 := hC.2.2.2.2.2.2.2.2.2.1.trans hc1
    have ei : (115 : Int32) + (125 : Int32) * nI 1 = nI 240 := by decide
    rw [el, show fX8_hasText (nI 1) R = fX8_hasText 1 R from rfl, ra_hasText1 hc1 h61, ei]
    show EQA C R (if C 20 2 ≤ 0 then _ else _) _
    rw [e2, zbi_s, zlt_r, zlt_r]
    by_cases g : c1 = 0
    · subst g
      rw [if_pos (show nI 0 ≤ 0 by decide), if_pos rfl, if_pos z00, zgd_n (zgi rfl (show 240 < 449 by omega) (by omega)), zcn (by omega), zlt_r]
      exact EQA.done rfl (fin 0 240 20 (Or.inr ⟨rfl, rfl⟩)) (zst_fc (by omega)) (zst_fr (by omega))
    · rw [if_neg (show ¬ nI c1 ≤ 0 from nI_leN (b := 0) (by omega) (by omega) (by omega)), if_neg g, if_neg z10, zgd_n (zgi rfl (show 240 < 449 by omega) (by omega)), zcn (by omega), zlt_r]
      exact EQA.done rfl (fin 0 240 20 (Or.inr ⟨rfl, rfl⟩)) (zst_fc (by omega)) (zst_fr (by omega))
