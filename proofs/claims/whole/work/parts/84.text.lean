theorem VTX.loc {s s' : zR} {b u : Nat} (h : VTX s b u) (e : ∀ k, b ≤ k → k < b + 125 → s' k = s k) : VTX s' b u := by
  obtain ⟨c, hc, hv⟩ := h
  have h60 := hv.1
  refine ⟨c, by rw [e _ (by omega) (by omega)]; exact hc, ?_⟩
  have e' : ∀ k, k < c → zTS s' b k = zTS s b k := by
    intro k hk
    show (s' _, s' _) = (s _, s _)
    rw [e _ (by omega) (by omega), e _ (by omega) (by omega)]
  refine ⟨h60, fun k hk => ?_, fun h0 => by rw [dpS_cg c (fun x hx => e' x hx)]; exact hv.2.2 h0⟩
  rw [e' k hk, dpS_cg k (fun x hx => e' x (by omega))]
  exact hv.2.1 k hk
theorem CLX.loc {l : Nat} {M M' : zM} {s s' : zR} {b u : Nat} (h : CLX l M s b u) (e : ∀ k, b ≤ k → k < b + 125 → s' k = s k) (e1 : M' l 2 = M l 2) (e2 : M' (l + 1) = M (l + 1)) : CLX l M' s' b u := by
  refine ⟨by rw [e1, e _ (by omega) (by omega)]; exact h.1, fun c hc h60 k hk => ?_⟩
  rw [e _ (by omega) (by omega)] at hc
  rw [e2, e _ (by omega) (by omega), e _ (by omega) (by omega)]
  exact h.2 c hc h60 k hk
theorem eq_text (p0 : Int32) {C R : zM} (h : Rel2 C R) : EQA C R (fX7_text p0 C) (fX8_text p0 R) := by
  unfold fX7_text fX8_text
  refine EQA.out0 h (m := 1) rfl (by omega) fun u hu1 e => ?_
  subst e
  have hu : u < 2 := by omega
  obtain ⟨t, w, a1, a2, a3, a4, a5, a6, a7, a8, a9⟩ := h.2.1
  obtain ⟨hI, hW, hV⟩ := rd_in (C := C) (R := R) hu a1 a3 a8
  have eR : fX3_read 68 (C 67 2) (nI u) C = fX3_read_33 68 (nI t) (nI u) (rdK t) zF 0 (zst (zst (zst (zst (zst (zst C 73 2 0) 73 3 0) 73 4 0) 73 5 0) 73 6 0) 73 7 1) := by
    rw [a4]
    rfl
  rw [eR, zlt_r, zlt_r, zlt_r, zlt_r]
  generalize hC6 : zst (zst (zst (zst (zst (zst C 73 2 0) 73 3 0) 73 4 0) 73 5 0) 73 6 0) 73 7 1 = C6 at hI hW hV
  generalize hR8 : zst (zst (zst (zst R 87 8 (nI u)) 87 5 0) 87 6 0) 87 7 0 = R8 at hI hW hV
  have c6 : ∀ c, c ≠ 73 → C6 c = C c := fun c hc => by rw [← hC6, zst_n _ hc, zst_n _ hc, zst_n _ hc, zst_n _ hc, zst_n _ hc, zst_n _ hc]
  have r8 : ∀ c, c ≠ 87 → R8 c = R c := fun c hc => by rw [← hR8, zst_n _ hc, zst_n _ hc, zst_n _ hc, zst_n _ hc]
  have r87 : ∀ k, k ≠ 5 → k ≠ 6 → k ≠ 7 → k ≠ 8 → R8 87 k = R 87 k := fun k g1 g2 g3 g4 => by rw [← hR8, zst_k, if_neg (fun z => g3 z.2), zst_k, if_neg (fun z => g2 z.2), zst_k, if_neg (fun z => g1 z.2), zst_k, if_neg (fun z => g4 z.2)]
  -- a fault
  have bad : ∀ (C' R' : zM), CF C6 C' → RG R8 R' → Rel2 (zst C' 67 2 0) (zst R' 88 3 0) ∧ FC C (zst C' 67 2 0) ∧ FR R (zst R' 88 3 0) := by
    intro C' R' f g
    refine ⟨h.untape (fun c g1 g2 g3 => ?_) (fun c g1 g2 => ?_) ?_ ?_, fun c hc => ?_, fun c hc => ?_⟩
    · rw [zst_a, f 67 (by decide) (by decide) (by decide), c6 67 (by decide)]
      by_cases e : c = 67
      · rw [if_pos e, if_pos e]
      · rw [if_neg e, if_neg e, f c g1 g2 g3, c6 c g1]
    · rw [zst_a, g.1 88 (by decide) (by decide), r8 88 (by decide)]
      by_cases e : c = 88
      · rw [if_pos e, if_pos e]
      · rw [if_neg e, if_neg e, g.1 c g1 g2, r8 c g1]
    · rw [zst_n _ (by decide), g.2 3 (by decide) (by decide) (by decide), r87 3 (by decide) (by decide) (by decide) (by decide)]
    · rw [zst_n _ (by decide), g.2 20 (by decide) (by decide) (by decide), r87 20 (by decide) (by decide) (by decide) (by decide)]
    · rw [zst_n _ (by omega), f c (by omega) (by omega) (by omega), c6 c (by omega)]
    · rw [zst_n _ (by omega), g.1 c (by omega) (by omega), r8 c (by omega)]
  have nneg : ∀ j : Nat, j ≤ 60 → ¬ nI j < 0 := fun j hj => nI_ltN (b := 0) (by omega) (by omega) (by omega)
  rcases lev_chain hu (lev_one hu 20) C6 R8 0 0 0 0 0 0 hI hW (by omega) (by omega) (Or.inl rfl) hV (by omega) with ⟨R', C', j, z, m, e1, e2, e3, e4, -, e6, -, e8, e9, e10, e11, e12⟩ | ⟨R', j, e1, e2, e3, e4, e5⟩
  · rw [e1, zbi_s, if_neg z10]
    have g88 : R' 88 3 = nI t := by rw [e2.1 88 (by decide) (by decide), r8 88 (by decide)]; exact a3
    rw [e8.2.2.2.2.2.1, g88]
    by_cases jt : j = t
    · subst jt
      rw [if_pos rfl, zlt_r, if_neg z10]
      obtain ⟨C4, f1, f2, f3, f4⟩ := rd_good hI e3 e4 e8 rfl e9
      obtain ⟨q1, q2, q3⟩ := bad C4 R' f2 e2
      have hS : z + m ≤ 60 := by have := e8.2.2.2.2.2.2.2.2.1; omega
      have h7 : R' 87 7 = nI (z + m) := e8.2.2.2.2.2.2.2.1
      rw [f1, zbi_s, zlt_r, if_pos (show (-1 : Int32) < 0 by decide)]
      generalize hS2 : z + m = S at *
      generalize hC5 : zst C4 67 2 0 = C5 at q1 q2
      have c5 : ∀ c, c ≠ 67 → C5 c = C4 c := fun c hc => by rw [← hC5, zst_n _ hc]
      obtain ⟨l, y, hly, el, ey⟩ : ∃ l y, ((l = 17 ∧ y = 115 ∧ u = 0) ∨ (l = 20 ∧ y = 240 ∧ u = 1)) ∧ fX0_law 1 (nI u) C5 = some (l, C5) ∧ (115 : Int32) + (125 : Int32) * nI u = nI y := by
        rcases (show u = 0 ∨ u = 1 by omega) with g | g
        · subst g
          exact ⟨17, 115, Or.inl ⟨rfl, rfl, rfl⟩, rfl, rfl⟩
        · subst g
          exact ⟨20, 240, Or.inr ⟨rfl, rfl, rfl⟩, rfl, rfl⟩
      obtain ⟨C7, k1, k2, k3, k4⟩ := ca_learn (M := C5) (l := l) (r := 74) hS
      rw [el, zbi_s, c5 73 (by decide), f3, k1, zbv_s, ey, zlt_r, zgd_n (zgi rfl (show y < 449 by omega) (by omega)), zcn (by omega), zst_n _ (show 87 ≠ 88 by decide), h7, zlt_r]
      generalize hR5 : zst R' 88 3 0 = R5 at q1 q3
      have r5 : ∀ c, c ≠ 88 → R5 c = R' c := fun c hc => by rw [← hR5, zst_n _ hc]
      obtain ⟨R7, g1, g2, g3, g4⟩ := ra_tcopy (y := y) (s := S) (by omega) hS (fun M36 => some ((1 : Int32), M36)) (2 * S) 0 (zst R5 88 y (nI S)) zF (by omega) (show 2 * S < 1000 by omega) (by rw [zst_n _ (by decide), r5 87 (by decide)]; exact h7) (fun k hk => by omega)
      refine Eq.mpr (congrArg (EQA C R _) g1) ?_
      have ky : R7 88 y = nI S := by rw [g3 y (by omega), zst_k, if_pos ⟨rfl, rfl⟩]
      have kt : ∀ k, k < 2 * S → R7 88 (y + 1 + k) = R' 92 k := fun k hk => by rw [g2 k hk, zst_n _ (by decide), r5 92 (by decide)]
      have ko : ∀ i, i < y ∨ y + 125 ≤ i → R7 88 i = R5 88 i := fun i hi => by rw [g3 i (by omega), zst_k, if_neg (by omega)]
      have kr : ∀ c, c ≠ 88 → R7 c = R5 c := fun c hc => by rw [g4 c hc, zst_n _ hc]
      have ts : ∀ k, k < S → zTS (R7 88) y k = tkR R' k := fun k hk => by
        show (R7 88 (y + 1 + 2 * k), R7 88 (y + 2 + 2 * k)) = _
        rw [kt (2 * k) (by omega), show y + 2 + 2 * k = y + 1 + (2 * k + 1) by omega, kt (2 * k + 1) (by omega)]
      have nt : VTX (R7 88) y u := by
        refine ⟨S, ky, hS, fun k hk => ?_, fun _ => ?_⟩
        · rw [ts k hk, dpS_cg k (fun x hx => ts x (by omega))]
          exact e12.1 k hk
        · rw [dpS_cg S (fun x hx => ts x hx)]
          exact e12.2
      have nc : CLX l C7 (R7 88) y u := by
        refine ⟨by rw [k2, ky], fun c hc _ k hk => ?_⟩
        have ec : c = S := nI_inj' (hc.symm.trans ky) (by omega) (by omega)
        subst ec
        have := ts k hk
        have a1' : R7 88 (y + 1 + 2 * k) = R' 92 (2 * k) := kt (2 * k) (by omega)
        have a2' : R7 88 (y + 2 + 2 * k) = R' 92 (2 * k + 1) := by rw [show y + 2 + 2 * k = y + 1 + (2 * k + 1) by omega, kt (2 * k + 1) (by omega)]
        rw [a1', a2', k3 k hk (by omega), c5 74 (by decide)]
        exact f4 k hk
      obtain ⟨n, hh, hV5, h9, hC5'⟩ := q1.1
      have hn := hV5.1
      have ea : ∀ k, k < 115 → k ≠ 3 → k ≠ 4 → R7 88 k = R5 88 k := fun k hk _ _ => ko k (by omega)
      have fin : Rel2 C7 R7 := by
        refine q1.now ⟨n, hh, hV5.tx ea ?_ ?_, h9, hC5'.tx hn ea (fun c _ _ => k4 c (by omega) (by omega)) ?_ ?_⟩ (fun c hc => k4 c (by omega) (by omega)) ⟨fun c _ g2 _ _ _ _ _ => kr c g2, fun k _ _ => by rw [kr 87 (by decide)]⟩ (ko 3 (by omega)) (ko 4 (by omega)) (fun k hk _ => ko k (by omega))
        · rcases hly with ⟨-, g, g'⟩ | ⟨-, g, g'⟩
          · subst g g'
            exact nt
          · exact hV5.2.2.2.2.2.2.2.2.2.1.loc (fun k _ _ => ko k (by omega))
        · rcases hly with ⟨-, g, g'⟩ | ⟨-, g, g'⟩
          · exact hV5.2.2.2.2.2.2.2.2.2.2.loc (fun k _ _ => ko k (by omega))
          · subst g g'
            exact nt
        · rcases hly with ⟨gl, g, g'⟩ | ⟨gl, g, g'⟩
          · subst g g' gl
            exact nc
          · exact hC5'.2.2.2.2.2.2.2.2.1.loc (fun k _ _ => ko k (by omega)) (by rw [k4 _ (by omega) (by omega)]) (k4 _ (by omega) (by omega))
        · rcases hly with ⟨gl, g, g'⟩ | ⟨gl, g, g'⟩
          · exact hC5'.2.2.2.2.2.2.2.2.2.loc (fun k _ _ => ko k (by omega)) (by rw [k4 _ (by omega) (by omega)]) (k4 _ (by omega) (by omega))
          · subst g g' gl
            exact nc
      exact EQA.done rfl fin (q2.tr (fun c hc => k4 c (by omega) (by omega))) (q3.tr (fun c hc => kr c (by omega)))
    · have jn : j < t := by omega
      have hI2 := hI.fr e4 e2
      obtain ⟨C3, k1, k2⟩ := stuck e8 jn a1 (hI.2.2.1 j jn) e9 e11 e10 (Or.inr rfl)
      obtain ⟨C4, f1, f2⟩ := rd_fault hI e6 ⟨C', e3, e4, Or.inl ⟨jn, C3, k1, k2⟩⟩
      obtain ⟨q1, q2, q3⟩ := bad C4 R' f2 e2
      rw [if_neg (show ¬ nI j = nI t from fun z => jt (nI_inj' z (by omega) (by omega))), zlt_r, if_pos z00, f1, zbi_s, zlt_r, if_neg (nneg j (by omega))]
      exact EQA.done (by rw [zst_n _ (by decide), e8.2.2.2.2.2.1]) q1 q2 q3
  · obtain ⟨C4, f1, f2⟩ := rd_fault hI e4 e5
    obtain ⟨q1, q2, q3⟩ := bad C4 R' f2 e2
    rw [e1, zbi_s, if_pos z00, zlt_r, if_pos z00, f1, zbi_s, zlt_r, if_neg (nneg j (by omega))]
    exact EQA.done (by rw [zst_n _ (by decide), e3]) q1 q2 q3
