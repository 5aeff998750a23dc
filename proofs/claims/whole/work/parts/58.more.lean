/-! ===== images ===== -/
theorem ca_dcopy {M : zM} {s : zR} {q q0 : Nat} (hD : DK q0 M s) (hq : q + 3 ≤ q0 ∨ q0 + 3 ≤ q) : ∃ M', fX1_copyFrom q q0 M = some M' ∧ DK q M' s ∧ ∀ c, c ≠ q → c ≠ q + 1 → c ≠ q + 2 → M' c = M c := by
  obtain ⟨t, u, a1, a2, a3, a4, a5, a6, a7, a8, a9⟩ := hD
  obtain ⟨N1, e1, p1, o1⟩ := zcp_s M (q0 + 1) (q + 1) 60 60 rfl (by omega)
  obtain ⟨N2, e2, p2, o2⟩ := zcp_s N1 (q0 + 2) (q + 2) 24 24 rfl (by omega)
  have hf : ¬ ((List.range (60 : Int32).toNatClampNeg).all (fun i => fits .byte (.int (M (q0 + 1) ((0 : Int32).toNatClampNeg + i)))) = false) := by
    have e : (List.range (60 : Int32).toNatClampNeg).all (fun i => fits .byte (.int (M (q0 + 1) ((0 : Int32).toNatClampNeg + i)))) = true := by
      rw [List.all_eq_true]
      intro i hi
      rw [List.mem_range] at hi
      have e0 : (0 : Int32).toNatClampNeg + i = i := by
        show 0 + i = i
        omega
      rw [e0]
      exact a7 i hi
    rw [e]
    decide
  rw [fX1_copyFrom, zgd_n (by decide), zgd_n hf, zlt_r, e1, zgd_n (by decide), zlt_r, e2, zlt_r, zlt_r]
  have f0 : ∀ c, c ≠ q + 1 → c ≠ q + 2 → N2 c = M c := fun c g1 g2 => by rw [o2 c g2, o1 c g1]
  have eq0 : ∀ k v, zst N2 q k v q0 = M q0 := fun k v => by rw [zst_n _ (by omega), f0 _ (by omega) (by omega)]
  have eq1 : N2 q0 = M q0 := f0 _ (by omega) (by omega)
  rw [eq1, eq0, a4, a6]
  refine ⟨_, rfl, ⟨t, u, a1, a2, a3, ?_, a5, ?_, fun j hj => ?_, fun j hj => ?_, fun j hj => ?_⟩, fun c h1 h2 h3 => ?_⟩
  · rw [zst_k, if_neg (by omega), zst_k, if_pos ⟨rfl, rfl⟩]
  · rw [zst_k, if_pos ⟨rfl, rfl⟩]
  · rw [zst_n _ (by omega), zst_n _ (by omega), o2 _ (by omega), p1 j hj]
    exact a7 j hj
  · rw [zst_n _ (by omega), zst_n _ (by omega), o2 _ (by omega), p1 j (by omega)]
    exact a8 j hj
  · rw [zst_n _ (by omega), zst_n _ (by omega), p2 j (by omega), o1 _ (by omega)]
    exact a9 j hj
  · rw [zst_n _ h1, zst_n _ h1, f0 c h2 h3]
theorem CB.eq {q n : Nat} {M M' : zM} {s : zR} (hn : n ≤ 8) (hC : CB q M s n) (h : ∀ c, q ≤ c → c < q + 22 → M' c = M c) : CB q M' s n := hC.ag hn (AG.eq h)
theorem eq_image {C R : zM} (h : Rel2 C R) : EQA C R (fX7_image C) (fX8_image R) := by
  unfold fX7_image fX8_image
  obtain ⟨a1, a2, a3, a4, a5, a6, a7⟩ := h
  obtain ⟨n, hh, hV, h9, hC⟩ := a1
  have hn := hV.1
  obtain ⟨C1, b1, b2, b3⟩ := ca_copyFrom (q := 23) hV hC (by omega)
  have d67 : DK 67 C1 (R 88) := a2.cg (by rw [b3 _ (by omega)]) (by rw [b3 _ (by omega)]) (b3 _ (by omega)) (b3 _ (by omega)) rfl rfl (fun _ _ _ => rfl)
  obtain ⟨C2, c1, c2, c3⟩ := ca_dcopy (q := 70) d67 (by omega)
  have f0 : ∀ c, (c < 23 ∨ 45 ≤ c) → c ≠ 70 → c ≠ 71 → c ≠ 72 → C2 c = C c := fun c g1 g2 g3 g4 => by rw [c3 c g2 g3 g4, b3 c (by omega)]
  rw [b1, zbv_s, c1, zbv_s, zlt_r, ra_carry (by omega), zbv_s, zlt_r]
  have e0 : C2 0 = C 0 := f0 0 (by omega) (by omega) (by omega) (by omega)
  have z : ∀ c v, c ≠ 0 → zst C2 0 9 v c = C2 c := fun c v hc => zst_n _ hc
  have y : ∀ c v, c ≠ 87 → zst (zup R 89 (cpS (R 88) (R 89) 449)) 87 3 v c = zup R 89 (cpS (R 88) (R 89) 449) c := fun c v hc => zst_n _ hc
  have x : ∀ c, c ≠ 89 → zup R 89 (cpS (R 88) (R 89) 449) c = R c := fun c hc => zup_n R hc
  have y9 : ∀ v k, k < 449 → zst (zup R 89 (cpS (R 88) (R 89) 449)) 87 3 v 89 k = R 88 k := fun v k hk => by rw [y 89 _ (by decide), zup_s, cpS_in hk]
  rw [e0, x 87 (by decide), a3]
  generalize hv : R 87 3 + 1 = v
  refine EQA.done ?_ ⟨⟨n, hh, ?_, h9, ?_⟩, ?_, ?_, fun _ => ⟨⟨n, hh, hV.cg (fun k hk => y9 v k (by omega)), h9, ?_⟩, ?_⟩, fun k hk => ?_, ?_, fun k hk => ?_⟩ (fun c hc => by rw [z _ _ (by omega), f0 c (by omega) (by omega) (by omega) (by omega)]) (fun c hc => by rw [y _ _ (by omega), x c (by omega)])
  · rw [zst_k, if_pos ⟨rfl, rfl⟩, zst_k, if_pos ⟨rfl, rfl⟩]
  · rw [y 88 _ (by decide), x 88 (by decide)]
    exact hV
  · rw [y 88 _ (by decide), x 88 (by decide)]
    exact hC.eq hn (fun c g1 g2 => by rw [z c _ (by omega), f0 c (by omega) (by omega) (by omega) (by omega)])
  · rw [y 88 _ (by decide), x 88 (by decide)]
    exact a2.cg (by rw [z _ _ (by decide), f0 _ (by omega) (by omega) (by omega) (by omega)]) (by rw [z _ _ (by decide), f0 _ (by omega) (by omega) (by omega) (by omega)]) (by rw [z _ _ (by decide), f0 _ (by omega) (by omega) (by omega) (by omega)]) (by rw [z _ _ (by decide), f0 _ (by omega) (by omega) (by omega) (by omega)]) rfl rfl (fun _ _ _ => rfl)
  · rw [zst_k, if_pos ⟨rfl, rfl⟩, zst_k, if_pos ⟨rfl, rfl⟩]
  · refine CB.cg hn ?_ (fun k hk => y9 v k (by omega))
    exact b2.eq hn (fun c g1 g2 => by rw [z c _ (by omega), c3 c (by omega) (by omega) (by omega)])
  · exact c2.cg (by rw [z _ _ (by decide)]) (by rw [z _ _ (by decide)]) (z _ _ (by decide)) (z _ _ (by decide)) (y9 v 3 (by omega)) (y9 v 4 (by omega)) (fun k _ hk => y9 v k hk)
  · rw [z 86 _ (by decide), f0 _ (by omega) (by omega) (by omega) (by omega), y 91 _ (by decide), x 91 (by decide)]
    exact a5 k hk
  · obtain ⟨t, d1, d2, d3, d4⟩ := a6
    refine ⟨t, d1, ?_, ?_, fun j hj => ?_⟩
    · rw [z 76 _ (by decide), f0 _ (by omega) (by omega) (by omega) (by omega)]
      exact d2
    · rw [zst_k, if_neg (by omega), x 87 (by decide)]
      exact d3
    · rw [z 77 _ (by decide), f0 _ (by omega) (by omega) (by omega) (by omega), y 98 _ (by decide), x 98 (by decide)]
      exact d4 j hj
  · rw [y 99 _ (by decide), x 99 (by decide), y 100 _ (by decide), x 100 (by decide), y 101 _ (by decide), x 101 (by decide), z 80 _ (by decide), f0 80 (by omega) (by omega) (by omega) (by omega), z 81 _ (by decide), f0 81 (by omega) (by omega) (by omega) (by omega), z (82 + k) _ (by omega), f0 (82 + k) (by omega) (by omega) (by omega) (by omega)]
    exact a7 k hk
theorem eq_restore {C R : zM} (h : Rel2 C R) : EQA C R (fX7_restore C) (fX8_restore R) := by
  unfold fX7_restore fX8_restore
  obtain ⟨a1, a2, a3, a4, a5, a6, a7⟩ := id h
  rw [a3]
  by_cases g : R 87 3 = 0
  · rw [if_pos g, if_pos g]
    exact EQA.err h (k := 2) rfl (by omega)
  rw [if_neg g, if_neg g]
  obtain ⟨⟨n, hh, hV, h9, hC⟩, dk⟩ := a4 g
  have hn := hV.1
  obtain ⟨C1, b1, b2, b3⟩ := ca_copyFrom (q := 1) hV hC (by omega)
  have d70 : DK 70 C1 (R 89) := dk.cg (by rw [b3 _ (by omega)]) (by rw [b3 _ (by omega)]) (b3 _ (by omega)) (b3 _ (by omega)) rfl rfl (fun _ _ _ => rfl)
  obtain ⟨C2, c1, c2, c3⟩ := ca_dcopy (q := 67) d70 (by omega)
  have f0 : ∀ c, (c < 1 ∨ 23 ≤ c) → c ≠ 67 → c ≠ 68 → c ≠ 69 → C2 c = C c := fun c g1 g2 g3 g4 => by rw [c3 c g2 g3 g4, b3 c (by omega)]
  rw [b1, zbv_s, c1, zbv_s, ra_carry (by omega), zbv_s]
  have x : ∀ c, c ≠ 88 → zup R 88 (cpS (R 89) (R 88) 449) c = R c := fun c hc => zup_n R hc
  have y : ∀ k, k < 449 → zup R 88 (cpS (R 89) (R 88) 449) 88 k = R 89 k := fun k hk => by rw [zup_s, cpS_in hk]
  refine EQA.done ?_ ⟨⟨n, hh, hV.cg (fun k hk => y k (by omega)), h9, ?_⟩, ?_, ?_, fun g => ⟨⟨n, hh, ?_, h9, ?_⟩, ?_⟩, fun k hk => ?_, ?_, fun k hk => ?_⟩ (fun c hc => f0 c (by omega) (by omega) (by omega) (by omega)) (fun c hc => x c (by omega))
  · rw [y 1 (by omega), c3 1 (by omega) (by omega) (by omega)]
    exact b2.2.1
  · refine CB.cg hn ?_ (fun k hk => y k (by omega))
    exact b2.eq hn (fun c g1 g2 => c3 c (by omega) (by omega) (by omega))
  · exact c2.cg rfl rfl rfl rfl (y 3 (by omega)) (y 4 (by omega)) (fun k _ hk => y k hk)
  · rw [f0 0 (by omega) (by omega) (by omega) (by omega), x 87 (by decide)]
    exact a3
  · rw [x 89 (by decide)]
    exact hV
  · rw [x 89 (by decide)]
    exact hC.eq hn (fun c g1 g2 => f0 c (by omega) (by omega) (by omega) (by omega))
  · rw [x 89 (by decide)]
    exact dk.cg (by rw [f0 _ (by omega) (by omega) (by omega) (by omega)]) (by rw [f0 _ (by omega) (by omega) (by omega) (by omega)]) (f0 _ (by omega) (by omega) (by omega) (by omega)) (f0 _ (by omega) (by omega) (by omega) (by omega)) rfl rfl (fun _ _ _ => rfl)
  · rw [f0 86 (by omega) (by omega) (by omega) (by omega), x 91 (by decide)]
    exact a5 k hk
  · obtain ⟨t, d1, d2, d3, d4⟩ := a6
    refine ⟨t, d1, ?_, ?_, fun j hj => ?_⟩
    · rw [f0 76 (by omega) (by omega) (by omega) (by omega)]
      exact d2
    · rw [x 87 (by decide)]
      exact d3
    · rw [f0 77 (by omega) (by omega) (by omega) (by omega), x 98 (by decide)]
      exact d4 j hj
  · rw [x 99 (by decide), x 100 (by decide), x 101 (by decide), f0 80 (by omega) (by omega) (by omega) (by omega), f0 81 (by omega) (by omega) (by omega) (by omega), f0 (82 + k) (by omega) (by omega) (by omega) (by omega)]
    exact a7 k hk
/-! ===== sales ===== -/
theorem eq_fair (p0 p1 : Int32) {C R : zM} (h : Rel2 C R) : EQA C R (fX7_fair p0 p1 C) (fX8_fair p0 p1 R) := by
  unfold fX7_fair fX8_fair
  rw [ra_isFamily, ra_isFamily]
  refine EQA.out0 h (m := 4) rfl (by omega) fun f hf ef => ?_
  refine EQA.out0 h (m := 4) rfl (by omega) fun g hg eg => ?_
  subst ef eg
  obtain ⟨n, hh, hV, h9, hC⟩ := h.1
  by_cases c : nI f = nI g
  · rw [if_pos c, if_pos c]
    exact EQA.err h (k := 1) rfl (by omega)
  · have q1 := hC.2.2.2.2.2.2.1 f (by omega)
    have q2 := hC.2.2.2.2.2.2.1 g (by omega)
    rw [if_neg c, if_neg c, zgd_n (zgi rfl (show f < 5 by omega) (by omega)), zgd_n (zgi rfl (show f < 5 by omega) (by omega)), zlt_r, zgd_n (zgi rfl (show g < 5 by omega) (by omega)), zgd_n (zgi rfl (show g < 5 by omega) (by omega)), zlt_r, zcn (by omega), zcn (by omega), ra_prayed (by omega), zbi_s, ra_owed (by omega), zbi_s, ra_prayed (by omega), zbi_s, ra_owed (by omega), zbi_s, q1.1, q1.2, q2.1, q2.2]
    refine EQA.done ?_ h FC.rf FR.rf
    congr 1
    generalize R 88 (43 + 2 * f) = a
    generalize R 88 (42 + 2 * f) = b
    generalize R 88 (43 + 2 * g) = x
    generalize R 88 (42 + 2 * g) = y
    grind
theorem eq_sell (p0 p1 p2 : Int32) {C R : zM} (h : Rel2 C R) : EQA C R (fX7_sell p0 p1 p2 C) (fX8_sell p0 p1 p2 R) := by
  unfold fX7_sell fX8_sell
  rw [ra_isFamily, ra_isFamily]
  refine EQA.out0 h (m := 4) rfl (by omega) fun f hf ef => ?_
  refine EQA.out0 h (m := 4) rfl (by omega) fun g hg eg => ?_
  subst ef eg
  by_cases c : nI f = nI g
  · rw [if_pos c, if_pos c]
    exact EQA.err h (k := 1) rfl (by omega)
  rw [if_neg c, if_neg c]
  refine EQA.out1 h (m := 9999) rfl (by omega) fun v hv0 hv ev => ?_
  subst ev
  obtain ⟨n, hh, hV, h9, hC⟩ := h.1
  have hn := hV.1
  have hfg : f ≠ g := fun z => c (by rw [z])
  have q1 := (hC.2.2.2.2.2.2.1 f (by omega)).2
  have q2 := (hC.2.2.2.2.2.2.1 g (by omega)).2
  obtain ⟨r0, r1⟩ := (hV.2.2.2.2.2.2.2.1 f (by omega)).2
  obtain ⟨s0, s1⟩ := (hV.2.2.2.2.2.2.2.1 g (by omega)).2
  rw [zgd_n (zgi rfl (show f < 5 by omega) (by omega)), zcn (by omega), q1, ra_prayed (by omega), zbi_s]
  by_cases l : nI v ≤ R 88 (43 + 2 * f)
  · have l' : (v : Int) ≤ (R 88 (43 + 2 * f)).toInt := by
      have := (zle' _ _).mp l
      rw [znT (by omega)] at this
      exact this
    have e1 : (R 88 (43 + 2 * f) - nI v).toInt = (R 88 (43 + 2 * f)).toInt - v := by rw [zsbT (by rw [znT (by omega)]; omega) (by rw [znT (by omega)]; omega), znT (by omega)]
    have hb : zbd (R 88 (43 + 2 * f) - nI v) 999999 := by
      unfold zbd
      rw [e1]
      omega
    have eh : hdS (R 88 (43 + 2 * f) - nI v) 0 999999 = R 88 (43 + 2 * f) - nI v := hdS_in (by rw [zle']; exact hb.1) (by rw [zle']; exact hb.2)
    have eg : ∀ x, zst R 88 (43 + 2 * f) x 88 (43 + 2 * g) = R 88 (43 + 2 * g) := fun x => by rw [zst_k, if_neg (by omega)]
    have ec : ∀ x, zst C 5 f x 5 g = R 88 (43 + 2 * g) := fun x => by rw [zst_k, if_neg (fun z => hfg z.2.symm)]; exact q2
    rw [if_pos l, if_pos l, zgd_n (zgj (show f < 5 by omega) (by omega)), zgd_n (zgj (show f < 5 by omega) (by omega)), zlt_r, zgd_n (zgi rfl (show g < 5 by omega) (by omega)), zcn (by omega), zlt_r, zgd_n (zgj (show g < 5 by omega) (by omega)), zlt_r, zgd_n (zgj (show g < 5 by omega) (by omega)), ec, zmin_hd s0 s1 (by rw [znT (by omega)]; omega) (by rw [znT (by omega)]; omega), ra_prayed (by omega), zbi_s, ra_prays (by omega), eh, zbv_s, ra_prayed (by omega), zbi_s, eg, ra_prays (by omega), zbv_s, ra_prayed (by omega), zbi_s]
    have hV2 := VR_upf hV (show f < 5 by omega) hb
    have hC2 := CB.upf (q := 1) hn hC (show f < 5 by omega) (v := R 88 (43 + 2 * f) - nI v)
    have h2 : Rel2 (zst C 5 f (R 88 (43 + 2 * f) - nI v)) (zst R 88 (43 + 2 * f) (R 88 (43 + 2 * f) - nI v)) := h.set hV2 h9 hC2 (by omega) (by omega) (by omega)
    have h3 : Rel2 (zst (zst C 5 f (R 88 (43 + 2 * f) - nI v)) 5 g (hdS (R 88 (43 + 2 * g) + nI v) 0 999999)) (zst (zst R 88 (43 + 2 * f) (R 88 (43 + 2 * f) - nI v)) 88 (43 + 2 * g) (hdS (R 88 (43 + 2 * g) + nI v) 0 999999)) := h2.set (by rw [zst_s]; exact VR_upf hV2 (show g < 5 by omega) (hd_bd _)) h9 (by rw [zst_s]; exact CB.upf (q := 1) hn hC2 (show g < 5 by omega)) (by omega) (by omega) (by omega)
    refine EQA.done ?_ h3 (fun c hc => by rw [zst_n _ (by omega), zst_n _ (by omega)]) (fun c hc => by rw [zst_n _ (by omega), zst_n _ (by omega)])
    rw [zst_k, if_pos ⟨rfl, rfl⟩, zst_k, if_pos ⟨rfl, rfl⟩]
  · rw [if_neg l, if_neg l]
    exact EQA.err h (k := 3) rfl (by omega)
