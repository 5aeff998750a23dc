/-! ===== the desk changes, the brook stays ===== -/
theorem CB.skip {q n i : Nat} {M : zM} {s : zR} {v : Int32} (hn : n ≤ 8) (hC : CB q M s n) (hi : i = 3 ∨ i = 4) : CB q M (upd s i v) n := by
  obtain ⟨a1, a2, a3, a4, a5, a6, a7, a8, a9, a10⟩ := hC
  have u : ∀ j, j ≠ 3 → j ≠ 4 → upd s i v j = s j := fun j h1 h2 => upd_n _ (by omega)
  refine ⟨by rw [u _ (by omega) (by omega)]; exact a1, by rw [u _ (by omega) (by omega)]; exact a2, by rw [u _ (by omega) (by omega)]; exact a3, by rw [u _ (by omega) (by omega)]; exact a4, fun j hj => by rw [u _ (by omega) (by omega)]; exact a5 j hj, fun j hj => by rw [u _ (by omega) (by omega)]; exact a6 j hj, fun j hj => by rw [u _ (by omega) (by omega), u _ (by omega) (by omega)]; exact a7 j hj, fun x hx j hj => by rw [u _ (by omega) (by omega)]; exact a8 x hx j hj, ⟨by rw [u _ (by omega) (by omega)]; exact a9.1, ?_⟩, ⟨by rw [u _ (by omega) (by omega)]; exact a10.1, ?_⟩⟩
  · intro c hc h60 j hj
    rw [u _ (by omega) (by omega)] at hc
    rw [u _ (by omega) (by omega), u _ (by omega) (by omega)]
    exact a9.2 c hc h60 j hj
  · intro c hc h60 j hj
    rw [u _ (by omega) (by omega)] at hc
    rw [u _ (by omega) (by omega), u _ (by omega) (by omega)]
    exact a10.2 c hc h60 j hj
theorem VR_skip {s : zR} {n h i : Nat} {v : Int32} (hV : VR s n h) (hi : i = 3 ∨ i = 4) : VR (upd s i v) n h := VR_up hV (by omega) (by omega) (fun z => by omega) (fun _ _ _ => by omega) (fun _ _ _ => by omega) (fun _ _ _ => by omega) (fun _ _ _ => by omega)
theorem BR.cg2 {q : Nat} {C C' : zM} {s s' : zR} (h : BR q C s) (g : AG q C C') (e : ∀ k, k < 365 → k ≠ 3 → k ≠ 4 → s' k = s k) : BR q C' s' := by
  have h2 : BR q C (upd (upd s 3 (s' 3)) 4 (s' 4)) := by
    obtain ⟨n, hh, a1, a2, a3⟩ := h
    exact ⟨n, hh, VR_skip (VR_skip a1 (by omega)) (by omega), a2, (a3.skip a1.1 (by omega)).skip a1.1 (by omega)⟩
  refine h2.cg g (fun k hk => ?_)
  rw [upd_a, upd_a]
  by_cases e4 : k = 4
  · rw [if_pos e4, e4]
  · rw [if_neg e4]
    by_cases e3 : k = 3
    · rw [if_pos e3, e3]
    · rw [if_neg e3]
      exact e k hk e3 e4
/-- only the desk of now changes -/
theorem Rel2.desk {C C' R R' : zM} (h : Rel2 C R) (d : DK 67 C' (R' 88)) (hc : ∀ c, c ≠ 67 → c ≠ 68 → c ≠ 69 → C' c = C c) (hr : ∀ c, c ≠ 88 → R' c = R c) (e : ∀ k, k < 365 → k ≠ 3 → k ≠ 4 → R' 88 k = R 88 k) : Rel2 C' R' := by
  obtain ⟨a1, a2, a3, a4, a5, a6, a7⟩ := h
  refine ⟨a1.cg2 (AG.eq fun c _ _ => hc c (by omega) (by omega) (by omega)) e, d, by rw [hc 0 (by decide) (by decide) (by decide), hr 87 (by decide)]; exact a3, fun z => ?_, fun k hk => by rw [hc 86 (by decide) (by decide) (by decide), hr 91 (by decide)]; exact a5 k hk, ?_, fun k hk => ?_⟩
  · rw [hr 87 (by decide)] at z
    rw [hr 89 (by decide)]
    exact ⟨(a4 z).1.cg (AG.eq fun c _ _ => hc c (by omega) (by omega) (by omega)) (fun _ _ => rfl), (a4 z).2.cg (by rw [hc _ (by decide) (by decide) (by decide)]) (by rw [hc _ (by decide) (by decide) (by decide)]) (hc _ (by decide) (by decide) (by decide)) (hc _ (by decide) (by decide) (by decide)) rfl rfl (fun _ _ _ => rfl)⟩
  · obtain ⟨t, b1, b2, b3, b4⟩ := a6
    exact ⟨t, b1, by rw [hc 76 (by decide) (by decide) (by decide)]; exact b2, by rw [hr 87 (by decide)]; exact b3, fun j hj => by rw [hc 77 (by decide) (by decide) (by decide), hr 98 (by decide)]; exact b4 j hj⟩
  · obtain ⟨b1, b2, z, b3, b4, b5, b6⟩ := a7 k hk
    rw [hr 99 (by decide), hr 100 (by decide), hr 101 (by decide), hc 80 (by decide) (by decide) (by decide), hc 81 (by decide) (by decide) (by decide), hc (82 + k) (by omega) (by omega) (by omega)]
    exact ⟨b1, b2, z, b3, b4, b5, b6⟩
theorem eq_tell (p0 : Int32) {C R : zM} (h : Rel2 C R) : EQA C R (fX7_tell p0 C) (fX8_tell p0 R) := by
  unfold fX7_tell fX8_tell
  obtain ⟨t, u, a1, a2, a3, a4, a5, a6, a7, a8, a9⟩ := h.2.1
  rw [a6, a5]
  by_cases c : u = 24
  · subst c
    rw [if_neg (show ¬ nI 24 < (24 : Int32) by decide), if_pos (show nI 24 = (24 : Int32) from rfl)]
    exact EQA.err h (k := 4) rfl (by omega)
  · have hu : u < 24 := by omega
    rw [if_pos (show nI u < (24 : Int32) from nI_ltY (b := 24) (by omega) (by omega) hu), if_neg (show ¬ nI u = (24 : Int32) from fun z => c (nI_inj' (b := 24) z (by omega) (by omega))), zgd_n (zgi rfl hu (by omega)), zlt_r, zlt_r, show (425 : Int32) + nI u = nI (425 + u) from nI_add 425 u, zgd_n (zgi rfl (show 425 + u < 449 by omega) (by omega)), zlt_r, zlt_r, zcn (by omega), zcn (by omega)]
    have eC : zst C 69 u p0 67 3 = nI u := by rw [zst_n _ (by decide)]; exact a6
    have eR : zst R 88 (425 + u) p0 88 4 = nI u := by rw [zst_k, if_neg (by omega)]; exact a5
    rw [eC, eR, nI_1]
    refine EQA.done ?_ (h.desk ?_ (fun c h1 _ h3 => by rw [zst_n _ h1, zst_n _ h3]) (fun c hc => by rw [zst_n _ hc, zst_n _ hc]) (fun k hk h3 h4 => by rw [zst_s, zst_s, upd_n _ h4, upd_n _ (by omega)])) (fun c hc => by rw [zst_n _ (by omega), zst_n _ (by omega)]) (fun c hc => by rw [zst_n _ (by omega), zst_n _ (by omega)])
    · rw [zst_k, if_pos ⟨rfl, rfl⟩, zst_k, if_pos ⟨rfl, rfl⟩]
    · refine ⟨t, u + 1, a1, by omega, ?_, ?_, ?_, ?_, fun j hj => ?_, fun j hj => ?_, fun j hj => ?_⟩
      · rw [zst_s, zst_s, upd_n _ (by omega), upd_n _ (by omega)]
        exact a3
      · rw [zst_k, if_neg (by omega), zst_n _ (by decide)]
        exact a4
      · rw [zst_s, upd_s]
      · rw [zst_k, if_pos ⟨rfl, rfl⟩]
      · rw [zst_n _ (by decide), zst_n _ (by decide)]
        exact a7 j hj
      · rw [zst_n _ (by decide), zst_n _ (by decide), zst_s, zst_s, upd_n _ (by omega), upd_n _ (by omega)]
        exact a8 j hj
      · rw [zst_n _ (by decide), zst_k, zst_s, zst_s, upd_n _ (by omega), upd_a]
        by_cases e : j = u
        · rw [if_pos ⟨rfl, e⟩, if_pos (by omega)]
        · rw [if_neg (fun z => e z.2), if_neg (by omega)]
          exact a9 j (by omega)
theorem eq_ckloop {C0 R0 : zM} {w u : Nat} (hu : u ≤ 24) {s : zR} {n hh : Nat} (hV : VR s n hh) (h9 : hh ≤ 9999) (hw : w < n) (hN : ∀ j, j < u → C0 69 j = s (425 + j)) :
    ∀ (d v : Nat) (C R : zM) (F G : Nat), v + d = u → d < F → d + 1 < G → TRI C0 R0 C R (goS s n v) n →
      EQA C0 R0 (fX7_check_43 (nI w) (nI u) (fun  M19 => some ((0 : Int32), M19)) F (nI v) C)
        (fX8_check_44 (nI w) (nI u) (fun x26 x27 M28 => zbv (fX8_carry 90 88 M28) (fun M30 => if x27 = 0 then (some ((1 : Int32) + x26, M30)) else (some ((0 : Int32), M30)))) G (nI v) 1 R) := by
  have hn := hV.1
  intro d
  induction d with
  | zero =>
    intro v C R F G hv hF hG t
    obtain ⟨F, rfl⟩ : ∃ E, F = E + 1 := ⟨F - 1, by omega⟩
    obtain ⟨G, rfl⟩ : ∃ E, G = E + 1 := ⟨G - 1, by omega⟩
    have e : v = u := by omega
    subst e
    obtain ⟨R4, f1, f2, f3, f4, -⟩ := t.back
    have g1 : nI v ≤ nI v := nI_leY (by omega) (by omega) (by omega)
    rw [fX7_check_43, if_pos g1, fX8_check_44, if_pos g1, f1, zbv_s, if_neg z10]
    exact EQA.done rfl f2 f3 f4
  | succ d ih =>
    intro v C R F G hv hF hG t
    obtain ⟨F, rfl⟩ : ∃ E, F = E + 1 := ⟨F - 1, by omega⟩
    obtain ⟨G, rfl⟩ : ∃ E, G = E + 1 := ⟨G - 1, by omega⟩
    have hV2 := VR_go hV v (by omega)
    have g1 : ¬ nI u ≤ nI v := nI_leN (by omega) (by omega) (by omega)
    obtain ⟨C5, R5, b1, b2, b3, -⟩ := t.hour hV2
    have e69 : C5 69 v = s (425 + v) := by
      rw [b3.2.1 69 (by omega)]
      exact hN v (by omega)
    have e88 : R5 88 (425 + v) = s (425 + v) := by
      rw [b3.2.2.2.1]
      exact go_keep (k := v + 1) hV (by omega) (by omega) (by omega)
    have ei : C5 (53 + w) 5 = itS (R5 88) w 5 := by
      rw [show 53 + w = 45 + 8 + w by omega, cb_its b3.2.2.1 hw (show 5 < 7 by omega), b3.2.2.2.1]
    rw [fX7_check_43, if_neg g1, b1, zbi_s, zgd_n (zgi rfl (show w < 8 by omega) (by omega)), zlt_r, zgd_n (zgi rfl (show v < 24 by omega) (by omega)), fX8_check_44, if_neg g1, if_neg z10, b2, zbv_s, show (425 : Int32) + nI v = nI (425 + v) from nI_add 425 v, zgd_n (zgi rfl (show 425 + v < 449 by omega) (by omega)), ra_itsS (k := 5) (x := (5 : Int32)) rfl (by omega) (by omega), zbi_s, zcn (by omega), zcn (by omega), zcn (by omega), e69, e88, ei]
    by_cases c : s (425 + v) = itS (R5 88) w 5
    · rw [if_pos c, if_pos c.symm, if_neg z10, zlt_r, zlt_r, nI_1]
      exact ih (v + 1) C5 R5 F G (by omega) (by omega) (by omega) b3
    · obtain ⟨G, rfl⟩ : ∃ E, G = E + 1 := ⟨G - 1, by omega⟩
      obtain ⟨R4, f1, f2, f3, f4, -⟩ := b3.back
      rw [if_neg c, if_neg (fun z => c z.symm), if_pos z00, zlt_r, Int32.add_zero, fX8_check_44, if_neg g1, if_pos z00, f1, zbv_s, if_pos z00]
      exact EQA.done rfl f2 f3 f4
theorem eq_check (p0 : Int32) {C R : zM} (h : Rel2 C R) : EQA C R (fX7_check p0 C) (fX8_check p0 R) := by
  unfold fX7_check fX8_check
  obtain ⟨t, u, a1, a2, a3, a4, a5, a6, a7, a8, a9⟩ := h.2.1
  rw [a6, a5, zlt_r, zlt_r, zlt_r, zlt_r]
  have h2 : Rel2 (zst C 67 3 0) (zst R 88 4 0) := by
    refine h.desk ⟨t, 0, a1, by omega, ?_, ?_, ?_, ?_, fun j hj => ?_, fun j hj => ?_, fun j hj => by omega⟩ (fun c h1 _ _ => zst_n _ h1) (fun c hc => zst_n _ hc) (fun k hk h3 h4 => by rw [zst_s, upd_n _ h4])
    · rw [zst_s, upd_n _ (by omega)]
      exact a3
    · rw [zst_k, if_neg (by omega)]
      exact a4
    · rw [zst_s, upd_s]
      rfl
    · rw [zst_k, if_pos ⟨rfl, rfl⟩]
      rfl
    · rw [zst_n _ (by decide)]
      exact a7 j hj
    · rw [zst_n _ (by decide), zst_s, upd_n _ (by omega)]
      exact a8 j hj
  refine EQA.fr (C1 := zst C 67 3 0) (R1 := zst R 88 4 0) ?_ (zst_fc (by omega)) (zst_fr (by omega))
  refine EQA.whl h2 fun n hh w hV h9 hC hw ew => ?_
  subst ew
  obtain ⟨C1, R1, b1, b2, b3⟩ := tri_begin h2 hV hC
  rw [b1, zbv_s, b2, zbv_s]
  refine eq_ckloop (s := zst R 88 4 0 88) a2 hV h9 hw (fun j hj => ?_) u 0 C1 R1 zF zF (by omega) (show u < 1000 by omega) (show u + 1 < 1000 by omega) b3
  rw [zst_n _ (by decide), zst_s, upd_n _ (by omega)]
  exact a9 j hj
