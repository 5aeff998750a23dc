/-! ===== one number of the brook is changed ===== -/
theorem VR_up {s : zR} {n h i : Nat} {v : Int32} (hV : VR s n h) (h0 : 2 ≤ i) (h1 : i < 52 ∨ 365 ≤ i) (h2 : i = 2 → zbd v 9) (h3 : ∀ j, j < 24 → i = 6 + j → zbd v 99) (h4 : ∀ j, j < 12 → i = 30 + j → zbd v 9) (h5 : ∀ j, j < 5 → i = 42 + 2 * j → zbd v 99999) (h6 : ∀ j, j < 5 → i = 43 + 2 * j → zbd v 999999) : VR (upd s i v) n h := by
  obtain ⟨a1, a2, a3, a4, a5, a6, a7, a8, a9, a10, a11⟩ := hV
  have key : ∀ j m, zbd (s j) m → (i = j → zbd v m) → zbd (upd s i v j) m := by
    intro j m g1 g2
    rw [upd_a]
    by_cases e : j = i
    · rw [if_pos e]
      exact g2 e.symm
    · rw [if_neg e]
      exact g1
  refine ⟨a1, by rw [upd_n _ (by omega)]; exact a2, by rw [upd_n _ (by omega)]; exact a3, a4, key _ _ a5 h2, fun j hj => key _ _ (a6 j hj) (h3 j hj), fun j hj => key _ _ (a7 j hj) (h4 j hj), fun j hj => ⟨key _ _ (a8 j hj).1 (h5 j hj), key _ _ (a8 j hj).2 (h6 j hj)⟩, fun x hx => ?_, VTX_up a10 (by omega), VTX_up a11 (by omega)⟩
  obtain ⟨b0, b1, b2, b3, b4, b5, b6⟩ := a9 x hx
  refine ⟨?_, ?_, ?_, ?_, ?_, ?_, ?_⟩ <;> rw [upd_n _ (by omega)] <;> assumption
theorem CB.up {q n c k i : Nat} {M : zM} {s : zR} {v : Int32} (hn : n ≤ 8) (hC : CB q M s n)
    (hk : (c = q ∧ k = 11 ∧ i = 2) ∨ (c = q ∧ k = 12 ∧ i = 5) ∨ (c = q + 1 ∧ k < 24 ∧ i = 6 + k) ∨ (c = q + 2 ∧ k < 12 ∧ i = 30 + k) ∨ (c = q + 3 ∧ k < 5 ∧ i = 42 + 2 * k)) : CB q (zst M c k v) (upd s i v) n := by
  obtain ⟨a1, a2, a3, a4, a5, a6, a7, a8, a9, a10⟩ := hC
  refine ⟨?_, ?_, ?_, ?_, fun j hj => ?_, fun j hj => ?_, fun j hj => ⟨?_, ?_⟩, fun x hx j hj => ?_, ⟨?_, fun cc hc h60 j hj => ?_⟩, ⟨?_, fun cc hc h60 j hj => ?_⟩⟩
  · rw [zst_k, upd_a]
    split <;> split <;> first | rfl | (exfalso; omega) | exact a1
  · rw [zst_k, upd_a]
    split <;> split <;> first | rfl | (exfalso; omega) | exact a2
  · rw [zst_k, upd_a]
    split <;> split <;> first | rfl | (exfalso; omega) | exact a3
  · rw [zst_k, upd_a]
    split <;> split <;> first | rfl | (exfalso; omega) | exact a4
  · rw [zst_k, upd_a]
    split <;> split <;> first | rfl | (exfalso; omega) | exact (a5 j hj)
  · rw [zst_k, upd_a]
    split <;> split <;> first | rfl | (exfalso; omega) | exact (a6 j hj)
  · rw [zst_k, upd_a]
    split <;> split <;> first | rfl | (exfalso; omega) | exact (a7 j hj).1
  · rw [zst_k, upd_a]
    split <;> split <;> first | rfl | (exfalso; omega) | exact (a7 j hj).2
  · rw [zst_k, upd_a]
    split <;> split <;> first | rfl | (exfalso; omega) | exact (a8 x hx j hj)
  · rw [zst_k, upd_a]
    split <;> split <;> first | rfl | (exfalso; omega) | exact a9.1
  · rw [upd_n _ (by omega)] at hc
    rw [zst_n _ (by omega), upd_n _ (by omega), upd_n _ (by omega)]
    exact a9.2 cc hc h60 j hj
  · rw [zst_k, upd_a]
    split <;> split <;> first | rfl | (exfalso; omega) | exact a10.1
  · rw [upd_n _ (by omega)] at hc
    rw [zst_n _ (by omega), upd_n _ (by omega), upd_n _ (by omega)]
    exact a10.2 cc hc h60 j hj
/-- both sides change one number of the brook of now -/
theorem Rel2.set {C R : zM} {n h c k i : Nat} {v : Int32} (hR : Rel2 C R) (hV : VR (upd (R 88) i v) n h) (h9 : h ≤ 9999) (hC : CB 1 (zst C c k v) (upd (R 88) i v) n) (hc : 1 ≤ c) (hc2 : c < 23) (hi : i ≠ 3 ∧ i ≠ 4 ∧ i < 365) : Rel2 (zst C c k v) (zst R 88 i v) :=
  hR.now (by rw [zst_s]; exact ⟨n, h, hV, h9, hC⟩) (OU.st hc (by omega)) ⟨fun x _ h2 _ _ _ _ _ => zst_n _ h2, fun x _ _ => by rw [zst_n _ (by decide)]⟩ (by rw [zst_s, upd_n _ (fun z => hi.1 z.symm)]) (by rw [zst_s, upd_n _ (fun z => hi.2.1 z.symm)]) (fun x hx _ => by rw [zst_s, upd_n _ (by omega)])
theorem zst_fc {C : zM} {c k : Nat} {v : Int32} (hc : c < 87) : FC C (zst C c k v) := fun x hx => zst_n _ (by omega)
theorem zst_fr {R : zM} {c k : Nat} {v : Int32} (hc : 87 ≤ c) : FR R (zst R c k v) := fun x hx => zst_n _ (by omega)
theorem zbd_nI {j : Nat} {m : Int} (h : (j : Int) ≤ m) (hm : m < 2147483648) : zbd (nI j) m := by
  unfold zbd
  rw [znT (by omega)]
  omega
theorem nI_p6 (p : Nat) : (6 : Int32) + nI p = nI (6 + p) := nI_add 6 p
theorem eq_force (p0 p1 : Int32) {C R : zM} (h : Rel2 C R) : EQA C R (fX7_force p0 p1 C) (fX8_force p0 p1 R) := by
  unfold fX7_force fX8_force
  refine EQA.out0 h (m := 23) rfl (by omega) fun j hj e => ?_
  refine EQA.out0 h (m := 99) rfl (by omega) fun w hw ew => ?_
  subst e ew
  obtain ⟨n, hh, a1, a2, a3⟩ := h.1
  rw [zgd_n (zgi rfl (show j < 24 by omega) (by omega)), zlt_r, zgd_n (zgi rfl (show j < 24 by omega) (by omega)), zlt_r, zcn (by omega), nI_p6, ra_change (k := 6 + j) rfl (by omega), zbi_s]
  refine EQA.done (a3.2.2.2.2.1 j (by omega)) (h.set (VR_up a1 (by omega) (by omega) (fun z => by omega) (fun _ _ _ => zbd_nI (by omega) (by omega)) (fun x _ hx => by omega) (fun x _ hx => by omega) (fun x _ hx => by omega)) a2 (a3.up a1.1 (by omega)) (by omega) (by omega) (by omega)) (zst_fc (by omega)) (zst_fr (by omega))
theorem eq_weed (p0 p1 : Int32) {C R : zM} (h : Rel2 C R) : EQA C R (fX7_weed p0 p1 C) (fX8_weed p0 p1 R) := by
  unfold fX7_weed fX8_weed
  rw [ra_isPlace]
  refine EQA.out0 h (m := 11) rfl (by omega) fun j hj e => ?_
  refine EQA.out0 h (m := 9) rfl (by omega) fun w hw ew => ?_
  subst e ew
  obtain ⟨n, hh, a1, a2, a3⟩ := h.1
  rw [zgd_n (zgi rfl (show j < 12 by omega) (by omega)), zlt_r, zgd_n (zgi rfl (show j < 12 by omega) (by omega)), zlt_r, zcn (by omega), nI_30, ra_change (k := 30 + j) rfl (by omega), zbi_s]
  refine EQA.done (a3.2.2.2.2.2.1 j (by omega)) (h.set (VR_up a1 (by omega) (by omega) (fun z => by omega) (fun x _ hx => by omega) (fun _ _ _ => zbd_nI (by omega) (by omega)) (fun x _ hx => by omega) (fun x _ hx => by omega)) a2 (a3.up a1.1 (by omega)) (by omega) (by omega) (by omega)) (zst_fc (by omega)) (zst_fr (by omega))
theorem eq_frost (p0 : Int32) {C R : zM} (h : Rel2 C R) : EQA C R (fX7_frost p0 C) (fX8_frost p0 R) := by
  unfold fX7_frost fX8_frost
  refine EQA.out0 h (m := 9) rfl (by omega) fun w hw ew => ?_
  subst ew
  obtain ⟨n, hh, a1, a2, a3⟩ := h.1
  rw [zlt_r, zlt_r, ra_change (k := 2) (x := (2 : Int32)) rfl (by omega), zbi_s]
  refine EQA.done a3.2.2.1 (h.set (VR_up a1 (by omega) (by omega) (fun _ => zbd_nI (by omega) (by omega)) (fun x _ hx => by omega) (fun x _ hx => by omega) (fun x _ hx => by omega) (fun x _ hx => by omega)) a2 (a3.up a1.1 (by omega)) (by omega) (by omega) (by omega)) (zst_fc (by omega)) (zst_fr (by omega))
theorem eq_owe (p0 p1 : Int32) {C R : zM} (h : Rel2 C R) : EQA C R (fX7_owe p0 p1 C) (fX8_owe p0 p1 R) := by
  unfold fX7_owe fX8_owe
  rw [ra_isFamily]
  refine EQA.out0 h (m := 4) rfl (by omega) fun j hj e => ?_
  refine EQA.out0 h (m := 99999) rfl (by omega) fun w hw ew => ?_
  subst e ew
  obtain ⟨n, hh, a1, a2, a3⟩ := h.1
  rw [zgd_n (zgi rfl (show j < 5 by omega) (by omega)), zlt_r, zgd_n (zgi rfl (show j < 5 by omega) (by omega)), zlt_r, zcn (by omega), zix_f, ra_change (k := 42 + 2 * j) rfl (by omega), zbi_s]
  refine EQA.done (a3.2.2.2.2.2.2.1 j (by omega)).1 (h.set (VR_up a1 (by omega) (by omega) (fun z => by omega) (fun x _ hx => by omega) (fun x _ hx => by omega) (fun _ _ _ => zbd_nI (by omega) (by omega)) (fun x _ hx => by omega)) a2 (a3.up a1.1 (by omega)) (by omega) (by omega) (by omega)) (zst_fc (by omega)) (zst_fr (by omega))
/-! the wheel's parts -/
theorem ca_part {q : Nat} {x : Int32} {k : Nat} (hx : x = nI k) (hk : k < 7) (M : zM) : fX6_part q x M = some (M q k, M) := by
  unfold fX6_part
  rcases (show k = 0 ∨ k = 1 ∨ k = 2 ∨ k = 3 ∨ k = 4 ∨ k = 5 ∨ k = 6 by omega) with e | e | e | e | e | e | e <;> subst e <;> subst hx <;> rfl
theorem ca_change {q : Nat} {x v : Int32} {k : Nat} (hx : x = nI k) (hk : k < 7) (M : zM) : fX6_change q x v M = some (zst M q k v) := by
  unfold fX6_change
  rcases (show k = 0 ∨ k = 1 ∨ k = 2 ∨ k = 3 ∨ k = 4 ∨ k = 5 ∨ k = 6 by omega) with e | e | e | e | e | e | e <;> subst e <;> subst hx <;> rfl
theorem eq_set (p0 p1 p2 : Int32) {C R : zM} (h : Rel2 C R) : EQA C R (fX7_set p0 p1 p2 C) (fX8_set p0 p1 p2 R) := by
  unfold fX7_set fX8_set
  refine EQA.whl h fun n hh w hV h9 hC hw ew => ?_
  subst ew
  have hn := hV.1
  refine EQA.out0 h (m := 5) rfl (by omega) fun j hj e => ?_
  subst e
  have key : ∀ (m : Nat) (hi : Int32), hi = nI m → m < 2147483648 → (p2 = p2 → ∀ y, y ≤ m → zbd (nI y) (if j = 0 then 6 else if j = 1 then 9 else if j = 2 then 11 else if j = 3 then 4 else if j = 4 then 1 else 999999)) → zMSET j = hi → fX8_most (nI j) R = some (hi, R) → EQA C R (zgd (nI j < 0 ∨ 6 ≤ (nI j).toNatClampNeg) (zbi (fX7_outside p2 (0 : Int32) (zMSET ((nI j).toNatClampNeg)) C) (fun r18 M19 => if r18 = 0 then (zgd (nI w < 0 ∨ 8 ≤ (nI w).toNatClampNeg) (zlt (9 + (nI w).toNatClampNeg) (fun w23 => zbi (fX6_part w23 (nI j) M19) (fun r24 M25 => zbv (fX6_change w23 (nI j) p2 M25) (fun M28 => some (r24, M28)))))) else (zbi (fX7_error (1 : Int32) M19) (fun r30 M31 => some (r30, M31)))))) (zbi (fX8_most (nI j) R) (fun r15 M16 => zbi (fX8_in p2 (0 : Int32) r15 M16) (fun r18 M19 => if r18 = 0 then (zbi (fX8_error (1 : Int32) M19) (fun r25 M26 => some (r25, M26))) else (zbi (fX8_change (((52 : Int32) + ((7 : Int32) * nI w)) + nI j) p2 M19) (fun r22 M23 => some (r22, M23)))))) := by
    intro m hi e1 e2 e3 e4 e5
    rw [zgd_n (zgi rfl (show j < 6 by omega) (by omega)), zcn (by omega), e4, e5, zbi_s]
    refine EQA.out0 h e1 e2 fun y hy ey => ?_
    rw [zgd_n (zgi rfl (show w < 8 by omega) (by omega)), zlt_r, zcn (by omega), ca_part (k := j) rfl (by omega), zbi_s, ca_change (k := j) rfl (by omega), zbv_s, zix_wk, ra_change (k := 52 + 7 * w + j) rfl (by omega), zbi_s]
    have hv := e3 rfl y hy
    rw [← ey] at hv
    refine EQA.done (hC.2.2.2.2.2.2.2.1 w hw j (by omega)) (h.set (VR_upw hV (by omega) (by omega) ?_) h9 (CB.upw (q := 1) hn hC (by omega) (by omega)) (by omega) (by omega) (by omega)) (zst_fc (by omega)) (zst_fr (by omega))
    exact hv
  rcases (show j = 0 ∨ j = 1 ∨ j = 2 ∨ j = 3 ∨ j = 4 ∨ j = 5 by omega) with e | e | e | e | e | e <;> subst e
  · exact key 6 6 rfl (by omega) (fun _ y hy => by refine zbd_nI ?_ ?_ <;> simp <;> omega) rfl rfl
  · exact key 9 9 rfl (by omega) (fun _ y hy => by refine zbd_nI ?_ ?_ <;> simp <;> omega) rfl rfl
  · exact key 11 11 rfl (by omega) (fun _ y hy => by refine zbd_nI ?_ ?_ <;> simp <;> omega) rfl rfl
  · exact key 4 4 rfl (by omega) (fun _ y hy => by refine zbd_nI ?_ ?_ <;> simp <;> omega) rfl rfl
  · exact key 1 1 rfl (by omega) (fun _ y hy => by refine zbd_nI ?_ ?_ <;> simp <;> omega) rfl rfl
  · exact key 999999 999999 rfl (by omega) (fun _ y hy => by refine zbd_nI ?_ ?_ <;> simp <;> omega) rfl rfl
theorem eq_flows (p0 : Int32) {C R : zM} (h : Rel2 C R) : EQA C R (fX7_flows p0 C) (fX8_flows p0 R) := by
  unfold fX7_flows fX8_flows
  rw [ra_isPlace]
  refine EQA.out0 h (m := 11) rfl (by omega) fun j hj e => ?_
  subst e
  obtain ⟨n, hh, a1, a2, a3⟩ := h.1
  obtain ⟨C', b1, b2, b3, b4, b5, b6, b7⟩ := ca_letFlow a1 a3
  obtain ⟨R', d1, d2, d3, d4, d5, d6, d7⟩ := ra_flow a1
  rw [b1, zbv_s, d1, zbv_s, zgd_n (zgi rfl (show j < 12 by omega) (by omega)), zgd_n (zgi rfl (show j < 13 by omega) (by omega)), zcn (by omega)]
  exact EQA.done (by rw [d6 j (by omega)]; exact b7 j (by omega)) ((h.ou1 b2 b3).rf d2.rs) (b3.fc (by omega)) d2.fr
/-! as(): a kind and the kinds above it -/
theorem ca_under (a b : Nat) (ha : a < 7) (hb : b < 7) (M : zM) : ∃ r, fX7_isUnder (nI a) (nI b) M = some (r, M) ∧ ∀ R, fX8_isUnder (nI a) (nI b) R = some (r, R) := by
  have key : ∀ a, a < 7 → ∀ b, b < 7 → ∀ (M R : zM), fX7_isUnder (nI a) (nI b) M = some (if b = 0 ∨ a = b ∨ (b = 1 ∧ a = 4) ∨ (b = 3 ∧ a = 5) then 1 else 0, M) ∧ fX8_isUnder (nI a) (nI b) R = some (if b = 0 ∨ a = b ∨ (b = 1 ∧ a = 4) ∨ (b = 3 ∧ a = 5) then 1 else 0, R) := by
    intro a ha b hb M R
    rcases (show a = 0 ∨ a = 1 ∨ a = 2 ∨ a = 3 ∨ a = 4 ∨ a = 5 ∨ a = 6 by omega) with e | e | e | e | e | e | e <;> subst e <;> rcases (show b = 0 ∨ b = 1 ∨ b = 2 ∨ b = 3 ∨ b = 4 ∨ b = 5 ∨ b = 6 by omega) with e | e | e | e | e | e | e <;> subst e <;> exact ⟨rfl, rfl⟩
  exact ⟨_, (key a ha b hb M M).1, fun R => (key a ha b hb M R).2⟩
