/-! ===== the hour, on both sides ===== -/
theorem ra_turn1 {M : zM} {w f : Nat} (hw : w < 8) (hf : f < 5) (e : itS (M 88) w 3 = nI f) (b : Int32) : ∃ M', fX8_turn1 (nI w) b M = some M' ∧ M' 88 = t1S (M 88) w b ∧ ∀ c, c ≠ 88 → M' c = M c := by
  have e3 : ∀ v, (zst M 88 (52 + 7 * w + 6) v) 88 (52 + 7 * w + 3) = nI f := fun v => by
    rw [zst_k, if_neg (fun z => by omega)]
    exact e
  rw [fX8_turn1, ra_its (k := 6) (x := (6 : Int32)) rfl (by omega) (by omega), zbi_s, ra_held, zbi_s, ra_lays (k := 6) (x := (6 : Int32)) rfl (by omega) (by omega), zbv_s, ra_its (k := 3) (x := (3 : Int32)) rfl (by omega) (by omega), zbi_s, e3, ra_its (k := 3) (x := (3 : Int32)) rfl (by omega) (by omega), zbi_s, e3, ra_prayed hf, zbi_s, ra_prays hf, zbv_s]
  refine ⟨_, rfl, ?_, fun c hc => ?_⟩
  · unfold t1S
    rw [zst_s, zst_s, e, zcn (by omega), upd_n _ (by omega)]
    rfl
  · rw [zst_n _ hc, zst_n _ hc]
theorem ra_he {M : zM} {n h w : Nat} (hV : VR (M 88) n h) (hw : w < n) (t : Int32) (kk : Int32 → zM → Option zM) :
    ∃ M', fX8_turns (nI w) t M = some (tuS (M 88) w t, M') ∧ RU2 M M' := ra_turns hV hw t
theorem ra_hloop {s t : zR} {n h : Nat} (hV : VR s n h) (kk : zM → Option zM) :
    ∀ (d k : Nat) (M : zM) (F : Nat), k + d = n → d < F → M 88 = hfS s t k → (∀ i, i < n → M 96 i = t i) → (∀ j, j < k → M 97 j = tuS (hfS s t j) j (t j)) →
      ∃ M', fX8_hour_6 kk F (nI k) M = kk M' ∧ M' 88 = hfS s t n ∧ (∀ i, i < n → M' 96 i = t i) ∧ (∀ j, j < n → M' 97 j = tuS (hfS s t j) j (t j)) ∧ ∀ c, c ≠ 88 → c ≠ 93 → c ≠ 94 → c ≠ 97 → M' c = M c := by
  have hn := hV.1
  intro d
  induction d with
  | zero =>
    intro k M F hk hF hs h1 h2
    obtain ⟨F, rfl⟩ : ∃ G, F = G + 1 := ⟨F - 1, by omega⟩
    have e : k = n := by omega
    subst e
    have h0 := (VR_hf (t := t) hV k (Nat.le_refl _)).2.1
    refine ⟨M, ?_, hs, h1, h2, fun _ _ _ _ _ => rfl⟩
    rw [fX8_hour_6, hs, h0, if_pos (by rw [nI_leI (by omega) (by omega)]; omega)]
  | succ d ih =>
    intro k M F hk hF hs h1 h2
    obtain ⟨F, rfl⟩ : ∃ G, F = G + 1 := ⟨F - 1, by omega⟩
    have hkn : k < n := by omega
    have hVk := VR_hf (t := t) hV k (by omega)
    obtain ⟨f, hf, ef, -⟩ := VR_fam hVk hkn
    have h0 := hVk.2.1
    have hVM : VR (M 88) n h := by rw [hs]; exact hVk
    rw [fX8_hour_6, show M 88 0 = nI n by rw [hs, h0], if_neg (fun z => by rw [nI_leI (by omega) (by omega)] at z; omega), zgd_n (zgi rfl (show k < 9 by omega) (by omega)), zcn (by omega)]
    obtain ⟨M1, a1, a2⟩ := ra_turns hVM hkn (M 96 k)
    rw [a1, zbi_s, zgd_n (zgj (show k < 9 by omega) (by omega)), zlt_r, zgd_n (zgj (show k < 9 by omega) (by omega)), zgd_n (zgj (show k < 9 by omega) (by omega)), ra_showsBy (by omega), zbi_s, zgd_n (zgj (show k < 9 by omega) (by omega))]
    rw [h1 k hkn, hs]
    generalize hM2 : zst M1 97 k (tuS (hfS s t k) k (t k)) = M2
    have e88 : M2 88 = hfS s t k := by rw [← hM2, zst_n _ (by decide), a2 88 (by decide) (by decide), hs]
    have e97 : M2 97 k = tuS (hfS s t k) k (t k) := by rw [← hM2, zst_k, if_pos ⟨rfl, rfl⟩]
    have e96 : M2 96 = M 96 := by rw [← hM2, zst_n _ (by decide), a2 96 (by decide) (by decide)]
    rw [e97, e96, h1 k hkn, e88]
    obtain ⟨M3, b1, b2, b3⟩ := ra_turn1 (M := M2) (show k < 8 by omega) hf (by rw [e88]; exact ef) (tuS (hfS s t k) k (t k))
    rw [e88] at b2
    rw [b1, zbv_s, ra_its (k := 5) (x := (5 : Int32)) rfl (by omega) (by omega), zbi_s, ra_held, zbi_s, ra_lays (k := 5) (x := (5 : Int32)) rfl (by omega) (by omega), zbv_s, zlt_r, nI_1]
    have e5 : M3 88 (52 + 7 * k + 5) = itS (hfS s t k) k 5 := by
      rw [b2]
      unfold t1S
      obtain ⟨f', hf', -, ef'⟩ := VR_fam hVk hkn
      rw [ef', upd_n _ (by omega), upd_n _ (by omega)]
      rfl
    rw [e5]
    obtain ⟨M', c1, c2, c3, c4, c5⟩ := ih (k + 1) (zst M3 88 (52 + 7 * k + 5) (hdS (itS (hfS s t k) k 5 + shS (hfS s t k) k (t k) (tuS (hfS s t k) k (t k))) 0 999999)) F (by omega) (by omega) (by rw [zst_s, b2]; rfl) (fun i hi => by rw [zst_n _ (by decide), b3 _ (by decide), e96]; exact h1 i hi) (fun j hj => by
      rw [zst_n _ (by decide), b3 _ (by decide), ← hM2, zst_k]
      by_cases e : j = k
      · rw [e, if_pos ⟨rfl, rfl⟩]
      · rw [if_neg (fun z => e z.2), a2 97 (by decide) (by decide)]
        exact h2 j (by omega))
    refine ⟨M', c1, c2, c3, c4, fun c g1 g2 g3 g4 => ?_⟩
    rw [c5 c g1 g2 g3 g4, zst_n _ g1, b3 c g1, ← hM2, zst_n _ g4, a2 c g2 g3]
/-- the reference's frame over hours: the row and scratch -/
def RH (M M' : zM) : Prop := (∀ c, c ≠ 87 → c ≠ 88 → c ≠ 93 → c ≠ 94 → c ≠ 95 → c ≠ 96 → c ≠ 97 → M' c = M c) ∧ ∀ k, k ≠ 14 → k ≠ 15 → M' 87 k = M 87 k
theorem RH.rf {M : zM} : RH M M := ⟨fun _ _ _ _ _ _ _ _ => rfl, fun _ _ _ => rfl⟩
theorem RH.tr {M M' M'' : zM} (h : RH M M') (g : RH M' M'') : RH M M'' := ⟨fun c h1 h2 h3 h4 h5 h6 h7 => (g.1 c h1 h2 h3 h4 h5 h6 h7).trans (h.1 c h1 h2 h3 h4 h5 h6 h7), fun k h1 h2 => (g.2 k h1 h2).trans (h.2 k h1 h2)⟩
theorem RU.rh {M M' : zM} (h : RU M M') : RH M M' := ⟨fun c h1 _ h3 h4 h5 h6 _ => h.1 c h1 h3 h4 h5 h6, h.2⟩
/-- hour() of the reference -/
theorem ra_hour {M : zM} {n h : Nat} (hV : VR (M 88) n h) : ∃ M', fX8_hour M = some M' ∧ RH M M' ∧ M' 88 = hrS (M 88) n ∧ M' 87 15 = (flA (M 88) n).1.2.2 ∧ (∀ i, i < n → M' 96 i = (flA (M 88) n).1.2.1 i) ∧ ∀ j, j < n → M' 97 j = trS (M 88) n j := by
  have hn := hV.1
  obtain ⟨M1, a1, a2, a3, a4, a5, a6, a7⟩ := ra_flow hV
  have e88 : M1 88 = M 88 := a2.1 88 (by decide) (by decide) (by decide) (by decide) (by decide)
  obtain ⟨M2, b1, b2, b3, b4, b5⟩ := ra_hloop (t := (flA (M 88) n).1.2.1) hV (fun M30 => zlt (zst M30 88 (1) ((M30 88 (1)) + (1 : Int32))) (fun M31 => some M31)) n 0 M1 zF (by omega) (show n < 1000 by omega) e88 a5 (fun j hj => by omega)
  rw [fX8_hour, a1, zbv_s]
  refine ⟨_, b1, a2.rh.tr ⟨fun c g1 g2 g3 g4 g5 g6 g7 => ?_, fun k _ _ => ?_⟩, ?_, ?_, fun i hi => ?_, fun j hj => ?_⟩
  · rw [zst_n _ g2, b5 c g2 g3 g4 g7]
  · rw [zst_n _ (by decide), b5 87 (by decide) (by decide) (by decide) (by decide)]
  · rw [zst_s, b2]
    rfl
  · rw [zst_n _ (by decide), b5 87 (by decide) (by decide) (by decide) (by decide), a4]
  · rw [zst_n _ (by decide), b3 i hi]
  · rw [zst_n _ (by decide), b4 j hj]
    rfl
