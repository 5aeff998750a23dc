/-! ===== the hour of the class ===== -/
/-- a brook's cells but one have stayed -/
theorem CB.upw {q n w k : Nat} {M : zM} {s : zR} {v : Int32} (hn : n ≤ 8) (hC : CB q M s n) (hw : w < 8) (hk : k < 7) : CB q (zst M (q + 8 + w) k v) (upd s (52 + 7 * w + k) v) n := by
  obtain ⟨a1, a2, a3, a4, a5, a6, a7, a8, a9, a10⟩ := hC
  have z : ∀ c, c ≠ q + 8 + w → zst M (q + 8 + w) k v c = M c := fun c hc => zst_n _ hc
  have u : ∀ j, j < 52 ∨ 108 ≤ j → upd s (52 + 7 * w + k) v j = s j := fun j hj => upd_n _ (by omega)
  refine ⟨by rw [z _ (by omega), u _ (by omega)]; exact a1, by rw [z _ (by omega), u _ (by omega)]; exact a2, by rw [z _ (by omega), u _ (by omega)]; exact a3, by rw [z _ (by omega), u _ (by omega)]; exact a4, fun j hj => by rw [z _ (by omega), u _ (by omega)]; exact a5 j hj, fun j hj => by rw [z _ (by omega), u _ (by omega)]; exact a6 j hj, fun j hj => by rw [z _ (by omega), z _ (by omega), u _ (by omega), u _ (by omega)]; exact a7 j hj, fun x hx j hj => ?_, ⟨by rw [z _ (by omega), u _ (by omega)]; exact a9.1, ?_⟩, ⟨by rw [z _ (by omega), u _ (by omega)]; exact a10.1, ?_⟩⟩
  · rw [zst_k, upd_a]
    by_cases e : x = w ∧ j = k
    · rw [if_pos ⟨by omega, e.2⟩, if_pos (by omega)]
    · rw [if_neg (fun y => e ⟨by omega, y.2⟩), if_neg (by omega)]
      exact a8 x hx j hj
  · intro c hc h60 j hj
    rw [u _ (by omega)] at hc
    rw [z _ (by omega), u _ (by omega), u _ (by omega)]
    exact a9.2 c hc h60 j hj
  · intro c hc h60 j hj
    rw [u _ (by omega)] at hc
    rw [z _ (by omega), u _ (by omega), u _ (by omega)]
    exact a10.2 c hc h60 j hj
theorem CB.upf {q n f : Nat} {M : zM} {s : zR} {v : Int32} (hn : n ≤ 8) (hC : CB q M s n) (hf : f < 5) : CB q (zst M (q + 4) f v) (upd s (43 + 2 * f) v) n := by
  obtain ⟨a1, a2, a3, a4, a5, a6, a7, a8, a9, a10⟩ := hC
  have z : ∀ c, c ≠ q + 4 → zst M (q + 4) f v c = M c := fun c hc => zst_n _ hc
  have u : ∀ j, j < 43 ∨ 52 ≤ j → upd s (43 + 2 * f) v j = s j := fun j hj => upd_n _ (by omega)
  refine ⟨by rw [z _ (by omega), u _ (by omega)]; exact a1, by rw [z _ (by omega), u _ (by omega)]; exact a2, by rw [z _ (by omega), u _ (by omega)]; exact a3, by rw [z _ (by omega), u _ (by omega)]; exact a4, fun j hj => by rw [z _ (by omega), u _ (by omega)]; exact a5 j hj, fun j hj => by rw [z _ (by omega), u _ (by omega)]; exact a6 j hj, fun j hj => ?_, fun x hx j hj => by rw [z _ (by omega), u _ (by omega)]; exact a8 x hx j hj, ⟨by rw [z _ (by omega), u _ (by omega)]; exact a9.1, ?_⟩, ⟨by rw [z _ (by omega), u _ (by omega)]; exact a10.1, ?_⟩⟩
  · refine ⟨by rw [z _ (by omega), upd_n _ (by omega)]; exact (a7 j hj).1, ?_⟩
    rw [zst_k, upd_a]
    by_cases e : j = f
    · rw [if_pos ⟨rfl, e⟩, if_pos (by omega)]
    · rw [if_neg (fun y => e y.2), if_neg (by omega)]
      exact (a7 j hj).2
  · intro c hc h60 j hj
    rw [u _ (by omega)] at hc
    rw [z _ (by omega), u _ (by omega), u _ (by omega)]
    exact a9.2 c hc h60 j hj
  · intro c hc h60 j hj
    rw [u _ (by omega)] at hc
    rw [z _ (by omega), u _ (by omega), u _ (by omega)]
    exact a10.2 c hc h60 j hj
theorem CB.uph {q n : Nat} {M : zM} {s : zR} {v : Int32} (hC : CB q M s n) : CB q (zst M q 10 v) (upd s 1 v) n := by
  obtain ⟨a1, a2, a3, a4, a5, a6, a7, a8, a9, a10⟩ := hC
  have z : ∀ c, c ≠ q → zst M q 10 v c = M c := fun c hc => zst_n _ hc
  have u : ∀ j, j ≠ 1 → upd s 1 v j = s j := fun j hj => upd_n _ (by omega)
  refine ⟨by rw [zst_k, if_neg (by omega), u _ (by omega)]; exact a1, by rw [zst_k, if_pos ⟨rfl, rfl⟩, upd_s], by rw [zst_k, if_neg (by omega), u _ (by omega)]; exact a3, by rw [zst_k, if_neg (by omega), u _ (by omega)]; exact a4, fun j hj => by rw [z _ (by omega), u _ (by omega)]; exact a5 j hj, fun j hj => by rw [z _ (by omega), u _ (by omega)]; exact a6 j hj, fun j hj => by rw [z _ (by omega), z _ (by omega), u _ (by omega), u _ (by omega)]; exact a7 j hj, fun x hx j hj => by rw [z _ (by omega), u _ (by omega)]; exact a8 x hx j hj, ⟨by rw [z _ (by omega), u _ (by omega)]; exact a9.1, ?_⟩, ⟨by rw [z _ (by omega), u _ (by omega)]; exact a10.1, ?_⟩⟩
  · intro c hc h60 j hj
    rw [u _ (by omega)] at hc
    rw [z _ (by omega), u _ (by omega), u _ (by omega)]
    exact a9.2 c hc h60 j hj
  · intro c hc h60 j hj
    rw [u _ (by omega)] at hc
    rw [z _ (by omega), u _ (by omega), u _ (by omega)]
    exact a10.2 c hc h60 j hj
/-- a slot of a wheel that stands for nothing of the row -/
theorem AG.slot {q w k : Nat} {M : zM} {v : Int32} (hw : w < 8) (hk : 7 ≤ k) : AG q M (zst M (q + 8 + w) k v) := by
  refine ⟨?_, ?_, ?_, ?_, ?_, ?_, ?_, ?_, fun x hx j hj => ?_, ?_, ?_, ?_, ?_⟩
  all_goals first | rw [zst_n _ (by omega)] | rw [zst_k, if_neg (by omega)]
theorem OU.st {q c k : Nat} {M : zM} {v : Int32} (hc : q ≤ c) (hc2 : c < q + 22) : OU q M (zst M c k v) := fun x hx => zst_n _ (by omega)
theorem zmin_hd {x b : Int32} (h0 : 0 ≤ x.toInt) (h1 : x.toInt ≤ 999999) (b0 : 0 ≤ b.toInt) (b1 : b.toInt ≤ 999999) : zmin (x + b) 999999 = hdS (x + b) 0 999999 := by
  have e : (x + b).toInt = x.toInt + b.toInt := zadT (by omega) (by omega)
  have e9 : (999999 : Int32).toInt = 999999 := rfl
  have e0 : (0 : Int32).toInt = 0 := rfl
  have e1 : (0 : Int32) ≤ x + b := by rw [zle', e, e0]; omega
  unfold hdS
  rw [if_pos e1]
  unfold zmin
  by_cases c : x + b ≤ 999999
  · rw [if_pos c, if_neg (fun z => by rw [zlt'] at z; rw [zle'] at c; omega)]
  · rw [if_neg c, if_pos (by rw [zlt']; rw [zle'] at c; omega)]
theorem ca_turnMore {M : zM} {s : zR} {q n h w : Nat} (hV : VR s n h) (hC : CB q M s n) (hw : w < n) {b : Int32} (b0 : 0 ≤ b.toInt) (b1 : b.toInt ≤ 999999) :
    ∃ M', fX0_turnMore q (q + 8 + w) b M = some M' ∧ CB q M' (t1S s w b) n ∧ (∀ c, c ≠ q + 4 → c ≠ q + 8 + w → M' c = M c) ∧ ∀ k, k ≠ 6 → M' (q + 8 + w) k = M (q + 8 + w) k := by
  have hn := hV.1
  obtain ⟨f, hf, ef, ef2⟩ := VR_fam hV hw
  obtain ⟨p0, p1⟩ := (hV.2.2.2.2.2.2.2.1 f hf).2
  have hW := hV.2.2.2.2.2.2.2.2.1 w hw
  obtain ⟨t0, t1⟩ : zbd (itS s w 6) 999999 := hW.2.2.2.2.2.2
  have e6 := cb_its hC hw (show 6 < 7 by omega)
  have e3 : ∀ v, zst M (q + 8 + w) 6 v (q + 8 + w) 3 = nI f := fun v => by
    rw [zst_k, if_neg (by omega), cb_its hC hw (show 3 < 7 by omega), ef]
  have e4 : ∀ v, zst M (q + 8 + w) 6 v (q + 4) f = s (43 + 2 * f) := fun v => by
    rw [zst_n _ (by omega)]
    exact (hC.2.2.2.2.2.2.1 f hf).2
  rw [fX0_turnMore, e6, zmin_hd t0 t1 b0 b1, zlt_r, zlt_r, e3, zgd_n (zgi rfl hf (by omega)), zcn (by omega), zlt_r, zgd_n (zgj hf (by omega)), zlt_r, e4, zmin_hd p0 p1 b0 b1]
  refine ⟨_, rfl, ?_, fun c h1 h2 => ?_, fun k hk => ?_⟩
  · unfold t1S
    rw [ef2]
    exact CB.upf hn (CB.upw hn hC (by omega) (by omega)) hf
  · rw [zst_n _ h1, zst_n _ h2]
  · rw [zst_n _ (by omega), zst_k, if_neg (fun z => hk z.2)]
theorem shS_r {s : zR} {w : Nat} {t b : Int32} (t0 : 0 ≤ t.toInt) (t1 : t.toInt ≤ 99) (b0 : 0 ≤ b.toInt) (b1 : b.toInt ≤ 9999) : 0 ≤ (shS s w t b).toInt ∧ (shS s w t b).toInt ≤ 999999 := by
  unfold shS
  refine zite (P := fun x => 0 ≤ x.toInt ∧ x.toInt ≤ 999999) ?_ (zite (P := fun x => 0 ≤ x.toInt ∧ x.toInt ≤ 999999) (by decide) (zite (P := fun x => 0 ≤ x.toInt ∧ x.toInt ≤ 999999) ?_ ⟨b0, by omega⟩))
  · have e2 : (2 : Int32).toInt = 2 := rfl
    rw [zdvT b0 (by rw [e2]; omega), e2]
    omega
  · have e2 : (2 : Int32).toInt = 2 := rfl
    rw [zmlT (by rw [e2]; omega) (by rw [e2]; omega), e2]
    omega
theorem t1S_its {s : zR} {n h w k : Nat} {b : Int32} (hV : VR s n h) (hw : w < n) (hk : k < 6) : itS (t1S s w b) w k = itS s w k := by
  have hn := hV.1
  obtain ⟨f, hf, -, e⟩ := VR_fam hV hw
  show (t1S s w b) (52 + 7 * w + k) = s (52 + 7 * w + k)
  unfold t1S
  rw [e, upd_n _ (by omega), upd_n _ (by omega)]
theorem ca_hloop {s t : zR} {q n h : Nat} (hV : VR s n h) (ht : ∀ i, 0 ≤ (t i).toInt ∧ (t i).toInt ≤ 99) (kk : Int32 → zM → Option (Int32 × zM)) :
    ∀ (d k : Nat) (M : zM) (F : Nat), k + d = n → d < F → CB q M (hfS s t k) n → (∀ i, i < n → M (q + 8 + i) 7 = t i) → (∀ j, j < k → M (q + 8 + j) 8 = tuS (hfS s t j) j (t j)) →
      ∃ M', fX0_passHour_8 q kk F (bx_sum t k) (nI k) M = kk (bx_sum t n) M' ∧ CB q M' (hfS s t n) n ∧ (∀ i, i < n → M' (q + 8 + i) 7 = t i) ∧ (∀ j, j < n → M' (q + 8 + j) 8 = tuS (hfS s t j) j (t j)) ∧ OU q M M' ∧ M' q = M q ∧ M' (q + 7) = M (q + 7) := by
  have hn := hV.1
  intro d
  induction d with
  | zero =>
    intro k M F hk hF hC h1 h2
    obtain ⟨F, rfl⟩ : ∃ G, F = G + 1 := ⟨F - 1, by omega⟩
    have e : k = n := by omega
    subst e
    have h0 := (VR_hf (t := t) hV k (Nat.le_refl _)).2.1
    refine ⟨M, ?_, hC, h1, h2, OU.rf, rfl, rfl⟩
    rw [fX0_passHour_8, hC.1, h0, if_pos (by rw [nI_leI (by omega) (by omega)]; omega)]
  | succ d ih =>
    intro k M F hk hF hC h1 h2
    obtain ⟨F, rfl⟩ : ∃ G, F = G + 1 := ⟨F - 1, by omega⟩
    have hkn : k < n := by omega
    have hVk := VR_hf (t := t) hV k (by omega)
    have h0 := hVk.2.1
    rw [fX0_passHour_8, hC.1, h0, if_neg (fun z => by rw [nI_leI (by omega) (by omega)] at z; omega), zgd_n (zgi rfl (show k < 8 by omega) (by omega)), zcn (by omega), zlt_r, zlt_r, h1 k hkn]
    obtain ⟨M1, a1, a2⟩ := ca_turnsBy hC hVk hkn (t k)
    rw [a1, zbi_s, zlt_r]
    generalize hM2 : zst M1 (q + 8 + k) 8 (tuS (hfS s t k) k (t k)) = M2
    have g1 : ∀ c, c ≠ q + 8 + k → c ≠ q + 6 → c ≠ q + 18 → c ≠ q + 21 → M2 c = M c := fun c c1 c2 c3 c4 => by rw [← hM2, zst_n _ c1, a2 c c2 c3 c4]
    have g2 : ∀ j, j ≠ 8 → M2 (q + 8 + k) j = M (q + 8 + k) j := fun j hj => by rw [← hM2, zst_k, if_neg (fun z => hj z.2), a2 _ (by omega) (by omega) (by omega)]
    have g8 : M2 (q + 8 + k) 8 = tuS (hfS s t k) k (t k) := by rw [← hM2, zst_k, if_pos ⟨rfl, rfl⟩]
    have hC2 : CB q M2 (hfS s t k) n := by rw [← hM2]; exact (hC.ag hn a2.ag).ag hn (AG.slot (by omega) (by omega))
    obtain ⟨u0, u1⟩ := tuS_r (s := hfS s t k) (w := k) (t := t k)
    obtain ⟨M3, b1, b2, b3, b4⟩ := ca_turnMore hVk hC2 hkn u0 (by omega)
    have hV3 := VR_t1 hVk hkn (tuS (hfS s t k) k (t k))
    rw [g8, b1, zbv_s, b4 7 (by decide), b4 8 (by decide), g8, g2 7 (by decide), h1 k hkn, ca_showsBy (n := n) (s := t1S (hfS s t k) k (tuS (hfS s t k) k (t k))) (cb_its b2 hkn (by omega)) (ht k).1 (ht k).2, zbi_s, cb_its b2 hkn (show 5 < 7 by omega), zlt_r, zlt_r, zlt_r, nI_1]
    have es : shS (t1S (hfS s t k) k (tuS (hfS s t k) k (t k))) k (t k) (tuS (hfS s t k) k (t k)) = shS (hfS s t k) k (t k) (tuS (hfS s t k) k (t k)) := by
      unfold shS
      rw [t1S_its hVk hkn (by omega)]
    obtain ⟨s0, s1⟩ := shS_r (s := hfS s t k) (w := k) (ht k).1 (ht k).2 u0 u1
    obtain ⟨c0, c1⟩ : zbd (itS (hfS s t k) k 5) 999999 := (hVk.2.2.2.2.2.2.2.2.1 k hkn).2.2.2.2.2.1
    rw [es, t1S_its hVk hkn (by omega), zmin_hd c0 c1 s0 s1]
    obtain ⟨M', d1, d2, d3, d4, d5, d6, d7⟩ := ih (k + 1) (zst M3 (q + 8 + k) 5 (hdS (itS (hfS s t k) k 5 + shS (hfS s t k) k (t k) (tuS (hfS s t k) k (t k))) 0 999999)) F (by omega) (by omega) (CB.upw hn b2 (by omega) (by omega)) (fun i hi => by
      rw [zst_k, if_neg (by omega)]
      by_cases e : i = k
      · rw [e, b4 7 (by decide), g2 7 (by decide)]
        exact h1 k hkn
      · rw [b3 _ (by omega) (by omega), g1 _ (by omega) (by omega) (by omega) (by omega)]
        exact h1 i hi) (fun j hj => by
      rw [zst_k, if_neg (by omega)]
      by_cases e : j = k
      · rw [e, b4 8 (by decide), g8]
      · rw [b3 _ (by omega) (by omega), g1 _ (by omega) (by omega) (by omega) (by omega)]
        exact h2 j (by omega))
    refine ⟨M', d1, d2, d3, d4, (fun c hc => ?_), ?_, ?_⟩
    · rw [d5 c hc, zst_n _ (by omega), b3 c (by omega) (by omega), g1 c (by omega) (by omega) (by omega) (by omega)]
    · rw [d6, zst_n _ (by omega), b3 q (by omega) (by omega), g1 q (by omega) (by omega) (by omega) (by omega)]
    · rw [d7, zst_n _ (by omega), b3 _ (by omega) (by omega), g1 _ (by omega) (by omega) (by omega) (by omega)]
/-- passHour() of the class -/
theorem ca_passHour {M : zM} {s : zR} {q n h : Nat} (hV : VR s n h) (hC : CB q M s n) : ∃ M', fX0_passHour q M = some ((flA s n).1.2.2, M') ∧ CB q M' (hrS s n) n ∧ OU q M M' ∧ ∀ j, j < n → M' (q + 8 + j) 8 = trS s n j := by
  have hn := hV.1
  obtain ⟨M1, a1, a2, a3, a4, a5, a6, a7⟩ := ca_letFlow hV hC
  obtain ⟨M2, b1, b2, b3, b4, b5, b6, b7⟩ := ca_hloop (q := q) (t := (flA s n).1.2.1) hV (flA_tr hV) (fun x21 M22 => zlt (zst M22 q 10 ((M22 q 10) + (1 : Int32))) (fun M23 => some (x21, M23))) n 0 M1 zF (by omega) (show n < 1000 by omega) (hC.ag hn a2) a6 (fun j hj => by omega)
  rw [flA_sum] at b1
  rw [fX0_passHour, a1, zbv_s]
  refine ⟨_, b1, ?_, a3.tr (fun c hc => ?_), fun j hj => ?_⟩
  · rw [b2.2.1]
    exact b2.uph
  · rw [zst_n _ (by omega), b5 c hc]
  · rw [zst_n _ (by omega), b4 j hj]
    rfl
