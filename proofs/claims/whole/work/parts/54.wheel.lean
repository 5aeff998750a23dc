/-! ===== one wheel more ===== -/
theorem CB.size {q n : Nat} {M : zM} {s : zR} {v : Int32} (hC : CB q M s n) (e : ∀ k, k < 7 → M (q + 8 + n) k = s (52 + 7 * n + k)) : CB q (zst M q 9 v) (upd s 0 v) (n + 1) := by
  obtain ⟨a1, a2, a3, a4, a5, a6, a7, a8, a9, a10⟩ := hC
  have z : ∀ c, c ≠ q → zst M q 9 v c = M c := fun c hc => zst_n _ hc
  have u : ∀ j, j ≠ 0 → upd s 0 v j = s j := fun j hj => upd_n _ (by omega)
  refine ⟨by rw [zst_k, if_pos ⟨rfl, rfl⟩, upd_s], by rw [zst_k, if_neg (by omega), u _ (by omega)]; exact a2, by rw [zst_k, if_neg (by omega), u _ (by omega)]; exact a3, by rw [zst_k, if_neg (by omega), u _ (by omega)]; exact a4, fun j hj => by rw [z _ (by omega), u _ (by omega)]; exact a5 j hj, fun j hj => by rw [z _ (by omega), u _ (by omega)]; exact a6 j hj, fun j hj => by rw [z _ (by omega), z _ (by omega), u _ (by omega), u _ (by omega)]; exact a7 j hj, fun x hx j hj => ?_, ⟨by rw [z _ (by omega), u _ (by omega)]; exact a9.1, ?_⟩, ⟨by rw [z _ (by omega), u _ (by omega)]; exact a10.1, ?_⟩⟩
  · rw [z _ (by omega), u _ (by omega)]
    by_cases g : x = n
    · rw [g]
      exact e j hj
    · exact a8 x (by omega) j hj
  · intro c hc h60 j hj
    rw [u _ (by omega)] at hc
    rw [z _ (by omega), u _ (by omega), u _ (by omega)]
    exact a9.2 c hc h60 j hj
  · intro c hc h60 j hj
    rw [u _ (by omega)] at hc
    rw [z _ (by omega), u _ (by omega), u _ (by omega)]
    exact a10.2 c hc h60 j hj
theorem VR_size {s : zR} {n h : Nat} (hV : VR s n h) (hn : n < 8) (hW : VW s n) : VR (upd s 0 (nI (n + 1))) (n + 1) h := by
  obtain ⟨a1, a2, a3, a4, a5, a6, a7, a8, a9, a10, a11⟩ := hV
  refine ⟨by omega, by rw [upd_s], by rw [upd_n _ (by omega)]; exact a3, a4, by rw [upd_n _ (by omega)]; exact a5, fun j hj => by rw [upd_n _ (by omega)]; exact a6 j hj, fun j hj => by rw [upd_n _ (by omega)]; exact a7 j hj, fun j hj => by rw [upd_n _ (by omega), upd_n _ (by omega)]; exact a8 j hj, fun x hx => ?_, VTX_up a10 (by omega), VTX_up a11 (by omega)⟩
  obtain ⟨b0, b1, b2, b3, b4, b5, b6⟩ : VW s x := by
    by_cases g : x = n
    · rw [g]
      exact hW
    · exact a9 x (by omega)
  refine ⟨?_, ?_, ?_, ?_, ?_, ?_, ?_⟩ <;> rw [upd_n _ (by omega)] <;> assumption
def adS7 (s : zR) (n : Nat) (a b c d : Int32) : zR := upd (upd (upd (upd (upd (upd (upd s (52 + 7 * n + 0) a) (52 + 7 * n + 1) b) (52 + 7 * n + 2) c) (52 + 7 * n + 3) d) (52 + 7 * n + 4) 1) (52 + 7 * n + 5) 0) (52 + 7 * n + 6) 0
def adS (s : zR) (n : Nat) (a b c d : Int32) : zR := upd (adS7 s n a b c d) 0 (nI (n + 1))
theorem VR_ad {s : zR} {n h : Nat} {a b c d : Int32} (hV : VR s n h) (hn : n < 8) (ha : zbd a 6) (hb : zbd b 9) (hc : zbd c 11) (hd : zbd d 4) : VR (adS s n a b c d) (n + 1) h := by
  refine VR_size ?_ hn ?_
  · exact VR_upw (VR_upw (VR_upw (VR_upw (VR_upw (VR_upw (VR_upw hV hn (by omega) ha) hn (by omega) hb) hn (by omega) hc) hn (by omega) hd) hn (by omega) (by unfold zbd; decide)) hn (by omega) (by unfold zbd; decide)) hn (by omega) (by unfold zbd; decide)
  · have e : ∀ k v m, zbd v m → adS7 s n a b c d (52 + 7 * n + k) = v → zbd (adS7 s n a b c d (52 + 7 * n + k)) m := fun k v m h g => by rw [g]; exact h
    refine ⟨e 0 a 6 ha ?_, e 1 b 9 hb ?_, e 2 c 11 hc ?_, e 3 d 4 hd ?_, e 4 1 1 (by unfold zbd; decide) ?_, e 5 0 999999 (by unfold zbd; decide) ?_, e 6 0 999999 (by unfold zbd; decide) ?_⟩ <;> simp [adS7, upd_a]
theorem ad_keep {s : zR} {n i : Nat} {a b c d : Int32} (hn : n < 8) (h0 : i ≠ 0) (hi : i < 52 ∨ 108 ≤ i) : adS s n a b c d i = s i := by
  unfold adS adS7
  rw [upd_n _ h0, upd_n _ (by omega), upd_n _ (by omega), upd_n _ (by omega), upd_n _ (by omega), upd_n _ (by omega), upd_n _ (by omega), upd_n _ (by omega)]
theorem ra_adds {M : zM} {n h j p : Nat} (hV : VR (M 88) n h) (hn : n < 8) (hj : j < 70) (hp : p < 115) : ∃ M', fX8_adds (nI j) (nI p) M = some (nI n, M') ∧ M' 88 = adS (M 88) n (nI (j / 10)) (nI (j % 10)) (nI (p / 10)) (nI (p % 10)) ∧ ∀ c, c ≠ 88 → M' c = M c := by
  have e10 : (10 : Int32) = nI 10 := rfl
  have d1 : nI j / 10 = nI (j / 10) := pk_div (d := 10) (by omega) (by omega) (by omega)
  have d2 : nI p / 10 = nI (p / 10) := pk_div (d := 10) (by omega) (by omega) (by omega)
  have r1 : zrem (nI j) 10 = nI (j % 10) := pk_rem (d := 10) (by omega) (by omega) (by omega)
  have r2 : zrem (nI p) 10 = nI (p % 10) := pk_rem (d := 10) (by omega) (by omega) (by omega)
  rw [fX8_adds, hV.2.1, zlt_r, ra_lays (k := 0) (x := (0 : Int32)) rfl (by omega) (by omega), zbv_s, zlt_r, ra_lays (k := 1) (x := (1 : Int32)) rfl (by omega) (by omega), zbv_s, ra_lays (k := 2) (x := (2 : Int32)) rfl (by omega) (by omega), zbv_s, zlt_r, ra_lays (k := 3) (x := (3 : Int32)) rfl (by omega) (by omega), zbv_s, ra_lays (k := 4) (x := (4 : Int32)) rfl (by omega) (by omega), zbv_s, ra_lays (k := 5) (x := (5 : Int32)) rfl (by omega) (by omega), zbv_s, ra_lays (k := 6) (x := (6 : Int32)) rfl (by omega) (by omega), zbv_s, zlt_r, d1, d2, r1, r2]
  refine ⟨_, rfl, ?_, fun c hc => ?_⟩
  · simp only [zst_s]
    unfold adS adS7
    have e0 : ∀ (f : zR) v k, upd f (52 + 7 * n + k) v 0 = f 0 := fun f v k => upd_n _ (by omega)
    simp only [e0, hV.2.1, nI_1]
  · simp only [zst_n _ hc]
theorem ca_addWheel {M : zM} {s : zR} {q n h j p d : Nat} (hV : VR s n h) (hC : CB q M s n) (hn : n < 8) (hj : j < 70) : ∃ M', fX0_addWheel q (nI j) (nI p) (nI d) M = some M' ∧ CB q M' (adS s n (nI (j / 10)) (nI (j % 10)) (nI p) (nI d)) (n + 1) ∧ OU q M M' := by
  have d1 : nI j / 10 = nI (j / 10) := pk_div (d := 10) (by omega) (by omega) (by omega)
  have r1 : zrem (nI j) 10 = nI (j % 10) := pk_rem (d := 10) (by omega) (by omega) (by omega)
  have e9 : M q 9 = nI n := hC.1.trans hV.2.1
  have z9 : ∀ (f : zM) k v, zst f (q + 8 + n) k v q 9 = f q 9 := fun f k v => by rw [zst_n _ (by omega)]
  rw [fX0_addWheel, e9, if_neg (fun z => by
    have := (nI_leI (a := 8) (b := n) (by omega) (by omega)).mp z
    omega), zgd_n (zgi rfl hn (by omega)), zlt_r, zcn (by omega), d1, zlt_r, zlt_r, r1, zlt_r, zlt_r, zlt_r, zlt_r, zlt_r, zlt_r, zlt_r]
  simp only [z9, e9, nI_1]
  have c7 := CB.upw (k := 6) (v := 0) (by omega) (CB.upw (k := 5) (v := 0) (by omega) (CB.upw (k := 4) (v := 1) (by omega) (CB.upw (k := 3) (v := nI d) (by omega) (CB.upw (k := 2) (v := nI p) (by omega) (CB.upw (k := 1) (v := nI (j % 10)) (by omega) (CB.upw (k := 0) (v := nI (j / 10)) (by omega) hC hn (by omega)) hn (by omega)) hn (by omega)) hn (by omega)) hn (by omega)) hn (by omega)) hn (by omega)
  refine ⟨_, rfl, CB.size c7 (fun k hk => ?_), fun c hc => ?_⟩
  · rcases (show k = 0 ∨ k = 1 ∨ k = 2 ∨ k = 3 ∨ k = 4 ∨ k = 5 ∨ k = 6 by omega) with e | e | e | e | e | e | e <;> subst e <;> simp [zst_k, upd_a, adS7]
  · have zz : ∀ (f : zM) k v, zst f (q + 8 + n) k v c = f c := fun f k v => zst_n _ (by omega)
    rw [zst_n _ (by omega)]
    simp only [zz]
theorem z00 : (0 : Int32) = 0 := rfl
theorem z10 : ¬ (1 : Int32) = 0 := by decide
theorem eq_wheel (p0 p1 : Int32) {C R : zM} (h : Rel2 C R) : EQA C R (fX7_wheel p0 p1 C) (fX8_wheel p0 p1 R) := by
  unfold fX7_wheel fX8_wheel
  refine EQA.out0 h (m := 69) rfl (by omega) fun j hj e => ?_
  subst e
  obtain ⟨n, hh, a1, a2, a3⟩ := h.1
  have hn := a1.1
  rw [ca_outside, ra_in, zbi_s, zbi_s]
  by_cases c : 0 ≤ p1 ∧ p1 ≤ (119 : Int32)
  · obtain ⟨p, hp, ep, -⟩ : ∃ p : Nat, p ≤ 119 ∧ p1 = nI p ∧ p < 2147483648 := zof (n := 119) (by have := (zle' _ _).mp c.1; exact this) (by have := (zle' _ _).mp c.2; exact this)
    subst ep
    have r1 : zrem (nI p) 10 = nI (p % 10) := pk_rem (d := 10) (by omega) (by omega) (by omega)
    have d1 : nI p / 10 = nI (p / 10) := pk_div (d := 10) (by omega) (by omega) (by omega)
    rw [if_pos c, if_pos z00, zlt_r, r1, ca_outside, zbi_s]
    by_cases g : p % 10 ≤ 4
    · have g1 : (0 : Int32) ≤ nI (p % 10) ∧ nI (p % 10) ≤ 4 := ⟨(nI_leI (a := 0) (b := p % 10) (by omega) (by omega)).mpr (by omega), (nI_leI (a := p % 10) (b := 4) (by omega) (by omega)).mpr g⟩
      have g2 : (0 : Int32) ≤ nI p ∧ nI p ≤ 114 := ⟨c.1, (nI_leI (a := p) (b := 114) (by omega) (by omega)).mpr (by omega)⟩
      have e9 : C 1 9 = nI n := a3.1.trans a1.2.1
      rw [if_pos g1, if_pos z00, if_pos g2, if_neg z10, zlt_r, zlt_r, if_pos g1.2, e9, a1.2.1]
      by_cases f : n = 8
      · subst f
        rw [if_neg (show ¬ nI 8 < 8 by decide), if_pos (show nI 8 = 8 by decide)]
        exact EQA.err h (k := 4) rfl (by omega)
      · have hn8 : n < 8 := by omega
        obtain ⟨C', b1, b2, b3⟩ := ca_addWheel (p := p / 10) (d := p % 10) a1 a3 hn8 (show j < 70 by omega)
        obtain ⟨R', f1, f2, f3⟩ := ra_adds a1 hn8 (show j < 70 by omega) (show p < 115 by omega)
        rw [if_pos (by rw [zlt', znT (by omega)]; show (n : Int) < 8; omega), if_neg (show ¬ nI n = (8 : Int32) from fun z => f ((nI_eq (a := n) (b := 8) (by omega) (by omega)).mp z)), d1, b1, zbv_s, f1, zbi_s]
        have hV' := VR_ad (a := nI (j / 10)) (b := nI (j % 10)) (c := nI (p / 10)) (d := nI (p % 10)) a1 hn8 (zbd_nI (by omega) (by omega)) (zbd_nI (by omega) (by omega)) (zbd_nI (by omega) (by omega)) (zbd_nI (by omega) (by omega))
        refine EQA.done ?_ (h.now (by rw [f2]; exact ⟨n + 1, hh, hV', a2, b2⟩) b3 ⟨fun c _ h2 _ _ _ _ _ => f3 c h2, fun k _ _ => by rw [f3 87 (by decide)]⟩ ?_ ?_ (fun k hk _ => ?_)) (b3.fc (by omega)) (fun c hc => f3 c (by omega))
        · rw [b2.1, hV'.2.1, zeq', zsbT, znT (by omega), znT (by omega)]
          · show ((n + 1 : Nat) : Int) - 1 = n
            omega
          · rw [znT (by omega)]
            show -2147483648 ≤ ((n + 1 : Nat) : Int) - 1
            omega
          · rw [znT (by omega)]
            show ((n + 1 : Nat) : Int) - 1 < 2147483648
            omega
        · rw [f2, ad_keep hn8 (by omega) (by omega)]
        · rw [f2, ad_keep hn8 (by omega) (by omega)]
        · rw [f2, ad_keep hn8 (by omega) (by omega)]
    · have g1 : ¬ nI (p % 10) ≤ 4 := fun z => g ((nI_leI (a := p % 10) (b := 4) (by omega) (by omega)).mp z)
      rw [if_neg (show ¬ ((0 : Int32) ≤ nI (p % 10) ∧ nI (p % 10) ≤ 4) from fun z => g1 z.2), if_neg z10]
      by_cases f : nI p ≤ (114 : Int32)
      · rw [if_pos (show (0 : Int32) ≤ nI p ∧ nI p ≤ 114 from ⟨c.1, f⟩), if_neg z10, zlt_r, if_neg g1]
        exact EQA.err h (k := 1) rfl (by omega)
      · rw [if_neg (show ¬ ((0 : Int32) ≤ nI p ∧ nI p ≤ 114) from fun z => f z.2), if_pos z00]
        exact EQA.err h (k := 1) rfl (by omega)
  · have c2 : ¬ (0 ≤ p1 ∧ p1 ≤ (114 : Int32)) := fun z => c ⟨z.1, by
      have := (zle' _ _).mp z.2
      have e1 : (114 : Int32).toInt = 114 := rfl
      have e2 : (119 : Int32).toInt = 119 := rfl
      rw [zle']
      omega⟩
    rw [if_neg c, if_neg z10, if_neg c2, if_pos z00]
    exact EQA.err h (k := 1) rfl (by omega)
