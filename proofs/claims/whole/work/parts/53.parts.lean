/-! ===== what is asked of families and wheels ===== -/
def pdS (s : zR) (f : Nat) : Int32 := if s (43 + 2 * f) < s (42 + 2 * f) then 0 else 1
theorem ra_isPaid {f : Nat} (hf : f < 5) (M : zM) : fX8_isPaid (nI f) M = some (pdS (M 88) f, M) := by
  rw [fX8_isPaid, ra_prayed hf, zbi_s, ra_owed hf, zbi_s, pdS]
  by_cases c : M 88 (43 + 2 * f) < M 88 (42 + 2 * f)
  · rw [if_pos c, if_pos c]
  · rw [if_neg c, if_neg c]
theorem ca_isPaid {M : zM} {s : zR} {q n f : Nat} (hC : CB q M s n) (hf : f < 5) : fX0_isPaid q (nI f) M = some (pdS s f, M) := by
  rw [fX0_isPaid, zgd_n (zgi rfl hf (by omega)), zgd_n (zgi rfl hf (by omega)), zcn (by omega), (hC.2.2.2.2.2.2.1 f hf).1, (hC.2.2.2.2.2.2.1 f hf).2, pdS]
  by_cases c : s (43 + 2 * f) < s (42 + 2 * f)
  · rw [if_pos c, if_pos c]
  · rw [if_neg c, if_neg c]
theorem nI_lt5 {p : Nat} (h : p < 5) : ¬ (5 : Int32) ≤ nI p := fun z => by
  have := (nI_leI (a := 5) (b := p) (by omega) (by omega)).mp z
  omega
/-- all that was prayed -/
def paS (s : zR) : Nat → Int32
  | 0 => 0
  | k + 1 => paS s k + s (43 + 2 * k)
theorem ra_paloop (M : zM) (kk : Int32 → zM → Option (Int32 × zM)) : ∀ (d k F : Nat), k + d = 5 → d < F → fX8_allPrayed_4 kk F (paS (M 88) k) (nI k) M = kk (paS (M 88) 5) M := by
  intro d
  induction d with
  | zero =>
    intro k F hk hF
    obtain ⟨F, rfl⟩ : ∃ G, F = G + 1 := ⟨F - 1, by omega⟩
    have e : k = 5 := by omega
    subst e
    rw [fX8_allPrayed_4, if_pos (by decide)]
  | succ d ih =>
    intro k F hk hF
    obtain ⟨F, rfl⟩ : ∃ G, F = G + 1 := ⟨F - 1, by omega⟩
    rw [fX8_allPrayed_4, if_neg (nI_lt5 (by omega)), ra_prayed (by omega), zbi_s, zlt_r, zlt_r, nI_1]
    exact ih (k + 1) F (by omega) (by omega)
theorem ra_allPrayed (M : zM) : fX8_allPrayed M = some (paS (M 88) 5, M) := ra_paloop M (fun x7 M8 => some (x7, M8)) 5 0 zF (by omega) (show 5 < 1000 by omega)
theorem ca_paloop {M : zM} {s : zR} {q n : Nat} (hC : CB q M s n) (kk : Int32 → zM → Option (Int32 × zM)) : ∀ (d k F : Nat), k + d = 5 → d < F → fX0_prayedOfAll_4 q kk F (paS s k) (nI k) M = kk (paS s 5) M := by
  intro d
  induction d with
  | zero =>
    intro k F hk hF
    obtain ⟨F, rfl⟩ : ∃ G, F = G + 1 := ⟨F - 1, by omega⟩
    have e : k = 5 := by omega
    subst e
    rw [fX0_prayedOfAll_4, if_pos (by decide)]
  | succ d ih =>
    intro k F hk hF
    obtain ⟨F, rfl⟩ : ∃ G, F = G + 1 := ⟨F - 1, by omega⟩
    rw [fX0_prayedOfAll_4, if_neg (nI_lt5 (by omega)), zgd_n (zgi rfl (show k < 5 by omega) (by omega)), zlt_r, zlt_r, zcn (by omega), (hC.2.2.2.2.2.2.1 k (by omega)).2, nI_1]
    exact ih (k + 1) F (by omega) (by omega)
theorem ca_prayedOfAll {M : zM} {s : zR} {q n : Nat} (hC : CB q M s n) : fX0_prayedOfAll q M = some (paS s 5, M) := ca_paloop hC (fun x5 M6 => some (x5, M6)) 5 0 zF (by omega) (show 5 < 1000 by omega)
/-- the wheels for a family -/
def wfS (s : zR) (f : Int32) : Nat → Int32
  | 0 => 0
  | k + 1 => if itS s k 3 = f then wfS s f k + 1 else wfS s f k
theorem ra_wfloop {M : zM} {n h : Nat} (hV : VR (M 88) n h) (f : Int32) (kk : Int32 → zM → Option (Int32 × zM)) : ∀ (d k F : Nat), k + d = n → d < F → fX8_toldFamily_49 f kk F (wfS (M 88) f k) (nI k) M = kk (wfS (M 88) f n) M := by
  have hn := hV.1
  intro d
  induction d with
  | zero =>
    intro k F hk hF
    obtain ⟨F, rfl⟩ : ∃ G, F = G + 1 := ⟨F - 1, by omega⟩
    have e : k = n := by omega
    subst e
    rw [fX8_toldFamily_49, hV.2.1, if_pos (by rw [nI_leI (by omega) (by omega)]; omega)]
  | succ d ih =>
    intro k F hk hF
    obtain ⟨F, rfl⟩ : ∃ G, F = G + 1 := ⟨F - 1, by omega⟩
    have i := ih (k + 1) F (by omega) (by omega)
    rw [fX8_toldFamily_49, hV.2.1, if_neg (by rw [nI_leI (by omega) (by omega)]; omega), ra_itsS (k := 3) (x := (3 : Int32)) (w := k) rfl (by omega) (by omega), zbi_s, nI_1]
    rw [wfS] at i
    by_cases c : itS (M 88) k 3 = f
    · rw [if_pos c] at i
      rw [if_pos c, zlt_r, zlt_r]
      exact i
    · rw [if_neg c] at i
      rw [if_neg c, zlt_r, zlt_r, Int32.add_zero]
      exact i
theorem ca_wfloop {M : zM} {s : zR} {q n h : Nat} (hV : VR s n h) (hC : CB q M s n) (f : Int32) (kk : Int32 → zM → Option (Int32 × zM)) : ∀ (d k F : Nat), k + d = n → d < F → fX0_wheelsFor_4 q f kk F (wfS s f k) (nI k) M = kk (wfS s f n) M := by
  have hn := hV.1
  have e9 : M q 9 = nI n := hC.1.trans hV.2.1
  intro d
  induction d with
  | zero =>
    intro k F hk hF
    obtain ⟨F, rfl⟩ : ∃ G, F = G + 1 := ⟨F - 1, by omega⟩
    have e : k = n := by omega
    subst e
    rw [fX0_wheelsFor_4, e9, if_pos (by rw [nI_leI (by omega) (by omega)]; omega)]
  | succ d ih =>
    intro k F hk hF
    obtain ⟨F, rfl⟩ : ∃ G, F = G + 1 := ⟨F - 1, by omega⟩
    have i := ih (k + 1) F (by omega) (by omega)
    rw [fX0_wheelsFor_4, e9, if_neg (by rw [nI_leI (by omega) (by omega)]; omega), zgd_n (zgi rfl (show k < 8 by omega) (by omega)), zlt_r, zcn (by omega), cb_its hC (show k < n by omega) (show 3 < 7 by omega), nI_1]
    rw [wfS] at i
    by_cases c : itS s k 3 = f
    · rw [if_pos c] at i
      rw [if_pos c, zlt_r, zlt_r]
      exact i
    · rw [if_neg c] at i
      rw [if_neg c, zlt_r]
      exact i
def fpaS (s : zR) (n f x : Nat) : Int32 := if x = 0 then s (42 + 2 * f) else if x = 1 then s (43 + 2 * f) else if x = 2 then pdS s f else wfS s (nI f) n
theorem pd01 {α : Type} (s : zR) (f : Nat) (M : zM) (A : Int32 → α) : (if pdS s f = 0 then A 0 else A 1) = A (pdS s f) := by
  unfold pdS
  by_cases c : s (43 + 2 * f) < s (42 + 2 * f)
  · rw [if_pos c, if_pos (by decide)]
  · rw [if_neg c, if_neg (by decide)]
theorem ra_toldFamily {M : zM} {n h f x : Nat} (hV : VR (M 88) n h) (hf : f < 5) (hx : x < 4) : fX8_toldFamily (nI f) (nI x) M = some (fpaS (M 88) n f x, M) := by
  rw [fX8_toldFamily]
  rcases (show x = 0 ∨ x = 1 ∨ x = 2 ∨ x = 3 by omega) with e | e | e | e <;> subst e
  · rw [if_neg (by decide), if_pos (by decide), ra_owed hf, zbi_s]
    rfl
  · rw [if_neg (by decide), if_neg (by decide), if_pos (by decide), ra_prayed hf, zbi_s]
    rfl
  · rw [if_neg (by decide), if_neg (by decide), if_neg (by decide), ra_isPaid hf, zbi_s]
    exact pd01 (M 88) f M (fun v => some (v, M))
  · rw [if_pos (by decide)]
    exact ra_wfloop hV (nI f) (fun x11 M12 => some (x11, M12)) n 0 zF (by omega) (show n < 1000 by have := hV.1; omega)
theorem ca_familyPart {M : zM} {s : zR} {q n h f x : Nat} (hV : VR s n h) (hC : CB q M s n) (hf : f < 5) (hx : x < 4) : fX0_familyPart q (nI f) (nI x) M = some (fpaS s n f x, M) := by
  rw [fX0_familyPart]
  rcases (show x = 0 ∨ x = 1 ∨ x = 2 ∨ x = 3 by omega) with e | e | e | e <;> subst e
  · rw [if_pos (by decide), zgd_n (zgi rfl hf (by omega)), zcn (by omega), (hC.2.2.2.2.2.2.1 f hf).1]
    rfl
  · rw [if_neg (by decide), if_pos (by decide), zgd_n (zgi rfl hf (by omega)), zcn (by omega), (hC.2.2.2.2.2.2.1 f hf).2]
    rfl
  · rw [if_neg (by decide), if_neg (by decide), if_pos (by decide), ca_isPaid hC hf, zbi_s]
    exact pd01 s f M (fun v => some (v, M))
  · rw [if_neg (by decide), if_neg (by decide), if_neg (by decide)]
    have e : fX0_wheelsFor q (nI f) M = some (wfS s (nI f) n, M) := ca_wfloop hV hC (nI f) (fun x8 M9 => some (x8, M9)) n 0 zF (by omega) (show n < 1000 by have := hV.1; omega)
    rw [e, zbi_s]
    rfl
/-- what a wheel is asked -/
def wpS (s : zR) (n w x : Nat) : Int32 := if x < 7 then itS s w x else if x = 7 then (flA s n).1.2.1 w else if x = 8 then tuS s w ((flA s n).1.2.1 w) else shS s w ((flA s n).1.2.1 w) (tuS s w ((flA s n).1.2.1 w))
theorem nI_ge7 {x : Nat} (h : 7 ≤ x) (hx : x < 2147483648) : (7 : Int32) ≤ nI x := (nI_leI (a := 7) (b := x) (by omega) (by omega)).mpr h
theorem nI_lt7 {x : Nat} (h : x < 7) : ¬ (7 : Int32) ≤ nI x := fun z => by
  have := (nI_leI (a := 7) (b := x) (by omega) (by omega)).mp z
  omega
theorem ra_toldWheel {M : zM} {n h w x : Nat} (hV : VR (M 88) n h) (hw : w < n) (hx : x < 10) : ∃ M', fX8_toldWheel (nI w) (nI x) M = some (wpS (M 88) n w x, M') ∧ RU M M' := by
  have hn := hV.1
  rw [fX8_toldWheel]
  by_cases c : x < 7
  · rw [if_neg (nI_lt7 c), ra_itsS (k := x) rfl (by omega) c, zbi_s, wpS, if_pos c]
    exact ⟨M, rfl, RU.rf⟩
  · obtain ⟨M1, d1, d2, d3, d4, d5, d6, d7⟩ := ra_flow hV
    have e88 : M1 88 = M 88 := d2.1 88 (by decide) (by decide) (by decide) (by decide) (by decide)
    rw [if_pos (nI_ge7 (by omega) (by omega)), d1, zbv_s, wpS, if_neg c]
    rcases (show x = 7 ∨ x = 8 ∨ x = 9 by omega) with e | e | e <;> subst e
    · rw [if_pos (by decide), if_pos (by decide), zgd_n (zgi rfl (show w < 9 by omega) (by omega)), zcn (by omega), d5 w hw]
      exact ⟨M1, rfl, d2⟩
    · obtain ⟨M2, f1, f2⟩ := ra_turns (M := M1) (by rw [e88]; exact hV) hw ((flA (M 88) n).1.2.1 w)
      rw [if_neg (by decide), if_pos (by decide), if_neg (by decide), if_pos (by decide), zgd_n (zgi rfl (show w < 9 by omega) (by omega)), zcn (by omega), d5 w hw, f1, zbi_s, e88]
      exact ⟨M2, rfl, d2.tr f2.ru⟩
    · obtain ⟨M2, f1, f2⟩ := ra_turns (M := M1) (by rw [e88]; exact hV) hw ((flA (M 88) n).1.2.1 w)
      have e2 : M2 88 = M 88 := (f2 88 (by decide) (by decide)).trans e88
      rw [if_neg (by decide), if_neg (by decide), if_neg (by decide), if_neg (by decide), zgd_n (zgi rfl (show w < 9 by omega) (by omega)), zcn (by omega), d5 w hw, fX8_shows, f1, zbi_s, ra_showsBy (by omega), zbi_s, zbi_s, e2, e88]
      exact ⟨M2, rfl, d2.tr f2.ru⟩
theorem ca_wheelPart {M : zM} {s : zR} {q n h w x : Nat} (hV : VR s n h) (hC : CB q M s n) (hw : w < n) (hx : x < 10) : ∃ M', fX0_wheelPart q (nI w) (nI x) M = some (wpS s n w x, M') ∧ AG q M M' ∧ OU q M M' := by
  have hn := hV.1
  rw [fX0_wheelPart, zgd_n (zgi rfl (show w < 8 by omega) (by omega)), zlt_r, zcn (by omega)]
  by_cases c : x < 7
  · rw [if_neg (nI_lt7 c), ca_part (k := x) rfl c, zbi_s, cb_its hC hw c, wpS, if_pos c]
    exact ⟨M, rfl, AG.rf, OU.rf⟩
  · obtain ⟨M1, b1, b2, b3, b4, b5, b6, b7⟩ := ca_letFlow hV hC
    have hC1 := hC.ag hn b2
    obtain ⟨M2, f1, f2⟩ := ca_turnsBy hC1 hV hw ((flA s n).1.2.1 w)
    have e7 : M2 (q + 8 + w) 7 = (flA s n).1.2.1 w := by rw [f2 _ (by omega) (by omega) (by omega)]; exact b6 w hw
    rw [if_pos (nI_ge7 (by omega) (by omega)), b1, zbv_s, b6 w hw, f1, zbi_s, e7, wpS, if_neg c]
    rcases (show x = 7 ∨ x = 8 ∨ x = 9 by omega) with e | e | e <;> subst e
    · rw [if_pos (by decide), if_pos (by decide)]
      exact ⟨M1, rfl, b2, b3⟩
    · rw [if_neg (by decide), if_pos (by decide), if_neg (by decide), if_pos (by decide)]
      exact ⟨M2, rfl, b2.tr f2.ag, b3.tr f2.ou⟩
    · rw [if_neg (by decide), if_neg (by decide), if_neg (by decide), if_neg (by decide), ca_showsBy (n := n) (s := s) (cb_its (hC1.ag hn f2.ag) hw (by omega)) (flA_tr hV w).1 (flA_tr hV w).2, zbi_s]
      exact ⟨M2, rfl, b2.tr f2.ag, b3.tr f2.ou⟩
/-! the operations -/
theorem eq_familyIs (p0 p1 : Int32) {C R : zM} (h : Rel2 C R) : EQA C R (fX7_familyIs p0 p1 C) (fX8_familyIs p0 p1 R) := by
  unfold fX7_familyIs fX8_familyIs
  rw [ra_isFamily]
  refine EQA.out0 h (m := 4) rfl (by omega) fun j hj e => ?_
  refine EQA.out0 h (m := 3) rfl (by omega) fun w hw ew => ?_
  subst e ew
  obtain ⟨n, hh, a1, a2, a3⟩ := h.1
  rw [ca_familyPart a1 a3 (by omega) (by omega), zbi_s, ra_toldFamily a1 (by omega) (by omega), zbi_s]
  exact EQA.done rfl h FC.rf FR.rf
theorem eq_wheelIs (p0 p1 : Int32) {C R : zM} (h : Rel2 C R) : EQA C R (fX7_wheelIs p0 p1 C) (fX8_wheelIs p0 p1 R) := by
  unfold fX7_wheelIs fX8_wheelIs
  refine EQA.whl h fun n hh w hV h9 hC hw ew => ?_
  refine EQA.out0 h (m := 9) rfl (by omega) fun j hj e => ?_
  subst e ew
  obtain ⟨C', b1, b2, b3⟩ := ca_wheelPart hV hC hw (show j < 10 by omega)
  obtain ⟨R', d1, d2⟩ := ra_toldWheel hV hw (show j < 10 by omega)
  rw [b1, zbi_s, d1, zbi_s]
  exact EQA.done rfl ((h.ou1 b2 b3).rf d2.rs) (b3.fc (by omega)) d2.fr
theorem eq_as (p0 p1 : Int32) {C R : zM} (h : Rel2 C R) : EQA C R (fX7_as p0 p1 C) (fX8_as p0 p1 R) := by
  unfold fX7_as fX8_as
  refine EQA.whl h fun n hh w hV h9 hC hw ew => ?_
  refine EQA.out0 h (m := 6) rfl (by omega) fun j hj e => ?_
  subst e ew
  have hn := hV.1
  obtain ⟨a, ha, ea, -⟩ : ∃ a : Nat, a ≤ 6 ∧ itS (R 88) w 0 = nI a ∧ a < 2147483648 := zof (hV.2.2.2.2.2.2.2.2.1 w hw).1.1 (hV.2.2.2.2.2.2.2.2.1 w hw).1.2
  rw [zgd_n (zgi rfl (show w < 8 by omega) (by omega)), zlt_r, zcn (by omega), show 9 + w = 1 + 8 + w by omega, cb_its hC hw (show 0 < 7 by omega), ra_itsS (k := 0) (x := (0 : Int32)) rfl (by omega) (by omega), zbi_s, ea]
  obtain ⟨r, u1, u2⟩ := ca_under a j (by omega) (by omega) C
  rw [u1, u2 R, zbi_s, zbi_s]
  by_cases c : r = 0
  · rw [if_pos c, if_pos c]
    exact EQA.err h (k := 5) rfl (by omega)
  · rw [if_neg c, if_neg c, cb_its hC hw (show 5 < 7 by omega), ra_itsS (k := 5) (x := (5 : Int32)) rfl (by omega) (by omega), zbi_s]
    exact EQA.done rfl h FC.rf FR.rf
theorem eq_seed (p0 : Int32) {C R : zM} (h : Rel2 C R) : EQA C R (fX7_seed p0 C) (fX8_seed p0 R) := by
  unfold fX7_seed fX8_seed
  obtain ⟨n, hh, a1, a2, a3⟩ := h.1
  rw [zlt_r, zlt_r, ra_change (k := 5) (x := (5 : Int32)) rfl (by omega), zbi_s]
  exact EQA.done a3.2.2.2.1 (h.set (VR_up a1 (by omega) (by omega) (fun z => by omega) (fun x _ hx => by omega) (fun x _ hx => by omega) (fun x _ hx => by omega) (fun x _ hx => by omega)) a2 (a3.up a1.1 (by omega)) (by omega) (by omega) (by omega)) (zst_fc (by omega)) (zst_fr (by omega))
theorem eq_told (p0 : Int32) {C R : zM} (h : Rel2 C R) : EQA C R (fX7_told p0 C) (fX8_told p0 R) := by
  unfold fX7_told fX8_told
  refine EQA.out1 h (m := 6) rfl (by omega) fun j _ hj e => ?_
  subst e
  rw [zgd_n (zgi rfl (show j < 7 by omega) (by omega)), zgd_n (zgi rfl (show j < 7 by omega) (by omega)), zcn (by omega)]
  exact EQA.done (h.2.2.2.2.1 j (by omega)) h FC.rf FR.rf
theorem eq_body (p0 : Int32) {C R : zM} (h : Rel2 C R) : EQA C R (fX7_body p0 C) (fX8_body p0 R) := by
  unfold fX7_body fX8_body
  obtain ⟨t, b1, b2, b3, b4⟩ := h.2.2.2.2.2.1
  rw [ca_outside, ra_in, zbi_s, zbi_s, b2, b3]
  by_cases c : 0 ≤ p0 ∧ p0 ≤ nI t - 1
  · obtain ⟨j, hj, ev⟩ := (zwix (by omega) p0).mp c
    subst ev
    rw [if_pos c, if_pos c, if_pos (by decide), if_neg (by decide), zgd_n (zgi rfl (show j < 30 by omega) (by omega)), zgd_n (zgi rfl (show j < 30 by omega) (by omega)), zcn (by omega)]
    exact EQA.done (b4 j hj) h FC.rf FR.rf
  · rw [if_neg c, if_neg c, if_neg (by decide), if_pos (by decide)]
    exact EQA.err h (k := 2) rfl (by omega)
/-- the hours leave the rest of the row -/
theorem t1_keep {s : zR} {n h w i : Nat} (hV : VR s n h) (hw : w < n) (b : Int32) (hi : i < 43 ∨ 108 ≤ i) : t1S s w b i = s i := by
  have hn := hV.1
  obtain ⟨f, hf, -, e⟩ := VR_fam hV hw
  unfold t1S
  rw [e, upd_n _ (by omega), upd_n _ (by omega)]
theorem hf_keep {s t : zR} {n h i : Nat} (hV : VR s n h) (hi : i < 43 ∨ 108 ≤ i) : ∀ k, k ≤ n → hfS s t k i = s i := by
  intro k
  have hn := hV.1
  induction k with
  | zero => intro _; rfl
  | succ k ih =>
    intro hk
    show heS (hfS s t k) k (t k) i = s i
    unfold heS
    rw [upd_n _ (by omega), t1_keep (VR_hf hV k (by omega)) (show k < n by omega) _ hi, ih (by omega)]
theorem go_keep {s : zR} {n h i : Nat} (hV : VR s n h) (hi : i < 43 ∨ 108 ≤ i) (h1 : i ≠ 1) : ∀ k, h + k < 100000 → goS s n k i = s i := by
  intro k
  induction k with
  | zero => intro _; rfl
  | succ k ih =>
    intro hk
    show hrS (goS s n k) n i = s i
    unfold hrS
    rw [upd_n _ h1, hf_keep (VR_go hV k (by omega)) hi n (Nat.le_refl _), ih (by omega)]
theorem eq_hours (p0 : Int32) {C R : zM} (h : Rel2 C R) : EQA C R (fX7_hours p0 C) (fX8_hours p0 R) := by
  unfold fX7_hours fX8_hours
  refine EQA.out1 h (m := 240) rfl (by omega) fun j j0 hj e => ?_
  subst e
  obtain ⟨n, hh, a1, a2, a3⟩ := h.1
  have e1 : C 1 10 = nI hh := a3.2.1.trans a1.2.2.1
  rw [e1, a1.2.2.1, nI_add]
  by_cases c : nI (hh + j) ≤ (9999 : Int32)
  · have c' := (nI_leI (a := hh + j) (b := 9999) (by omega) (by omega)).mp c
    obtain ⟨C', b1, b2, b3⟩ := ca_passHours (m := j) a1 (by omega) (by omega) a3
    obtain ⟨R', d1, d2, d3⟩ := ra_go (m := j) a1 (by omega) (by omega)
    have hV' := VR_go a1 j (by omega)
    rw [if_pos c, if_pos c, b1, zbi_s, ca_prayedOfAll b2, zbi_s, d1, zbv_s, ra_allPrayed, zbi_s, d2]
    refine EQA.done rfl (h.now (by rw [d2]; exact ⟨n, hh + j, hV', by omega, b2⟩) b3 d3 ?_ ?_ (fun k hk _ => ?_)) (b3.fc (by omega)) d3.fr
    · rw [d2, go_keep a1 (by omega) (by omega) j (by omega)]
    · rw [d2, go_keep a1 (by omega) (by omega) j (by omega)]
    · rw [d2, go_keep a1 (by omega) (by omega) j (by omega)]
  · rw [if_neg c, if_neg c]
    exact EQA.err h (k := 3) rfl (by omega)
