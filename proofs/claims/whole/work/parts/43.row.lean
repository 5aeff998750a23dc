/-! ===== the row of numbers that both stand for ===== -/
abbrev zR : Type := Nat → Int32
def zbd (x : Int32) (n : Int) : Prop := 0 ≤ x.toInt ∧ x.toInt ≤ n
def VTX (s : zR) (b u : Nat) : Prop := ∃ c, s b = nI c ∧ zVT u (zTS s b) c
def VW (s : zR) (w : Nat) : Prop := zbd (s (52 + 7 * w + 0)) 6 ∧ zbd (s (52 + 7 * w + 1)) 9 ∧ zbd (s (52 + 7 * w + 2)) 11 ∧ zbd (s (52 + 7 * w + 3)) 4 ∧ zbd (s (52 + 7 * w + 4)) 1 ∧ zbd (s (52 + 7 * w + 5)) 999999 ∧ zbd (s (52 + 7 * w + 6)) 999999
def VR (s : zR) (n h : Nat) : Prop := n ≤ 8 ∧ s 0 = nI n ∧ s 1 = nI h ∧ h < 100000 ∧ zbd (s 2) 9 ∧ (∀ j, j < 24 → zbd (s (6 + j)) 99) ∧ (∀ j, j < 12 → zbd (s (30 + j)) 9) ∧ (∀ j, j < 5 → zbd (s (42 + 2 * j)) 99999 ∧ zbd (s (43 + 2 * j)) 999999) ∧ (∀ w, w < n → VW s w) ∧ VTX s 115 0 ∧ VTX s 240 1
def CLX (lam : Nat) (M : zM) (s : zR) (b u : Nat) : Prop := M lam 2 = s b ∧ ∀ c, s b = nI c → c ≤ 60 → ∀ k, k < c → zTK u (M (lam + 1) k) (s (b + 1 + 2 * k)) (s (b + 2 + 2 * k))
def CB (q : Nat) (M : zM) (s : zR) (n : Nat) : Prop := M q 9 = s 0 ∧ M q 10 = s 1 ∧ M q 11 = s 2 ∧ M q 12 = s 5 ∧ (∀ j, j < 24 → M (q + 1) j = s (6 + j)) ∧ (∀ j, j < 12 → M (q + 2) j = s (30 + j)) ∧ (∀ j, j < 5 → M (q + 3) j = s (42 + 2 * j) ∧ M (q + 4) j = s (43 + 2 * j)) ∧ (∀ w, w < n → ∀ k, k < 7 → M (q + 8 + w) k = s (52 + 7 * w + k)) ∧ CLX (q + 16) M s 115 0 ∧ CLX (q + 19) M s 240 1
/-- what of a brook's cells stands for the row: it is the same in M' -/
def AG (q : Nat) (M M' : zM) : Prop := M' q 9 = M q 9 ∧ M' q 10 = M q 10 ∧ M' q 11 = M q 11 ∧ M' q 12 = M q 12 ∧ M' (q + 1) = M (q + 1) ∧ M' (q + 2) = M (q + 2) ∧ M' (q + 3) = M (q + 3) ∧ M' (q + 4) = M (q + 4) ∧ (∀ w, w < 8 → ∀ k, k < 7 → M' (q + 8 + w) k = M (q + 8 + w) k) ∧ M' (q + 16) 2 = M (q + 16) 2 ∧ M' (q + 17) = M (q + 17) ∧ M' (q + 19) 2 = M (q + 19) 2 ∧ M' (q + 20) = M (q + 20)
theorem AG.rf {q : Nat} {M : zM} : AG q M M := ⟨rfl, rfl, rfl, rfl, rfl, rfl, rfl, rfl, fun _ _ _ _ => rfl, rfl, rfl, rfl, rfl⟩
theorem AG.tr {q : Nat} {M M' M'' : zM} (h : AG q M M') (g : AG q M' M'') : AG q M M'' := by
  obtain ⟨a1, a2, a3, a4, a5, a6, a7, a8, a9, a10, a11, a12, a13⟩ := h
  obtain ⟨b1, b2, b3, b4, b5, b6, b7, b8, b9, b10, b11, b12, b13⟩ := g
  exact ⟨b1.trans a1, b2.trans a2, b3.trans a3, b4.trans a4, b5.trans a5, b6.trans a6, b7.trans a7, b8.trans a8, fun w hw k hk => (b9 w hw k hk).trans (a9 w hw k hk), b10.trans a10, b11.trans a11, b12.trans a12, b13.trans a13⟩
/-- cells of a brook that don't stand for the row -/
theorem AG.of {q : Nat} {M M' : zM} (h : ∀ c, c ≠ q + 6 → c ≠ q + 7 → c ≠ q + 18 → c ≠ q + 21 → M' c = M c) : AG q M M' := by
  refine ⟨?_, ?_, ?_, ?_, ?_, ?_, ?_, ?_, fun w hw k hk => ?_, ?_, ?_, ?_, ?_⟩ <;> rw [h _ (by omega) (by omega) (by omega) (by omega)]
theorem CB.ag {q n : Nat} {M M' : zM} {s : zR} (hn : n ≤ 8) (h : CB q M s n) (g : AG q M M') : CB q M' s n := by
  obtain ⟨a1, a2, a3, a4, a5, a6, a7, a8, a9, a10⟩ := h
  obtain ⟨b1, b2, b3, b4, b5, b6, b7, b8, b9, b10, b11, b12, b13⟩ := g
  refine ⟨b1.trans a1, b2.trans a2, b3.trans a3, b4.trans a4, fun j hj => by rw [b5]; exact a5 j hj, fun j hj => by rw [b6]; exact a6 j hj, fun j hj => by rw [b7, b8]; exact a7 j hj, fun w hw k hk => (b9 w (by omega) k hk).trans (a8 w hw k hk), ⟨b10.trans a9.1, ?_⟩, ⟨b12.trans a10.1, ?_⟩⟩
  · show ∀ c, s 115 = nI c → c ≤ 60 → ∀ k, k < c → zTK 0 (M' (q + 17) k) _ _
    rw [b11]
    exact a9.2
  · show ∀ c, s 240 = nI c → c ≤ 60 → ∀ k, k < c → zTK 1 (M' (q + 20) k) _ _
    rw [b13]
    exact a10.2
/-- outside a brook's cells nothing has changed -/
def OU (q : Nat) (M M' : zM) : Prop := ∀ c, c < q ∨ q + 22 ≤ c → M' c = M c
theorem OU.rf {q : Nat} {M : zM} : OU q M M := fun _ _ => rfl
theorem OU.tr {q : Nat} {M M' M'' : zM} (h : OU q M M') (g : OU q M' M'') : OU q M M'' := fun c hc => (g c hc).trans (h c hc)
/-- the reference's rows: all but its scratch -/
def RU (M M' : zM) : Prop := (∀ c, c ≠ 87 → c ≠ 93 → c ≠ 94 → c ≠ 95 → c ≠ 96 → M' c = M c) ∧ ∀ k, k ≠ 14 → k ≠ 15 → M' 87 k = M 87 k
theorem RU.rf {M : zM} : RU M M := ⟨fun _ _ _ _ _ _ => rfl, fun _ _ _ => rfl⟩
theorem RU.tr {M M' M'' : zM} (h : RU M M') (g : RU M' M'') : RU M M'' := ⟨fun c h1 h2 h3 h4 h5 => (g.1 c h1 h2 h3 h4 h5).trans (h.1 c h1 h2 h3 h4 h5), fun k h1 h2 => (g.2 k h1 h2).trans (h.2 k h1 h2)⟩
def RU2 (M M' : zM) : Prop := ∀ c, c ≠ 93 → c ≠ 94 → M' c = M c
theorem RU2.ru {M M' : zM} (h : RU2 M M') : RU M M' := ⟨fun c _ h2 h3 _ _ => h c h2 h3, fun k _ _ => by rw [h 87 (by decide) (by decide)]⟩
def nmT (f p h m ch : Int32) : Int32 := if ch = 102 then f else if ch = 112 then p else if ch = 104 then h else m
def nmU (t c m ch : Int32) : Int32 := if ch = 116 then t else if ch = 99 then c else m
def itS (s : zR) (w k : Nat) : Int32 := s (52 + 7 * w + k)
def tkS (s : zR) (w : Nat) (f : Int32) : Int32 := if s 115 = 0 then f / 2 else evT (nmT f (itS s w 2) (zrem (s 1) 24) (itS s w 1)) (zTS s 115) (s 115).toNatClampNeg
def waS (s : zR) (w : Nat) (f : Int32) : Int32 := if itS s w 4 = 0 then 0 else if s 2 ≤ itS s w 1 then (if itS s w 0 = 1 then hdS (f / 3 + itS s w 1) 0 f else if itS s w 0 = 2 then hdS (itS s w 1) 0 f else if itS s w 0 = 3 then hdS (2 * (f / 3)) 0 f else if itS s w 0 = 4 then hdS (f / 3 + itS s w 1) 0 f else if itS s w 0 = 5 then hdS (2 * (f / 3)) 0 f else if itS s w 0 = 6 then hdS (tkS s w f) 0 f else hdS (f / 3) 0 f) else 0
def ttS (s : zR) (w : Nat) (t : Int32) : Int32 := if s 240 = 0 then t else evT (nmU t (itS s w 5) (itS s w 1)) (zTS s 240) (s 240).toNatClampNeg
def tuS (s : zR) (w : Nat) (t : Int32) : Int32 := if itS s w 0 = 1 then hdS (t / 2) 0 9999 else if itS s w 0 = 3 then hdS (2 * t) 0 9999 else if itS s w 0 = 4 then (if t / 2 ≤ 0 then hdS 0 0 9999 else hdS (t / 2 + 1) 0 9999) else if itS s w 0 = 5 then hdS 0 0 9999 else if itS s w 0 = 6 then hdS (ttS s w t) 0 9999 else hdS t 0 9999
def shS (s : zR) (w : Nat) (t b : Int32) : Int32 := if itS s w 0 = 2 then b / 2 else if itS s w 0 = 4 then 0 else if itS s w 0 = 5 then 2 * t else b
theorem zite {P : Int32 → Prop} {c : Prop} [Decidable c] {a b : Int32} (ha : P a) (hb : P b) : P (if c then a else b) := by
  by_cases h : c
  · rw [if_pos h]; exact ha
  · rw [if_neg h]; exact hb
theorem waS_r {s : zR} {w : Nat} {f : Int32} (hf : 0 ≤ f.toInt) : 0 ≤ (waS s w f).toInt ∧ (waS s w f).toInt ≤ f.toInt := by
  have h0 : (0 : Int32) ≤ f := by rw [zle']; exact hf
  have z : (0 : Int32).toInt = 0 := rfl
  have hh : ∀ v, 0 ≤ (hdS v 0 f).toInt ∧ (hdS v 0 f).toInt ≤ f.toInt := fun v => hdS_r h0
  have hz : 0 ≤ (0 : Int32).toInt ∧ (0 : Int32).toInt ≤ f.toInt := by rw [z]; exact ⟨Int.le_refl 0, hf⟩
  unfold waS
  exact zite (P := fun x => 0 ≤ x.toInt ∧ x.toInt ≤ f.toInt) hz (zite (P := fun x => 0 ≤ x.toInt ∧ x.toInt ≤ f.toInt) (zite (P := fun x => 0 ≤ x.toInt ∧ x.toInt ≤ f.toInt) (hh _) (zite (P := fun x => 0 ≤ x.toInt ∧ x.toInt ≤ f.toInt) (hh _) (zite (P := fun x => 0 ≤ x.toInt ∧ x.toInt ≤ f.toInt) (hh _) (zite (P := fun x => 0 ≤ x.toInt ∧ x.toInt ≤ f.toInt) (hh _) (zite (P := fun x => 0 ≤ x.toInt ∧ x.toInt ≤ f.toInt) (hh _) (zite (P := fun x => 0 ≤ x.toInt ∧ x.toInt ≤ f.toInt) (hh _) (hh _))))))) hz)
theorem tuS_r {s : zR} {w : Nat} {t : Int32} : 0 ≤ (tuS s w t).toInt ∧ (tuS s w t).toInt ≤ 9999 := by
  have hh : ∀ v, 0 ≤ (hdS v 0 9999).toInt ∧ (hdS v 0 9999).toInt ≤ 9999 := fun v => hdS_r (by decide)
  unfold tuS
  exact zite (P := fun x => 0 ≤ x.toInt ∧ x.toInt ≤ 9999) (hh _) (zite (P := fun x => 0 ≤ x.toInt ∧ x.toInt ≤ 9999) (hh _) (zite (P := fun x => 0 ≤ x.toInt ∧ x.toInt ≤ 9999) (zite (P := fun x => 0 ≤ x.toInt ∧ x.toInt ≤ 9999) (hh _) (hh _)) (zite (P := fun x => 0 ≤ x.toInt ∧ x.toInt ≤ 9999) (hh _) (zite (P := fun x => 0 ≤ x.toInt ∧ x.toInt ≤ 9999) (hh _) (hh _)))))
/-! the reference's side -/
theorem ra_hasText0 {M : zM} {c : Nat} (hc : M 88 115 = nI c) (hc2 : c ≤ 60) : fX8_hasText 0 M = some (if c = 0 then 0 else 1, M) := by
  rw [fX8_hasText, show (115 : Int32) + (125 : Int32) * 0 = nI 115 from rfl, zgd_n (zgi rfl (by omega) (by omega)), zcn (by omega), hc]
  by_cases h : c = 0
  · rw [if_pos h, if_pos (by rw [h]; decide)]
  · rw [if_neg h, if_neg (fun z => h (by have := (nI_leI (a := c) (b := 0) (by omega) (by omega)).mp z; omega))]
theorem ra_hasText1 {M : zM} {c : Nat} (hc : M 88 240 = nI c) (hc2 : c ≤ 60) : fX8_hasText 1 M = some (if c = 0 then 0 else 1, M) := by
  rw [fX8_hasText, show (115 : Int32) + (125 : Int32) * 1 = nI 240 from rfl, zgd_n (zgi rfl (by omega) (by omega)), zcn (by omega), hc]
  by_cases h : c = 0
  · rw [if_pos h, if_pos (by rw [h]; decide)]
  · rw [if_neg h, if_neg (fun z => h (by have := (nI_leI (a := c) (b := 0) (by omega) (by omega)).mp z; omega))]
theorem nI_z {c : Nat} (h : c ≠ 0) (hc : c < 2147483648) : ¬ nI c = 0 := nI_ne0 (by omega) hc
theorem ra_itsS {w k : Nat} {x : Int32} (hx : x = nI k) (hw : w < 56) (hk : k < 7) (M : zM) : fX8_its (nI w) x M = some (itS (M 88) w k, M) := ra_its hx hw hk M
theorem ra_takesTold {M : zM} {n h w : Nat} (hV : VR (M 88) n h) (hw : w < n) (f : Int32) : ∃ M', fX8_takesTold (nI w) f M = some (tkS (M 88) w f, M') ∧ RU2 M M' := by
  obtain ⟨hn, h0, h1, hh, -, -, -, -, -, ⟨c, hc, hv⟩, -⟩ := hV
  have hc60 := hv.1
  rw [fX8_takesTold, ra_hasText0 hc hc60, zbi_s]
  by_cases hz : c = 0
  · rw [if_pos hz, if_pos rfl]
    refine ⟨M, ?_, fun _ _ _ => rfl⟩
    rw [tkS, if_pos (by rw [hc, hz]; rfl)]
  · rw [if_neg hz, if_neg (by decide), zlt_r, ra_its (k := 2) (x := (2 : Int32)) (w := w) rfl (by omega) (by omega), zbi_s, zlt_r, ra_hourOfDay (h := h) _ (by rw [zst_n _ (by decide), zst_n _ (by decide)]; exact h1) (by omega), zbi_s, zlt_r, ra_its (k := 1) (x := (1 : Int32)) (w := w) rfl (by omega) (by omega), zbi_s, zlt_r]
    generalize hM : zst _ 93 109 _ = M2
    have e88 : M2 88 = M 88 := by rw [← hM]; simp only [zst_n _ (show 88 ≠ 93 by decide)]
    have hnm : ∀ v c, znm 0 v c → nmT f (itS (M 88) w 2) (zrem (M 88 1) 24) (itS (M 88) w 1) v = M2 93 v.toNatClampNeg := by
      intro v c hvc
      rw [← hM]
      rw [zremT h1 (by omega)]
      rcases hvc with ⟨-, g | g | g | g⟩ | ⟨g, -⟩
      · rw [g.1]
        rfl
      · rw [g.1]
        rfl
      · rw [g.1]
        rfl
      · rw [g.1]
        rfl
      · exact absurd g (by decide)
    obtain ⟨M', a1, a2⟩ := ra_worked (u := 0) (b := 115) (c := c) (M := M2) (Or.inl ⟨rfl, rfl⟩) (by rw [e88]; exact hc) (by omega) (by rw [e88]; exact hv) _ hnm
    refine ⟨M', ?_, fun q h1 h2 => ?_⟩
    · rw [show fX8_worked 0 M2 = fX8_worked (nI 0) M2 from rfl, a1, zbi_s, e88, tkS, if_neg (by rw [hc]; exact nI_z hz (by omega)), hc, zcn (by omega)]
    · rw [a2 q h2, ← hM]
      simp only [zst_n _ h1]
theorem ra_turnsTold {M : zM} {n h w : Nat} (hV : VR (M 88) n h) (hw : w < n) (t : Int32) : ∃ M', fX8_turnsTold (nI w) t M = some (ttS (M 88) w t, M') ∧ RU2 M M' := by
  obtain ⟨hn, h0, h1, hh, -, -, -, -, -, -, ⟨c, hc, hv⟩⟩ := hV
  have hc60 := hv.1
  rw [fX8_turnsTold, ra_hasText1 hc hc60, zbi_s]
  by_cases hz : c = 0
  · rw [if_pos hz, if_pos rfl]
    refine ⟨M, ?_, fun _ _ _ => rfl⟩
    rw [ttS, if_pos (by rw [hc, hz]; rfl)]
  · rw [if_neg hz, if_neg (by decide), zlt_r, ra_its (k := 5) (x := (5 : Int32)) (w := w) rfl (by omega) (by omega), zbi_s, zlt_r, ra_its (k := 1) (x := (1 : Int32)) (w := w) rfl (by omega) (by omega), zbi_s, zlt_r]
    generalize hM : zst _ 93 109 _ = M2
    have e88 : M2 88 = M 88 := by rw [← hM]; simp only [zst_n _ (show 88 ≠ 93 by decide)]
    have hnm : ∀ v c, znm 1 v c → nmU t (itS (M 88) w 5) (itS (M 88) w 1) v = M2 93 v.toNatClampNeg := by
      intro v c hvc
      rw [← hM]
      rcases hvc with ⟨g, -⟩ | ⟨-, g | g | g⟩
      · exact absurd g (by decide)
      · rw [g.1]
        rfl
      · rw [g.1]
        rfl
      · rw [g.1]
        rfl
    obtain ⟨M', a1, a2⟩ := ra_worked (u := 1) (b := 240) (c := c) (M := M2) (Or.inr ⟨rfl, rfl⟩) (by rw [e88]; exact hc) (by omega) (by rw [e88]; exact hv) _ hnm
    refine ⟨M', ?_, fun q h1 h2 => ?_⟩
    · rw [show fX8_worked 1 M2 = fX8_worked (nI 1) M2 from rfl, a1, zbi_s, e88, ttS, if_neg (by rw [hc]; exact nI_z hz (by omega)), hc, zcn (by omega)]
    · rw [a2 q h2, ← hM]
      simp only [zst_n _ h1]
theorem ra_wants {M : zM} {n h w : Nat} (hV : VR (M 88) n h) (hw : w < n) (f : Int32) : ∃ M', fX8_wants (nI w) f M = some (waS (M 88) w f, M') ∧ RU2 M M' := by
  have hn : n ≤ 8 := hV.1
  rw [fX8_wants, ra_itsS (k := 1) (x := (1 : Int32)) (w := w) rfl (by omega) (by omega), zbi_s, ra_itsS (k := 4) (x := (4 : Int32)) (w := w) rfl (by omega) (by omega), zbi_s]
  show ∃ M', (if itS (M 88) w 4 = 0 then _ else _) = _ ∧ _
  rw [waS]
  by_cases c1 : itS (M 88) w 4 = 0
  · rw [if_pos c1, if_pos c1]
    exact ⟨M, rfl, fun _ _ _ => rfl⟩
  rw [if_neg c1, if_neg c1]
  show ∃ M', (if M 88 2 ≤ itS (M 88) w 1 then _ else _) = _ ∧ _
  by_cases c2 : M 88 2 ≤ itS (M 88) w 1
  · rw [if_pos c2, if_pos c2, zlt_r, ra_itsS (k := 0) (x := (0 : Int32)) (w := w) rfl (by omega) (by omega), zbi_s]
    show ∃ M', (if itS (M 88) w 0 = 1 then _ else _) = _ ∧ _
    by_cases k1 : itS (M 88) w 0 = 1
    · rw [if_pos k1, if_pos k1, zlt_r, ra_held, zbi_s]
      exact ⟨M, rfl, fun _ _ _ => rfl⟩
    rw [if_neg k1, if_neg k1]
    by_cases k2 : itS (M 88) w 0 = 2
    · rw [if_pos k2, if_pos k2, ra_held, zbi_s]
      exact ⟨M, rfl, fun _ _ _ => rfl⟩
    rw [if_neg k2, if_neg k2]
    by_cases k3 : itS (M 88) w 0 = 3
    · rw [if_pos k3, if_pos k3, zlt_r, ra_held, zbi_s]
      exact ⟨M, rfl, fun _ _ _ => rfl⟩
    rw [if_neg k3, if_neg k3]
    by_cases k4 : itS (M 88) w 0 = 4
    · rw [if_pos k4, if_pos k4, zlt_r, ra_held, zbi_s]
      exact ⟨M, rfl, fun _ _ _ => rfl⟩
    rw [if_neg k4, if_neg k4]
    by_cases k5 : itS (M 88) w 0 = 5
    · rw [if_pos k5, if_pos k5, zlt_r, ra_held, zbi_s]
      exact ⟨M, rfl, fun _ _ _ => rfl⟩
    rw [if_neg k5, if_neg k5]
    by_cases k6 : itS (M 88) w 0 = 6
    · rw [if_pos k6, if_pos k6]
      obtain ⟨M', a1, a2⟩ := ra_takesTold hV hw f
      rw [a1, zbi_s, ra_held, zbi_s]
      exact ⟨M', rfl, a2⟩
    rw [if_neg k6, if_neg k6, ra_held, zbi_s]
    exact ⟨M, rfl, fun _ _ _ => rfl⟩
  · rw [if_neg c2, if_neg c2]
    exact ⟨M, rfl, fun _ _ _ => rfl⟩
theorem ra_turns {M : zM} {n h w : Nat} (hV : VR (M 88) n h) (hw : w < n) (t : Int32) : ∃ M', fX8_turns (nI w) t M = some (tuS (M 88) w t, M') ∧ RU2 M M' := by
  have hn : n ≤ 8 := hV.1
  rw [fX8_turns, ra_itsS (k := 0) (x := (0 : Int32)) (w := w) rfl (by omega) (by omega), zbi_s]
  show ∃ M', (if itS (M 88) w 0 = 1 then _ else _) = _ ∧ _
  rw [tuS]
  by_cases k1 : itS (M 88) w 0 = 1
  · rw [if_pos k1, if_pos k1, zlt_r, ra_held, zbi_s]
    exact ⟨M, rfl, fun _ _ _ => rfl⟩
  rw [if_neg k1, if_neg k1]
  by_cases k3 : itS (M 88) w 0 = 3
  · rw [if_pos k3, if_pos k3, zlt_r, ra_held, zbi_s]
    exact ⟨M, rfl, fun _ _ _ => rfl⟩
  rw [if_neg k3, if_neg k3]
  by_cases k4 : itS (M 88) w 0 = 4
  · rw [if_pos k4, if_pos k4]
    by_cases g : t / 2 ≤ 0
    · rw [if_pos g, if_pos g, ra_held, zbi_s]
      exact ⟨M, rfl, fun _ _ _ => rfl⟩
    · rw [if_neg g, if_neg g, zlt_r, ra_held, zbi_s]
      exact ⟨M, rfl, fun _ _ _ => rfl⟩
  rw [if_neg k4, if_neg k4]
  by_cases k5 : itS (M 88) w 0 = 5
  · rw [if_pos k5, if_pos k5, ra_held, zbi_s]
    exact ⟨M, rfl, fun _ _ _ => rfl⟩
  rw [if_neg k5, if_neg k5]
  by_cases k6 : itS (M 88) w 0 = 6
  · rw [if_pos k6, if_pos k6]
    obtain ⟨M', a1, a2⟩ := ra_turnsTold hV hw t
    rw [a1, zbi_s, ra_held, zbi_s]
    exact ⟨M', rfl, a2⟩
  rw [if_neg k6, if_neg k6, ra_held, zbi_s]
  exact ⟨M, rfl, fun _ _ _ => rfl⟩
theorem ra_showsBy {M : zM} {w : Nat} (hw : w < 8) (t b : Int32) : fX8_showsBy (nI w) t b M = some (shS (M 88) w t b, M) := by
  rw [fX8_showsBy, ra_itsS (k := 0) (x := (0 : Int32)) (w := w) rfl (by omega) (by omega), zbi_s]
  show (if itS (M 88) w 0 = 2 then _ else _) = _
  rw [shS]
  by_cases k2 : itS (M 88) w 0 = 2
  · rw [if_pos k2, if_pos k2]
  rw [if_neg k2, if_neg k2]
  by_cases k4 : itS (M 88) w 0 = 4
  · rw [if_pos k4, if_pos k4]
  rw [if_neg k4, if_neg k4]
  by_cases k5 : itS (M 88) w 0 = 5
  · rw [if_pos k5, if_pos k5]
  rw [if_neg k5, if_neg k5]
