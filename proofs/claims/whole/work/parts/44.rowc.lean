/-! the class's side -/
def C2 (q : Nat) (M M' : zM) : Prop := ∀ c, c ≠ q + 6 → c ≠ q + 18 → c ≠ q + 21 → M' c = M c
theorem C2.ag {q : Nat} {M M' : zM} (h : C2 q M M') : AG q M M' := AG.of (fun c h1 _ h3 h4 => h c h1 h3 h4)
theorem C2.ou {q : Nat} {M M' : zM} (h : C2 q M M') : OU q M M' := fun c hc => h c (by omega) (by omega) (by omega)
theorem C2.rf {q : Nat} {M : zM} : C2 q M M := fun _ _ _ _ => rfl
theorem C2.its {q n w k : Nat} {M M' : zM} {s : zR} (h : C2 q M M') (hC : CB q M s n) (hw : w < n) (hn : n ≤ 8) (hk : k < 7) : M' (q + 8 + w) k = itS s w k := by
  rw [h _ (by omega) (by omega) (by omega)]
  exact hC.2.2.2.2.2.2.2.1 w hw k hk
theorem cb_its {q n w k : Nat} {M : zM} {s : zR} (hC : CB q M s n) (hw : w < n) (hk : k < 7) : M (q + 8 + w) k = itS s w k := hC.2.2.2.2.2.2.2.1 w hw k hk
theorem ca_toldTakes {q n h w : Nat} {M : zM} {s : zR} (hC : CB q M s n) (hV : VR s n h) (hw : w < n) (f : Int32) : ∃ M', fX0_toldTakes q (q + 8 + w) f M = some (tkS s w f, M') ∧ C2 q M M' := by
  obtain ⟨hn, h0, h1, hh, -, -, -, -, -, ⟨c, hc, hv⟩, -⟩ := hV
  have hc60 := hv.1
  have c10 := hC.2.1
  have cl := hC.2.2.2.2.2.2.2.2.1
  have hsz : M (q + 16) 2 = nI c := cl.1.trans hc
  rw [fX0_toldTakes, hsz]
  by_cases hz : c = 0
  · rw [if_pos (by rw [hz]; rfl)]
    refine ⟨M, ?_, C2.rf⟩
    rw [tkS, if_pos (by rw [hc, hz]; rfl)]
  · rw [if_neg (nI_z hz (by omega)), zlt_r, zlt_r, zlt_r, zlt_r, zlt_r]
    generalize hM : zst _ (q + 6) 3 _ = M2
    have hf : ∀ c, c ≠ q + 6 → M2 c = M c := by
      intro c hc
      rw [← hM]
      simp only [zst_n _ hc]
    have hnm : ∀ v c, znm 0 v c → nmT f (itS s w 2) (zrem (s 1) 24) (itS s w 1) v = M2 (q + 6) (c - 10000).toNatClampNeg := by
      intro v c hvc
      rw [← hM]
      simp only [zst_n _ (show q + 8 + w ≠ q + 6 by omega), zst_n _ (show q ≠ q + 6 by omega), cb_its hC hw (show 2 < 7 by omega), cb_its hC hw (show 1 < 7 by omega), c10]
      rcases hvc with ⟨-, g | g | g | g⟩ | ⟨g, -⟩
      · rw [g.1, g.2]
        simp only [zst_k]
        rfl
      · rw [g.1, g.2]
        simp only [zst_k]
        rfl
      · rw [g.1, g.2]
        simp only [zst_k]
        rfl
      · rw [g.1, g.2]
        simp only [zst_k]
        rfl
      · exact absurd g (by decide)
    obtain ⟨M', a1, a2⟩ := ca_value (u := 0) (lam := q + 16) (q0 := q + 6) (c := c) (M := M2) (C := M2 (q + 17)) hv (by omega) (fun k hk => by
      show zTK 0 (M2 (q + 17) k) _ _
      rw [hf _ (by omega)]
      exact cl.2 c hc hc60 k hk) _ hnm (by omega) (by rw [hf _ (by omega)]; exact hsz)
    refine ⟨M', ?_, fun x h1 h2 _ => ?_⟩
    · rw [a1, zbi_s, tkS, if_neg (by rw [hc]; exact nI_z hz (by omega)), hc, zcn (by omega)]
    · rw [a2 x h2, hf x h1]
theorem ca_toldTurns {q n h w : Nat} {M : zM} {s : zR} (hC : CB q M s n) (hV : VR s n h) (hw : w < n) (t : Int32) : ∃ M', fX0_toldTurns q (q + 8 + w) t M = some (ttS s w t, M') ∧ C2 q M M' := by
  obtain ⟨hn, h0, h1, hh, -, -, -, -, -, -, ⟨c, hc, hv⟩⟩ := hV
  have hc60 := hv.1
  have cl := hC.2.2.2.2.2.2.2.2.2
  have hsz : M (q + 19) 2 = nI c := cl.1.trans hc
  rw [fX0_toldTurns, hsz]
  by_cases hz : c = 0
  · rw [if_pos (by rw [hz]; rfl)]
    refine ⟨M, ?_, C2.rf⟩
    rw [ttS, if_pos (by rw [hc, hz]; rfl)]
  · rw [if_neg (nI_z hz (by omega)), zlt_r, zlt_r, zlt_r, zlt_r]
    generalize hM : zst _ (q + 6) 3 _ = M2
    have hf : ∀ c, c ≠ q + 6 → M2 c = M c := by
      intro c hc
      rw [← hM]
      simp only [zst_n _ hc]
    have hnm : ∀ v c, znm 1 v c → nmU t (itS s w 5) (itS s w 1) v = M2 (q + 6) (c - 10000).toNatClampNeg := by
      intro v c hvc
      rw [← hM]
      simp only [zst_n _ (show q + 8 + w ≠ q + 6 by omega), cb_its hC hw (show 5 < 7 by omega), cb_its hC hw (show 1 < 7 by omega)]
      rcases hvc with ⟨g, -⟩ | ⟨-, g | g | g⟩
      · exact absurd g (by decide)
      · rw [g.1, g.2]
        simp only [zst_k]
        rfl
      · rw [g.1, g.2]
        simp only [zst_k]
        rfl
      · rw [g.1, g.2]
        simp only [zst_k]
        rfl
    obtain ⟨M', a1, a2⟩ := ca_value (u := 1) (lam := q + 19) (q0 := q + 6) (c := c) (M := M2) (C := M2 (q + 20)) hv (by omega) (fun k hk => by
      show zTK 1 (M2 (q + 20) k) _ _
      rw [hf _ (by omega)]
      exact cl.2 c hc hc60 k hk) _ hnm (by omega) (by rw [hf _ (by omega)]; exact hsz)
    refine ⟨M', ?_, fun x h1 _ h3 => ?_⟩
    · rw [a1, zbi_s, ttS, if_neg (by rw [hc]; exact nI_z hz (by omega)), hc, zcn (by omega)]
    · rw [a2 x h3, hf x h1]
theorem ca_wants {q n h w : Nat} {M : zM} {s : zR} (hC : CB q M s n) (hV : VR s n h) (hw : w < n) {f : Int32} (hf : 0 ≤ f.toInt) : ∃ M', fX0_wants q (q + 8 + w) f M = some (waS s w f, M') ∧ C2 q M M' := by
  have hn : n ≤ 8 := hV.1
  have h0f : (0 : Int32) ≤ f := by rw [zle']; exact hf
  rw [fX0_wants, cb_its hC hw (show 4 < 7 by omega), cb_its hC hw (show 0 < 7 by omega), cb_its hC hw (show 1 < 7 by omega), hC.2.2.1, waS]
  by_cases c1 : itS s w 4 = 0
  · rw [if_pos c1, if_pos c1]
    exact ⟨M, rfl, C2.rf⟩
  rw [if_neg c1, if_neg c1]
  by_cases c2 : s 2 ≤ itS s w 1
  · rw [if_pos c2, if_pos c2, zlt_r]
    by_cases k1 : itS s w 0 = 1
    · rw [if_pos k1, if_pos k1, ca_held h0f, zbi_s]
      exact ⟨M, rfl, C2.rf⟩
    rw [if_neg k1, if_neg k1]
    by_cases k2 : itS s w 0 = 2
    · rw [if_pos k2, if_pos k2, ca_held h0f, zbi_s]
      exact ⟨M, rfl, C2.rf⟩
    rw [if_neg k2, if_neg k2]
    by_cases k3 : itS s w 0 = 3
    · rw [if_pos k3, if_pos k3, ca_held h0f, zbi_s, Int32.mul_comm]
      exact ⟨M, rfl, C2.rf⟩
    rw [if_neg k3, if_neg k3]
    by_cases k4 : itS s w 0 = 4
    · rw [if_pos k4, if_pos k4, ca_held h0f, zbi_s]
      exact ⟨M, rfl, C2.rf⟩
    rw [if_neg k4, if_neg k4]
    by_cases k5 : itS s w 0 = 5
    · rw [if_pos k5, if_pos k5, ca_held h0f, zbi_s, Int32.mul_comm]
      exact ⟨M, rfl, C2.rf⟩
    rw [if_neg k5, if_neg k5]
    by_cases k6 : itS s w 0 = 6
    · rw [if_pos k6, if_pos k6]
      obtain ⟨M', a1, a2⟩ := ca_toldTakes hC hV hw f
      rw [a1, zbi_s, ca_held h0f, zbi_s]
      exact ⟨M', rfl, a2⟩
    rw [if_neg k6, if_neg k6, ca_held h0f, zbi_s]
    exact ⟨M, rfl, C2.rf⟩
  · rw [if_neg c2, if_neg c2]
    exact ⟨M, rfl, C2.rf⟩
theorem hdS_0 : hdS 0 0 9999 = 0 := rfl
theorem ca_turnsBy {q n h w : Nat} {M : zM} {s : zR} (hC : CB q M s n) (hV : VR s n h) (hw : w < n) (t : Int32) : ∃ M', fX0_turnsBy q (q + 8 + w) t M = some (tuS s w t, M') ∧ C2 q M M' := by
  have hn : n ≤ 8 := hV.1
  have h9 : (0 : Int32) ≤ 9999 := by decide
  rw [fX0_turnsBy, zlt_r, cb_its hC hw (show 0 < 7 by omega), tuS]
  by_cases k1 : itS s w 0 = 1
  · rw [if_pos k1, if_pos k1, ca_held h9, zbi_s]
    exact ⟨M, rfl, C2.rf⟩
  rw [if_neg k1, if_neg k1]
  by_cases k3 : itS s w 0 = 3
  · rw [if_pos k3, if_pos k3, ca_held h9, zbi_s]
    exact ⟨M, rfl, C2.rf⟩
  rw [if_neg k3, if_neg k3]
  by_cases k4 : itS s w 0 = 4
  · rw [if_pos k4, if_pos k4]
    by_cases g : t / 2 ≤ 0
    · rw [if_pos g, if_pos g, ca_held h9, zbi_s]
      exact ⟨M, rfl, C2.rf⟩
    · rw [if_neg g, if_neg g, ca_held h9, zbi_s]
      exact ⟨M, rfl, C2.rf⟩
  rw [if_neg k4, if_neg k4]
  by_cases k5 : itS s w 0 = 5
  · rw [if_pos k5, if_pos k5]
    exact ⟨M, rfl, C2.rf⟩
  rw [if_neg k5, if_neg k5]
  by_cases k6 : itS s w 0 = 6
  · rw [if_pos k6, if_pos k6]
    obtain ⟨M', a1, a2⟩ := ca_toldTurns hC hV hw t
    rw [a1, zbi_s, ca_held h9, zbi_s]
    exact ⟨M', rfl, a2⟩
  rw [if_neg k6, if_neg k6, ca_held h9, zbi_s]
  exact ⟨M, rfl, C2.rf⟩
theorem ca_showsBy {q n w : Nat} {M : zM} {s : zR} (hk : M (q + 8 + w) 0 = itS s w 0) {t : Int32} (h0 : 0 ≤ t.toInt) (h1 : t.toInt ≤ 99) (b : Int32) : fX0_showsBy (q + 8 + w) t b M = some (shS s w t b, M) := by
  rw [fX0_showsBy, zlt_r, hk, shS]
  by_cases k2 : itS s w 0 = 2
  · rw [if_pos k2, if_pos k2]
  rw [if_neg k2, if_neg k2]
  by_cases k4 : itS s w 0 = 4
  · rw [if_pos k4, if_pos k4]
  rw [if_neg k4, if_neg k4]
  by_cases k5 : itS s w 0 = 5
  · have e2 : (2 : Int32).toInt = 2 := rfl
    have e : ((2 : Int32) * t).toInt = 2 * t.toInt := by
      rw [zmlT (by rw [e2]; omega) (by rw [e2]; omega), e2]
    have z0 : (0 : Int32).toInt = 0 := rfl
    have z9 : (9999 : Int32).toInt = 9999 := rfl
    rw [if_pos k5, if_pos k5, ca_held (by decide), zbi_s, hdS_in (by rw [zle']; omega) (by rw [zle']; omega)]
  rw [if_neg k5, if_neg k5]
/-! ===== the flow ===== -/
/-- one wheel at a place: what still flows, what each took, what was taken in all -/
def fwS (s : zR) (p : Int32) (w : Nat) (x : Int32 × zR × Int32) : Int32 × zR × Int32 := if itS s w 2 = p then (x.1 - waS s w x.1, upd x.2.1 w (waS s w x.1), x.2.2 + waS s w x.1) else x
def fpS (s : zR) (p : Int32) : Nat → Int32 × zR × Int32 → Int32 × zR × Int32
  | 0, x => x
  | k + 1, x => fwS s p k (fpS s p k x)
/-- what weed takes -/
def wdS (s : zR) (p : Nat) (f : Int32) : Int32 := if f ≤ s (30 + p) then f else s (30 + p)
/-- places 0 .. p - 1: what flows on, what each wheel took, taken, lost, what flowed to each place -/
def flS (s : zR) (n : Nat) (t0 : zR) (g0 : zR) : Nat → (Int32 × zR × Int32) × Int32 × zR
  | 0 => ((s (6 + (zrem (s 1) 24).toNatClampNeg), t0, 0), 0, g0)
  | p + 1 =>
    let y := flS s n t0 g0 p
    let d := wdS s p y.1.1
    (fpS s (nI p) n (y.1.1 - d, y.1.2.1, y.1.2.2), y.2.1 + d, upd y.2.2 p y.1.1)
theorem fpS_r {s : zR} {p : Int32} {x : Int32 × zR × Int32} {m : Int} (h0 : 0 ≤ x.1.toInt) (h1 : x.1.toInt ≤ m) : ∀ k, 0 ≤ (fpS s p k x).1.toInt ∧ (fpS s p k x).1.toInt ≤ m := by
  intro k
  induction k with
  | zero => exact ⟨h0, h1⟩
  | succ k ih =>
    obtain ⟨i0, i1⟩ := ih
    rw [fpS, fwS]
    by_cases c : itS s k 2 = p
    · rw [if_pos c]
      obtain ⟨w0, w1⟩ := waS_r (s := s) (w := k) i0
      show 0 ≤ ((fpS s p k x).1 - waS s k (fpS s p k x).1).toInt ∧ _
      have hm := Int32.toInt_lt (fpS s p k x).1
      have e : ((fpS s p k x).1 - waS s k (fpS s p k x).1).toInt = (fpS s p k x).1.toInt - (waS s k (fpS s p k x).1).toInt := zsbT (by omega) (by omega)
      rw [e]
      exact ⟨by omega, by omega⟩
    · rw [if_neg c]
      exact ⟨i0, i1⟩
