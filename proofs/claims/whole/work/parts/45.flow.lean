theorem wdS_r {s : zR} {n h p : Nat} (hV : VR s n h) (hp : p < 12) {f : Int32} (h0 : 0 ≤ f.toInt) : 0 ≤ (wdS s p f).toInt ∧ (wdS s p f).toInt ≤ f.toInt := by
  obtain ⟨b0, b1⟩ := hV.2.2.2.2.2.2.1 p hp
  unfold wdS
  by_cases c : f ≤ s (30 + p)
  · rw [if_pos c]
    exact ⟨h0, Int.le_refl _⟩
  · rw [if_neg c]
    rw [zle'] at c
    exact ⟨b0, by omega⟩
theorem VR_hod {s : zR} {n h : Nat} (hV : VR s n h) : zrem (s 1) 24 = nI (h % 24) ∧ (zrem (s 1) 24).toNatClampNeg = h % 24 ∧ h % 24 < 24 := by
  have h4 := hV.2.2.2.1
  have e := zremT hV.2.2.1 (show h < 2147483648 by omega)
  exact ⟨e, by rw [e, zcn (by omega)], Nat.mod_lt _ (by omega)⟩
theorem flS_r {s : zR} {n h : Nat} (hV : VR s n h) (t0 g0 : zR) : ∀ p, p ≤ 12 → 0 ≤ (flS s n t0 g0 p).1.1.toInt ∧ (flS s n t0 g0 p).1.1.toInt ≤ 99 := by
  intro p
  induction p with
  | zero =>
    intro _
    obtain ⟨-, e, hl⟩ := VR_hod hV
    show 0 ≤ (s (6 + (zrem (s 1) 24).toNatClampNeg)).toInt ∧ (s (6 + (zrem (s 1) 24).toNatClampNeg)).toInt ≤ 99
    rw [e]
    exact hV.2.2.2.2.2.1 _ hl
  | succ p ih =>
    intro hp
    obtain ⟨i0, i1⟩ := ih (by omega)
    obtain ⟨w0, w1⟩ := wdS_r hV (show p < 12 by omega) i0
    rw [flS]
    have e : ((flS s n t0 g0 p).1.1 - wdS s p (flS s n t0 g0 p).1.1).toInt = (flS s n t0 g0 p).1.1.toInt - (wdS s p (flS s n t0 g0 p).1.1).toInt := zsbT (by omega) (by omega)
    exact fpS_r (by show 0 ≤ ((flS s n t0 g0 p).1.1 - wdS s p (flS s n t0 g0 p).1.1).toInt; omega) (by show ((flS s n t0 g0 p).1.1 - wdS s p (flS s n t0 g0 p).1.1).toInt ≤ 99; omega) n
/-- what was there ahead doesn't matter -/
theorem fpS_t {s : zR} {p : Int32} {x y : Int32 × zR × Int32} (h1 : x.1 = y.1) (h3 : x.2.2 = y.2.2) : ∀ k, (fpS s p k x).1 = (fpS s p k y).1 ∧ (fpS s p k x).2.2 = (fpS s p k y).2.2 ∧ ∀ i, (x.2.1 i = y.2.1 i ∨ (i < k ∧ itS s i 2 = p)) → (fpS s p k x).2.1 i = (fpS s p k y).2.1 i := by
  intro k
  induction k with
  | zero =>
    refine ⟨h1, h3, fun i hi => ?_⟩
    rcases hi with hi | hi
    · exact hi
    · omega
  | succ k ih =>
    obtain ⟨a1, a2, a3⟩ := ih
    rw [fpS, fpS, fwS, fwS]
    by_cases c : itS s k 2 = p
    · rw [if_pos c, if_pos c]
      refine ⟨?_, ?_, fun i hi => ?_⟩
      · show (fpS s p k x).1 - _ = (fpS s p k y).1 - _
        rw [a1]
      · show (fpS s p k x).2.2 + _ = (fpS s p k y).2.2 + _
        rw [a1, a2]
      · show upd _ _ _ i = upd _ _ _ i
        rw [upd_a, upd_a, a1]
        by_cases e : i = k
        · rw [if_pos e, if_pos e]
        · rw [if_neg e, if_neg e]
          exact a3 i (hi.imp id (fun z => ⟨by omega, z.2⟩))
    · rw [if_neg c, if_neg c]
      refine ⟨a1, a2, fun i hi => a3 i (hi.imp id (fun z => ⟨?_, z.2⟩))⟩
      by_cases e : i = k
      · rw [e] at z
        exact absurd z.2 c
      · omega
theorem flS_t {s : zR} {n : Nat} (t0 g0 t1 g1 : zR) : ∀ p, (flS s n t0 g0 p).1.1 = (flS s n t1 g1 p).1.1 ∧ (flS s n t0 g0 p).1.2.2 = (flS s n t1 g1 p).1.2.2 ∧ (flS s n t0 g0 p).2.1 = (flS s n t1 g1 p).2.1 ∧ (∀ i, i < n → (∃ j, j < p ∧ itS s i 2 = nI j) → (flS s n t0 g0 p).1.2.1 i = (flS s n t1 g1 p).1.2.1 i) ∧ ∀ j, j < p → (flS s n t0 g0 p).2.2 j = (flS s n t1 g1 p).2.2 j := by
  intro p
  induction p with
  | zero => exact ⟨rfl, rfl, rfl, fun i _ ⟨j, h, _⟩ => by omega, fun j h => by omega⟩
  | succ p ih =>
    obtain ⟨a1, a2, a3, a4, a5⟩ := ih
    rw [flS, flS]
    obtain ⟨b1, b2, b3⟩ := fpS_t (s := s) (p := nI p) (x := ((flS s n t0 g0 p).1.1 - wdS s p (flS s n t0 g0 p).1.1, (flS s n t0 g0 p).1.2.1, (flS s n t0 g0 p).1.2.2)) (y := ((flS s n t1 g1 p).1.1 - wdS s p (flS s n t1 g1 p).1.1, (flS s n t1 g1 p).1.2.1, (flS s n t1 g1 p).1.2.2)) (by show (flS s n t0 g0 p).1.1 - _ = (flS s n t1 g1 p).1.1 - _; rw [a1]) a2 n
    refine ⟨b1, b2, ?_, fun i hi hj => ?_, fun j hj => ?_⟩
    · show (flS s n t0 g0 p).2.1 + _ = (flS s n t1 g1 p).2.1 + _
      rw [a1, a3]
    · obtain ⟨j, hj1, hj2⟩ := hj
      refine b3 i ?_
      by_cases e : j = p
      · exact Or.inr ⟨hi, by rw [hj2, e]⟩
      · exact Or.inl (a4 i hi ⟨j, by omega, hj2⟩)
    · show upd _ _ _ j = upd _ _ _ j
      rw [upd_a, upd_a, a1]
      by_cases e : j = p
      · rw [if_pos e, if_pos e]
      · rw [if_neg e, if_neg e]
        exact a5 j (by omega)
/-- the flow of the row, all that is told of it -/
def flA (s : zR) (n : Nat) : (Int32 × zR × Int32) × Int32 × zR := flS s n (fun _ => 0) (fun _ => 0) 12
theorem flA_of {s : zR} {n h : Nat} (hV : VR s n h) (t0 g0 : zR) : (flS s n t0 g0 12).1.1 = (flA s n).1.1 ∧ (flS s n t0 g0 12).1.2.2 = (flA s n).1.2.2 ∧ (flS s n t0 g0 12).2.1 = (flA s n).2.1 ∧ (∀ i, i < n → (flS s n t0 g0 12).1.2.1 i = (flA s n).1.2.1 i) ∧ ∀ j, j < 12 → (flS s n t0 g0 12).2.2 j = (flA s n).2.2 j := by
  obtain ⟨a1, a2, a3, a4, a5⟩ := flS_t (s := s) (n := n) t0 g0 (fun _ => 0) (fun _ => 0) 12
  refine ⟨a1, a2, a3, fun i hi => a4 i hi ?_, a5⟩
  obtain ⟨b0, b1⟩ := (hV.2.2.2.2.2.2.2.2.1 i hi).2.2.1
  obtain ⟨j, hj, e, -⟩ := zof b0 (show _ ≤ ((11 : Nat) : Int) from b1)
  exact ⟨j, by omega, e⟩
/-- the reference's wheels of a place -/
theorem ra_inner {s : zR} {n h p : Nat} (hV : VR s n h) (kk : Int32 → zM → Option zM) (x : Int32 × zR × Int32) :
    ∀ (d j : Nat) (M : zM) (F : Nat), j + d = n → d < F → M 88 = s → M 96 = (fpS s (nI p) j x).2.1 → M 87 15 = (fpS s (nI p) j x).2.2 →
      ∃ M', fX8_flow_82 (nI p) kk F (fpS s (nI p) j x).1 (nI j) M = kk (fpS s (nI p) n x).1 M' ∧ M' 96 = (fpS s (nI p) n x).2.1 ∧ M' 87 15 = (fpS s (nI p) n x).2.2 ∧ (∀ c, c ≠ 87 → c ≠ 93 → c ≠ 94 → c ≠ 96 → M' c = M c) ∧ ∀ k, k ≠ 15 → M' 87 k = M 87 k := by
  have hn := hV.1
  have h0 := hV.2.1
  intro d
  induction d with
  | zero =>
    intro j M F hj hF hs ht hk
    obtain ⟨F, rfl⟩ : ∃ G, F = G + 1 := ⟨F - 1, by omega⟩
    have e : j = n := by omega
    subst e
    refine ⟨M, ?_, ht, hk, fun _ _ _ _ _ => rfl, fun _ _ => rfl⟩
    rw [fX8_flow_82, hs, h0, if_pos (nI_le (Nat.le_refl _) (by omega))]
  | succ d ih =>
    intro j M F hj hF hs ht hk
    obtain ⟨F, rfl⟩ : ∃ G, F = G + 1 := ⟨F - 1, by omega⟩
    have hjn : j < n := by omega
    rw [fX8_flow_82, hs, h0, if_neg (fun z => by have := (nI_leI (a := n) (b := j) (by omega) (by omega)).mp z; omega), ra_itsS (k := 2) (x := (2 : Int32)) (w := j) rfl (by omega) (by omega), zbi_s, hs]
    have hstep : fpS s (nI p) (j + 1) x = fwS s (nI p) j (fpS s (nI p) j x) := rfl
    by_cases c : itS s j 2 = nI p
    · rw [fwS, if_pos c] at hstep
      obtain ⟨M1, a1, a2⟩ := ra_wants (M := M) (w := j) (by rw [hs]; exact hV) hjn (fpS s (nI p) j x).1
      rw [if_pos c, a1, zbi_s, zgd_n (zgi rfl (show j < 9 by omega) (by omega)), zlt_r, zcn (by omega), zgd_n (zgj (show j < 9 by omega) (by omega)), zlt_r, zgd_n (zgj (show j < 9 by omega) (by omega)), zlt_r, zlt_r, nI_1, hs, zst_k, if_pos ⟨rfl, rfl⟩]
      have e96 : M1 96 = M 96 := a2 96 (by decide) (by decide)
      have e87 : M1 87 = M 87 := a2 87 (by decide) (by decide)
      generalize hM2 : zst (zst M1 96 j (waS s j (fpS s (nI p) j x).1)) 87 15 _ = M2
      have f1 : M2 96 = (fpS s (nI p) (j + 1) x).2.1 := by
        rw [hstep, ← hM2, zst_n _ (by decide), zst_s, e96, ht]
      have f2 : M2 87 15 = (fpS s (nI p) (j + 1) x).2.2 := by
        rw [hstep, ← hM2, zst_k, if_pos ⟨rfl, rfl⟩, zst_n _ (by decide), e87, hk]
      have f3 : ∀ c, c ≠ 87 → c ≠ 93 → c ≠ 94 → c ≠ 96 → M2 c = M c := by
        intro c g1 g2 g3 g4
        rw [← hM2, zst_n _ g1, zst_n _ g4, a2 c g2 g3]
      have f4 : ∀ k, k ≠ 15 → M2 87 k = M 87 k := by
        intro k g
        rw [← hM2, zst_k, if_neg (fun z => g z.2), zst_n _ (by decide), e87]
      obtain ⟨M', b1, b2, b3, b4, b5⟩ := ih (j + 1) M2 F (by omega) (by omega) (by rw [f3 88 (by decide) (by decide) (by decide) (by decide)]; exact hs) f1 f2
      refine ⟨M', ?_, b2, b3, fun c g1 g2 g3 g4 => (b4 c g1 g2 g3 g4).trans (f3 c g1 g2 g3 g4), fun k g => (b5 k g).trans (f4 k g)⟩
      rw [← b1, hstep]
    · rw [fwS, if_neg c] at hstep
      rw [if_neg c, zlt_r, nI_1]
      obtain ⟨M', b1, b2, b3, b4, b5⟩ := ih (j + 1) M F (by omega) (by omega) hs (by rw [hstep]; exact ht) (by rw [hstep]; exact hk)
      rw [hstep] at b1
      exact ⟨M', b1, b2, b3, b4, b5⟩
/-- the class's wheels of a place -/
theorem ca_inner {s : zR} {q n h p : Nat} (hV : VR s n h) (kk : Int32 → zM → Option zM) (x : Int32 × zR × Int32) (hx : 0 ≤ x.1.toInt) :
    ∀ (d j : Nat) (M : zM) (F : Nat), j + d = n → d < F → CB q M s n → (∀ i, i < n → M (q + 8 + i) 7 = (fpS s (nI p) j x).2.1 i) →
      ∃ M', fX0_letFlow_53 q (nI p) kk F (fpS s (nI p) j x).1 (nI j) M = kk (fpS s (nI p) n x).1 M' ∧ (∀ i, i < n → M' (q + 8 + i) 7 = (fpS s (nI p) n x).2.1 i) ∧ AG q M M' ∧ OU q M M' ∧ M' (q + 7) = M (q + 7) ∧ M' q = M q := by
  have hn := hV.1
  have h0 := hV.2.1
  intro d
  induction d with
  | zero =>
    intro j M F hj hF hC ht
    obtain ⟨F, rfl⟩ : ∃ G, F = G + 1 := ⟨F - 1, by omega⟩
    have e : j = n := by omega
    subst e
    refine ⟨M, ?_, ht, AG.rf, OU.rf, rfl, rfl⟩
    rw [fX0_letFlow_53, hC.1, h0, if_pos (nI_le (Nat.le_refl _) (by omega))]
  | succ d ih =>
    intro j M F hj hF hC ht
    obtain ⟨F, rfl⟩ : ∃ G, F = G + 1 := ⟨F - 1, by omega⟩
    have hjn : j < n := by omega
    rw [fX0_letFlow_53, hC.1, h0, if_neg (fun z => by have := (nI_leI (a := n) (b := j) (by omega) (by omega)).mp z; omega), zgd_n (zgi rfl (show j < 8 by omega) (by omega)), zlt_r, zcn (by omega), cb_its hC hjn (show 2 < 7 by omega)]
    have hstep : fpS s (nI p) (j + 1) x = fwS s (nI p) j (fpS s (nI p) j x) := rfl
    have hpos : 0 ≤ (fpS s (nI p) j x).1.toInt := (fpS_r (m := x.1.toInt) hx (Int.le_refl _) j).1
    by_cases c : itS s j 2 = nI p
    · rw [fwS, if_pos c] at hstep
      obtain ⟨M1, a1, a2⟩ := ca_wants hC hV hjn hpos
      rw [if_pos c, a1, zbi_s, zlt_r, zlt_r, zlt_r, nI_1, zst_k, if_pos ⟨rfl, rfl⟩]
      generalize hM2 : zst M1 (q + 8 + j) 7 _ = M2
      have f0 : ∀ c, c ≠ q + 8 + j → M2 c = M1 c := fun c hc => by rw [← hM2, zst_n _ hc]
      have f1 : ∀ i, i < n → M2 (q + 8 + i) 7 = (fpS s (nI p) (j + 1) x).2.1 i := by
        intro i hi
        rw [hstep]
        show _ = upd _ _ _ i
        rw [upd_a, ← hM2, zst_k]
        by_cases e : i = j
        · rw [if_pos ⟨by omega, rfl⟩, if_pos e]
        · rw [if_neg (fun z => by omega), if_neg e, a2 _ (by omega) (by omega) (by omega)]
          exact ht i hi
      have f2 : AG q M1 M2 := by
        refine ⟨?_, ?_, ?_, ?_, ?_, ?_, ?_, ?_, fun w hw k hk => ?_, ?_, ?_, ?_, ?_⟩
        case refine_9 =>
          rw [← hM2, zst_k, if_neg (fun z => by omega)]
        all_goals rw [f0 _ (by omega)]
      have g2 : AG q M M2 := a2.ag.tr f2
      obtain ⟨M', b1, b2, b3, b4, b5, b6⟩ := ih (j + 1) M2 F (by omega) (by omega) (hC.ag hn g2) f1
      refine ⟨M', ?_, b2, g2.tr b3, fun c hc => (b4 c hc).trans ((f0 c (by omega)).trans (a2 c (by omega) (by omega) (by omega))), b5.trans ((f0 _ (by omega)).trans (a2 _ (by omega) (by omega) (by omega))), b6.trans ((f0 _ (by omega)).trans (a2 _ (by omega) (by omega) (by omega)))⟩
      rw [← b1, hstep]
    · rw [fwS, if_neg c] at hstep
      rw [if_neg c, zlt_r, nI_1]
      obtain ⟨M', b1, b2, b3, b4, b5, b6⟩ := ih (j + 1) M F (by omega) (by omega) hC (fun i hi => by rw [hstep]; exact ht i hi)
      rw [hstep] at b1
      exact ⟨M', b1, b2, b3, b4, b5, b6⟩
