/-! ===== a brook copied ===== -/
theorem nI_inj' {a b : Nat} (h : nI a = nI b) (ha : a < 2147483648) (hb : b < 2147483648) : a = b := (nI_eq ha hb).mp h
theorem zcp_o (M : zM) (a b : Nat) (i j k : Int32) (c : Nat) (h : c ≠ b) : zcp M a b i j k c = M c := zup_n M h
theorem zcp_0 (M : zM) (a b : Nat) (x : Int32) (n : Nat) (e : x = nI n) (hn : n < 2147483648) (k : Nat) (hk : k < n) : zcp M a b 0 0 x b k = M a k := by
  show zup M b (va_cpy (M a) (M b) (0 : Int32).toNatClampNeg (0 : Int32).toNatClampNeg x.toNatClampNeg) b k = _
  rw [zup_s, e, zcn hn]
  show va_cpy (M a) (M b) 0 0 n k = _
  simp [va_cpy, hk]
theorem zcp_s (M : zM) (a b : Nat) (x : Int32) (n : Nat) (e : x = nI n) (hn : n < 2147483648) : ∃ M', zcp M a b 0 0 x = M' ∧ (∀ k, k < n → M' b k = M a k) ∧ ∀ c, c ≠ b → M' c = M c :=
  ⟨_, rfl, zcp_0 M a b x n e hn, zcp_o M a b 0 0 x⟩
/-- a wheel copied -/
theorem ca_wcopy (q q0 : Nat) (hq : q0 ≠ q) (M : zM) : ∃ M', fX6_copyFrom q q0 M = some M' ∧ (∀ k, k < 7 → M' q k = M q0 k) ∧ ∀ c, c ≠ q → M' c = M c := by
  rw [fX6_copyFrom, zlt_r, zlt_r, zlt_r, zlt_r, zlt_r, zlt_r, zlt_r]
  have e : ∀ (f : zM) k v, zst f q k v q0 = f q0 := fun f k v => zst_n _ hq
  refine ⟨_, rfl, fun k hk => ?_, fun c hc => ?_⟩
  · rcases (show k = 0 ∨ k = 1 ∨ k = 2 ∨ k = 3 ∨ k = 4 ∨ k = 5 ∨ k = 6 by omega) with e2 | e2 | e2 | e2 | e2 | e2 | e2 <;> subst e2 <;> simp [zst_k, hq]
  · simp only [zst_n _ hc]
theorem ca_cploop {q q0 n : Nat} (hn : n ≤ 8) (hq : q + 22 ≤ q0 ∨ q0 + 22 ≤ q) (kk : zM → Option zM) :
    ∀ (d k : Nat) (M : zM) (F : Nat), k + d = n → d < F → M q0 9 = nI n → (∀ w, w < k → ∀ j, j < 7 → M (q + 8 + w) j = M (q0 + 8 + w) j) →
      ∃ M', fX0_copyFrom_60 q q0 kk F (nI k) M = kk M' ∧ (∀ w, w < n → ∀ j, j < 7 → M' (q + 8 + w) j = M (q0 + 8 + w) j) ∧ ∀ c, c < q + 8 ∨ q + 16 ≤ c → M' c = M c := by
  intro d
  induction d with
  | zero =>
    intro k M F hk hF h9 h1
    obtain ⟨F, rfl⟩ : ∃ G, F = G + 1 := ⟨F - 1, by omega⟩
    have e : k = n := by omega
    subst e
    refine ⟨M, ?_, h1, fun _ _ => rfl⟩
    rw [fX0_copyFrom_60, h9, if_pos (by rw [nI_leI (by omega) (by omega)]; omega)]
  | succ d ih =>
    intro k M F hk hF h9 h1
    obtain ⟨F, rfl⟩ : ∃ G, F = G + 1 := ⟨F - 1, by omega⟩
    obtain ⟨M1, a1, a2, a3⟩ := ca_wcopy (q + 8 + k) (q0 + 8 + k) (by omega) M
    rw [fX0_copyFrom_60, h9, if_neg (by rw [nI_leI (by omega) (by omega)]; omega), zgd_n (zgi rfl (show k < 8 by omega) (by omega)), zlt_r, zgd_n (zgi rfl (show k < 8 by omega) (by omega)), zlt_r, zcn (by omega), a1, zbv_s, zlt_r, nI_1]
    obtain ⟨M', b1, b2, b3⟩ := ih (k + 1) M1 F (by omega) (by omega) (by rw [a3 _ (by omega)]; exact h9) (fun w hw j hj => by
      rw [a3 (q0 + 8 + w) (by omega)]
      by_cases e : w = k
      · rw [e]
        exact a2 j hj
      · rw [a3 _ (by omega)]
        exact h1 w (by omega) j hj)
    exact ⟨M', b1, fun w hw j hj => by rw [b2 w hw j hj, a3 _ (by omega)], fun c hc => by rw [b3 c hc, a3 c (by omega)]⟩
/-- a law learnt -/
theorem ca_learn {M : zM} {l r c : Nat} (h60 : c ≤ 60) : ∃ M', fX2_learn l r (nI c) M = some M' ∧ M' l 2 = nI c ∧ (∀ k, k < c → l ≠ l + 1 → M' (l + 1) k = M r k) ∧ ∀ x, x ≠ l → x ≠ l + 1 → M' x = M x := by
  have g1 : ¬ nI c < 0 := fun z => by
    rw [zlt', znT (by omega)] at z
    have : (0 : Int32).toInt = 0 := rfl
    omega
  have g2 : ¬ (60 : Int32) < nI c := fun z => by
    rw [zlt', znT (by omega)] at z
    have : (60 : Int32).toInt = 60 := rfl
    omega
  rw [fX2_learn, if_neg g1, if_neg g2, if_neg g2, zgd_n (fun z => by
    have e : (0 : Int32).toNatClampNeg = 0 := rfl
    have e0 : ¬ (0 : Int32) < 0 := by decide
    rw [e, zcn (by omega)] at z
    rcases z with z | z | z | z | z
    · exact e0 z
    · exact e0 z
    · exact g1 z
    · omega
    · omega), zlt_r, zlt_r]
  obtain ⟨M1, e1, p1, o1⟩ := zcp_s M r (l + 1) (nI c) c rfl (by omega)
  rw [e1]
  refine ⟨_, rfl, by rw [zst_k, if_pos ⟨rfl, rfl⟩], fun k hk _ => ?_, fun x h1 h2 => by rw [zst_n _ h1, o1 x h2]⟩
  rw [zst_n _ (by omega)]
  exact p1 k hk
theorem ca_copyFrom {M : zM} {s : zR} {q q0 n h : Nat} (hV : VR s n h) (hC : CB q0 M s n) (hq : q + 22 ≤ q0 ∨ q0 + 22 ≤ q) : ∃ M', fX0_copyFrom q q0 M = some M' ∧ CB q M' s n ∧ OU q M M' := by
  have hn := hV.1
  obtain ⟨c0, hc0, hv0⟩ := hV.2.2.2.2.2.2.2.2.2.1
  obtain ⟨c1, hc1, hv1⟩ := hV.2.2.2.2.2.2.2.2.2.2
  have h60 := hv0.1
  have h61 := hv1.1
  obtain ⟨a1, a2, a3, a4, a5, a6, a7, a8, a9, a10⟩ := hC
  have e9 : M q0 9 = nI n := a1.trans hV.2.1
  obtain ⟨N1, e1, p1, o1⟩ := zcp_s M (q0 + 1) (q + 1) 24 24 rfl (by omega)
  obtain ⟨N2, e2, p2, o2⟩ := zcp_s N1 (q0 + 2) (q + 2) 12 12 rfl (by omega)
  obtain ⟨N3, e3, p3, o3⟩ := zcp_s N2 (q0 + 3) (q + 3) 5 5 rfl (by omega)
  obtain ⟨M4, e4, p4, o4⟩ := zcp_s N3 (q0 + 4) (q + 4) 5 5 rfl (by omega)
  rw [fX0_copyFrom, zgd_n (by decide), zlt_r, e1, zgd_n (by decide), zlt_r, e2, zgd_n (by decide), zlt_r, e3, zgd_n (by decide), zlt_r, e4]
  have f0 : ∀ c, c ≠ q + 1 → c ≠ q + 2 → c ≠ q + 3 → c ≠ q + 4 → M4 c = M c := fun c g1 g2 g3 g4 => by rw [o4 c g4, o3 c g3, o2 c g2, o1 c g1]
  have f1 : ∀ k, k < 24 → M4 (q + 1) k = M (q0 + 1) k := fun k hk => by rw [o4 _ (by omega), o3 _ (by omega), o2 _ (by omega), p1 k hk]
  have f2 : ∀ k, k < 12 → M4 (q + 2) k = M (q0 + 2) k := fun k hk => by rw [o4 _ (by omega), o3 _ (by omega), p2 k hk, o1 _ (by omega)]
  have f3 : ∀ k, k < 5 → M4 (q + 3) k = M (q0 + 3) k := fun k hk => by rw [o4 _ (by omega), p3 k hk, o2 _ (by omega), o1 _ (by omega)]
  have f4 : ∀ k, k < 5 → M4 (q + 4) k = M (q0 + 4) k := fun k hk => by rw [p4 k hk, o3 _ (by omega), o2 _ (by omega), o1 _ (by omega)]
  obtain ⟨M5, b1, b2, b3⟩ := ca_cploop (q := q) (q0 := q0) hn hq (fun  M18 => zbv (fX2_learn (q + 16) ((q0 + 16) + 1) (M18 (q0 + 16) 2) M18) (fun M20 => zbv (fX2_learn (q + 19) ((q0 + 19) + 1) (M20 (q0 + 19) 2) M20) (fun M23 => zlt (zst M23 q 9 (M23 q0 9)) (fun M25 => zlt (zst M25 q 10 (M25 q0 10)) (fun M26 => zlt (zst M26 q 11 (M26 q0 11)) (fun M27 => zlt (zst M27 q 12 (M27 q0 12)) (fun M28 => some M28))))))) n 0 M4 zF (by omega) (show n < 1000 by omega) (by rw [f0 _ (by omega) (by omega) (by omega) (by omega)]; exact e9) (fun w hw => by omega)
  have l0 : M5 (q0 + 16) 2 = nI c0 := by rw [b3 _ (by omega), f0 _ (by omega) (by omega) (by omega) (by omega)]; exact a9.1.trans hc0
  obtain ⟨M6, d1, d2, d3, d4⟩ := ca_learn (M := M5) (l := q + 16) (r := q0 + 16 + 1) h60
  have l1 : M6 (q0 + 19) 2 = nI c1 := by rw [d4 _ (by omega) (by omega), b3 _ (by omega), f0 _ (by omega) (by omega) (by omega) (by omega)]; exact a10.1.trans hc1
  obtain ⟨M7, g1, g2, g3, g4⟩ := ca_learn (M := M6) (l := q + 19) (r := q0 + 19 + 1) h61
  have o7 : ∀ c, (c < q ∨ q + 22 ≤ c) → M7 c = M c := fun c hc => by rw [g4 _ (by omega) (by omega), d4 _ (by omega) (by omega), b3 _ (by omega), f0 _ (by omega) (by omega) (by omega) (by omega)]
  have hb : fX0_copyFrom_60 q q0 (fun  M18 => zbv (fX2_learn (q + 16) ((q0 + 16) + 1) (M18 (q0 + 16) 2) M18) (fun M20 => zbv (fX2_learn (q + 19) ((q0 + 19) + 1) (M20 (q0 + 19) 2) M20) (fun M23 => zlt (zst M23 q 9 (M23 q0 9)) (fun M25 => zlt (zst M25 q 10 (M25 q0 10)) (fun M26 => zlt (zst M26 q 11 (M26 q0 11)) (fun M27 => zlt (zst M27 q 12 (M27 q0 12)) (fun M28 => some M28))))))) zF (0 : Int32) M4 = some (zst (zst (zst (zst M7 q 9 (M7 q0 9)) q 10 (M7 q0 10)) q 11 (M7 q0 11)) q 12 (M7 q0 12)) := by
    refine b1.trans ?_
    show zbv (fX2_learn (q + 16) (q0 + 16 + 1) (M5 (q0 + 16) 2) M5) _ = _
    rw [l0, d1, zbv_s, l1, g1, zbv_s, zlt_r, zlt_r, zlt_r, zlt_r]
    simp only [zst_n _ (show q0 ≠ q by omega)]
  refine ⟨_, hb, ?_, fun c hc => ?_⟩
  · have z : ∀ c, c ≠ q → (zst (zst (zst (zst M7 q 9 (M7 q0 9)) q 10 (M7 q0 10)) q 11 (M7 q0 11)) q 12 (M7 q0 12)) c = M7 c := fun c hc => by rw [zst_n _ hc, zst_n _ hc, zst_n _ hc, zst_n _ hc]
    have e0 : M7 q0 = M q0 := o7 _ (by omega)
    have e5 : ∀ c, c ≠ q + 16 → c ≠ q + 17 → c ≠ q + 19 → c ≠ q + 20 → M7 c = M5 c := fun c h1 h2 h3 h4 => by rw [g4 c h3 h4, d4 c h1 h2]
    refine ⟨?_, ?_, ?_, ?_, fun j hj => ?_, fun j hj => ?_, fun j hj => ⟨?_, ?_⟩, fun x hx j hj => ?_, ⟨?_, fun c hc _ k hk => ?_⟩, ⟨?_, fun c hc _ k hk => ?_⟩⟩
    · rw [← a1, ← e0]
      simp [zst_k]
    · rw [← a2, ← e0]
      simp [zst_k]
    · rw [← a3, ← e0]
      simp [zst_k]
    · rw [← a4, ← e0]
      simp [zst_k]
    · rw [z _ (by omega), e5 _ (by omega) (by omega) (by omega) (by omega), b3 _ (by omega), f1 j hj]
      exact a5 j hj
    · rw [z _ (by omega), e5 _ (by omega) (by omega) (by omega) (by omega), b3 _ (by omega), f2 j hj]
      exact a6 j hj
    · rw [z _ (by omega), e5 _ (by omega) (by omega) (by omega) (by omega), b3 _ (by omega), f3 j hj]
      exact (a7 j hj).1
    · rw [z _ (by omega), e5 _ (by omega) (by omega) (by omega) (by omega), b3 _ (by omega), f4 j hj]
      exact (a7 j hj).2
    · rw [z _ (by omega), e5 _ (by omega) (by omega) (by omega) (by omega), b2 x hx j hj, f0 _ (by omega) (by omega) (by omega) (by omega)]
      exact a8 x hx j hj
    · rw [z _ (by omega), g4 _ (by omega) (by omega), d2, hc0]
    · have e : c = c0 := nI_inj' (hc.symm.trans hc0) (by omega) (by omega)
      subst e
      rw [z _ (by omega), g4 _ (by omega) (by omega), d3 k hk (by omega), b3 _ (by omega), f0 _ (by omega) (by omega) (by omega) (by omega)]
      exact a9.2 c hc h60 k hk
    · rw [z _ (by omega), g2, hc1]
    · have e : c = c1 := nI_inj' (hc.symm.trans hc1) (by omega) (by omega)
      subst e
      rw [z _ (by omega), g3 k hk (by omega), d4 _ (by omega) (by omega), b3 _ (by omega), f0 _ (by omega) (by omega) (by omega) (by omega)]
      exact a10.2 c hc h61 k hk
  · rw [zst_n _ (by omega), zst_n _ (by omega), zst_n _ (by omega), zst_n _ (by omega), o7 c hc]
