theorem zsgn_neg {v : Int32} (h : zsgn v) : -v < 0 ∧ ¬ -v = -33 ∧ - -v = v := by
  rcases h with rfl | rfl | rfl | rfl | rfl | rfl | rfl | rfl | rfl | rfl <;> decide
theorem znm_c {u : Nat} {v c : Int32} (h : znm u v c) : (c = 10000 ∨ c = 10001 ∨ c = 10002 ∨ c = 10003) := by
  rcases h with ⟨-, h | h | h | h⟩ | ⟨-, h | h | h⟩ <;> simp [h.2]
theorem ca_nameOf {q0 : Nat} {c : Int32} (h : c = 10000 ∨ c = 10001 ∨ c = 10002 ∨ c = 10003) (M : zM) : fX2_nameOf q0 (c - 10000) M = some (M q0 (c - 10000).toNatClampNeg, M) := by
  rcases h with rfl | rfl | rfl | rfl <;> rfl
/-- the class's loop over the steps -/
theorem ca_vloop {u lam q0 c : Nat} {kk : Int32 → zM → Option (Int32 × zM)} {C : Nat → Int32} {tk : Nat → Int32 × Int32} (hv : zVT u tk c) (hC : ∀ k, k < c → zTK u (C k) (tk k).1 (tk k).2) (nm : Int32 → Int32) (N : Nat → Int32) (hnm : ∀ v c, znm u v c → nm v = N (c - 10000).toNatClampNeg) (hq0 : q0 ≠ lam + 2) :
    ∀ (d k : Nat) (M : zM) (F : Nat), k + d = c → d < F → M lam 2 = nI c → M (lam + 1) = C → M q0 = N → zPL (M (lam + 2)) (evS nm tk k) →
      ∃ M', fX2_value_4 lam q0 kk F (nI (evS nm tk k).length) (nI k) M = kk (nI (evS nm tk c).length) M' ∧ (∀ q, q ≠ lam + 2 → M' q = M q) ∧ zPL (M' (lam + 2)) (evS nm tk c) := by
  have hc60 := hv.1
  intro d
  induction d with
  | zero =>
    intro k M F hk hF hs hc hN hp
    obtain ⟨F, rfl⟩ : ∃ G, F = G + 1 := ⟨F - 1, by omega⟩
    have e : k = c := by omega
    subst e
    refine ⟨M, ?_, fun _ _ => rfl, hp⟩
    rw [fX2_value_4, hs, if_pos (nI_le (Nat.le_refl _) (by omega))]
  | succ d ih =>
    intro k M F hk hF hs hc hN hp
    obtain ⟨F, rfl⟩ : ∃ G, F = G + 1 := ⟨F - 1, by omega⟩
    have hkc : k < c := by omega
    obtain ⟨t1, t2, t3⟩ := hv.2.1 k hkc
    obtain ⟨l1, l2⟩ := evS_len nm hv k (by omega)
    have htk := hC k hkc
    have hstep : evS nm tk (k + 1) = stS nm (tk k).1 (tk k).2 (evS nm tk k) := rfl
    have g60 : ¬ (60 : Int32) ≤ nI k := fun z => by have := (nI_leI (a := 60) (b := k) (by omega) (by omega)).mp z; omega
    rw [fX2_value_4, hs, if_neg (fun z => by have := (nI_leI (a := c) (b := k) (by omega) (by omega)).mp z; omega), if_neg g60, zgd_n (zgi rfl (show k < 60 by omega) (by omega)), zcn (by omega), zlt_r, hc]
    have hlen : (evS nm tk k).length ≤ k := by omega
    generalize hst : evS nm tk k = st at *
    have nxt : ∀ (v : Int32) (st' : List Int32), evS nm tk (k + 1) = v :: st' → zPL (M (lam + 2)) st' → ∃ M', fX2_value_4 lam q0 kk F (nI (st'.length + 1)) (nI (k + 1)) (zst M (lam + 2) st'.length v) = kk (nI (evS nm tk c).length) M' ∧ (∀ q, q ≠ lam + 2 → M' q = M q) ∧ zPL (M' (lam + 2)) (evS nm tk c) := by
      intro v st' he hp'
      have h1 : zPL ((zst M (lam + 2) st'.length v) (lam + 2)) (evS nm tk (k + 1)) := by
        rw [he, zst_s]
        exact ⟨upd_s _ _ _, zPL_up (Nat.le_refl _) hp'⟩
      obtain ⟨M', a1, a2, a3⟩ := ih (k + 1) (zst M (lam + 2) st'.length v) F (by omega) (by omega) (by rw [zst_n _ (by omega)]; exact hs) (by rw [zst_n _ (by omega)]; exact hc) (by rw [zst_n _ hq0]; exact hN) h1
      rw [he, List.length_cons] at a1
      exact ⟨M', a1, fun q hq => (a2 q hq).trans (zst_n _ hq), a3⟩
    rcases htk with ⟨w, e, b0, b1⟩ | ⟨w, hn⟩ | ⟨w, e⟩ | ⟨w, e, hsg⟩
    · have g1 : ¬ C k < 0 := by
        rw [e, zlt']
        have : (0 : Int32).toInt = 0 := rfl
        omega
      have g2 : ¬ (10000 : Int32) ≤ C k := by
        rw [e, zle']
        have : (10000 : Int32).toInt = 10000 := rfl
        omega
      have g3 : ¬ (60 : Int32) ≤ nI st.length := fun z => by have := (nI_leI (a := 60) (b := st.length) (by omega) (by omega)).mp z; omega
      rw [if_neg g1, if_neg g3, if_neg g2, zgd_n (zgi rfl (show st.length < 60 by omega) (by omega)), zlt_r, zcn (by omega), zlt_r, nI_1, zlt_r, nI_1]
      exact nxt _ st (by rw [hstep, stS_0 w, e]) hp
    · have hcc := znm_c hn
      have g1 : ¬ C k < 0 := by rcases hcc with h | h | h | h <;> rw [h] <;> decide
      have g2 : (10000 : Int32) ≤ C k := by rcases hcc with h | h | h | h <;> rw [h] <;> decide
      have g3 : ¬ (60 : Int32) ≤ nI st.length := fun z => by have := (nI_leI (a := 60) (b := st.length) (by omega) (by omega)).mp z; omega
      rw [if_neg g1, if_neg g3, if_pos g2, ca_nameOf hcc, zbi_s, zgd_n (zgi rfl (show st.length < 60 by omega) (by omega)), zlt_r, zcn (by omega), zlt_r, nI_1, zlt_r, nI_1]
      exact nxt _ st (by rw [hstep, stS_1 w, hN, hnm _ _ hn]) hp
    · have h1 := t2 w
      match st, l1, hp, hlen, hst with
      | [], l1, _, _, _ => simp at l1; omega
      | x :: r, l1, hp, hlen, hst =>
        have e3 : nI (x :: r).length - (1 : Int32) = nI r.length := nI_pred _
        have hr : r.length < 60 := by simp at hlen; omega
        have g4 : ¬ nI (x :: r).length < (1 : Int32) := fun z => by
          rw [List.length_cons] at z
          have := (nI_ltI (a := r.length + 1) (b := 1) (by omega) (by omega)).mp z
          omega
        rw [e, if_pos (by decide), if_pos rfl, if_neg g4, e3, zgd_n (zgi rfl hr (by omega)), zcn (by omega), hp.1]
        by_cases hx : x = 0
        · rw [if_pos hx, zgd_n (zgj hr (by omega)), zlt_r, zlt_r, nI_1]
          exact nxt 1 r (by rw [hstep, stS_2 w]; simp [hx]) hp.2
        · rw [if_neg hx, zgd_n (zgj hr (by omega)), zlt_r, zlt_r, nI_1]
          exact nxt 0 r (by rw [hstep, stS_2 w]; simp [hx]) hp.2
    · have h1 := t3 w
      obtain ⟨n1, n2, n3⟩ := zsgn_neg hsg
      match st, l1, hp, hlen, hst with
      | [], l1, _, _, _ => simp at l1; omega
      | [x], l1, _, _, _ => simp at l1; omega
      | y :: x :: r, l1, hp, hlen, hst =>
        have e3 : nI (y :: x :: r).length + (-1 : Int32) = nI (r.length + 1) := pk_m1 _
        have e4 : nI (r.length + 1) - (1 : Int32) = nI r.length := nI_pred _
        have hr : r.length + 1 < 60 := by simp at hlen; omega
        have g4 : ¬ nI (y :: x :: r).length < (2 : Int32) := fun z => by
          rw [List.length_cons, List.length_cons] at z
          have := (nI_ltI (a := r.length + 1 + 1) (b := 2) (by omega) (by omega)).mp z
          omega
        rw [e, if_pos n1, if_neg n2, if_neg g4, zlt_r, e3, e4, zgd_n (zgi rfl (show r.length < 60 by omega) (by omega)), zgd_n (zgi rfl hr (by omega)), zcn (by omega), zcn (by omega), ca_joined, zbi_s, zgd_n (zgj (show r.length < 60 by omega) (by omega)), zlt_r, zlt_r, nI_1, hp.2.1, n3]
        have hy : M (lam + 2) (r.length + 1) = y := hp.1
        rw [hy]
        exact nxt _ r (by rw [hstep, stS_3 w]) hp.2.2
theorem zPL_one {p : Nat → Int32} {st : List Int32} (h : zPL p st) (hl : st.length = 1) : p 0 = st.headD 0 := by
  match st, h, hl with
  | [x], h, _ => exact h.1
/-- Law.value -/
theorem ca_value {u lam q0 c : Nat} {M : zM} {C : Nat → Int32} {tk : Nat → Int32 × Int32} (hv : zVT u tk c) (h0 : 0 < c) (hC : ∀ k, k < c → zTK u (M (lam + 1) k) (tk k).1 (tk k).2) (nm : Int32 → Int32) (hnm : ∀ v c, znm u v c → nm v = M q0 (c - 10000).toNatClampNeg) (hq0 : q0 ≠ lam + 2) (hs : M lam 2 = nI c) :
    ∃ M', fX2_value lam q0 M = some (evT nm tk c, M') ∧ ∀ q, q ≠ lam + 2 → M' q = M q := by
  have hc60 := hv.1
  obtain ⟨M', a1, a2, a3⟩ := ca_vloop (kk := fun x42 M43 => if x42 = (1 : Int32) then (some (M43 (lam + 2) (0), M43)) else (some ((0 : Int32), M43))) hv hC nm (M q0) hnm hq0 c 0 M zF (by omega) (show c < 1000 by omega) hs rfl rfl trivial
  have hl : (evS nm tk c).length = 1 := by rw [(evS_len nm hv c (Nat.le_refl _)).1, hv.2.2 h0]
  refine ⟨M', ?_, a2⟩
  rw [hl] at a1
  rw [fX2_value]
  refine a1.trans ?_
  show (if nI 1 = (1 : Int32) then _ else _) = _
  rw [if_pos (show nI 1 = (1 : Int32) from rfl), zPL_one a3 hl, evT]
/-- worked(u) -/
theorem ra_worked {u b c : Nat} {M : zM} (hu : (u = 0 ∧ b = 115) ∨ (u = 1 ∧ b = 240)) (hc : M 88 b = nI c) (h0 : 0 < c) (hv : zVT u (zTS (M 88) b) c) (nm : Int32 → Int32) (hnm : ∀ v c, znm u v c → nm v = M 93 v.toNatClampNeg) :
    ∃ M', fX8_worked (nI u) M = some (evT nm (zTS (M 88) b) c, M') ∧ ∀ q, q ≠ 94 → M' q = M q := by
  have hc60 := hv.1
  have hb : b = 115 ∨ b = 240 := by omega
  obtain ⟨M', a1, a2, a3⟩ := ra_wloop (u := u) (kk := fun M48 => some (M48 94 (0), M48)) hb hc hv nm (M 93) hnm c 0 M zF (by omega) (show c < 1000 by omega) rfl rfl trivial
  have hl : (evS nm (zTS (M 88) b) c).length = 1 := by rw [(evS_len nm hv c (Nat.le_refl _)).1, hv.2.2 h0]
  refine ⟨M', ?_, a2⟩
  rw [fX8_worked, zlt_r, zix_t, show 115 + 125 * u = b by omega]
  refine a1.trans ?_
  show some (M' 94 0, M') = _
  rw [zPL_one a3 hl, evT]
