/-! ===== move ===== -/
theorem ra_mvout {a i m : Nat} (ha : 24 * a + i + m ≤ 96) (hm : m ≤ 24) (y3 y4 : Int32) (kk : zM → Option (Int32 × zM)) : ∀ (d v : Nat) (M : zM) (F : Nat), v + d = m → d < F → (∀ j, j < v → M 102 j = M 101 (24 * a + i + j)) →
    ∃ M', fX8_move_115 (nI a) (nI i) y3 y4 (nI m) kk F (nI v) M = kk M' ∧ (∀ j, j < m → M' 102 j = M 101 (24 * a + i + j)) ∧ ∀ c, c ≠ 102 → M' c = M c := by
  intro d
  induction d with
  | zero =>
    intro v M F hv hF h0
    obtain ⟨F, rfl⟩ : ∃ G, F = G + 1 := ⟨F - 1, by omega⟩
    have e : v = m := by omega
    subst e
    rw [fX8_move_115, if_pos (nI_leY (by omega) (by omega) (by omega))]
    exact ⟨M, rfl, h0, fun _ _ => rfl⟩
  | succ d ih =>
    intro v M F hv hF h0
    obtain ⟨F, rfl⟩ : ∃ G, F = G + 1 := ⟨F - 1, by omega⟩
    rw [fX8_move_115, if_neg (nI_leN (by omega) (by omega) (by omega)), nI_24m, nI_add, zgd_n (zgi rfl (show 24 * a + i + v < 96 by omega) (by omega)), zgd_n (zgi rfl (show v < 24 by omega) (by omega)), zcn (by omega), zcn (by omega), zlt_r, zlt_r, nI_1]
    obtain ⟨M', a1, a2, a3⟩ := ih (v + 1) (zst M 102 v (M 101 (24 * a + i + v))) F (by omega) (by omega) (fun j hj => by
      rw [zst_n M (show 101 ≠ 102 by omega), zst_k]
      by_cases e : j = v
      · rw [if_pos ⟨rfl, e⟩, e]
      · rw [if_neg (fun z => e z.2)]
        exact h0 j (by omega))
    refine ⟨M', a1, fun j hj => ?_, fun c hc => by rw [a3 c hc, zst_n _ hc]⟩
    rw [a2 j hj, zst_n M (show 101 ≠ 102 by omega)]
theorem ra_mvin {a i m : Nat} (ha : 24 * a + i + m ≤ 96) (hm : m ≤ 24) (kk : zM → Option (Int32 × zM)) (T : zR) (M0 : zM) : ∀ (d v : Nat) (M : zM) (F : Nat), v + d = m → d < F → (∀ j, j < m → M 102 j = T j) → (∀ x, M 101 x = if 24 * a + i ≤ x ∧ x < 24 * a + i + v then T (x - (24 * a + i)) else M0 101 x) →
    ∃ M', fX8_move_152 (nI a) (nI i) (nI m) kk F (nI v) M = kk M' ∧ (∀ x, M' 101 x = if 24 * a + i ≤ x ∧ x < 24 * a + i + m then T (x - (24 * a + i)) else M0 101 x) ∧ ∀ c, c ≠ 101 → M' c = M c := by
  intro d
  induction d with
  | zero =>
    intro v M F hv hF hT h0
    obtain ⟨F, rfl⟩ : ∃ G, F = G + 1 := ⟨F - 1, by omega⟩
    have e : v = m := by omega
    subst e
    rw [fX8_move_152, if_pos (nI_leY (by omega) (by omega) (by omega))]
    exact ⟨M, rfl, h0, fun _ _ => rfl⟩
  | succ d ih =>
    intro v M F hv hF hT h0
    obtain ⟨F, rfl⟩ : ∃ G, F = G + 1 := ⟨F - 1, by omega⟩
    rw [fX8_move_152, if_neg (nI_leN (by omega) (by omega) (by omega)), nI_24m, nI_add, zgd_n (zgi rfl (show v < 24 by omega) (by omega)), zgd_n (zgi rfl (show 24 * a + i + v < 96 by omega) (by omega)), zcn (by omega), zcn (by omega), zlt_r, zlt_r, nI_1]
    obtain ⟨M', a1, a2, a3⟩ := ih (v + 1) (zst M 101 (24 * a + i + v) (M 102 v)) F (by omega) (by omega) (fun j hj => by rw [zst_n M (show 102 ≠ 101 by omega)]; exact hT j hj) (fun x => by
      rw [zst_k]
      by_cases e : x = 24 * a + i + v
      · rw [if_pos ⟨rfl, e⟩, if_pos (by omega), hT v (by omega), e, show 24 * a + i + v - (24 * a + i) = v by omega]
      · rw [if_neg (fun z => e z.2), h0 x]
        by_cases g : 24 * a + i ≤ x ∧ x < 24 * a + i + v
        · rw [if_pos g, if_pos (by omega)]
        · rw [if_neg g, if_neg (by omega)])
    exact ⟨M', a1, a2, fun c hc => by rw [a3 c hc, zst_n _ hc]⟩
/-- whether n numbers stand from number i on -/
def stS' (z : Nat) (i n : Int32) : Prop := 0 ≤ i.toInt ∧ 0 ≤ n.toInt ∧ i.toInt + n.toInt ≤ z
theorem ca_stand {k z : Nat} {C : zM} (hk : k < 4) (hz : z ≤ 24) (e : C 81 k = nI z) (i n : Int32) : (stS' z i n → fX4_stand (nI k) i n C = some (1, C)) ∧ (¬ stS' z i n → fX4_stand (nI k) i n C = some (0, C)) := by
  have e0 : (0 : Int32).toInt = 0 := rfl
  have hn := Int32.toInt_lt n
  have hi := Int32.toInt_lt i
  have ez : (nI z).toInt = z := znT (by omega)
  rw [fX4_stand]
  by_cases a : i < 0
  · rw [if_pos a]
    refine ⟨fun h => ?_, fun _ => rfl⟩
    rw [zlt'] at a
    have := h.1
    omega
  rw [if_neg a]
  by_cases b : n < 0
  · rw [if_pos b]
    refine ⟨fun h => ?_, fun _ => rfl⟩
    rw [zlt'] at b
    have := h.2.1
    omega
  rw [if_neg b, zgd_n (zgi rfl hk (by omega)), zcn (by omega), e]
  by_cases c : nI z < n
  · rw [if_pos c]
    refine ⟨fun h => ?_, fun _ => rfl⟩
    rw [zlt', ez] at c
    have := h.1
    have := h.2.2
    omega
  rw [if_neg c]
  rw [zlt'] at a b
  rw [zlt', ez] at c
  have es : (nI z - n).toInt = z - n.toInt := by rw [zsbT (by omega) (by omega), ez]
  by_cases d : nI z - n < i
  · rw [if_pos d]
    refine ⟨fun h => ?_, fun _ => ?_⟩
    · rw [zlt', es] at d
      have := h.2.2
      omega
    · first | rfl | rw [zgd_n (zgj hk (by omega))]
  · rw [if_neg d]
    refine ⟨fun _ => ?_, fun h => ?_⟩
    · first | rfl | rw [zgd_n (zgj hk (by omega))]
    · rw [zlt', es] at d
      exact absurd ⟨by omega, by omega, by omega⟩ h
theorem eq_move (p0 p1 p2 p3 p4 : Int32) {C R : zM} (h : Rel2 C R) : EQA C R (fX7_move p0 p1 p2 p3 p4 C) (fX8_move p0 p1 p2 p3 p4 R) := by
  unfold fX7_move fX8_move
  rw [ca_noSheet, ca_noSheet, ra_isSheet, ra_isSheet]
  refine EQA.out0 h (m := 3) rfl (by omega) fun a ha e => ?_
  refine EQA.out0 h (m := 3) rfl (by omega) fun b hb e2 => ?_
  subst e e2
  obtain ⟨s1, s2, x, s3, s4, s5, s6⟩ := h.2.2.2.2.2.2 a (by omega)
  obtain ⟨t1, t2, y, t3, t4, t5, t6⟩ := h.2.2.2.2.2.2 b (by omega)
  have er1 := EQA.err h (k := 1) (x := 1) rfl (by omega)
  have ga : ∀ k : Option (Int32 × zM), zgd (nI a < 0 ∨ 4 ≤ (nI a).toNatClampNeg) k = k := fun k => zgd_n (zgi rfl (show a < 4 by omega) (by omega))
  have gb : ∀ k : Option (Int32 × zM), zgd (nI b < 0 ∨ 4 ≤ (nI b).toNatClampNeg) k = k := fun k => zgd_n (zgi rfl (show b < 4 by omega) (by omega))
  have ca : (nI a).toNatClampNeg = a := zcn (by omega)
  have cb : (nI b).toNatClampNeg = b := zcn (by omega)
  simp only [ga, gb]
  simp only [ca, cb]
  rw [ca_isMissing (by omega), zbi_s, s2]
  by_cases c1 : R 99 a = 0
  · rw [if_pos c1, if_neg z10, if_pos c1]
    exact EQA.err h (k := 2) rfl (by omega)
  rw [if_neg c1, if_pos z00, if_neg c1, ca_isMissing (by omega), zbi_s, t2]
  by_cases c2 : R 99 b = 0
  · rw [if_pos c2, if_neg z10, if_pos c2]
    exact EQA.err h (k := 2) rfl (by omega)
  rw [if_neg c2, if_pos z00, if_neg c2, s2]
  by_cases c3 : R 99 a = R 99 b
  · rw [if_pos c3, if_pos c3, s4, t4]
    obtain ⟨u1, u0⟩ := ca_stand (show a < 4 by omega) s3 s5 p1 p4
    obtain ⟨w1, w0⟩ := ca_stand (show b < 4 by omega) t3 t5 p3 p4
    have e0 : (0 : Int32).toInt = 0 := rfl
    have l4 := Int32.toInt_lt p4
    have l1 := Int32.toInt_lt p1
    have l3 := Int32.toInt_lt p3
    have ex : (nI x).toInt = x := znT (by omega)
    have ey : (nI y).toInt = y := znT (by omega)
    by_cases d1 : p4 < 0
    · have n1 : ¬ stS' x p1 p4 := fun z => by
        rw [zlt'] at d1
        have := z.2.1
        omega
      rw [u0 n1, zbi_s, if_pos z00, if_pos d1]
      exact er1
    rw [if_neg d1]
    by_cases d2 : p1 < 0
    · have n1 : ¬ stS' x p1 p4 := fun z => by
        rw [zlt'] at d2
        have := z.1
        omega
      rw [u0 n1, zbi_s, if_pos z00, if_pos d2]
      exact er1
    rw [if_neg d2]
    rw [zlt'] at d1 d2
    have es : (nI x - p4).toInt = x - p4.toInt := by rw [zsbT (by omega) (by omega), ex]
    have ft : (nI y - p4).toInt = y - p4.toInt := by rw [zsbT (by omega) (by omega), ey]
    rcases (Classical.em (stS' x p1 p4)).symm with g1 | g1
    · have k1 : nI x - p4 < p1 := by
        rw [zlt', es]
        exact Classical.byContradiction fun z => g1 ⟨by omega, by omega, by omega⟩
      rw [u0 g1, zbi_s, if_pos z00]
      by_cases d3 : p3 < 0
      · rw [if_pos d3]
        exact er1
      · rw [if_neg d3, if_pos k1]
        exact er1
    have k1 : ¬ nI x - p4 < p1 := fun z => by
      rw [zlt', es] at z
      have := g1.2.2
      omega
    rw [u1 g1, zbi_s, if_neg z10]
    rcases (Classical.em (stS' y p3 p4)).symm with g2 | g2
    · rw [w0 g2, zbi_s, if_pos z00]
      by_cases d3 : p3 < 0
      · rw [if_pos d3]
        exact er1
      · have k2 : ¬ p3 ≤ nI y - p4 := fun z => by
          rw [zle', ft] at z
          rw [zlt'] at d3
          exact g2 ⟨by omega, by omega, by omega⟩
        rw [if_neg d3, if_neg k1, if_neg k2]
        exact er1
    have d3 : ¬ p3 < 0 := fun z => by
      rw [zlt'] at z
      have := g2.1
      omega
    have k2 : p3 ≤ nI y - p4 := by
      rw [zle', ft]
      have := g2.2.2
      omega
    obtain ⟨i, hi, ei, -⟩ := zof (n := 24) g1.1 (show p1.toInt ≤ ((24 : Nat) : Int) by have := g1.2.2; omega)
    obtain ⟨j, hj, ej, -⟩ := zof (n := 24) g2.1 (show p3.toInt ≤ ((24 : Nat) : Int) by have := g2.2.2; omega)
    obtain ⟨m, hm, em, -⟩ := zof (n := 24) g1.2.1 (show p4.toInt ≤ ((24 : Nat) : Int) by have := g1.2.2; omega)
    subst ei ej em
    have b1 : i + m ≤ x := by
      have := g1.2.2
      rw [znT (by omega), znT (by omega)] at this
      omega
    have b2 : j + m ≤ y := by
      have := g2.2.2
      rw [znT (by omega), znT (by omega)] at this
      omega
    have gz : ∀ n : Nat, n < 2147483648 → ¬ nI n < 0 := fun n hn z => by
      rw [zlt', znT hn] at z
      omega
    rw [w1 g2, zbi_s, if_neg z10, zlt_r, zlt_r, zgd_n (fun z => by
      rw [zcn (by omega), zcn (by omega), zcn (by omega)] at z
      rcases z with z | z | z | z | z
      · exact gz _ (by omega) z
      · exact gz _ (by omega) z
      · exact gz _ (by omega) z
      · omega
      · omega), zlt_r, if_neg d3, if_neg k1, if_pos k2]
    obtain ⟨R1, f1, f2, f3⟩ := ra_mvout (a := a) (i := i) (m := m) (by omega) (by omega) (nI b) (nI j) (fun  M46 => fX8_move_152 (nI b) (nI j) (nI m) (fun  M52 => some (nI m, M52)) zF (0 : Int32) M46) m 0 R zF (by omega) (show m < 1000 by omega) (fun j hj => by omega)
    obtain ⟨R2, h1, h2, h3⟩ := ra_mvin (a := b) (i := j) (m := m) (by omega) (by omega) (fun  M52 => some (nI m, M52)) (fun v => R 101 (24 * a + i + v)) R1 m 0 R1 zF (by omega) (show m < 1000 by omega) f2 (fun x => by rw [if_neg (by omega)])
    refine Eq.mpr (congrArg (EQA C R _) (f1.trans h1)) ?_
    have ez : ∀ c, c ≠ 82 + b → zcp C (82 + a) (82 + b) (nI i) (nI j) (nI m) c = C c := fun c hc => zup_n C hc
    have eb : ∀ v, zcp C (82 + a) (82 + b) (nI i) (nI j) (nI m) (82 + b) v = if j ≤ v ∧ v < j + m then C (82 + a) (i + (v - j)) else C (82 + b) v := fun v => by
      show zup C (82 + b) (va_cpy (C (82 + a)) (C (82 + b)) (nI i).toNatClampNeg (nI j).toNatClampNeg (nI m).toNatClampNeg) (82 + b) v = _
      rw [zup_s, zcn (by omega), zcn (by omega), zcn (by omega)]
      rfl
    generalize zcp C (82 + a) (82 + b) (nI i) (nI j) (nI m) = C' at ez eb
    refine EQA.done rfl (h.sheet (fun k hk => ?_) (fun c hc => ez c (by omega)) (fun c _ _ q3 q4 => by rw [h3 c q3, f3 c q4])) (fun c hc => ez c (by omega)) (fun c hc => by rw [h3 c (by omega), f3 c (by omega)])
    obtain ⟨q1, q2, z, q3, q4, q5, q6⟩ := h.2.2.2.2.2.2 k hk
    rw [h3 99 (by decide), f3 99 (by decide), h3 100 (by decide), f3 100 (by decide), ez 80 (by omega), ez 81 (by omega)]
    refine ⟨q1, q2, z, q3, q4, q5, fun v hv => ?_⟩
    rw [h2, f3 101 (by decide)]
    by_cases e : k = b
    · subst e
      rw [eb]
      by_cases g : j ≤ v ∧ v < j + m
      · rw [if_pos g, if_pos (by omega), s6 _ (by omega)]
        show R 101 _ = R 101 _
        congr 1
        omega
      · rw [if_neg g, if_neg (by omega)]
        exact q6 v hv
    · rw [ez _ (by omega), if_neg (by omega)]
      exact q6 v hv
  · rw [if_neg c3, if_neg c3]
    exact EQA.err h (k := 5) rfl (by omega)
