/-! ===== texts: steps worked out on a stack ===== -/
def jnS (p0 p1 p2 : Int32) : Int32 := if p0 = (38 : Int32) then (if p1 = 0 then 0 else if p2 = 0 then 0 else 1) else if p0 = (42 : Int32) then p1 * p2 else if p0 = (43 : Int32) then p1 + p2 else if p0 = (45 : Int32) then p1 - p2 else if p0 = (47 : Int32) then (if p2 = 0 then 0 else p1 / p2) else if p0 = (60 : Int32) then (if p2 ≤ p1 then 0 else 1) else if p0 = (61 : Int32) then (if p1 = p2 then 1 else 0) else if p0 = (62 : Int32) then (if p1 ≤ p2 then 0 else 1) else if p0 = (124 : Int32) then (if p1 = 0 then (if p2 = 0 then 0 else 1) else 1) else (if p2 = 0 then 0 else zrem p1 p2)
def zsgn (v : Int32) : Prop := v = 38 ∨ v = 42 ∨ v = 43 ∨ v = 45 ∨ v = 47 ∨ v = 60 ∨ v = 61 ∨ v = 62 ∨ v = 124 ∨ v = 37
theorem ca_joined (p0 p1 p2 : Int32) (M : zM) : fX2_joined p0 p1 p2 M = some (jnS p0 p1 p2, M) := by
  by_cases c1 : p0 = 38
  · by_cases h1 : p1 = 0 <;> by_cases h2 : p2 = 0 <;> simp [fX2_joined, jnS, c1, h1, h2]
  by_cases c2 : p0 = 42
  · simp [fX2_joined, jnS, c2]
  by_cases c3 : p0 = 43
  · simp [fX2_joined, jnS, c3]
  by_cases c4 : p0 = 45
  · simp [fX2_joined, jnS, c4]
  by_cases c5 : p0 = 47
  · by_cases h2 : p2 = 0 <;> simp [fX2_joined, jnS, c5, h2, zgd]
  by_cases c6 : p0 = 60
  · by_cases h2 : p2 ≤ p1 <;> simp [fX2_joined, jnS, c6, h2]
  by_cases c7 : p0 = 61
  · by_cases h2 : p1 = p2 <;> simp [fX2_joined, jnS, c7, h2]
  by_cases c8 : p0 = 62
  · by_cases h2 : p1 ≤ p2 <;> simp [fX2_joined, jnS, c8, h2]
  by_cases c9 : p0 = 124
  · by_cases h1 : p1 = 0 <;> by_cases h2 : p2 = 0 <;> simp [fX2_joined, jnS, c9, h1, h2]
  by_cases h2 : p2 = 0 <;> simp [fX2_joined, jnS, c1, c2, c3, c4, c5, c6, c7, c8, c9, h2, zgd, zlt]
theorem zdiv_m1 (x : Int32) : x / (-1) = -x := by
  have e : (-1 : Int32).toInt = -1 := by decide
  rw [zeq', Int32.toInt_div, e, Int.tdiv_neg, Int.tdiv_one, Int32.toInt_neg]
theorem zrem_m1 (x : Int32) : zrem x (-1) = 0 := by
  rw [zrem, zdiv_m1]
  have e : -x * (-1) = x := by
    rw [Int32.mul_neg, Int32.mul_one, Int32.neg_neg]
  rw [e, Int32.sub_self]
theorem ra_joined {p0 : Int32} (h : zsgn p0) (p1 p2 : Int32) (M : zM) : fX8_joined p0 p1 p2 M = some (jnS p0 p1 p2, M) := by
  rcases h with rfl | rfl | rfl | rfl | rfl | rfl | rfl | rfl | rfl | rfl
  · by_cases h1 : p1 = 0 <;> by_cases h2 : p2 = 0 <;> simp [fX8_joined, jnS, h1, h2]
  · simp [fX8_joined, jnS]
  · simp [fX8_joined, jnS]
  · simp [fX8_joined, jnS]
  · by_cases h2 : p2 = 0
    · simp [fX8_joined, jnS, h2]
    · by_cases h3 : p2 = -1
      · simp [fX8_joined, jnS, h3, zdiv_m1]
      · simp [fX8_joined, jnS, h2, h3, zgd]
  · by_cases h2 : p2 ≤ p1 <;> simp [fX8_joined, jnS, h2]
  · by_cases h2 : p1 = p2 <;> simp [fX8_joined, jnS, h2]
  · by_cases h2 : p1 ≤ p2 <;> simp [fX8_joined, jnS, h2]
  · by_cases h1 : p1 = 0 <;> by_cases h2 : p2 = 0 <;> simp [fX8_joined, jnS, h1, h2]
  · by_cases h2 : p2 = 0
    · simp [fX8_joined, jnS, h2]
    · by_cases h3 : p2 = -1
      · simp [fX8_joined, jnS, h3, zrem_m1]
      · simp [fX8_joined, jnS, h2, h3, zgd, zlt]
/-- a step on a stack (its top first) -/
def stS (nm : Int32 → Int32) (w v : Int32) (st : List Int32) : List Int32 := if w = 0 then v :: st else if w = 1 then nm v :: st else if w = 2 then (match st with
  | x :: r => (if x = 0 then 1 else 0) :: r
  | [] => []) else (match st with
  | y :: x :: r => jnS v x y :: r
  | _ => [])
theorem stS_0 {nm : Int32 → Int32} {w v : Int32} {st : List Int32} (h : w = 0) : stS nm w v st = v :: st := if_pos h
theorem stS_1 {nm : Int32 → Int32} {w v : Int32} {st : List Int32} (h : w = 1) : stS nm w v st = nm v :: st := by
  unfold stS
  rw [if_neg (by rw [h]; decide), if_pos h]
theorem stS_2 {nm : Int32 → Int32} {w v x : Int32} {r : List Int32} (h : w = 2) : stS nm w v (x :: r) = (if x = 0 then 1 else 0) :: r := by
  unfold stS
  rw [if_neg (by rw [h]; decide), if_neg (by rw [h]; decide), if_pos h]
theorem stS_3 {nm : Int32 → Int32} {w v x y : Int32} {r : List Int32} (h : w = 3) : stS nm w v (y :: x :: r) = jnS v x y :: r := by
  unfold stS
  rw [if_neg (by rw [h]; decide), if_neg (by rw [h]; decide), if_neg (by rw [h]; decide)]
theorem zgj {j n : Nat} (h : j < n) (hn : n < 2147483648) : ¬ (nI j < 0 ∨ n ≤ j) := by
  rw [zlt', znT (by omega)]
  have : (0 : Int32).toInt = 0 := rfl
  omega
def evS (nm : Int32 → Int32) (tk : Nat → Int32 × Int32) : Nat → List Int32
  | 0 => []
  | k + 1 => stS nm (tk k).1 (tk k).2 (evS nm tk k)
def dpS (tk : Nat → Int32 × Int32) : Nat → Nat
  | 0 => 0
  | k + 1 => if (tk k).1 = 0 then dpS tk k + 1 else if (tk k).1 = 1 then dpS tk k + 1 else if (tk k).1 = 2 then dpS tk k else dpS tk k - 1
/-- a name of a use, and its place -/
def znm (u : Nat) (v c : Int32) : Prop := (u = 0 ∧ ((v = 102 ∧ c = 10000) ∨ (v = 112 ∧ c = 10001) ∨ (v = 104 ∧ c = 10002) ∨ (v = 109 ∧ c = 10003))) ∨ (u = 1 ∧ ((v = 116 ∧ c = 10000) ∨ (v = 99 ∧ c = 10001) ∨ (v = 109 ∧ c = 10002)))
/-- a step of the class and the reference's two numbers of it -/
def zTK (u : Nat) (c w v : Int32) : Prop := (w = 0 ∧ c = v ∧ 0 ≤ v.toInt ∧ v.toInt ≤ 9999) ∨ (w = 1 ∧ znm u v c) ∨ (w = 2 ∧ c = -33) ∨ (w = 3 ∧ c = -v ∧ zsgn v)
def zTV (u : Nat) (w v : Int32) : Prop := ∃ c, zTK u c w v
/-- a good row of steps -/
def zVT (u : Nat) (tk : Nat → Int32 × Int32) (n : Nat) : Prop := n ≤ 60 ∧ (∀ k, k < n → zTV u (tk k).1 (tk k).2 ∧ ((tk k).1 = 2 → 1 ≤ dpS tk k) ∧ ((tk k).1 = 3 → 2 ≤ dpS tk k)) ∧ (0 < n → dpS tk n = 1)
theorem zTV_w {u : Nat} {w v : Int32} (h : zTV u w v) : w = 0 ∨ w = 1 ∨ w = 2 ∨ w = 3 := by
  obtain ⟨c, h | h | h | h⟩ := h
  · exact Or.inl h.1
  · exact Or.inr (Or.inl h.1)
  · exact Or.inr (Or.inr (Or.inl h.1))
  · exact Or.inr (Or.inr (Or.inr h.1))
theorem evS_len {u : Nat} {tk : Nat → Int32 × Int32} {n : Nat} (nm : Int32 → Int32) (h : zVT u tk n) : ∀ k, k ≤ n → (evS nm tk k).length = dpS tk k ∧ dpS tk k ≤ k := by
  intro k
  induction k with
  | zero => intro _; exact ⟨rfl, Nat.le_refl _⟩
  | succ k ih =>
    intro hk
    obtain ⟨i1, i2⟩ := ih (by omega)
    obtain ⟨t1, t2, t3⟩ := h.2.1 k (by omega)
    rw [evS, dpS]
    rcases zTV_w t1 with e | e | e | e
    · rw [stS_0 e, if_pos e, List.length_cons, i1]
      exact ⟨rfl, by omega⟩
    · rw [stS_1 e, if_neg (by rw [e]; decide), if_pos e, List.length_cons, i1]
      exact ⟨rfl, by omega⟩
    · have h1 := t2 e
      rw [if_neg (by rw [e]; decide), if_neg (by rw [e]; decide), if_pos e]
      cases hs : evS nm tk k with
      | nil => rw [hs] at i1; simp at i1; omega
      | cons x r => rw [stS_2 e]; rw [hs] at i1; simp at i1; simp; omega
    · have h1 := t3 e
      rw [if_neg (by rw [e]; decide), if_neg (by rw [e]; decide), if_neg (by rw [e]; decide)]
      match hs : evS nm tk k with
      | [] => rw [hs] at i1; simp at i1; omega
      | [x] => rw [hs] at i1; simp at i1; omega
      | y :: x :: r => rw [stS_3 e]; rw [hs] at i1; simp at i1; simp; omega
/-- a stack in a row of cells -/
def zPL (p : Nat → Int32) : List Int32 → Prop
  | [] => True
  | x :: r => p r.length = x ∧ zPL p r
theorem zPL_up {p : Nat → Int32} {k : Nat} {v : Int32} : ∀ {l : List Int32}, l.length ≤ k → zPL p l → zPL (upd p k v) l
  | [], _, _ => trivial
  | x :: r, h, hp => by
    rw [List.length_cons] at h
    exact ⟨by rw [upd_n _ (by omega)]; exact hp.1, zPL_up (by omega) hp.2⟩
def evT (nm : Int32 → Int32) (tk : Nat → Int32 × Int32) (n : Nat) : Int32 := (evS nm tk n).headD 0
abbrev zTS (s : Nat → Int32) (b : Nat) : Nat → Int32 × Int32 := fun j => (s (b + 1 + 2 * j), s (b + 2 + 2 * j))
/-- the reference's loop over the steps -/
theorem ra_wloop {u b c : Nat} {kk : zM → Option (Int32 × zM)} {s : Nat → Int32} (hb : b = 115 ∨ b = 240) (hc : s b = nI c) (hv : zVT u (zTS s b) c) (nm : Int32 → Int32) (N : Nat → Int32) (hnm : ∀ v c, znm u v c → nm v = N v.toNatClampNeg) :
    ∀ (d k : Nat) (M : zM) (F : Nat), k + d = c → d < F → M 88 = s → M 93 = N → zPL (M 94) (evS nm (zTS s b) k) →
      ∃ M', fX8_worked_13 (nI b) kk F (nI (evS nm (zTS s b) k).length) (nI k) M = kk M' ∧ (∀ q, q ≠ 94 → M' q = M q) ∧ zPL (M' 94) (evS nm (zTS s b) c) := by
  have hc60 := hv.1
  intro d
  induction d with
  | zero =>
    intro k M F hk hF hs hN hp
    obtain ⟨F, rfl⟩ : ∃ G, F = G + 1 := ⟨F - 1, by omega⟩
    have e : k = c := by omega
    subst e
    refine ⟨M, ?_, fun _ _ => rfl, hp⟩
    rw [fX8_worked_13, zgd_n (zgi rfl (by omega) (by omega)), zcn (by omega), hs, hc, if_pos (nI_le (Nat.le_refl _) (by omega))]
  | succ d ih =>
    intro k M F hk hF hs hN hp
    obtain ⟨F, rfl⟩ : ∃ G, F = G + 1 := ⟨F - 1, by omega⟩
    have hkc : k < c := by omega
    obtain ⟨t1, t2, t3⟩ := hv.2.1 k hkc
    obtain ⟨l1, l2⟩ := evS_len nm hv k (by omega)
    have e1 : (nI b + (1 : Int32)) + ((2 : Int32) * nI k) = nI (b + 1 + 2 * k) := by
      rw [nI_1, show (2 : Int32) = nI 2 from rfl, pk_mul, nI_add]
    have e2 : (nI b + (2 : Int32)) + ((2 : Int32) * nI k) = nI (b + 2 + 2 * k) := by
      rw [show (2 : Int32) = nI 2 from rfl, pk_mul, nI_add, nI_add]
    have hstep : evS nm (zTS s b) (k + 1) = stS nm (s (b + 1 + 2 * k)) (s (b + 2 + 2 * k)) (evS nm (zTS s b) k) := rfl
    rw [fX8_worked_13, zgd_n (zgi rfl (by omega) (by omega)), zcn (by omega), hs, hc, if_neg (fun z => by have := (nI_leI (a := c) (b := k) (by omega) (by omega)).mp z; omega), e1, zgd_n (zgi rfl (by omega) (by omega)), zcn (by omega), zlt_r, e2, zgd_n (zgi rfl (by omega) (by omega)), zcn (by omega), zlt_r]
    have hlen : (evS nm (zTS s b) k).length ≤ k := by omega
    generalize hst : evS nm (zTS s b) k = st at *
    have nxt : ∀ (v : Int32) (st' : List Int32), evS nm (zTS s b) (k + 1) = v :: st' → zPL (M 94) st' → ∃ M', fX8_worked_13 (nI b) kk F (nI (st'.length + 1)) (nI (k + 1)) (zst M 94 st'.length v) = kk M' ∧ (∀ q, q ≠ 94 → M' q = M q) ∧ zPL (M' 94) (evS nm (zTS s b) c) := by
      intro v st' he hp'
      have h1 : zPL ((zst M 94 st'.length v) 94) (evS nm (zTS s b) (k + 1)) := by
        rw [he, zst_s]
        exact ⟨upd_s _ _ _, zPL_up (Nat.le_refl _) hp'⟩
      obtain ⟨M', a1, a2, a3⟩ := ih (k + 1) (zst M 94 st'.length v) F (by omega) (by omega) (by rw [zst_n _ (by omega)]; exact hs) (by rw [zst_n _ (by omega)]; exact hN) h1
      rw [he, List.length_cons] at a1
      exact ⟨M', a1, fun q hq => (a2 q hq).trans (zst_n _ hq), a3⟩
    obtain ⟨cc, htk⟩ := t1
    rcases htk with ⟨w, -, -, -⟩ | ⟨w, hn⟩ | ⟨w, -⟩ | ⟨w, -, hsg⟩
    · rw [show s (b + 1 + 2 * k) = 0 from w, if_pos rfl, if_pos rfl, zgd_n (zgi rfl (by omega) (by omega)), zlt_r, zcn (by omega), zlt_r, nI_1, zlt_r, nI_1]
      exact nxt _ st (by rw [hstep, stS_0 w]) hp
    · have w' : s (b + 1 + 2 * k) = 1 := w
      have hv128 : s (b + 2 + 2 * k) = 102 ∨ s (b + 2 + 2 * k) = 112 ∨ s (b + 2 + 2 * k) = 104 ∨ s (b + 2 + 2 * k) = 109 ∨ s (b + 2 + 2 * k) = 116 ∨ s (b + 2 + 2 * k) = 99 := by
        rcases hn with ⟨-, h | h | h | h⟩ | ⟨-, h | h | h⟩ <;> have h1 := h.1 <;> simp only [] at h1 <;> simp [h1]
      have hg : ¬ (s (b + 2 + 2 * k) < 0 ∨ 128 ≤ (s (b + 2 + 2 * k)).toNatClampNeg) := by
        rcases hv128 with h | h | h | h | h | h <;> rw [h] <;> decide
      rw [w', if_neg (by decide), if_pos rfl, if_neg (by decide), zgd_n hg, zgd_n (zgi rfl (by omega) (by omega)), zlt_r, zcn (by omega), zlt_r, nI_1, zlt_r, nI_1]
      refine nxt _ st ?_ hp
      rw [hstep, stS_1 w', hN, hnm _ _ hn]
    · have w' : s (b + 1 + 2 * k) = 2 := w
      have h1 := t2 w
      match st, l1, hp, hlen, hst with
      | [], l1, _, _, _ => simp at l1; omega
      | x :: r, l1, hp, hlen, hst =>
        have e3 : nI (x :: r).length - (1 : Int32) = nI r.length := nI_pred _
        have hr : r.length < 64 := by simp at hlen; omega
        rw [w', if_neg (by decide), if_neg (by decide), if_pos rfl, e3, zgd_n (zgi rfl hr (by omega)), zcn (by omega), hp.1]
        by_cases hx : x = 0
        · rw [if_pos hx, zgd_n (zgj hr (by omega)), zlt_r, zlt_r, nI_1]
          exact nxt 1 r (by rw [hstep, stS_2 w']; simp [hx]) hp.2
        · rw [if_neg hx, zgd_n (zgj hr (by omega)), zlt_r, zlt_r, nI_1]
          exact nxt 0 r (by rw [hstep, stS_2 w']; simp [hx]) hp.2
    · have w' : s (b + 1 + 2 * k) = 3 := w
      have h1 := t3 w
      match st, l1, hp, hlen, hst with
      | [], l1, _, _, _ => simp at l1; omega
      | [x], l1, _, _, _ => simp at l1; omega
      | y :: x :: r, l1, hp, hlen, hst =>
        have e3 : nI (y :: x :: r).length + (-1 : Int32) = nI (r.length + 1) := pk_m1 _
        have e4 : nI (r.length + 1) - (1 : Int32) = nI r.length := nI_pred _
        have hr : r.length + 1 < 64 := by simp at hlen; omega
        have hsg' : zsgn (s (b + 2 + 2 * k)) := hsg
        rw [w', if_neg (by decide), if_neg (by decide), if_neg (by decide), zlt_r, e3, e4, zgd_n (zgi rfl (show r.length < 64 by omega) (by omega)), zgd_n (zgi rfl hr (by omega)), zcn (by omega), zcn (by omega), ra_joined hsg', zbi_s, zgd_n (zgj (show r.length < 64 by omega) (by omega)), zlt_r, zlt_r, nI_1, hp.2.1]
        have hy : M 94 (r.length + 1) = y := hp.1
        rw [hy]
        exact nxt _ r (by rw [hstep, stS_3 w']) hp.2.2
