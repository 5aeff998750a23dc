/-! ===== what all took is what was taken ===== -/
theorem sum_out {f g : Nat → Int32} : ∀ n, (∀ i, i < n → f i = g i) → bx_sum f n = bx_sum g n := by
  intro n
  induction n with
  | zero => intro _; rfl
  | succ n ih =>
    intro h
    show bx_sum f n + f n = bx_sum g n + g n
    rw [ih (fun i hi => h i (by omega)), h n (by omega)]
theorem sum_upd {f : Nat → Int32} {j : Nat} {v : Int32} (h0 : f j = 0) : ∀ n, j < n → bx_sum (upd f j v) n = bx_sum f n + v := by
  intro n
  induction n with
  | zero => intro h; omega
  | succ n ih =>
    intro h
    show bx_sum (upd f j v) n + upd f j v n = bx_sum f n + f n + v
    by_cases e : j = n
    · subst e
      rw [sum_out (f := upd f j v) (g := f) j (fun i hi => upd_n _ (by omega)), upd_s, h0, Int32.add_zero]
    · rw [ih (by omega), upd_n _ (fun z => e z.symm), Int32.add_assoc, Int32.add_assoc, Int32.add_comm v]
theorem nI_inj12 {a b : Nat} (ha : a < 100) (hb : b < 100) (h : nI a = nI b) : a = b := (nI_eq (by omega) (by omega)).mp h
theorem fpS_sum {s : zR} {n p : Nat} (hp : p < 12) (x : Int32 × zR × Int32) (h1 : bx_sum x.2.1 n = x.2.2) (h2 : ∀ i, i < n → x.2.1 i ≠ 0 → ∃ j, j < p ∧ itS s i 2 = nI j) :
    ∀ k, k ≤ n → bx_sum (fpS s (nI p) k x).2.1 n = (fpS s (nI p) k x).2.2 ∧ ∀ i, i < n → (fpS s (nI p) k x).2.1 i ≠ 0 → (∃ j, j < p ∧ itS s i 2 = nI j) ∨ (itS s i 2 = nI p ∧ i < k) := by
  intro k
  induction k with
  | zero => intro _; exact ⟨h1, fun i hi hz => Or.inl (h2 i hi hz)⟩
  | succ k ih =>
    intro hk
    obtain ⟨a1, a2⟩ := ih (by omega)
    rw [fpS, fwS]
    by_cases c : itS s k 2 = nI p
    · rw [if_pos c]
      have hz : (fpS s (nI p) k x).2.1 k = 0 := by
        by_cases e : (fpS s (nI p) k x).2.1 k = 0
        · exact e
        · rcases a2 k (by omega) e with ⟨j, hj, e2⟩ | ⟨-, e2⟩
          · rw [c] at e2
            have := nI_inj12 (a := p) (b := j) (by omega) (by omega) e2
            omega
          · omega
      refine ⟨?_, fun i hi hne => ?_⟩
      · show bx_sum (upd _ _ _) n = _ + _
        rw [sum_upd hz n (by omega), a1]
      · by_cases e : i = k
        · subst e
          exact Or.inr ⟨c, by omega⟩
        · have hne2 : (fpS s (nI p) k x).2.1 i ≠ 0 := by
            intro z
            refine hne ?_
            show upd _ _ _ i = 0
            rw [upd_n _ e, z]
          exact (a2 i hi hne2).imp id (fun z => ⟨z.1, by omega⟩)
    · rw [if_neg c]
      exact ⟨a1, fun i hi hne => (a2 i hi hne).imp id (fun z => ⟨z.1, by omega⟩)⟩
theorem flS_sum {s : zR} {n : Nat} : ∀ p, p ≤ 12 → bx_sum (flS s n (fun _ => 0) (fun _ => 0) p).1.2.1 n = (flS s n (fun _ => 0) (fun _ => 0) p).1.2.2 ∧ ∀ i, i < n → (flS s n (fun _ => 0) (fun _ => 0) p).1.2.1 i ≠ 0 → ∃ j, j < p ∧ itS s i 2 = nI j := by
  intro p
  induction p with
  | zero =>
    intro _
    refine ⟨?_, fun i _ h => absurd rfl h⟩
    show bx_sum (fun _ => 0) n = 0
    have : ∀ m, bx_sum (fun _ => 0) m = 0 := by
      intro m
      induction m with
      | zero => rfl
      | succ m ih => show bx_sum (fun _ => 0) m + 0 = 0; rw [ih]; rfl
    exact this n
  | succ p ih =>
    intro hp
    obtain ⟨a1, a2⟩ := ih (by omega)
    rw [flS]
    obtain ⟨b1, b2⟩ := fpS_sum (s := s) (n := n) (show p < 12 by omega) ((flS s n (fun _ => 0) (fun _ => 0) p).1.1 - wdS s p (flS s n (fun _ => 0) (fun _ => 0) p).1.1, (flS s n (fun _ => 0) (fun _ => 0) p).1.2.1, (flS s n (fun _ => 0) (fun _ => 0) p).1.2.2) a1 a2 n (Nat.le_refl _)
    refine ⟨b1, fun i hi hne => ?_⟩
    rcases b2 i hi hne with ⟨j, hj, e⟩ | ⟨e, -⟩
    · exact ⟨j, by omega, e⟩
    · exact ⟨p, by omega, e⟩
theorem flA_sum {s : zR} {n : Nat} : bx_sum (flA s n).1.2.1 n = (flA s n).1.2.2 := (flS_sum 12 (Nat.le_refl _)).1
/-- what a wheel took is within 0 .. 99 -/
theorem fpS_tr {s : zR} {p : Int32} {x : Int32 × zR × Int32} {m : Int} (h0 : 0 ≤ x.1.toInt) (h1 : x.1.toInt ≤ m) (ht : ∀ i, 0 ≤ (x.2.1 i).toInt ∧ (x.2.1 i).toInt ≤ m) : ∀ k i, 0 ≤ ((fpS s p k x).2.1 i).toInt ∧ ((fpS s p k x).2.1 i).toInt ≤ m := by
  intro k
  induction k with
  | zero => exact ht
  | succ k ih =>
    intro i
    obtain ⟨i0, i1⟩ := fpS_r (s := s) (p := p) h0 h1 k
    rw [fpS, fwS]
    by_cases c : itS s k 2 = p
    · rw [if_pos c]
      obtain ⟨w0, w1⟩ := waS_r (s := s) (w := k) i0
      show 0 ≤ (upd _ _ _ i).toInt ∧ (upd _ _ _ i).toInt ≤ m
      rw [upd_a]
      by_cases e : i = k
      · rw [if_pos e]
        exact ⟨w0, by omega⟩
      · rw [if_neg e]
        exact ih i
    · rw [if_neg c]
      exact ih i
theorem flA_tr {s : zR} {n h : Nat} (hV : VR s n h) : ∀ i, 0 ≤ ((flA s n).1.2.1 i).toInt ∧ ((flA s n).1.2.1 i).toInt ≤ 99 := by
  have key : ∀ p, p ≤ 12 → ∀ i, 0 ≤ ((flS s n (fun _ => 0) (fun _ => 0) p).1.2.1 i).toInt ∧ ((flS s n (fun _ => 0) (fun _ => 0) p).1.2.1 i).toInt ≤ 99 := by
    intro p
    induction p with
    | zero => intro _ i; show 0 ≤ (0 : Int32).toInt ∧ (0 : Int32).toInt ≤ 99; decide
    | succ p ih =>
      intro hp
      obtain ⟨r0, r1⟩ := flS_r hV (fun _ => 0) (fun _ => 0) p (by omega)
      obtain ⟨w0, w1⟩ := wdS_r hV (show p < 12 by omega) r0
      have e : ((flS s n (fun _ => 0) (fun _ => 0) p).1.1 - wdS s p (flS s n (fun _ => 0) (fun _ => 0) p).1.1).toInt = (flS s n (fun _ => 0) (fun _ => 0) p).1.1.toInt - (wdS s p (flS s n (fun _ => 0) (fun _ => 0) p).1.1).toInt := zsbT (by omega) (by omega)
      rw [flS]
      exact fpS_tr (x := ((flS s n (fun _ => 0) (fun _ => 0) p).1.1 - wdS s p (flS s n (fun _ => 0) (fun _ => 0) p).1.1, (flS s n (fun _ => 0) (fun _ => 0) p).1.2.1, (flS s n (fun _ => 0) (fun _ => 0) p).1.2.2)) (by show 0 ≤ ((flS s n (fun _ => 0) (fun _ => 0) p).1.1 - wdS s p (flS s n (fun _ => 0) (fun _ => 0) p).1.1).toInt; omega) (by show ((flS s n (fun _ => 0) (fun _ => 0) p).1.1 - wdS s p (flS s n (fun _ => 0) (fun _ => 0) p).1.1).toInt ≤ 99; omega) (ih (by omega)) n
  exact key 12 (Nat.le_refl _)
/-! ===== the row when one number becomes another ===== -/
theorem VTX_up {s : zR} {b u i : Nat} {v : Int32} (h : VTX s b u) (hi : i < b ∨ b + 125 ≤ i) : VTX (upd s i v) b u := by
  obtain ⟨c, hc, hv⟩ := h
  have h60 := hv.1
  refine ⟨c, by rw [upd_n _ (by omega)]; exact hc, ?_⟩
  have e : ∀ k, k < c → zTS (upd s i v) b k = zTS s b k := by
    intro k hk
    show (upd s i v _, upd s i v _) = (s _, s _)
    rw [upd_n _ (by omega), upd_n _ (by omega)]
  have ed : ∀ k, k ≤ c → dpS (zTS (upd s i v) b) k = dpS (zTS s b) k := by
    intro k
    induction k with
    | zero => intro _; rfl
    | succ k ih =>
      intro hk
      rw [dpS, dpS, e k (by omega), ih (by omega)]
  refine ⟨h60, fun k hk => ?_, fun h0 => by rw [ed c (Nat.le_refl _)]; exact hv.2.2 h0⟩
  rw [e k hk, ed k (by omega)]
  exact hv.2.1 k hk
/-- a number of a wheel or of a family -/
theorem VR_upw {s : zR} {n h w k : Nat} {v : Int32} (hV : VR s n h) (hw : w < 8) (hk : k < 7) (hv : zbd v (if k = 0 then 6 else if k = 1 then 9 else if k = 2 then 11 else if k = 3 then 4 else if k = 4 then 1 else 999999)) : VR (upd s (52 + 7 * w + k) v) n h := by
  obtain ⟨a1, a2, a3, a4, a5, a6, a7, a8, a9, a10, a11⟩ := hV
  refine ⟨a1, by rw [upd_n _ (by omega)]; exact a2, by rw [upd_n _ (by omega)]; exact a3, a4, by rw [upd_n _ (by omega)]; exact a5, fun j hj => by rw [upd_n _ (by omega)]; exact a6 j hj, fun j hj => by rw [upd_n _ (by omega)]; exact a7 j hj, fun j hj => by rw [upd_n _ (by omega), upd_n _ (by omega)]; exact a8 j hj, fun x hx => ?_, VTX_up a10 (by omega), VTX_up a11 (by omega)⟩
  obtain ⟨b0, b1, b2, b3, b4, b5, b6⟩ := a9 x hx
  have key : ∀ j, j < 7 → ∀ m : Int, zbd (s (52 + 7 * x + j)) m → (j = k → zbd v m) → zbd (upd s (52 + 7 * w + k) v (52 + 7 * x + j)) m := by
    intro j hj m hb he
    rw [upd_a]
    by_cases e : 52 + 7 * x + j = 52 + 7 * w + k
    · rw [if_pos e]
      exact he (by omega)
    · rw [if_neg e]
      exact hb
  refine ⟨key 0 (by omega) 6 b0 ?_, key 1 (by omega) 9 b1 ?_, key 2 (by omega) 11 b2 ?_, key 3 (by omega) 4 b3 ?_, key 4 (by omega) 1 b4 ?_, key 5 (by omega) 999999 b5 ?_, key 6 (by omega) 999999 b6 ?_⟩
  all_goals intro e; rw [← e] at hv; simpa using hv
theorem VR_upf {s : zR} {n h f : Nat} {v : Int32} (hV : VR s n h) (hf : f < 5) (hv : zbd v 999999) : VR (upd s (43 + 2 * f) v) n h := by
  obtain ⟨a1, a2, a3, a4, a5, a6, a7, a8, a9, a10, a11⟩ := hV
  refine ⟨a1, by rw [upd_n _ (by omega)]; exact a2, by rw [upd_n _ (by omega)]; exact a3, a4, by rw [upd_n _ (by omega)]; exact a5, fun j hj => by rw [upd_n _ (by omega)]; exact a6 j hj, fun j hj => by rw [upd_n _ (by omega)]; exact a7 j hj, fun j hj => ?_, fun x hx => ?_, VTX_up a10 (by omega), VTX_up a11 (by omega)⟩
  · rw [upd_n _ (by omega), upd_a]
    by_cases e : 43 + 2 * j = 43 + 2 * f
    · rw [if_pos e]
      exact ⟨(a8 j hj).1, hv⟩
    · rw [if_neg e]
      exact a8 j hj
  · obtain ⟨b0, b1, b2, b3, b4, b5, b6⟩ := a9 x hx
    refine ⟨?_, ?_, ?_, ?_, ?_, ?_, ?_⟩ <;> rw [upd_n _ (by omega)] <;> assumption
theorem VR_uph {s : zR} {n h h2 : Nat} (hV : VR s n h) (hh : h2 < 100000) : VR (upd s 1 (nI h2)) n h2 := by
  obtain ⟨a1, a2, a3, a4, a5, a6, a7, a8, a9, a10, a11⟩ := hV
  refine ⟨a1, by rw [upd_n _ (by omega)]; exact a2, by rw [upd_s], hh, by rw [upd_n _ (by omega)]; exact a5, fun j hj => by rw [upd_n _ (by omega)]; exact a6 j hj, fun j hj => by rw [upd_n _ (by omega)]; exact a7 j hj, fun j hj => by rw [upd_n _ (by omega), upd_n _ (by omega)]; exact a8 j hj, fun x hx => ?_, VTX_up a10 (by omega), VTX_up a11 (by omega)⟩
  obtain ⟨b0, b1, b2, b3, b4, b5, b6⟩ := a9 x hx
  refine ⟨?_, ?_, ?_, ?_, ?_, ?_, ?_⟩ <;> rw [upd_n _ (by omega)] <;> assumption
theorem hd_bd (v : Int32) : zbd (hdS v 0 999999) 999999 := hdS_r (lo := 0) (hi := 999999) (by decide)
/-- a wheel turns by so many -/
def t1S (s : zR) (w : Nat) (b : Int32) : zR :=
  let f := (itS s w 3).toNatClampNeg
  upd (upd s (52 + 7 * w + 6) (hdS (itS s w 6 + b) 0 999999)) (43 + 2 * f) (hdS (s (43 + 2 * f) + b) 0 999999)
def heS (s : zR) (w : Nat) (t : Int32) : zR := upd (t1S s w (tuS s w t)) (52 + 7 * w + 5) (hdS (itS s w 5 + shS s w t (tuS s w t)) 0 999999)
def hfS (s t : zR) : Nat → zR
  | 0 => s
  | k + 1 => heS (hfS s t k) k (t k)
def hrS (s : zR) (n : Nat) : zR := upd (hfS s (flA s n).1.2.1 n) 1 (hfS s (flA s n).1.2.1 n 1 + 1)
/-- how often wheel k turns in this hour -/
def trS (s : zR) (n k : Nat) : Int32 := tuS (hfS s (flA s n).1.2.1 k) k ((flA s n).1.2.1 k)
theorem VR_fam {s : zR} {n h w : Nat} (hV : VR s n h) (hw : w < n) : ∃ f, f < 5 ∧ itS s w 3 = nI f ∧ (itS s w 3).toNatClampNeg = f := by
  obtain ⟨b0, b1⟩ := (hV.2.2.2.2.2.2.2.2.1 w hw).2.2.2.1
  obtain ⟨f, hf, e, -⟩ := zof b0 (show _ ≤ ((4 : Nat) : Int) from b1)
  have e' : itS s w 3 = nI f := e
  exact ⟨f, by omega, e', by rw [e', zcn (by omega)]⟩
theorem VR_t1 {s : zR} {n h w : Nat} (hV : VR s n h) (hw : w < n) (b : Int32) : VR (t1S s w b) n h := by
  obtain ⟨f, hf, -, e⟩ := VR_fam hV hw
  have hn := hV.1
  unfold t1S
  rw [e]
  exact VR_upf (VR_upw hV (by omega) (by omega) (hd_bd _)) hf (hd_bd _)
theorem VR_he {s : zR} {n h w : Nat} (hV : VR s n h) (hw : w < n) (t : Int32) : VR (heS s w t) n h := by
  have hn := hV.1
  exact VR_upw (VR_t1 hV hw _) (by omega) (by omega) (hd_bd _)
theorem VR_hf {s t : zR} {n h : Nat} (hV : VR s n h) : ∀ k, k ≤ n → VR (hfS s t k) n h := by
  intro k
  induction k with
  | zero => intro _; exact hV
  | succ k ih =>
    intro hk
    exact VR_he (ih (by omega)) (by omega) _
theorem VR_hr {s : zR} {n h : Nat} (hV : VR s n h) (hh : h + 1 < 100000) : VR (hrS s n) n (h + 1) := by
  have h2 := VR_hf (t := (flA s n).1.2.1) hV n (Nat.le_refl _)
  unfold hrS
  rw [h2.2.2.1, nI_1]
  exact VR_uph h2 hh
