/-! ===== the reader: the levels of the reference ===== -/
def isP (c : Nat) : Bool := c == 42 || c == 47 || c == 37
def isS (c : Nat) : Bool := c == 43 || c == 45
def isC (c : Nat) : Bool := c == 60 || c == 61 || c == 62
def isB (c : Nat) : Bool := c == 38
def isO (c : Nat) : Bool := c == 124
set_option maxRecDepth 100000 in
theorem op_rk {c : Nat} (hc : c < 256) : (isP c = true → rkI (nI c) = nI 5 ∧ c ≠ 41 ∧ (c < 48 ∨ 57 < c) ∧ c ≠ 33) ∧ (isS c = true → rkI (nI c) = nI 4 ∧ c ≠ 41 ∧ (c < 48 ∨ 57 < c) ∧ c ≠ 33) ∧ (isC c = true → rkI (nI c) = nI 3 ∧ c ≠ 41 ∧ (c < 48 ∨ 57 < c) ∧ c ≠ 33) ∧ (isB c = true → rkI (nI c) = nI 2 ∧ c ≠ 41 ∧ (c < 48 ∨ 57 < c) ∧ c ≠ 33) ∧ (isO c = true → rkI (nI c) = nI 1 ∧ c ≠ 41 ∧ (c < 48 ∨ 57 < c) ∧ c ≠ 33) := by
  have : ∀ j : Fin 256, (isP j.val = true → rkI (nI j.val) = nI 5 ∧ j.val ≠ 41 ∧ (j.val < 48 ∨ 57 < j.val) ∧ j.val ≠ 33) ∧ (isS j.val = true → rkI (nI j.val) = nI 4 ∧ j.val ≠ 41 ∧ (j.val < 48 ∨ 57 < j.val) ∧ j.val ≠ 33) ∧ (isC j.val = true → rkI (nI j.val) = nI 3 ∧ j.val ≠ 41 ∧ (j.val < 48 ∨ 57 < j.val) ∧ j.val ≠ 33) ∧ (isB j.val = true → rkI (nI j.val) = nI 2 ∧ j.val ≠ 41 ∧ (j.val < 48 ∨ 57 < j.val) ∧ j.val ≠ 33) ∧ (isO j.val = true → rkI (nI j.val) = nI 1 ∧ j.val ≠ 41 ∧ (j.val < 48 ∨ 57 < j.val) ∧ j.val ≠ 33) := by decide
  exact this ⟨c, hc⟩
set_option maxRecDepth 100000 in
theorem no_rk {c : Nat} (hc : c < 256) : ¬ nI 6 ≤ rkI (nI c) ∧ (isP c = false → ¬ nI 5 ≤ rkI (nI c)) ∧ (isS c = false → ¬ nI 5 ≤ rkI (nI c) → ¬ nI 4 ≤ rkI (nI c)) ∧ (isC c = false → ¬ nI 4 ≤ rkI (nI c) → ¬ nI 3 ≤ rkI (nI c)) ∧ (isB c = false → ¬ nI 3 ≤ rkI (nI c) → ¬ nI 2 ≤ rkI (nI c)) ∧ (isO c = false → ¬ nI 2 ≤ rkI (nI c) → ¬ nI 1 ≤ rkI (nI c)) := by
  have : ∀ j : Fin 256, ¬ nI 6 ≤ rkI (nI j.val) ∧ (isP j.val = false → ¬ nI 5 ≤ rkI (nI j.val)) ∧ (isS j.val = false → ¬ nI 5 ≤ rkI (nI j.val) → ¬ nI 4 ≤ rkI (nI j.val)) ∧ (isC j.val = false → ¬ nI 4 ≤ rkI (nI j.val) → ¬ nI 3 ≤ rkI (nI j.val)) ∧ (isB j.val = false → ¬ nI 3 ≤ rkI (nI j.val) → ¬ nI 2 ≤ rkI (nI j.val)) ∧ (isO j.val = false → ¬ nI 2 ≤ rkI (nI j.val) → ¬ nI 1 ≤ rkI (nI j.val)) := by decide
  exact this ⟨c, hc⟩
theorem ne_n {c k : Nat} {x : Int32} (hx : x = nI k) (hc : c < 256) (hk : k < 256) (h : c ≠ k) : ¬ nI c = x := fun z => h (nI_inj' (z.trans hx) (by omega) (by omega))
/-- the product's loop -/
theorem hlp_P {b : Nat → Nat} {n u : Nat} {rec : zM → Option (Int32 × zM)} (C R : zM) (j F : Nat) (hI : IN b n u C R) (e : R 87 5 = nI j) (hj : j ≤ n) : fX8_product_9 rec (fun  M50 => some ((1 : Int32), M50)) (F + 1) R = if j < n ∧ isP (b j) = true then zbi (rec (zst R 87 5 (nI (j + 1)))) (fun r M => if r = 0 then some ((0 : Int32), M) else zbv (fX8_step1 (3 : Int32) (nI (b j)) M) (fun M2 => fX8_product_9 rec (fun  M50 => some ((1 : Int32), M50)) F M2)) else some ((1 : Int32), R) := by
  have hl := ra_look hI e hj
  by_cases jn : j < n
  · rw [if_pos jn] at hl
    have hb := hI.2.2.1 j jn
    by_cases c1 : b j = 42
    · rw [if_pos ⟨jn, by rw [c1]; rfl⟩, fX8_product_9, hl, zbi_s, if_pos (show nI (b j) = (42 : Int32) by rw [c1]; rfl), hl, zbi_s, e, nI_1, zlt_r]
    rw [fX8_product_9, hl, zbi_s, if_neg (ne_n (x := 42) (k := 42) rfl hb (by omega) c1), hl, zbi_s]
    by_cases c2 : b j = 47
    · rw [if_pos (show j < n ∧ isP (b j) = true from ⟨jn, by rw [c2]; rfl⟩), if_pos (show nI (b j) = (47 : Int32) by rw [c2]; rfl), hl, zbi_s, e, nI_1, zlt_r]
    rw [if_neg (ne_n (x := 47) (k := 47) rfl hb (by omega) c2), hl, zbi_s]
    by_cases c3 : b j = 37
    · rw [if_pos (show j < n ∧ isP (b j) = true from ⟨jn, by rw [c3]; rfl⟩), if_pos (show nI (b j) = (37 : Int32) by rw [c3]; rfl), hl, zbi_s, e, nI_1, zlt_r]
    rw [if_neg (ne_n (x := 37) (k := 37) rfl hb (by omega) c3), if_neg (show ¬ (j < n ∧ isP (b j) = true) from fun z => by
      have := z.2
      simp [isP, c1, c2, c3] at this)]
  · rw [if_neg jn] at hl
    rw [if_neg (fun z => jn z.1), fX8_product_9, hl, zbi_s, if_neg (by decide), hl, zbi_s, if_neg (by decide), hl, zbi_s, if_neg (by decide)]
theorem hlp_S {b : Nat → Nat} {n u : Nat} {rec : zM → Option (Int32 × zM)} (C R : zM) (j F : Nat) (hI : IN b n u C R) (e : R 87 5 = nI j) (hj : j ≤ n) : fX8_sum_9 rec (fun  M35 => some ((1 : Int32), M35)) (F + 1) R = if j < n ∧ isS (b j) = true then zbi (fX8_product rec (zst R 87 5 (nI (j + 1)))) (fun r M => if r = 0 then some ((0 : Int32), M) else zbv (fX8_step1 (3 : Int32) (nI (b j)) M) (fun M2 => fX8_sum_9 rec (fun  M35 => some ((1 : Int32), M35)) F M2)) else some ((1 : Int32), R) := by
  have hl := ra_look hI e hj
  by_cases jn : j < n
  · rw [if_pos jn] at hl
    have hb := hI.2.2.1 j jn
    by_cases c1 : b j = 43
    · rw [if_pos ⟨jn, by rw [c1]; rfl⟩, fX8_sum_9, hl, zbi_s, if_pos (show nI (b j) = (43 : Int32) by rw [c1]; rfl), hl, zbi_s, e, nI_1, zlt_r]
    rw [fX8_sum_9, hl, zbi_s, if_neg (ne_n (x := 43) (k := 43) rfl hb (by omega) c1), hl, zbi_s]
    by_cases c2 : b j = 45
    · rw [if_pos (show j < n ∧ isS (b j) = true from ⟨jn, by rw [c2]; rfl⟩), if_pos (show nI (b j) = (45 : Int32) by rw [c2]; rfl), hl, zbi_s, e, nI_1, zlt_r]
    rw [if_neg (ne_n (x := 45) (k := 45) rfl hb (by omega) c2), if_neg (show ¬ (j < n ∧ isS (b j) = true) from fun z => by
      have := z.2
      simp [isS, c1, c2] at this)]
  · rw [if_neg jn] at hl
    rw [if_neg (fun z => jn z.1), fX8_sum_9, hl, zbi_s, if_neg (by decide), hl, zbi_s, if_neg (by decide)]
theorem hlp_B {b : Nat → Nat} {n u : Nat} {rec : zM → Option (Int32 × zM)} (C R : zM) (j F : Nat) (hI : IN b n u C R) (e : R 87 5 = nI j) (hj : j ≤ n) : fX8_both_9 rec (fun  M17 => some ((1 : Int32), M17)) (F + 1) R = if j < n ∧ isB (b j) = true then zbi (fX8_compared rec (zst R 87 5 (nI (j + 1)))) (fun r M => if r = 0 then some ((0 : Int32), M) else zbv (fX8_step1 (3 : Int32) (nI (b j)) M) (fun M2 => fX8_both_9 rec (fun  M17 => some ((1 : Int32), M17)) F M2)) else some ((1 : Int32), R) := by
  have hl := ra_look hI e hj
  by_cases jn : j < n
  · rw [if_pos jn] at hl
    have hb := hI.2.2.1 j jn
    by_cases c1 : b j = 38
    · rw [if_pos ⟨jn, by rw [c1]; rfl⟩, fX8_both_9, hl, zbi_s, c1, if_pos (show nI 38 = (38 : Int32) from rfl), e, nI_1, zlt_r]
      rfl
    rw [fX8_both_9, hl, zbi_s, if_neg (ne_n (x := 38) (k := 38) rfl hb (by omega) c1), if_neg (show ¬ (j < n ∧ isB (b j) = true) from fun z => by
      have := z.2
      simp [isB, c1] at this)]
  · rw [if_neg jn] at hl
    rw [if_neg (fun z => jn z.1), fX8_both_9, hl, zbi_s, if_neg (by decide)]
theorem hlp_O {b : Nat → Nat} {n u : Nat} {rec : zM → Option (Int32 × zM)} (C R : zM) (j F : Nat) (hI : IN b n u C R) (e : R 87 5 = nI j) (hj : j ≤ n) : fX8_whole_9 rec (fun  M17 => some ((1 : Int32), M17)) (F + 1) R = if j < n ∧ isO (b j) = true then zbi (fX8_both rec (zst R 87 5 (nI (j + 1)))) (fun r M => if r = 0 then some ((0 : Int32), M) else zbv (fX8_step1 (3 : Int32) (nI (b j)) M) (fun M2 => fX8_whole_9 rec (fun  M17 => some ((1 : Int32), M17)) F M2)) else some ((1 : Int32), R) := by
  have hl := ra_look hI e hj
  by_cases jn : j < n
  · rw [if_pos jn] at hl
    have hb := hI.2.2.1 j jn
    by_cases c1 : b j = 124
    · rw [if_pos ⟨jn, by rw [c1]; rfl⟩, fX8_whole_9, hl, zbi_s, c1, if_pos (show nI 124 = (124 : Int32) from rfl), e, nI_1, zlt_r]
      rfl
    rw [fX8_whole_9, hl, zbi_s, if_neg (ne_n (x := 124) (k := 124) rfl hb (by omega) c1), if_neg (show ¬ (j < n ∧ isO (b j) = true) from fun z => by
      have := z.2
      simp [isO, c1] at this)]
  · rw [if_neg jn] at hl
    rw [if_neg (fun z => jn z.1), fX8_whole_9, hl, zbi_s, if_neg (by decide)]
theorem sgnP {c : Nat} (h : isP c = true) : zsgn (nI c) := by
  have : c = 42 ∨ c = 47 ∨ c = 37 := by
    simp [isP] at h
    omega
  rcases this with e | e | e <;> subst e
  · exact Or.inr (Or.inl rfl)
  · exact Or.inr (Or.inr (Or.inr (Or.inr (Or.inl rfl))))
  · exact Or.inr (Or.inr (Or.inr (Or.inr (Or.inr (Or.inr (Or.inr (Or.inr (Or.inr rfl))))))))
theorem sgnS {c : Nat} (h : isS c = true) : zsgn (nI c) := by
  have : c = 43 ∨ c = 45 := by
    simp [isS] at h
    omega
  rcases this with e | e <;> subst e
  · exact Or.inr (Or.inr (Or.inl rfl))
  · exact Or.inr (Or.inr (Or.inr (Or.inl rfl)))
theorem sgnC {c : Nat} (h : isC c = true) : zsgn (nI c) := by
  have : c = 60 ∨ c = 61 ∨ c = 62 := by
    simp [isC] at h
    omega
  rcases this with e | e | e <;> subst e
  · exact Or.inr (Or.inr (Or.inr (Or.inr (Or.inr (Or.inl rfl)))))
  · exact Or.inr (Or.inr (Or.inr (Or.inr (Or.inr (Or.inr (Or.inl rfl))))))
  · exact Or.inr (Or.inr (Or.inr (Or.inr (Or.inr (Or.inr (Or.inr (Or.inl rfl)))))))
theorem sgnB {c : Nat} (h : isB c = true) : zsgn (nI c) := by
  have : c = 38 := by
    simp [isB] at h
    omega
  subst this
  exact Or.inl rfl
theorem sgnO {c : Nat} (h : isO c = true) : zsgn (nI c) := by
  have : c = 124 := by
    simp [isO] at h
    omega
  subst this
  exact Or.inr (Or.inr (Or.inr (Or.inr (Or.inr (Or.inr (Or.inr (Or.inr (Or.inl rfl))))))))
/-- a sign of rank p has just been put at q -/
theorem top_of {p p' : Nat} {C : zM} {q c : Nat} (h : C 75 q = nI c) (hr : rkI (nI c) = nI p) (h33 : c ≠ 33) (hc : c < 256) (hp : p < p') (hp' : p' < 10) : TOP p' C (q + 1) := by
  refine Or.inr ?_
  rw [show q + 1 - 1 = q by omega, h, hr]
  exact ⟨fun z => h33 (nI_inj' (b := 33) z (by omega) (by omega)), nI_leN (by omega) (by omega) hp⟩
theorem TOP.up {p p' : Nat} {C : zM} {q : Nat} (h : TOP p C q) (hp : p ≤ p') (hp' : p' < 10) : TOP p' C q := h.imp id (fun z => ⟨z.1, fun w => z.2 (by
  rw [zle', znT (by omega)] at w
  rw [zle', znT (by omega)]
  omega)⟩)
theorem lev_P {b : Nat → Nat} {n u dd : Nat} {rec : zM → Option (Int32 × zM)} (hu : u < 2) (hf : LEV b n u 6 (fun _ _ => True) dd rec) : LEV b n u 5 (TOP 5) dd (fX8_product rec) :=
  lev_all (lp := fun F R => fX8_product_9 rec (fun  M50 => some ((1 : Int32), M50)) F R) (pf := 6) (by omega) (by omega) (fun _ _ _ => trivial) (fun _ _ h => h) hf
    (lev_loop (isOp := isP) (t := fun _ _ => True) (f := rec) hu (by omega) (by omega) (by omega) (by omega) (by omega) (fun c hc h => ⟨((op_rk hc).1 h).1, ((op_rk hc).1 h).2.1, ((op_rk hc).1 h).2.2.1, ((op_rk hc).1 h).2.2.2, sgnP h⟩) (fun c hc h _ => (no_rk hc).2.1 h) (fun _ _ _ _ _ _ => trivial) hf (fun C R j F hI e hj => hlp_P C R j F hI e hj))
    (fun R => rfl)
theorem lev_S {b : Nat → Nat} {n u dd : Nat} {rec : zM → Option (Int32 × zM)} (hu : u < 2) (hf : LEV b n u 5 (TOP 5) dd (fX8_product rec)) : LEV b n u 4 (TOP 4) dd (fX8_sum rec) :=
  lev_all (lp := fun F R => fX8_sum_9 rec (fun  M35 => some ((1 : Int32), M35)) F R) (pf := 5) (by omega) (by omega) (fun _ _ h => h.up (by omega) (by omega)) (fun _ _ h => h) hf
    (lev_loop (isOp := isS) (t := TOP 5) (f := fX8_product rec) hu (by omega) (by omega) (by omega) (by omega) (by omega) (fun c hc h => ⟨((op_rk hc).2.1 h).1, ((op_rk hc).2.1 h).2.1, ((op_rk hc).2.1 h).2.2.1, ((op_rk hc).2.1 h).2.2.2, sgnS h⟩) (fun c hc h => (no_rk hc).2.2.1 h) (fun C q c hc h e => top_of e ((op_rk hc).2.1 h).1 ((op_rk hc).2.1 h).2.2.2 hc (by omega) (by omega)) hf (fun C R j F hI e hj => hlp_S C R j F hI e hj))
    (fun R => rfl)
theorem lev_B {b : Nat → Nat} {n u dd : Nat} {rec : zM → Option (Int32 × zM)} (hu : u < 2) (hf : LEV b n u 3 (TOP 3) dd (fX8_compared rec)) : LEV b n u 2 (TOP 2) dd (fX8_both rec) :=
  lev_all (lp := fun F R => fX8_both_9 rec (fun  M17 => some ((1 : Int32), M17)) F R) (pf := 3) (by omega) (by omega) (fun _ _ h => h.up (by omega) (by omega)) (fun _ _ h => h) hf
    (lev_loop (isOp := isB) (t := TOP 3) (f := fX8_compared rec) hu (by omega) (by omega) (by omega) (by omega) (by omega) (fun c hc h => ⟨((op_rk hc).2.2.2.1 h).1, ((op_rk hc).2.2.2.1 h).2.1, ((op_rk hc).2.2.2.1 h).2.2.1, ((op_rk hc).2.2.2.1 h).2.2.2, sgnB h⟩) (fun c hc h => (no_rk hc).2.2.2.2.1 h) (fun C q c hc h e => top_of e ((op_rk hc).2.2.2.1 h).1 ((op_rk hc).2.2.2.1 h).2.2.2 hc (by omega) (by omega)) hf (fun C R j F hI e hj => hlp_B C R j F hI e hj))
    (fun R => rfl)
theorem lev_O {b : Nat → Nat} {n u dd : Nat} {rec : zM → Option (Int32 × zM)} (hu : u < 2) (hf : LEV b n u 2 (TOP 2) dd (fX8_both rec)) : LEV b n u 1 (TOP 1) dd (fX8_whole rec) :=
  lev_all (lp := fun F R => fX8_whole_9 rec (fun  M17 => some ((1 : Int32), M17)) F R) (pf := 2) (by omega) (by omega) (fun _ _ h => h.up (by omega) (by omega)) (fun _ _ h => h) hf
    (lev_loop (isOp := isO) (t := TOP 2) (f := fX8_both rec) hu (by omega) (by omega) (by omega) (by omega) (by omega) (fun c hc h => ⟨((op_rk hc).2.2.2.2 h).1, ((op_rk hc).2.2.2.2 h).2.1, ((op_rk hc).2.2.2.2 h).2.2.1, ((op_rk hc).2.2.2.2 h).2.2.2, sgnO h⟩) (fun c hc h => (no_rk hc).2.2.2.2.2 h) (fun C q c hc h e => top_of e ((op_rk hc).2.2.2.2 h).1 ((op_rk hc).2.2.2.2 h).2.2.2 hc (by omega) (by omega)) hf (fun C R j F hI e hj => hlp_O C R j F hI e hj))
    (fun R => rfl)
