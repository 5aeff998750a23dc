/-! ===== the reader: states, runs ===== -/
def IN (b : Nat → Nat) (n u : Nat) (C R : zM) : Prop := n ≤ 60 ∧ u < 2 ∧ (∀ j, j < n → b j < 256) ∧ (∀ j, j < n → C 68 j &&& 255 = nI (b j)) ∧ R 88 3 = nI n ∧ (∀ j, j < n → R 88 (365 + j) = nI (b j)) ∧ R 87 8 = nI u
def CF (C C' : zM) : Prop := ∀ c, c ≠ 73 → c ≠ 74 → c ≠ 75 → C' c = C c
def RG (R R' : zM) : Prop := (∀ c, c ≠ 87 → c ≠ 92 → R' c = R c) ∧ ∀ k, k ≠ 5 → k ≠ 6 → k ≠ 7 → R' 87 k = R 87 k
theorem CF.rf {C : zM} : CF C C := fun _ _ _ _ => rfl
theorem CF.tr {A B C : zM} (h : CF A B) (g : CF B C) : CF A C := fun c h1 h2 h3 => (g c h1 h2 h3).trans (h c h1 h2 h3)
theorem RG.rf {C : zM} : RG C C := ⟨fun _ _ _ => rfl, fun _ _ _ _ => rfl⟩
theorem RG.tr {A B C : zM} (h : RG A B) (g : RG B C) : RG A C := ⟨fun c h1 h2 => (g.1 c h1 h2).trans (h.1 c h1 h2), fun k h1 h2 h3 => (g.2 k h1 h2 h3).trans (h.2 k h1 h2 h3)⟩
theorem IN.fr {b : Nat → Nat} {n u : Nat} {C R C' R' : zM} (h : IN b n u C R) (f : CF C C') (g : RG R R') : IN b n u C' R' := by
  obtain ⟨h1, h2, h3, h4, h5, h6, h7⟩ := h
  exact ⟨h1, h2, h3, fun j hj => by rw [f 68 (by decide) (by decide) (by decide)]; exact h4 j hj, by rw [g.1 88 (by decide) (by decide)]; exact h5, fun j hj => by rw [g.1 88 (by decide) (by decide)]; exact h6 j hj, by rw [g.2 8 (by decide) (by decide) (by decide)]; exact h7⟩
theorem ra_look {b : Nat → Nat} {n u : Nat} {C R : zM} (h : IN b n u C R) {i : Nat} (e : R 87 5 = nI i) (hi : i ≤ n) : fX8_look R = some (if i < n then nI (b i) else -1, R) := by
  obtain ⟨h1, h2, h3, h4, h5, h6, h7⟩ := h
  rw [fX8_look, e, h5]
  by_cases c : i < n
  · rw [if_neg (nI_leN (by omega) (by omega) c), if_pos c, show (365 : Int32) + nI i = nI (365 + i) from nI_add 365 i, zgd_n (zgi rfl (show 365 + i < 449 by omega) (by omega)), zcn (by omega), h6 i c]
  · rw [if_pos (nI_leY (by omega) (by omega) (by omega)), if_neg c]
theorem ra_step1 {R : zM} {s : Nat} (e : R 87 7 = nI s) (hs : s < 62) (w v : Int32) : fX8_step1 w v R = some (zst (zst (zst R 92 (2 * s) w) 92 (2 * s + 1) v) 87 7 (nI (s + 1))) := by
  have e1 : ∀ k x, zst R 92 k x 87 7 = nI s := fun k x => by rw [zst_n _ (by decide)]; exact e
  have e2 : ∀ k x k' x', zst (zst R 92 k x) 92 k' x' 87 7 = nI s := fun k x k' x' => by rw [zst_n _ (by decide), zst_n _ (by decide)]; exact e
  have m1 : (2 : Int32) * nI s = nI (2 * s) := pk_mul 2 s
  rw [fX8_step1, e, m1, zgd_n (zgi rfl (show 2 * s < 124 by omega) (by omega)), zcn (by omega), zlt_r, e1, m1, nI_1, zgd_n (zgi rfl (show 2 * s + 1 < 124 by omega) (by omega)), zcn (by omega), zlt_r, zlt_r, e2, nI_1]
/-- the class reads bytes i .. j - 1 -/
def CRun (n u : Nat) (C : zM) (i : Nat) (C' : zM) (j : Nat) : Prop := i ≤ j ∧ ∀ kk F, fX3_read_33 68 (nI n) (nI u) kk (F + (j - i)) (nI i) C = fX3_read_33 68 (nI n) (nI u) kk F (nI j) C'
theorem CRun.rf {n u : Nat} {C : zM} {i : Nat} : CRun n u C i C i := ⟨Nat.le_refl _, fun kk F => by rw [Nat.sub_self, Nat.add_zero]⟩
theorem CRun.tr {n u : Nat} {C C' C'' : zM} {i j k : Nat} (h : CRun n u C i C' j) (g : CRun n u C' j C'' k) : CRun n u C i C'' k := by
  have h1 := h.1
  have g1 := g.1
  refine ⟨by omega, fun kk F => ?_⟩
  rw [show F + (k - i) = F + (k - j) + (j - i) by omega, h.2 kk (F + (k - j)), g.2 kk F]
theorem CRun.step {b : Nat → Nat} {n u : Nat} {C R C' : zM} (h : IN b n u C R) {i : Nat} (hi : i < n) (e : fX3_goesOn (nI (b i)) (nI u) C = some (1, C')) : CRun n u C i C' (i + 1) := by
  obtain ⟨h1, h2, h3, h4, -⟩ := h
  refine ⟨by omega, fun kk F => ?_⟩
  rw [show F + (i + 1 - i) = F + 1 by omega, fX3_read_33, if_neg (nI_leN (by omega) (by omega) hi), if_neg (nI_lt60 (by omega)), zgd_n (zgi rfl (show i < 60 by omega) (by omega)), zcn (by omega), h4 i hi, e, zbi_s, if_neg z10, zlt_r, nI_1]
/-- the class's fault is at j -/
def CFault (b : Nat → Nat) (n u : Nat) (C : zM) (i j : Nat) : Prop := ∃ C', CRun n u C i C' j ∧ CF C C' ∧ ((j < n ∧ ∃ C'', fX3_goesOn (nI (b j)) (nI u) C' = some (0, C'') ∧ CF C' C'') ∨ (j = n ∧ (C' 73 7 = 1 ∨ ¬ C' 73 5 ≤ 0)))
theorem CFault.fr {b : Nat → Nat} {n u : Nat} {C C1 : zM} {i i1 j : Nat} (h : CFault b n u C1 i1 j) (r : CRun n u C i C1 i1) (f : CF C C1) : CFault b n u C i j := by
  obtain ⟨C', a1, a2, a3⟩ := h
  exact ⟨C', r.tr a1, f.tr a2, a3⟩
def TKs (u z : Nat) (C R : zM) : Prop := ∀ k, k < z → zTK u (C 74 k) (R 92 (2 * k)) (R 92 (2 * k + 1))
/-- a value is wanted: at byte i, z steps, q signs, o open, br brackets -/
def WS (u : Nat) (C R : zM) (i z q o br : Nat) : Prop := C 73 7 = 1 ∧ C 73 2 = nI z ∧ C 73 3 = nI q ∧ C 73 4 = nI o ∧ C 73 5 = nI br ∧ R 87 5 = nI i ∧ R 87 6 = nI o ∧ R 87 7 = nI z ∧ z + q ≤ i ∧ o ≤ 5 ∧ br ≤ 60 ∧ TKs u z C R
/-- a value has been read: m signs above q wait yet, the reference has written them -/
def PS (u : Nat) (C R : zM) (i z q m o br : Nat) : Prop := C 73 7 = 0 ∧ C 73 2 = nI z ∧ C 73 3 = nI (q + m) ∧ C 73 4 = nI (o + exC (C 75) q m) ∧ C 73 5 = nI br ∧ R 87 5 = nI i ∧ R 87 6 = nI o ∧ R 87 7 = nI (z + m) ∧ z + q + m ≤ i ∧ o ≤ 5 ∧ br ≤ 60 ∧ TKs u z C R ∧ ∀ k, k < m → zTK u (-(C 75 (q + m - 1 - k))) (R 92 (2 * (z + k))) (R 92 (2 * (z + k) + 1))
def RK (p : Nat) (C : zM) (q m : Nat) : Prop := ∀ k, k < m → C 75 (q + k) = 33 ∨ nI p ≤ rkI (C 75 (q + k))
def TOP (p : Nat) (C : zM) (q : Nat) : Prop := q = 0 ∨ (C 75 (q - 1) ≠ 33 ∧ ¬ nI p ≤ rkI (C 75 (q - 1)))
/-- a comparison waits, and nothing above it that binds less than a sum -/
def CMP (C : zM) (q m : Nat) : Prop := ∃ h, h < m ∧ rkI (C 75 (q + h)) = 3 ∧ ∀ k, h < k → k < m → C 75 (q + k) = 33 ∨ nI 4 ≤ rkI (C 75 (q + k))
def NX (b : Nat → Nat) (n p : Nat) (C : zM) (q m j : Nat) : Prop := j < n → ¬ nI p ≤ rkI (nI (b j)) ∨ (rkI (nI (b j)) = 3 ∧ CMP C q m)
/-- a digit that comes next is a fault -/
def DG (b : Nat → Nat) (n u : Nat) (C : zM) (j : Nat) : Prop := j < n → 48 ≤ b j → b j ≤ 57 → ∃ C'', fX3_goesOn (nI (b j)) (nI u) C = some (0, C'') ∧ CF C C''
abbrev tkR (R : zM) : Nat → Int32 × Int32 := fun j => (R 92 (2 * j), R 92 (2 * j + 1))
/-- s good steps that leave D values -/
def VD (u : Nat) (R : zM) (s D : Nat) : Prop := (∀ k, k < s → zTV u (tkR R k).1 (tkR R k).2 ∧ ((tkR R k).1 = 2 → 1 ≤ dpS (tkR R) k) ∧ ((tkR R k).1 = 3 → 2 ≤ dpS (tkR R) k)) ∧ dpS (tkR R) s = D
theorem dpS_cg {t t' : Nat → Int32 × Int32} : ∀ s, (∀ k, k < s → t' k = t k) → dpS t' s = dpS t s := by
  intro s
  induction s with
  | zero => intro _; rfl
  | succ s ih =>
    intro h
    rw [dpS, dpS, h s (by omega), ih (fun k hk => h k (by omega))]
theorem VD.cg {u : Nat} {R R' : zM} {s D : Nat} (h : VD u R s D) (e : R' 92 = R 92) : VD u R' s D := by
  have et : tkR R' = tkR R := by
    funext j
    show (R' 92 _, R' 92 _) = (R 92 _, R 92 _)
    rw [e]
  unfold VD
  rw [et]
  exact h
/-- one step more -/
theorem VD.step {u : Nat} {R R' : zM} {s D D' : Nat} {c w v : Int32} (h : VD u R s D) (e : ∀ k, R' 92 k = if k = 2 * s then w else if k = 2 * s + 1 then v else R 92 k) (ht : zTK u c w v) (h2 : w = 2 → 1 ≤ D) (h3 : w = 3 → 2 ≤ D) (hD : D' = if w = 0 then D + 1 else if w = 1 then D + 1 else if w = 2 then D else D - 1) : VD u R' (s + 1) D' := by
  have et : ∀ k, k < s → tkR R' k = tkR R k := by
    intro k hk
    show (R' 92 _, R' 92 _) = (R 92 _, R 92 _)
    rw [e, e, if_neg (by omega), if_neg (by omega), if_neg (by omega), if_neg (by omega)]
  have es : tkR R' s = (w, v) := by
    show (R' 92 _, R' 92 _) = _
    rw [e, e, if_pos rfl, if_neg (by omega), if_pos rfl]
  have ed : dpS (tkR R') s = D := by rw [dpS_cg s et]; exact h.2
  refine ⟨fun k hk => ?_, ?_⟩
  · by_cases g : k = s
    · subst g
      rw [es, ed]
      exact ⟨⟨c, ht⟩, h2, h3⟩
    · rw [et k (by omega), dpS_cg k (fun x hx => et x (by omega))]
      exact h.1 k (by omega)
  · rw [dpS, es, ed, hD]
theorem ra_step1_92 (R : zM) (s : Nat) (w v : Int32) (x : Int32) : ∀ k, zst (zst (zst R 92 (2 * s) w) 92 (2 * s + 1) v) 87 7 x 92 k = if k = 2 * s then w else if k = 2 * s + 1 then v else R 92 k := fun k => by
  rw [zst_n _ (by decide), zst_k]
  by_cases e : k = 2 * s + 1
  · rw [if_pos ⟨rfl, e⟩, if_neg (by omega), if_pos e]
  · rw [if_neg (fun z => e z.2), zst_k]
    by_cases g : k = 2 * s
    · rw [if_pos ⟨rfl, g⟩, if_pos g]
    · rw [if_neg (fun z => g z.2), if_neg g, if_neg e]
/-- two numbers joined: the sign at q has its operands -/
theorem op_join {u : Nat} {C R : zM} {j z q m o br D : Nat} {c : Int32} (h : PS u C R j z (q + 1) m o br) (hc : C 75 q = c) (h33 : c ≠ 33) (hs : zsgn c) (hj : j ≤ 60) (hd : VD u R (z + m) (D + 2)) :
    ∃ R', fX8_step1 3 c R = some R' ∧ RG R R' ∧ PS u C R' j z q (m + 1) o br ∧ VD u R' (z + (m + 1)) (D + 1) := by
  obtain ⟨h1, h2, h3, h4, h5, h6, h7, h8, h9, h10, h11, h12, h13⟩ := h
  have e92 := ra_step1_92 R (z + m) 3 c (nI (z + m + 1))
  refine ⟨_, ra_step1 h8 (by omega) 3 c, ⟨fun c g1 g2 => by rw [zst_n _ g1, zst_n _ g2, zst_n _ g2], fun k g1 g2 g3 => by rw [zst_k, if_neg (fun z => g3 z.2), zst_n _ (by decide), zst_n _ (by decide)]⟩, ⟨h1, h2, by rw [h3]; congr 1; omega, ?_, h5, ?_, ?_, ?_, by omega, h10, h11, fun k hk => ?_, fun k hk => ?_⟩, ?_⟩
  · rw [h4, exC_low, hc, if_neg h33, Nat.zero_add]
  · rw [zst_k, if_neg (by omega), zst_n _ (by decide), zst_n _ (by decide)]
    exact h6
  · rw [zst_k, if_neg (by omega), zst_n _ (by decide), zst_n _ (by decide)]
    exact h7
  · rw [zst_k, if_pos ⟨rfl, rfl⟩]
    rfl
  · rw [e92, e92, if_neg (by omega), if_neg (by omega), if_neg (by omega), if_neg (by omega)]
    exact h12 k hk
  · rw [e92, e92]
    by_cases g : k = m
    · subst g
      rw [if_pos rfl, if_neg (by omega), if_pos rfl, show q + (k + 1) - 1 - k = q by omega, hc]
      exact Or.inr (Or.inr (Or.inr ⟨rfl, rfl, hs⟩))
    · rw [if_neg (by omega), if_neg (by omega), if_neg (by omega), if_neg (by omega), show q + (m + 1) - 1 - k = q + 1 + m - 1 - k by omega]
      exact h13 k (by omega)
  · exact hd.step e92 (c := -c) (Or.inr (Or.inr (Or.inr ⟨rfl, rfl, hs⟩))) (fun z => absurd z (by decide)) (fun _ => by omega) (by rw [if_neg (by decide), if_neg (by decide), if_neg (by decide)]; rfl)
/-- a value is turned: the '!' at q has its operand -/
theorem op_not {u : Nat} {C R : zM} {j z q m o br D : Nat} (h : PS u C R j z (q + 1) m (o + 1) br) (hc : C 75 q = 33) (hj : j ≤ 60) (hd : VD u R (z + m) (D + 1)) :
    ∃ R', fX8_step1 2 0 (zst R 87 6 (nI o)) = some R' ∧ RG R R' ∧ PS u C R' j z q (m + 1) o br ∧ VD u R' (z + (m + 1)) (D + 1) := by
  obtain ⟨h1, h2, h3, h4, h5, h6, h7, h8, h9, h10, h11, h12, h13⟩ := h
  generalize hR : zst R 87 6 (nI o) = R0
  have r92 : R0 92 = R 92 := by rw [← hR, zst_n _ (by decide)]
  have r87 : ∀ k, k ≠ 6 → R0 87 k = R 87 k := fun k hk => by rw [← hR, zst_k, if_neg (fun z => hk z.2)]
  have r6 : R0 87 6 = nI o := by rw [← hR, zst_k, if_pos ⟨rfl, rfl⟩]
  have ro : ∀ c, c ≠ 87 → R0 c = R c := fun c hc => by rw [← hR, zst_n _ hc]
  have e92 := ra_step1_92 R0 (z + m) 2 0 (nI (z + m + 1))
  rw [r92] at e92
  refine ⟨_, ra_step1 (by rw [r87 7 (by decide)]; exact h8) (by omega) 2 0, ⟨fun c g1 g2 => by rw [zst_n _ g1, zst_n _ g2, zst_n _ g2, ro c g1], fun k g1 g2 g3 => by rw [zst_k, if_neg (fun z => g3 z.2), zst_n _ (by decide), zst_n _ (by decide), r87 k g2]⟩, ⟨h1, h2, by rw [h3]; congr 1; omega, ?_, h5, ?_, ?_, ?_, by omega, by omega, h11, fun k hk => ?_, fun k hk => ?_⟩, ?_⟩
  · rw [h4, exC_low, hc, if_pos rfl]
    congr 1
    omega
  · rw [zst_k, if_neg (by omega), zst_n _ (by decide), zst_n _ (by decide), r87 5 (by decide)]
    exact h6
  · rw [zst_k, if_neg (by omega), zst_n _ (by decide), zst_n _ (by decide)]
    exact r6
  · rw [zst_k, if_pos ⟨rfl, rfl⟩]
    rfl
  · rw [e92, e92, if_neg (by omega), if_neg (by omega), if_neg (by omega), if_neg (by omega)]
    exact h12 k hk
  · rw [e92, e92]
    by_cases g : k = m
    · subst g
      rw [if_pos rfl, if_neg (by omega), if_pos rfl, show q + (k + 1) - 1 - k = q by omega, hc]
      exact Or.inr (Or.inr (Or.inl ⟨rfl, rfl⟩))
    · rw [if_neg (by omega), if_neg (by omega), if_neg (by omega), if_neg (by omega), show q + (m + 1) - 1 - k = q + 1 + m - 1 - k by omega]
      exact h13 k (by omega)
  · exact VD.step hd e92 (c := -33) (Or.inr (Or.inr (Or.inl ⟨rfl, rfl⟩))) (fun _ => by omega) (fun z => absurd z (by decide)) (by rw [if_neg (by decide), if_neg (by decide), if_pos rfl])
