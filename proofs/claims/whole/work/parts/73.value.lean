/-! ===== the reader: a value begins ===== -/
def isNm (u c : Nat) : Bool := c == 109 || (u == 0 && (c == 102 || c == 112 || c == 104)) || (u == 1 && (c == 116 || c == 99))
set_option maxRecDepth 100000 in
theorem zch {c : Nat} (hc : c < 256) : ((nI c).toUInt32 % 65536).toInt32 = nI c := by
  have : ∀ j : Fin 256, ((nI j.val).toUInt32 % 65536).toInt32 = nI j.val := by decide
  exact this ⟨c, hc⟩
def nmIx (u c : Nat) : Nat := if u = 0 then (if c = 102 then 0 else if c = 112 then 1 else if c = 104 then 2 else 3) else (if c = 116 then 0 else if c = 99 then 1 else 2)
set_option maxRecDepth 100000 in
theorem zix_nm {u c : Nat} (hu : u < 2) (hc : c < 256) : zix u (nI c) = if isNm u c = true then nI (nmIx u c) else -1 := by
  have : ∀ u : Fin 2, ∀ j : Fin 256, zix u.val (nI j.val) = if isNm u.val j.val = true then nI (nmIx u.val j.val) else -1 := by decide
  exact this ⟨u, hu⟩ ⟨c, hc⟩
theorem nm_tok {u c : Nat} (hu : u < 2) (hc : c < 256) (h : isNm u c = true) : zTK u ((10000 : Int32) + nI (nmIx u c)) 1 (nI c) := by
  refine Or.inr (Or.inl ⟨rfl, ?_⟩)
  rcases (show u = 0 ∨ u = 1 by omega) with e | e <;> subst e
  · have : c = 109 ∨ c = 102 ∨ c = 112 ∨ c = 104 := by
      simp [isNm] at h
      omega
    rcases this with e | e | e | e <;> subst e
    · exact Or.inl ⟨rfl, Or.inr (Or.inr (Or.inr ⟨rfl, rfl⟩))⟩
    · exact Or.inl ⟨rfl, Or.inl ⟨rfl, rfl⟩⟩
    · exact Or.inl ⟨rfl, Or.inr (Or.inl ⟨rfl, rfl⟩)⟩
    · exact Or.inl ⟨rfl, Or.inr (Or.inr (Or.inl ⟨rfl, rfl⟩))⟩
  · have : c = 109 ∨ c = 116 ∨ c = 99 := by
      simp [isNm] at h
      omega
    rcases this with e | e | e <;> subst e
    · exact Or.inr ⟨rfl, Or.inr (Or.inr ⟨rfl, rfl⟩)⟩
    · exact Or.inr ⟨rfl, Or.inl ⟨rfl, rfl⟩⟩
    · exact Or.inr ⟨rfl, Or.inr (Or.inl ⟨rfl, rfl⟩)⟩
theorem ra_isName {u c : Nat} (hu : u < 2) (hc : c < 256) {R : zM} (e : R 87 8 = nI u) : fX8_isName (nI c) R = some (if isNm u c = true then 1 else 0, R) := by
  have ne : ∀ k : Nat, k < 256 → (nI c = nI k ↔ c = k) := fun k hk => ⟨fun z => nI_inj' z (by omega) (by omega), fun z => by rw [z]⟩
  have n109 : (nI c = (109 : Int32)) ↔ c = 109 := ne 109 (by omega)
  have n102 : (nI c = (102 : Int32)) ↔ c = 102 := ne 102 (by omega)
  have n112 : (nI c = (112 : Int32)) ↔ c = 112 := ne 112 (by omega)
  have n104 : (nI c = (104 : Int32)) ↔ c = 104 := ne 104 (by omega)
  have n116 : (nI c = (116 : Int32)) ↔ c = 116 := ne 116 (by omega)
  have n99 : (nI c = (99 : Int32)) ↔ c = 99 := ne 99 (by omega)
  unfold fX8_isName
  rw [e]
  rcases (show u = 0 ∨ u = 1 by omega) with g | g <;> subst g
  · rw [if_pos (show nI 0 = 0 from rfl)]
    simp only [n109, n102, n112, n104, isNm]
    by_cases h1 : c = 109 <;> by_cases h2 : c = 102 <;> by_cases h3 : c = 112 <;> by_cases h4 : c = 104 <;> simp [h1, h2, h3, h4]
  · rw [if_neg (show ¬ nI 1 = 0 by decide)]
    simp only [n109, n116, n99, isNm]
    by_cases h1 : c = 109 <;> by_cases h2 : c = 116 <;> by_cases h3 : c = 99 <;> simp [h1, h2, h3]
theorem f73 (C : zM) {k : Nat} (hk : k ≠ 6) : zst C 73 6 0 73 k = C 73 k := by rw [zst_k, if_neg (fun z => hk z.2)]
/-- '!' or '(' -/
theorem open_step {u : Nat} {C R : zM} {i z q o br c : Nat} (h : WS u C R i z q o br) (hi : i < 60) (hc : c = 33 ∨ c = 40) (ho : o < 5) (hbr : br ≤ o) :
    ∃ C1, fX3_goesOn (nI c) (nI u) C = some (1, C1) ∧ CF C C1 ∧ WS u C1 (zst (zst R 87 6 (nI (o + 1))) 87 5 (nI (i + 1))) (i + 1) z (q + 1) (o + 1) (br + if c = 40 then 1 else 0) ∧ C1 75 q = nI c ∧ ∀ k, k < q → C1 75 k = C 75 k := by
  obtain ⟨h1, h2, h3, h4, h5, h6, h7, h8, h9, h10, h11, h12⟩ := h
  have o4 : zst C 73 6 0 73 4 = nI o := by rw [f73 C (by decide)]; exact h4
  have lt5 : nI o < (5 : Int32) := nI_ltY (b := 5) (by omega) (by omega) ho
  have o5 : ∀ x, zst (zst C 73 6 0) 73 4 x 73 5 = nI br := fun x => by rw [zst_k, if_neg (by omega), f73 C (by decide)]; exact h5
  have o3 : ∀ x y, zst (zst (zst C 73 6 0) 73 4 x) 73 5 y 73 3 = nI q := fun x y => by rw [zst_k, if_neg (by omega), zst_k, if_neg (by omega), f73 C (by decide)]; exact h3
  have go : ∀ y : Nat, fX3_opens (nI c) (nI u) (zst C 73 6 0) = some (1, zst (zst (zst (zst (zst C 73 6 0) 73 4 (nI (o + 1))) 73 5 (nI (br + if c = 40 then 1 else 0))) 75 q (nI c)) 73 3 (nI (q + 1))) := by
    intro _
    rcases hc with e | e <;> subst e
    · rw [fX3_opens, if_pos (show nI 33 = (33 : Int32) from rfl), o4, if_pos lt5, zlt_r, nI_1, if_neg (show ¬ nI 33 = (40 : Int32) by decide), zlt_r, o5, Int32.add_zero, ca_hold (o3 _ _) (by omega), zbv_s]
      rfl
    · rw [fX3_opens, if_neg (show ¬ nI 40 = (33 : Int32) by decide), if_pos (show nI 40 = (40 : Int32) from rfl), o4, if_pos lt5, zlt_r, nI_1, if_pos (show nI 40 = (40 : Int32) from rfl), zlt_r, o5, nI_1, ca_hold (o3 _ _) (by omega), zbv_s]
      rfl
  have g := go_opens (u := u) (c := c) (by omega) (by omega) h1 (Or.inr rfl) (go 0)
  refine ⟨_, g, fun x g1 g2 g3 => by rw [zst_n _ g1, zst_n _ g3, zst_n _ g1, zst_n _ g1, zst_n _ g1], ⟨?_, ?_, ?_, ?_, ?_, ?_, ?_, ?_, by omega, by omega, by split <;> omega, fun k hk => ?_⟩, ?_, fun k hk => ?_⟩
  · rw [zst_k, if_neg (by omega), zst_n _ (by decide), zst_k, if_neg (by omega), zst_k, if_neg (by omega), f73 C (by decide)]
    exact h1
  · rw [zst_k, if_neg (by omega), zst_n _ (by decide), zst_k, if_neg (by omega), zst_k, if_neg (by omega), f73 C (by decide)]
    exact h2
  · rw [zst_k, if_pos ⟨rfl, rfl⟩]
  · rw [zst_k, if_neg (by omega), zst_n _ (by decide), zst_k, if_neg (by omega), zst_k, if_pos ⟨rfl, rfl⟩]
  · rw [zst_k, if_neg (by omega), zst_n _ (by decide), zst_k, if_pos ⟨rfl, rfl⟩]
  · rw [zst_k, if_pos ⟨rfl, rfl⟩]
  · rw [zst_k, if_neg (by omega), zst_k, if_pos ⟨rfl, rfl⟩]
  · rw [zst_k, if_neg (by omega), zst_k, if_neg (by omega)]
    exact h8
  · rw [zst_n _ (by decide), zst_n _ (by decide), zst_n _ (by decide), zst_n _ (by decide), zst_n _ (by decide), zst_n _ (by decide), zst_n _ (by decide)]
    exact h12 k hk
  · rw [zst_n _ (by decide), zst_k, if_pos ⟨rfl, rfl⟩]
  · rw [zst_n _ (by decide), zst_k, if_neg (by omega), zst_n _ (by decide), zst_n _ (by decide), zst_n _ (by decide)]
/-- '!' or '(' where five are open, or what begins no value -/
theorem bad_step {u : Nat} {C R : zM} {i z q o br c : Nat} (h : WS u C R i z q o br) (hu : u < 2) (hc : c < 256) (hd : c < 48 ∨ 57 < c) (hn : isNm u c = false) (ho : (c = 33 ∨ c = 40) → o = 5) :
    ∃ C1, fX3_goesOn (nI c) (nI u) C = some (0, C1) ∧ CF C C1 := by
  obtain ⟨h1, h2, h3, h4, h5, h6, h7, h8, h9, h10, h11, h12⟩ := h
  have o4 : zst C 73 6 0 73 4 = nI o := by rw [f73 C (by decide)]; exact h4
  refine ⟨zst C 73 6 0, go_opens hd hc h1 (Or.inl rfl) ?_, fun x g1 _ _ => zst_n _ g1⟩
  by_cases c33 : c = 33
  · subst c33
    have e5 := ho (Or.inl rfl)
    subst e5
    rw [fX3_opens, if_pos (show nI 33 = (33 : Int32) from rfl), o4, if_neg (show ¬ nI 5 < (5 : Int32) by decide)]
  by_cases c40 : c = 40
  · subst c40
    have e5 := ho (Or.inr rfl)
    subst e5
    rw [fX3_opens, if_neg (show ¬ nI 40 = (33 : Int32) by decide), if_pos (show nI 40 = (40 : Int32) from rfl), o4, if_neg (show ¬ nI 5 < (5 : Int32) by decide)]
  have n33 : ¬ nI c = (33 : Int32) := fun z => c33 (nI_inj' (b := 33) z (by omega) (by omega))
  have n40 : ¬ nI c = (40 : Int32) := fun z => c40 (nI_inj' (b := 40) z (by omega) (by omega))
  rw [fX3_opens, if_neg n33, if_neg n40, zch hc]
  rcases (show u = 0 ∨ u = 1 by omega) with g | g <;> subst g
  · rw [if_pos (show nI 0 = 0 from rfl), zix_nm (by omega) hc, hn, zlt_r, if_neg (show ¬ (false = true) by decide), if_neg (show ¬ (0 : Int32) ≤ -1 by decide)]
  · rw [if_neg (show ¬ nI 1 = 0 by decide), zix_nm (by omega) hc, hn, zlt_r, if_neg (show ¬ (false = true) by decide), if_neg (show ¬ (0 : Int32) ≤ -1 by decide)]
/-- digits are a fault after what is no number -/
theorem DG.of {b : Nat → Nat} {n u : Nat} {C : zM} {j : Nat} (h7 : C 73 7 = 0) (h6 : C 73 6 = 0 ∨ C 73 6 = 4) : DG b n u C j := by
  intro hj h1 h2
  refine ⟨C, go_digit h1 h2 (Or.inl rfl) ?_, CF.rf⟩
  rw [fX3_digit, if_pos h7]
  rcases h6 with e | e
  · rw [if_pos e]
  · rw [if_neg (by rw [e]; decide), if_pos (by rw [e]; decide)]
/-- a name -/
theorem name_step {b : Nat → Nat} {n u : Nat} {C R : zM} {i z q o br c D : Nat} (h : WS u C R i z q o br) (hi : i < 60) (hu : u < 2) (hc : c < 256) (hd : c < 48 ∨ 57 < c) (hn : isNm u c = true) (hv : VD u R z D) :
    ∃ C1 R1, fX3_goesOn (nI c) (nI u) C = some (1, C1) ∧ fX8_step1 1 (nI c) (zst R 87 5 (nI (i + 1))) = some R1 ∧ CF C C1 ∧ RG R R1 ∧ PS u C1 R1 (i + 1) (z + 1) q 0 o br ∧ VD u R1 (z + 1) (D + 1) ∧ DG b n u C1 (i + 1) ∧ C1 75 = C 75 := by
  obtain ⟨h1, h2, h3, h4, h5, h6, h7, h8, h9, h10, h11, h12⟩ := h
  have n33 : ¬ nI c = (33 : Int32) := fun z => by
    have := nI_inj' (b := 33) z (by omega) (by omega)
    subst this
    rcases (show u = 0 ∨ u = 1 by omega) with g | g <;> subst g <;> exact absurd hn (by decide)
  have n40 : ¬ nI c = (40 : Int32) := fun z => by
    have := nI_inj' (b := 40) z (by omega) (by omega)
    subst this
    rcases (show u = 0 ∨ u = 1 by omega) with g | g <;> subst g <;> exact absurd hn (by decide)
  have e2 : zst C 73 6 0 73 2 = nI z := by rw [f73 C (by decide)]; exact h2
  have hge : (0 : Int32) ≤ nI (nmIx u c) := nI_leY (a := 0) (by omega) (by unfold nmIx; repeat (first | omega | split)) (by omega)
  generalize hx : (10000 : Int32) + nI (nmIx u c) = x
  have go : fX3_opens (nI c) (nI u) (zst C 73 6 0) = some (1, zst (zst (zst (zst C 73 6 0) 74 z x) 73 2 (nI (z + 1))) 73 7 0) := by
    rw [fX3_opens, if_neg n33, if_neg n40, zch hc]
    rcases (show u = 0 ∨ u = 1 by omega) with g | g <;> subst g
    · rw [if_pos (show nI 0 = 0 from rfl), zix_nm (by omega) hc, hn, zlt_r, if_pos (show true = true from rfl), if_pos hge, hx, ca_write e2 (by omega), zbv_s, zlt_r]
    · rw [if_neg (show ¬ nI 1 = 0 by decide), zix_nm (by omega) hc, hn, zlt_r, if_pos (show true = true from rfl), if_pos hge, hx, ca_write e2 (by omega), zbv_s, zlt_r]
  have g := go_opens (u := u) (c := c) hd hc h1 (Or.inr rfl) go
  have r7 : zst R 87 5 (nI (i + 1)) 87 7 = nI z := by rw [zst_k, if_neg (by omega)]; exact h8
  have r92 : zst R 87 5 (nI (i + 1)) 92 = R 92 := zst_n _ (by decide)
  have e92 := ra_step1_92 (zst R 87 5 (nI (i + 1))) z 1 (nI c) (nI (z + 1))
  rw [r92] at e92
  refine ⟨_, _, g, ra_step1 r7 (by omega) 1 (nI c), fun y g1 g2 _ => by rw [zst_n _ g1, zst_n _ g1, zst_n _ g2, zst_n _ g1], ⟨fun y g1 g2 => by rw [zst_n _ g1, zst_n _ g2, zst_n _ g2, zst_n _ g1], fun k g1 g2 g3 => by rw [zst_k, if_neg (fun w => g3 w.2), zst_n _ (by decide), zst_n _ (by decide), zst_k, if_neg (fun w => g1 w.2)]⟩, ⟨?_, ?_, ?_, ?_, ?_, ?_, ?_, ?_, by omega, h10, h11, fun k hk => ?_, fun k hk => by omega⟩, ?_, ?_, ?_⟩
  · rw [zst_k, if_pos ⟨rfl, rfl⟩]
  · rw [zst_k, if_neg (by omega), zst_k, if_pos ⟨rfl, rfl⟩]
  · rw [zst_k, if_neg (by omega), zst_k, if_neg (by omega), zst_n _ (by decide), f73 C (by decide)]
    exact h3
  · rw [zst_k, if_neg (by omega), zst_k, if_neg (by omega), zst_n _ (by decide), f73 C (by decide)]
    exact h4
  · rw [zst_k, if_neg (by omega), zst_k, if_neg (by omega), zst_n _ (by decide), f73 C (by decide)]
    exact h5
  · rw [zst_k, if_neg (by omega), zst_n _ (by decide), zst_n _ (by decide), zst_k, if_pos ⟨rfl, rfl⟩]
  · rw [zst_k, if_neg (by omega), zst_n _ (by decide), zst_n _ (by decide), zst_k, if_neg (by omega)]
    exact h7
  · rw [zst_k, if_pos ⟨rfl, rfl⟩]
  · rw [zst_n (zst (zst (zst C 73 6 0) 74 z x) 73 2 (nI (z + 1))) (show 74 ≠ 73 by decide), zst_n (zst (zst C 73 6 0) 74 z x) (show 74 ≠ 73 by decide), zst_k, e92, e92]
    by_cases g : k = z
    · subst g
      rw [if_pos ⟨rfl, rfl⟩, if_pos rfl, if_neg (by omega), if_pos rfl, ← hx]
      exact nm_tok hu hc hn
    · rw [if_neg (fun w => g w.2), zst_n _ (by decide), if_neg (by omega), if_neg (by omega), if_neg (by omega), if_neg (by omega)]
      exact h12 k (by omega)
  · exact (hv.cg r92).step (s := z) (w := 1) (v := nI c) (c := x) (fun k => by rw [e92, r92]) (by rw [← hx]; exact nm_tok hu hc hn) (fun w => absurd w (by decide)) (fun w => absurd w (by decide)) (by rw [if_neg (by decide), if_pos rfl])
  · refine DG.of (by rw [zst_k, if_pos ⟨rfl, rfl⟩]) (Or.inl ?_)
    rw [zst_k, if_neg (by omega), zst_k, if_neg (by omega), zst_n _ (by decide), zst_k, if_pos ⟨rfl, rfl⟩]
  · rw [zst_n _ (by decide), zst_n _ (by decide), zst_n _ (by decide), zst_n _ (by decide)]
