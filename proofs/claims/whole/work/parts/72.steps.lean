/-! ===== the reader: a byte each ===== -/
theorem go_follows {c u : Nat} {C C' : zM} {r : Int32} (hd : c < 48 ∨ 57 < c) (hc : c < 256) (h7 : C 73 7 = 0) (hr : r = 0 ∨ r = 1) (e : fX3_follows (nI c) (zst C 73 6 0) = some (r, C')) : fX3_goesOn (nI c) (nI u) C = some (r, C') := by
  have e7 : zst C 73 6 0 73 7 = 0 := by rw [zst_k, if_neg (by omega)]; exact h7
  rw [fX3_goesOn]
  by_cases g : c < 48
  · rw [if_pos (show nI c < (48 : Int32) from nI_ltY (b := 48) (by omega) (by omega) g), zlt_r, if_pos e7, e, zbi_s, zgd_n (fun z => z hr)]
  · rw [if_neg (show ¬ nI c < (48 : Int32) from nI_ltN (b := 48) (by omega) (by omega) (by omega)), if_pos (show (57 : Int32) < nI c from nI_ltY (a := 57) (by omega) (by omega) (by omega)), zlt_r, if_pos e7, e, zbi_s, zgd_n (fun z => z hr)]
theorem go_opens {c u : Nat} {C C' : zM} {r : Int32} (hd : c < 48 ∨ 57 < c) (hc : c < 256) (h7 : C 73 7 = 1) (hr : r = 0 ∨ r = 1) (e : fX3_opens (nI c) (nI u) (zst C 73 6 0) = some (r, C')) : fX3_goesOn (nI c) (nI u) C = some (r, C') := by
  have e7 : ¬ zst C 73 6 0 73 7 = 0 := by rw [zst_k, if_neg (by omega), h7]; exact z10
  rw [fX3_goesOn]
  by_cases g : c < 48
  · rw [if_pos (show nI c < (48 : Int32) from nI_ltY (b := 48) (by omega) (by omega) g), zlt_r, if_neg e7, e, zbi_s, zgd_n (fun z => z hr)]
  · rw [if_neg (show ¬ nI c < (48 : Int32) from nI_ltN (b := 48) (by omega) (by omega) (by omega)), if_pos (show (57 : Int32) < nI c from nI_ltY (a := 57) (by omega) (by omega) (by omega)), zlt_r, if_neg e7, e, zbi_s, zgd_n (fun z => z hr)]
theorem go_digit {c u : Nat} {C C' : zM} {r : Int32} (h1 : 48 ≤ c) (h2 : c ≤ 57) (hr : r = 0 ∨ r = 1) (e : fX3_digit (nI (c - 48)) C = some (r, C')) : fX3_goesOn (nI c) (nI u) C = some (r, C') := by
  rw [fX3_goesOn, if_neg (show ¬ nI c < (48 : Int32) from nI_ltN (b := 48) (by omega) (by omega) (by omega)), if_neg (show ¬ (57 : Int32) < nI c from nI_ltN (a := 57) (by omega) (by omega) (by omega)), show nI c - (48 : Int32) = nI (c - 48) from nI_sub' (b := 48) h1 (by omega), e, zbi_s, zgd_n (fun z => z hr)]
/-- what a flush leaves -/
theorem PS.flush {u : Nat} {C R : zM} {j z q m o br r : Nat} (h : PS u C R j z q m o br) (hr : r < 10) (hj : j ≤ 60) (rk : RK r C q m) (tp : TOP r C q) :
    ∃ C2, fX3_writeSigns (nI r) (zst C 73 6 0) = some C2 ∧ C2 73 7 = 0 ∧ C2 73 2 = nI (z + m) ∧ C2 73 3 = nI q ∧ C2 73 4 = nI o ∧ C2 73 5 = nI br ∧ C2 73 6 = 0 ∧ C2 75 = C 75 ∧ CF C C2 ∧ TKs u (z + m) C2 R := by
  obtain ⟨h1, h2, h3, h4, h5, h6, h7, h8, h9, h10, h11, h12, h13⟩ := h
  have f73 : ∀ k, k ≠ 6 → zst C 73 6 0 73 k = C 73 k := fun k hk => by rw [zst_k, if_neg (fun z => hk z.2)]
  have fo : ∀ c, c ≠ 73 → zst C 73 6 0 c = C c := fun c hc => zst_n _ hc
  obtain ⟨C2, b1, b2, b3, b4, b5, b6, b7, b8⟩ := ca_flush (r := r) (q := q) (o := o) hr m (zst C 73 6 0) z 0 zF (by rw [f73 2 (by decide)]; exact h2) (by rw [f73 3 (by decide)]; exact h3) (by rw [f73 4 (by decide), fo 75 (by decide)]; exact h4) (by omega) (by omega) (by omega) (show m < 1000 by omega) (fun k hk => by rw [fo 75 (by decide)]; exact rk k hk) (by rw [fo 75 (by decide)]; exact tp)
  refine ⟨C2, b1, ?_, b2, b3, b4, ?_, ?_, by rw [b8 75 (by decide) (by decide), fo 75 (by decide)], fun c g1 g2 g3 => by rw [b8 c g1 g2, fo c g1], fun k hk => ?_⟩
  · rw [b5 7 (by decide) (by decide) (by decide), f73 7 (by decide)]
    exact h1
  · rw [b5 5 (by decide) (by decide) (by decide), f73 5 (by decide)]
    exact h5
  · rw [b5 6 (by decide) (by decide) (by decide), zst_k, if_pos ⟨rfl, rfl⟩]
  · by_cases g : k < z
    · rw [b6 k g, fo 74 (by decide)]
      exact h12 k g
    · have := b7 (k - z) (by omega)
      rw [show z + (k - z) = k by omega, fo 75 (by decide)] at this
      rw [this]
      have t := h13 (k - z) (by omega)
      rw [show z + (k - z) = k by omega] at t
      exact t
/-- a sign between two values -/
theorem op_step {u : Nat} {C R : zM} {j z q m o br c r r' : Nat} (h : PS u C R j z q m o br) (hj : j < 60) (hr' : r' = if r = 3 then 4 else r) (hr0 : 1 ≤ r) (hr5 : r ≤ 5) (rk : RK r' C q m) (tp : TOP r' C q) (h3 : r = 3 → q = 0 ∨ rkI (C 75 (q - 1)) ≠ 3) (hc : rkI (nI c) = nI r) (c41 : c ≠ 41) (hd : c < 48 ∨ 57 < c) (hcb : c < 256) :
    ∃ C1, fX3_goesOn (nI c) (nI u) C = some (1, C1) ∧ CF C C1 ∧ WS u C1 (zst R 87 5 (nI (j + 1))) (j + 1) (z + m) (q + 1) o br ∧ C1 75 q = nI c ∧ ∀ k, k < q → C1 75 k = C 75 k := by
  obtain ⟨C2, a1, a2, a3, a4, a5, a6, a7, a8, a9, a10⟩ := h.flush (r := r') (by rw [hr']; split <;> omega) (by omega) rk tp
  obtain ⟨h1, -, -, -, -, h6, h7, h8, h9, h10, h11, -, -⟩ := h
  have n41 : ¬ nI c = (41 : Int32) := fun z => c41 (nI_inj' (b := 41) z (by omega) (by omega))
  have hr00 : ¬ nI r = 0 := nI_z (by omega) (by omega)
  have fin : fX3_follows (nI c) (zst C 73 6 0) = some (1, zst (zst (zst C2 75 q (nI c)) 73 3 (nI (q + 1))) 73 7 1) := by
    rw [fX3_follows, if_neg n41, ca_rankOf, zbi_s, hc, if_neg hr00]
    have hh := ca_hold a4 (by omega) (nI c)
    by_cases g3 : r = 3
    · subst g3
      rw [if_pos rfl] at hr'
      subst hr'
      rw [if_pos (show nI 3 = (3 : Int32) from rfl), show nI 3 + (1 : Int32) = nI 4 from rfl, a1, zbv_s, if_pos (show nI 3 = (3 : Int32) from rfl), a4]
      by_cases q0 : q = 0
      · subst q0
        rw [if_pos (show nI 0 ≤ 0 by decide), hh, zbv_s, zlt_r]
      · have e1 : nI q - 1 = nI (q - 1) := nI_sub' (b := 1) (by omega) (by omega)
        have ne : ¬ rkI (C2 75 (q - 1)) = 3 := by rw [a8]; exact (h3 rfl).resolve_left q0
        rw [if_neg (show ¬ nI q ≤ 0 from nI_leN (b := 0) (by omega) (by omega) (by omega)), e1, zgd_n (zgi rfl (show q - 1 < 60 by omega) (by omega)), zcn (by omega), ca_rankOf, zbi_s, if_neg ne, hh, zbv_s, zlt_r]
    · rw [if_neg g3] at hr'
      subst hr'
      have n3 : ¬ nI r' = (3 : Int32) := fun z => g3 (nI_inj' (b := 3) z (by omega) (by omega))
      rw [if_neg n3, a1, zbv_s, if_neg n3, hh, zbv_s, zlt_r]
  refine ⟨_, go_follows hd hcb h1 (Or.inr rfl) fin, fun x g1 g2 g3 => by rw [zst_n _ g1, zst_n _ g1, zst_n _ g3, a9 x g1 g2 g3], ⟨?_, ?_, ?_, ?_, ?_, ?_, ?_, ?_, by omega, h10, h11, fun k hk => ?_⟩, ?_, fun k hk => ?_⟩
  · rw [zst_k, if_pos ⟨rfl, rfl⟩]
  · rw [zst_k, if_neg (by omega), zst_k, if_neg (by omega), zst_n _ (by decide)]
    exact a3
  · rw [zst_k, if_neg (by omega), zst_k, if_pos ⟨rfl, rfl⟩]
  · rw [zst_k, if_neg (by omega), zst_k, if_neg (by omega), zst_n _ (by decide)]
    exact a5
  · rw [zst_k, if_neg (by omega), zst_k, if_neg (by omega), zst_n _ (by decide)]
    exact a6
  · rw [zst_k, if_pos ⟨rfl, rfl⟩]
  · rw [zst_k, if_neg (by omega)]
    exact h7
  · rw [zst_k, if_neg (by omega)]
    exact h8
  · rw [zst_n _ (by decide), zst_n _ (by decide), zst_n _ (by decide), zst_n _ (by decide)]
    exact a10 k hk
  · rw [zst_n _ (by decide), zst_n _ (by decide), zst_k, if_pos ⟨rfl, rfl⟩]
  · rw [zst_n _ (by decide), zst_n _ (by decide), zst_k, if_neg (by omega), a8]
/-- a bracket closes -/
theorem close_step {u : Nat} {C R : zM} {j z q m o br : Nat} (h : PS u C R j z (q + 1) m (o + 1) (br + 1)) (hj : j < 60) (rk : RK 1 C (q + 1) m) (hc : C 75 q = 40) :
    ∃ C1, fX3_goesOn (nI 41) (nI u) C = some (1, C1) ∧ CF C C1 ∧ PS u C1 (zst (zst R 87 5 (nI (j + 1))) 87 6 (nI o)) (j + 1) (z + m) q 0 o br ∧ C1 73 6 = 0 ∧ ∀ k, k < q → C1 75 k = C 75 k := by
  have tp : TOP 1 C (q + 1) := Or.inr (by
    rw [show q + 1 - 1 = q by omega, hc]
    decide)
  obtain ⟨C2, a1, a2, a3, a4, a5, a6, a7, a8, a9, a10⟩ := h.flush (r := 1) (by omega) (by omega) rk tp
  obtain ⟨h1, -, -, -, h5, h6, h7, h8, h9, h10, h11, -, -⟩ := h
  have e5 : zst C 73 6 0 73 5 = nI (br + 1) := by rw [zst_k, if_neg (by omega)]; exact h5
  have s1 : nI (q + 1) - 1 = nI q := nI_sub' (b := 1) (by omega) (by omega)
  have s2 : nI (br + 1) - 1 = nI br := nI_sub' (b := 1) (by omega) (by omega)
  have s3 : nI (o + 1) - 1 = nI o := nI_sub' (b := 1) (by omega) (by omega)
  have fin : fX3_follows (nI 41) (zst C 73 6 0) = some (1, zst (zst (zst C2 73 3 (nI q)) 73 5 (nI br)) 73 4 (nI o)) := by
    rw [fX3_follows, if_pos (show nI 41 = (41 : Int32) from rfl), fX3_closes, e5, if_neg (nI_z (by omega) (by omega)), show (1 : Int32) = nI 1 from rfl, a1, zbv_s, a4, if_neg (show ¬ nI (q + 1) ≤ 0 from nI_leN (b := 0) (by omega) (by omega) (by omega)), show nI 1 = (1 : Int32) from rfl, s1, zlt_r]
    have e6 : zst C2 73 3 (nI q) 73 5 = nI (br + 1) := by rw [zst_k, if_neg (by omega)]; exact a6
    have e7 : zst (zst C2 73 3 (nI q)) 73 5 (nI br) 73 4 = nI (o + 1) := by rw [zst_k, if_neg (by omega), zst_k, if_neg (by omega)]; exact a5
    rw [e6, s2, zlt_r, e7, s3, zlt_r, zbi_s, zgd_n (by decide)]
  refine ⟨_, go_follows (by omega) (by omega) h1 (Or.inr rfl) fin, fun x g1 g2 g3 => by rw [zst_n _ g1, zst_n _ g1, zst_n _ g1, a9 x g1 g2 g3], ⟨?_, ?_, ?_, ?_, ?_, ?_, ?_, ?_, by omega, by omega, by omega, fun k hk => ?_, fun k hk => by omega⟩, ?_, fun k hk => ?_⟩
  · rw [zst_k, if_neg (by omega), zst_k, if_neg (by omega), zst_k, if_neg (by omega)]
    exact a2
  · rw [zst_k, if_neg (by omega), zst_k, if_neg (by omega), zst_k, if_neg (by omega)]
    exact a3
  · rw [zst_k, if_neg (by omega), zst_k, if_neg (by omega), zst_k, if_pos ⟨rfl, rfl⟩]
    rfl
  · rw [zst_k, if_pos ⟨rfl, rfl⟩]
    rfl
  · rw [zst_k, if_neg (by omega), zst_k, if_pos ⟨rfl, rfl⟩]
  · rw [zst_k, if_neg (by omega), zst_k, if_pos ⟨rfl, rfl⟩]
  · rw [zst_k, if_pos ⟨rfl, rfl⟩]
  · rw [zst_k, if_neg (by omega), zst_k, if_neg (by omega)]
    exact h8
  · rw [zst_n _ (by decide), zst_n _ (by decide), zst_n _ (by decide), zst_n _ (by decide), zst_n _ (by decide)]
    exact a10 k hk
  · rw [zst_k, if_neg (by omega), zst_k, if_neg (by omega), zst_k, if_neg (by omega)]
    exact a7
  · rw [zst_n _ (by decide), zst_n _ (by decide), zst_n _ (by decide), a8]
theorem rkI_le (x : Int32) : rkI x = 0 ∨ nI 1 ≤ rkI x := by
  unfold rkI
  split
  · exact Or.inr (by decide)
  split
  · exact Or.inr (by decide)
  split
  · exact Or.inr (by decide)
  split
  · exact Or.inr (by decide)
  split
  · exact Or.inr (by decide)
  split
  · exact Or.inr (by decide)
  split
  · exact Or.inr (by decide)
  split
  · exact Or.inr (by decide)
  split
  · exact Or.inr (by decide)
  split
  · exact Or.inr (by decide)
  · exact Or.inl rfl
/-- nothing goes on: the byte is a fault -/
theorem stuck {b : Nat → Nat} {n u : Nat} {C R : zM} {j z q m o br : Nat} (h : PS u C R j z q m o br) (hj : j < n) (hn : n ≤ 60) (hb : b j < 256) (rk : RK 1 C q m) (nx : NX b n 1 C q m j) (dg : DG b n u C j) (h41 : b j ≠ 41 ∨ br = 0) :
    ∃ C'', fX3_goesOn (nI (b j)) (nI u) C = some (0, C'') ∧ CF C C'' := by
  by_cases d : 48 ≤ b j ∧ b j ≤ 57
  · exact dg hj d.1 d.2
  have hd : b j < 48 ∨ 57 < b j := by omega
  have f0 : CF C (zst C 73 6 0) := fun c g1 _ _ => zst_n _ g1
  by_cases c41 : b j = 41
  · have br0 : br = 0 := h41.resolve_left (fun z => z c41)
    have e5 : zst C 73 6 0 73 5 = 0 := by rw [zst_k, if_neg (by omega), h.2.2.2.2.1, br0]; rfl
    refine ⟨_, go_follows hd hb h.1 (Or.inl rfl) ?_, f0⟩
    rw [c41, fX3_follows, if_pos (show nI 41 = (41 : Int32) from rfl), fX3_closes, if_pos e5, zbi_s, zgd_n (by decide)]
  have n41 : ¬ nI (b j) = (41 : Int32) := fun z => c41 (nI_inj' (b := 41) z (by omega) (by omega))
  rcases nx hj with g | ⟨g, hh, k1, k2, k3⟩
  · have r0 : rkI (nI (b j)) = 0 := (rkI_le _).resolve_right g
    refine ⟨_, go_follows hd hb h.1 (Or.inl rfl) ?_, f0⟩
    rw [fX3_follows, if_neg n41, ca_rankOf, zbi_s, if_pos r0]
  · have h2 : PS u C R j z (q + hh + 1) (m - hh - 1) (o + exC (C 75) q (hh + 1)) br ∨ True := Or.inr trivial
    obtain ⟨h1, h2', h3, h4, h5, h6, h7, h8, h9, h10, h11, h12, h13⟩ := h
    have f73 : ∀ k, k ≠ 6 → zst C 73 6 0 73 k = C 73 k := fun k hk => by rw [zst_k, if_neg (fun z => hk z.2)]
    have fo : ∀ c, c ≠ 73 → zst C 73 6 0 c = C c := fun c hc => zst_n _ hc
    have hsplit : ∀ a, exC (C 75) q (hh + 1 + a) = exC (C 75) q (hh + 1) + exC (C 75) (q + hh + 1) a := by
      intro a
      induction a with
      | zero => rfl
      | succ a ih =>
        have ei : q + (hh + 1 + a) = q + hh + 1 + a := by omega
        show exC (C 75) q (hh + 1 + a) + (if C 75 (q + (hh + 1 + a)) = 33 then 1 else 0) = exC (C 75) q (hh + 1) + (exC (C 75) (q + hh + 1) a + (if C 75 (q + hh + 1 + a) = 33 then 1 else 0))
        rw [ei, ih]
        omega
    have hs := hsplit (m - hh - 1)
    rw [show hh + 1 + (m - hh - 1) = m by omega] at hs
    have hle := exC_le (C 75) q (hh + 1)
    obtain ⟨C2, b1, b2, b3, b4, b5, b6, b7, b8⟩ := ca_flush (r := 4) (q := q + hh + 1) (o := o + exC (C 75) q (hh + 1)) (by omega) (m - hh - 1) (zst C 73 6 0) z 0 zF (by rw [f73 2 (by decide)]; exact h2') (by rw [f73 3 (by decide), h3]; congr 1; omega) (by rw [f73 4 (by decide), fo 75 (by decide), h4, hs]; congr 1; omega) (by omega) (by omega) (by omega) (show m - hh - 1 < 1000 by omega) (fun k hk => by
      rw [fo 75 (by decide), show q + hh + 1 + k = q + (hh + 1 + k) by omega]
      exact k3 (hh + 1 + k) (by omega) (by omega)) (Or.inr (by
      rw [fo 75 (by decide), show q + hh + 1 - 1 = q + hh by omega]
      refine ⟨fun z => ?_, ?_⟩
      · rw [z] at k2
        exact absurd k2 (by decide)
      · rw [k2]
        decide))
    have e75 : C2 75 = C 75 := by rw [b8 75 (by decide) (by decide), fo 75 (by decide)]
    have e1 : nI (q + hh + 1) - 1 = nI (q + hh) := nI_sub' (b := 1) (by omega) (by omega)
    have b1' : fX3_writeSigns (nI 4) (zst C 73 6 0) = some C2 := b1
    refine ⟨_, go_follows hd hb h1 (Or.inl rfl) ?_, f0.tr (fun c g1 g2 g3 => b8 c g1 g2)⟩
    rw [fX3_follows, if_neg n41, ca_rankOf, zbi_s, g, if_neg (show ¬ (3 : Int32) = 0 by decide), if_pos (show (3 : Int32) = 3 from rfl), show (3 : Int32) + 1 = nI 4 from rfl, b1', zbv_s, if_pos (show (3 : Int32) = 3 from rfl), b3, if_neg (show ¬ nI (q + hh + 1) ≤ 0 from nI_leN (b := 0) (by omega) (by omega) (by omega)), e1, zgd_n (zgi rfl (show q + hh < 60 by omega) (by omega)), zcn (by omega), ca_rankOf, zbi_s, e75, k2, if_pos (show (3 : Int32) = 3 from rfl)]
