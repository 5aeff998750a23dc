theorem eq_text (p0 : Int32) {C R : zM} (h : Rel2 C R) : EQA C R (fX7_text p0 C) (fX8_text p0 R) := by
  unfold fX7_text fX8_text
  refine EQA.out0 h (m := 1) rfl (by omega) fun u hu1 e => ?_
  subst e
  have hu : u < 2 := by omega
  obtain ⟨t, w, a1, a2, a3, a4, a5, a6, a7, a8, a9⟩ := h.2.1
  obtain ⟨hI, hW, hV⟩ := rd_in (C := C) (R := R) hu a1 a3 a8
  have eR : fX3_read 68 (C 67 2) (nI u) C = fX3_read_33 68 (nI t) (nI u) (rdK t) zF 0 (zst (zst (zst (zst (zst (zst C 73 2 0) 73 3 0) 73 4 0) 73 5 0) 73 6 0) 73 7 1) := by
    rw [a4]
    rfl
  rw [eR, zlt_r, zlt_r, zlt_r, zlt_r]
  generalize hC6 : zst (zst (zst (zst (zst (zst C 73 2 0) 73 3 0) 73 4 0) 73 5 0) 73 6 0) 73 7 1 = C6 at hI hW hV
  generalize hR8 : zst (zst (zst (zst R 87 8 (nI u)) 87 5 0) 87 6 0) 87 7 0 = R8 at hI hW hV
  sorry
