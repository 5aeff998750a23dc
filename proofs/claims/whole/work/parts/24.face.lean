def fX7_outside (p0 : Int32) (p1 : Int32) (p2 : Int32) (M : zM) : Option (Int32 × zM) := if p0 < p1 then (some ((1 : Int32), M)) else (if p0 ≤ p2 then (some ((0 : Int32), M)) else (some ((1 : Int32), M)))
set_option maxRecDepth 100000 in
set_option maxHeartbeats 4000000 in
theorem kX7_outside (l : Launch) (D : va_G) (cy : Nat → ClassId) (a : Nat → Nat) (p0 : Int32) (p1 : Int32) (p2 : Int32) (M : zM) (r0 : Int32) (M0 : zM) (h : fX7_outside p0 p1 p2 M = some (r0, M0)) : zCi l D cy a yX7_outside cX7_outside 3 (some .boolean) (zRm 0 0) [.int p0, .int p1, .int p2] M (fun r u => r = r0 ∧ u = M0) := by
  intro sz
  refine zent_i sz (by decide) (Nat.le_of_ble_eq_true rfl) rfl (fun p e s m args below meth c ls H locs X hw hl => ?_)
  obtain ⟨hx, hb, hr, hml, hown, hW, hlocks⟩ := id X
  have hE := hw.2.2.2.2.1
  have hcs : 0 ≤ ((zRm 0 0)).cells ∧ 0 ≤ ((zRm 0 0)).slots := ⟨Nat.zero_le _, Nat.zero_le _⟩
  rw [fX7_outside] at h
  refine lv_iload_n hx hb dX7_outside_0 rfl (lv_at hl 0 rfl) ?_
  refine lv_iload_n hx hb dX7_outside_1 rfl (lv_at hl 1 rfl) ?_
  refine lv_icmp_lt (tgt := 10) hx hb dX7_outside_2 (by decide) (fun c1 => ?_) (fun c1 => ?_)
  · replace h := zif_t c1 h
    refine lv_iconst (v := 1) hx hb dX7_outside_10 (by decide) ?_
    refine lv_goto (tgt := 15) hx hb dX7_outside_11 (by decide) ?_
    exact z_rz X hw (Or.inr rfl) (zret h) dX7_outside_15
  · replace h := zif_f c1 h
    refine lv_iload_n hx hb dX7_outside_5 rfl (lv_at hl 0 rfl) ?_
    refine lv_iload_n hx hb dX7_outside_6 rfl (lv_at hl 2 rfl) ?_
    refine lv_icmp_le (tgt := 14) hx hb dX7_outside_7 (by decide) (fun c2 => ?_) (fun c2 => ?_)
    · replace h := zif_t c2 h
      refine lv_iconst (v := 0) hx hb dX7_outside_14 (by decide) ?_
      exact z_rz X hw (Or.inl rfl) (zret h) dX7_outside_15
    · replace h := zif_f c2 h
      refine lv_iconst (v := 1) hx hb dX7_outside_10 (by decide) ?_
      refine lv_goto (tgt := 15) hx hb dX7_outside_11 (by decide) ?_
      exact z_rz X hw (Or.inr rfl) (zret h) dX7_outside_15
def fX7_error (p0 : Int32) (M : zM) : Option (Int32 × zM) := zgd (p0 < 0 ∨ 7 ≤ p0.toNatClampNeg) (zgd (p0 < 0 ∨ 7 ≤ p0.toNatClampNeg) (zlt (zst M 86 (p0.toNatClampNeg) ((M 86 (p0.toNatClampNeg)) + (1 : Int32))) (fun M2 => some ((-1000000000 : Int32) - p0, M2))))
set_option maxRecDepth 100000 in
set_option maxHeartbeats 4000000 in
theorem kX7_error (l : Launch) (D : va_G) (cy : Nat → ClassId) (a : Nat → Nat) (p0 : Int32) (M : zM) (r0 : Int32) (M0 : zM) (h : fX7_error p0 M = some (r0, M0)) : zCi l D cy a yX7_error cX7_error 2 (some .int) (zRm 0 0) [.ref (a 0), .int p0] M (fun r u => r = r0 ∧ u = M0) := by
  intro sz
  refine zent_i sz (by decide) (Nat.le_of_ble_eq_true rfl) rfl (fun p e s m args below meth c ls H locs X hw hl => ?_)
  obtain ⟨hx, hb, hr, hml, hown, hW, hlocks⟩ := id X
  have hE := hw.2.2.2.2.1
  have hcs : 0 ≤ ((zRm 0 0)).cells ∧ 0 ≤ ((zRm 0 0)).slots := ⟨Nat.zero_le _, Nat.zero_le _⟩
  rw [fX7_error] at h
  refine lv_aload_n hx hb dX7_error_0 rfl (lv_at hl 0 rfl) ?_
  refine gtX7_53 X hw dX7_error_1 ?_
  refine lv_iload_n hx hb dX7_error_4 rfl (lv_at hl 1 rfl) ?_
  refine lv_dup2_11 hx hb dX7_error_5 rfl rfl ?_
  obtain ⟨g1, h⟩ := zgd_e h
  refine z_ald X hw zI_86 g1 dX7_error_6 ?_
  refine lv_iconst (v := 1) hx hb dX7_error_7 (by decide) ?_
  refine lv_iadd hx hb dX7_error_8 ?_
  obtain ⟨g3, h⟩ := zgd_e h
  refine z_ast X hw zI_86 g3 dX7_error_9 (fun M2 H locs eM2 hw => ?_)
  replace h := zlt_s eM2 h
  refine z_ldc_w (v := (-1000000000)) X zm_5_23 dX7_error_10 ?_
  refine lv_iload_n hx hb dX7_error_13 rfl (lv_at hl 1 rfl) ?_
  refine lv_isub hx hb dX7_error_14 ?_
  exact z_ri X hw (zret h) dX7_error_15
def fX7_force (p0 : Int32) (p1 : Int32) (M : zM) : Option (Int32 × zM) := zbi (fX7_outside p0 (0 : Int32) (23 : Int32) M) (fun r1 M2 => if r1 = 0 then (zbi (fX7_outside p1 (0 : Int32) (99 : Int32) M2) (fun r8 M9 => if r8 = 0 then (zgd (p0 < 0 ∨ 24 ≤ p0.toNatClampNeg) (zlt (M9 2 (p0.toNatClampNeg)) (fun x13 => zgd (p0 < 0 ∨ 24 ≤ p0.toNatClampNeg) (zlt (zst M9 2 (p0.toNatClampNeg) p1) (fun M14 => some (x13, M14)))))) else (zbi (fX7_error (1 : Int32) M9) (fun r16 M17 => some (r16, M17))))) else (zbi (fX7_error (1 : Int32) M2) (fun r5 M6 => some (r5, M6))))
set_option maxRecDepth 100000 in
set_option maxHeartbeats 4000000 in
theorem kX7_force (l : Launch) (D : va_G) (cy : Nat → ClassId) (a : Nat → Nat) (p0 : Int32) (p1 : Int32) (M : zM) (r0 : Int32) (M0 : zM) (h : fX7_force p0 p1 M = some (r0, M0)) : zCi l D cy a yX7_force cX7_force 4 (some .int) (zRm 1 22) [.ref (a 0), .int p0, .int p1] M (fun r u => r = r0 ∧ u = M0) := by
  intro sz
  refine zent_i sz (by decide) (Nat.le_of_ble_eq_true rfl) rfl (fun p e s m args below meth c ls H locs X hw hl => ?_)
  obtain ⟨hx, hb, hr, hml, hown, hW, hlocks⟩ := id X
  have hE := hw.2.2.2.2.1
  have hcs : 0 ≤ ((zRm 1 22)).cells ∧ 0 ≤ ((zRm 1 22)).slots := ⟨Nat.zero_le _, Nat.zero_le _⟩
  rw [fX7_force] at h
  refine lv_iload_n hx hb dX7_force_0 rfl (lv_at hl 1 rfl) ?_
  refine lv_iconst (v := 0) hx hb dX7_force_1 (by decide) ?_
  refine lv_bipush (v := 23) hx hb dX7_force_2 (by decide) ?_
  obtain ⟨r1, M2, f3, h⟩ := zbi_e h
  refine z_qSi (As := [.int p0, .int (0 : Int32), .int (23 : Int32)]) (rest := []) X hw (kX7_outside l D cy a p0 (0 : Int32) (23 : Int32) M r1 M2 f3) (cwX7_57 X.2.2.2.2.2.1 rfl rfl (zroomO (Nat.le_of_ble_eq_true rfl) (Nat.le_of_ble_eq_true rfl))) rfl rfl (Nat.le_of_ble_eq_true rfl) hl.1 hcs dX7_force_4 (fun H locs hw => ?_)
  refine lv_if_ne (tgt := 20) hx hb dX7_force_7 (by decide) (fun c4 => ?_) (fun c4 => ?_)
  · replace h := zif_f c4 h
    refine lv_aload_n hx hb dX7_force_20 rfl (lv_at hl 0 rfl) ?_
    refine lv_iconst (v := 1) hx hb dX7_force_21 (by decide) ?_
    obtain ⟨r5, M6, f7, h⟩ := zbi_e h
    refine z_qVi (As := [.int (1 : Int32)]) (rest := []) X hw (kX7_error l D cy a (1 : Int32) M2 r5 M6 f7) (cwX7_61 X.2.2.2.2.2.1 rfl rfl (zroomO (Nat.le_of_ble_eq_true rfl) (Nat.le_of_ble_eq_true rfl))) (zX7_lt (rfl : zX7 0)) (zS7 (rfl : zX7 0) cy a (M2 0)) rfl rfl rfl (Nat.le_of_ble_eq_true rfl) hl.1 hcs dX7_force_22 (fun H locs hw => ?_)
    exact z_ri X hw (zret h) dX7_force_25
  · replace h := zif_t c4 h
    refine lv_iload_n hx hb dX7_force_10 rfl (lv_at hl 2 rfl) ?_
    refine lv_iconst (v := 0) hx hb dX7_force_11 (by decide) ?_
    refine lv_bipush (v := 99) hx hb dX7_force_12 (by decide) ?_
    obtain ⟨r8, M9, f10, h⟩ := zbi_e h
    refine z_qSi (As := [.int p1, .int (0 : Int32), .int (99 : Int32)]) (rest := []) X hw (kX7_outside l D cy a p1 (0 : Int32) (99 : Int32) M2 r8 M9 f10) (cwX7_57 X.2.2.2.2.2.1 rfl rfl (zroomO (Nat.le_of_ble_eq_true rfl) (Nat.le_of_ble_eq_true rfl))) rfl rfl (Nat.le_of_ble_eq_true rfl) hl.1 hcs dX7_force_14 (fun H locs hw => ?_)
    refine lv_if_eq (tgt := 26) hx hb dX7_force_17 (by decide) (fun c11 => ?_) (fun c11 => ?_)
    · replace h := zif_t c11 h
      refine lv_aload_n hx hb dX7_force_26 rfl (lv_at hl 0 rfl) ?_
      refine gtX7_10 X hw dX7_force_27 ?_
      refine gtX7_65 X hw zX0_1 dX7_force_30 ?_
      refine lv_iload_n hx hb dX7_force_33 rfl (lv_at hl 1 rfl) ?_
      obtain ⟨g12, h⟩ := zgd_e h
      refine z_ald X hw (zI_0_1 zX0_1) g12 dX7_force_34 ?_
      refine lv_topi (fun x13 ex13 => ?_)
      replace h := zlt_s ex13 h
      refine lv_istore_n (lv' := [(3, .int x13), (0, .ref (a 0)), (1, .int p0), (2, .int p1)]) hx hb dX7_force_35 rfl hl (by decide) rfl (fun ls hl => ?_)
      refine lv_aload_n hx hb dX7_force_36 rfl (lv_at hl 1 rfl) ?_
      refine gtX7_10 X hw dX7_force_37 ?_
      refine gtX7_65 X hw zX0_1 dX7_force_40 ?_
      refine lv_iload_n hx hb dX7_force_43 rfl (lv_at hl 2 rfl) ?_
      refine lv_iload_n hx hb dX7_force_44 rfl (lv_at hl 3 rfl) ?_
      obtain ⟨g15, h⟩ := zgd_e h
      refine z_ast X hw (zI_0_1 zX0_1) g15 dX7_force_45 (fun M14 H locs eM14 hw => ?_)
      replace h := zlt_s eM14 h
      refine lv_iload_n hx hb dX7_force_46 rfl (lv_at hl 0 rfl) ?_
      exact z_ri X hw (zret h) dX7_force_47
    · replace h := zif_f c11 h
      refine lv_aload_n hx hb dX7_force_20 rfl (lv_at hl 0 rfl) ?_
      refine lv_iconst (v := 1) hx hb dX7_force_21 (by decide) ?_
      obtain ⟨r16, M17, f18, h⟩ := zbi_e h
      refine z_qVi (As := [.int (1 : Int32)]) (rest := []) X hw (kX7_error l D cy a (1 : Int32) M9 r16 M17 f18) (cwX7_61 X.2.2.2.2.2.1 rfl rfl (zroomO (Nat.le_of_ble_eq_true rfl) (Nat.le_of_ble_eq_true rfl))) (zX7_lt (rfl : zX7 0)) (zS7 (rfl : zX7 0) cy a (M9 0)) rfl rfl rfl (Nat.le_of_ble_eq_true rfl) hl.1 hcs dX7_force_22 (fun H locs hw => ?_)
      exact z_ri X hw (zret h) dX7_force_25
def fX7_weed (p0 : Int32) (p1 : Int32) (M : zM) : Option (Int32 × zM) := zbi (fX7_outside p0 (0 : Int32) (11 : Int32) M) (fun r1 M2 => if r1 = 0 then (zbi (fX7_outside p1 (0 : Int32) (9 : Int32) M2) (fun r8 M9 => if r8 = 0 then (zgd (p0 < 0 ∨ 12 ≤ p0.toNatClampNeg) (zlt (M9 3 (p0.toNatClampNeg)) (fun x13 => zgd (p0 < 0 ∨ 12 ≤ p0.toNatClampNeg) (zlt (zst M9 3 (p0.toNatClampNeg) p1) (fun M14 => some (x13, M14)))))) else (zbi (fX7_error (1 : Int32) M9) (fun r16 M17 => some (r16, M17))))) else (zbi (fX7_error (1 : Int32) M2) (fun r5 M6 => some (r5, M6))))
set_option maxRecDepth 100000 in
set_option maxHeartbeats 4000000 in
theorem kX7_weed (l : Launch) (D : va_G) (cy : Nat → ClassId) (a : Nat → Nat) (p0 : Int32) (p1 : Int32) (M : zM) (r0 : Int32) (M0 : zM) (h : fX7_weed p0 p1 M = some (r0, M0)) : zCi l D cy a yX7_weed cX7_weed 4 (some .int) (zRm 1 22) [.ref (a 0), .int p0, .int p1] M (fun r u => r = r0 ∧ u = M0) := by
  intro sz
  refine zent_i sz (by decide) (Nat.le_of_ble_eq_true rfl) rfl (fun p e s m args below meth c ls H locs X hw hl => ?_)
  obtain ⟨hx, hb, hr, hml, hown, hW, hlocks⟩ := id X
  have hE := hw.2.2.2.2.1
  have hcs : 0 ≤ ((zRm 1 22)).cells ∧ 0 ≤ ((zRm 1 22)).slots := ⟨Nat.zero_le _, Nat.zero_le _⟩
  rw [fX7_weed] at h
  refine lv_iload_n hx hb dX7_weed_0 rfl (lv_at hl 1 rfl) ?_
  refine lv_iconst (v := 0) hx hb dX7_weed_1 (by decide) ?_
  refine lv_bipush (v := 11) hx hb dX7_weed_2 (by decide) ?_
  obtain ⟨r1, M2, f3, h⟩ := zbi_e h
  refine z_qSi (As := [.int p0, .int (0 : Int32), .int (11 : Int32)]) (rest := []) X hw (kX7_outside l D cy a p0 (0 : Int32) (11 : Int32) M r1 M2 f3) (cwX7_57 X.2.2.2.2.2.1 rfl rfl (zroomO (Nat.le_of_ble_eq_true rfl) (Nat.le_of_ble_eq_true rfl))) rfl rfl (Nat.le_of_ble_eq_true rfl) hl.1 hcs dX7_weed_4 (fun H locs hw => ?_)
  refine lv_if_ne (tgt := 20) hx hb dX7_weed_7 (by decide) (fun c4 => ?_) (fun c4 => ?_)
  · replace h := zif_f c4 h
    refine lv_aload_n hx hb dX7_weed_20 rfl (lv_at hl 0 rfl) ?_
    refine lv_iconst (v := 1) hx hb dX7_weed_21 (by decide) ?_
    obtain ⟨r5, M6, f7, h⟩ := zbi_e h
    refine z_qVi (As := [.int (1 : Int32)]) (rest := []) X hw (kX7_error l D cy a (1 : Int32) M2 r5 M6 f7) (cwX7_61 X.2.2.2.2.2.1 rfl rfl (zroomO (Nat.le_of_ble_eq_true rfl) (Nat.le_of_ble_eq_true rfl))) (zX7_lt (rfl : zX7 0)) (zS7 (rfl : zX7 0) cy a (M2 0)) rfl rfl rfl (Nat.le_of_ble_eq_true rfl) hl.1 hcs dX7_weed_22 (fun H locs hw => ?_)
    exact z_ri X hw (zret h) dX7_weed_25
  · replace h := zif_t c4 h
    refine lv_iload_n hx hb dX7_weed_10 rfl (lv_at hl 2 rfl) ?_
    refine lv_iconst (v := 0) hx hb dX7_weed_11 (by decide) ?_
    refine lv_bipush (v := 9) hx hb dX7_weed_12 (by decide) ?_
    obtain ⟨r8, M9, f10, h⟩ := zbi_e h
    refine z_qSi (As := [.int p1, .int (0 : Int32), .int (9 : Int32)]) (rest := []) X hw (kX7_outside l D cy a p1 (0 : Int32) (9 : Int32) M2 r8 M9 f10) (cwX7_57 X.2.2.2.2.2.1 rfl rfl (zroomO (Nat.le_of_ble_eq_true rfl) (Nat.le_of_ble_eq_true rfl))) rfl rfl (Nat.le_of_ble_eq_true rfl) hl.1 hcs dX7_weed_14 (fun H locs hw => ?_)
    refine lv_if_eq (tgt := 26) hx hb dX7_weed_17 (by decide) (fun c11 => ?_) (fun c11 => ?_)
    · replace h := zif_t c11 h
      refine lv_aload_n hx hb dX7_weed_26 rfl (lv_at hl 0 rfl) ?_
      refine gtX7_10 X hw dX7_weed_27 ?_
      refine gtX7_68 X hw zX0_1 dX7_weed_30 ?_
      refine lv_iload_n hx hb dX7_weed_33 rfl (lv_at hl 1 rfl) ?_
      obtain ⟨g12, h⟩ := zgd_e h
      refine z_ald X hw (zI_0_2 zX0_1) g12 dX7_weed_34 ?_
      refine lv_topi (fun x13 ex13 => ?_)
      replace h := zlt_s ex13 h
      refine lv_istore_n (lv' := [(3, .int x13), (0, .ref (a 0)), (1, .int p0), (2, .int p1)]) hx hb dX7_weed_35 rfl hl (by decide) rfl (fun ls hl => ?_)
      refine lv_aload_n hx hb dX7_weed_36 rfl (lv_at hl 1 rfl) ?_
      refine gtX7_10 X hw dX7_weed_37 ?_
      refine gtX7_68 X hw zX0_1 dX7_weed_40 ?_
      refine lv_iload_n hx hb dX7_weed_43 rfl (lv_at hl 2 rfl) ?_
      refine lv_iload_n hx hb dX7_weed_44 rfl (lv_at hl 3 rfl) ?_
      obtain ⟨g15, h⟩ := zgd_e h
      refine z_ast X hw (zI_0_2 zX0_1) g15 dX7_weed_45 (fun M14 H locs eM14 hw => ?_)
      replace h := zlt_s eM14 h
      refine lv_iload_n hx hb dX7_weed_46 rfl (lv_at hl 0 rfl) ?_
      exact z_ri X hw (zret h) dX7_weed_47
    · replace h := zif_f c11 h
      refine lv_aload_n hx hb dX7_weed_20 rfl (lv_at hl 0 rfl) ?_
      refine lv_iconst (v := 1) hx hb dX7_weed_21 (by decide) ?_
      obtain ⟨r16, M17, f18, h⟩ := zbi_e h
      refine z_qVi (As := [.int (1 : Int32)]) (rest := []) X hw (kX7_error l D cy a (1 : Int32) M9 r16 M17 f18) (cwX7_61 X.2.2.2.2.2.1 rfl rfl (zroomO (Nat.le_of_ble_eq_true rfl) (Nat.le_of_ble_eq_true rfl))) (zX7_lt (rfl : zX7 0)) (zS7 (rfl : zX7 0) cy a (M9 0)) rfl rfl rfl (Nat.le_of_ble_eq_true rfl) hl.1 hcs dX7_weed_22 (fun H locs hw => ?_)
      exact z_ri X hw (zret h) dX7_weed_25
def fX7_frost (p0 : Int32) (M : zM) : Option (Int32 × zM) := zbi (fX7_outside p0 (0 : Int32) (9 : Int32) M) (fun r1 M2 => if r1 = 0 then (zlt (M2 1 11) (fun x5 => zlt (zst M2 1 11 p0) (fun M6 => some (x5, M6)))) else (zbi (fX7_error (1 : Int32) M2) (fun r7 M8 => some (r7, M8))))
set_option maxRecDepth 100000 in
set_option maxHeartbeats 4000000 in
theorem kX7_frost (l : Launch) (D : va_G) (cy : Nat → ClassId) (a : Nat → Nat) (p0 : Int32) (M : zM) (r0 : Int32) (M0 : zM) (h : fX7_frost p0 M = some (r0, M0)) : zCi l D cy a yX7_frost cX7_frost 3 (some .int) (zRm 1 22) [.ref (a 0), .int p0] M (fun r u => r = r0 ∧ u = M0) := by
  intro sz
  refine zent_i sz (by decide) (Nat.le_of_ble_eq_true rfl) rfl (fun p e s m args below meth c ls H locs X hw hl => ?_)
  obtain ⟨hx, hb, hr, hml, hown, hW, hlocks⟩ := id X
  have hE := hw.2.2.2.2.1
  have hcs : 0 ≤ ((zRm 1 22)).cells ∧ 0 ≤ ((zRm 1 22)).slots := ⟨Nat.zero_le _, Nat.zero_le _⟩
  rw [fX7_frost] at h
  refine lv_iload_n hx hb dX7_frost_0 rfl (lv_at hl 1 rfl) ?_
  refine lv_iconst (v := 0) hx hb dX7_frost_1 (by decide) ?_
  refine lv_bipush (v := 9) hx hb dX7_frost_2 (by decide) ?_
  obtain ⟨r1, M2, f3, h⟩ := zbi_e h
  refine z_qSi (As := [.int p0, .int (0 : Int32), .int (9 : Int32)]) (rest := []) X hw (kX7_outside l D cy a p0 (0 : Int32) (9 : Int32) M r1 M2 f3) (cwX7_57 X.2.2.2.2.2.1 rfl rfl (zroomO (Nat.le_of_ble_eq_true rfl) (Nat.le_of_ble_eq_true rfl))) rfl rfl (Nat.le_of_ble_eq_true rfl) hl.1 hcs dX7_frost_4 (fun H locs hw => ?_)
  refine lv_if_eq (tgt := 16) hx hb dX7_frost_7 (by decide) (fun c4 => ?_) (fun c4 => ?_)
  · replace h := zif_t c4 h
    refine lv_aload_n hx hb dX7_frost_16 rfl (lv_at hl 0 rfl) ?_
    refine gtX7_10 X hw dX7_frost_17 ?_
    refine gtX7_71 X hw zX0_1 dX7_frost_20 ?_
    refine lv_topi (fun x5 ex5 => ?_)
    replace h := zlt_s ex5 h
    refine lv_istore_n (lv' := [(2, .int x5), (0, .ref (a 0)), (1, .int p0)]) hx hb dX7_frost_23 rfl hl (by decide) rfl (fun ls hl => ?_)
    refine lv_aload_n hx hb dX7_frost_24 rfl (lv_at hl 1 rfl) ?_
    refine gtX7_10 X hw dX7_frost_25 ?_
    refine lv_iload_n hx hb dX7_frost_28 rfl (lv_at hl 2 rfl) ?_
    refine ptX7_71 X hw zX0_1 dX7_frost_29 (fun M6 H locs eM6 hw => ?_)
    replace h := zlt_s eM6 h
    refine lv_iload_n hx hb dX7_frost_32 rfl (lv_at hl 0 rfl) ?_
    exact z_ri X hw (zret h) dX7_frost_33
  · replace h := zif_f c4 h
    refine lv_aload_n hx hb dX7_frost_10 rfl (lv_at hl 0 rfl) ?_
    refine lv_iconst (v := 1) hx hb dX7_frost_11 (by decide) ?_
    obtain ⟨r7, M8, f9, h⟩ := zbi_e h
    refine z_qVi (As := [.int (1 : Int32)]) (rest := []) X hw (kX7_error l D cy a (1 : Int32) M2 r7 M8 f9) (cwX7_61 X.2.2.2.2.2.1 rfl rfl (zroomO (Nat.le_of_ble_eq_true rfl) (Nat.le_of_ble_eq_true rfl))) (zX7_lt (rfl : zX7 0)) (zS7 (rfl : zX7 0) cy a (M2 0)) rfl rfl rfl (Nat.le_of_ble_eq_true rfl) hl.1 hcs dX7_frost_12 (fun H locs hw => ?_)
    exact z_ri X hw (zret h) dX7_frost_15
def fX7_owe (p0 : Int32) (p1 : Int32) (M : zM) : Option (Int32 × zM) := zbi (fX7_outside p0 (0 : Int32) (4 : Int32) M) (fun r1 M2 => if r1 = 0 then (zbi (fX7_outside p1 (0 : Int32) (99999 : Int32) M2) (fun r8 M9 => if r8 = 0 then (zgd (p0 < 0 ∨ 5 ≤ p0.toNatClampNeg) (zlt (M9 4 (p0.toNatClampNeg)) (fun x13 => zgd (p0 < 0 ∨ 5 ≤ p0.toNatClampNeg) (zlt (zst M9 4 (p0.toNatClampNeg) p1) (fun M14 => some (x13, M14)))))) else (zbi (fX7_error (1 : Int32) M9) (fun r16 M17 => some (r16, M17))))) else (zbi (fX7_error (1 : Int32) M2) (fun r5 M6 => some (r5, M6))))
set_option maxRecDepth 100000 in
set_option maxHeartbeats 4000000 in
theorem kX7_owe (l : Launch) (D : va_G) (cy : Nat → ClassId) (a : Nat → Nat) (p0 : Int32) (p1 : Int32) (M : zM) (r0 : Int32) (M0 : zM) (h : fX7_owe p0 p1 M = some (r0, M0)) : zCi l D cy a yX7_owe cX7_owe 4 (some .int) (zRm 1 22) [.ref (a 0), .int p0, .int p1] M (fun r u => r = r0 ∧ u = M0) := by
  intro sz
  refine zent_i sz (by decide) (Nat.le_of_ble_eq_true rfl) rfl (fun p e s m args below meth c ls H locs X hw hl => ?_)
  obtain ⟨hx, hb, hr, hml, hown, hW, hlocks⟩ := id X
  have hE := hw.2.2.2.2.1
  have hcs : 0 ≤ ((zRm 1 22)).cells ∧ 0 ≤ ((zRm 1 22)).slots := ⟨Nat.zero_le _, Nat.zero_le _⟩
  rw [fX7_owe] at h
  refine lv_iload_n hx hb dX7_owe_0 rfl (lv_at hl 1 rfl) ?_
  refine lv_iconst (v := 0) hx hb dX7_owe_1 (by decide) ?_
  refine lv_iconst (v := 4) hx hb dX7_owe_2 (by decide) ?_
  obtain ⟨r1, M2, f3, h⟩ := zbi_e h
  refine z_qSi (As := [.int p0, .int (0 : Int32), .int (4 : Int32)]) (rest := []) X hw (kX7_outside l D cy a p0 (0 : Int32) (4 : Int32) M r1 M2 f3) (cwX7_57 X.2.2.2.2.2.1 rfl rfl (zroomO (Nat.le_of_ble_eq_true rfl) (Nat.le_of_ble_eq_true rfl))) rfl rfl (Nat.le_of_ble_eq_true rfl) hl.1 hcs dX7_owe_3 (fun H locs hw => ?_)
  refine lv_if_ne (tgt := 19) hx hb dX7_owe_6 (by decide) (fun c4 => ?_) (fun c4 => ?_)
  · replace h := zif_f c4 h
    refine lv_aload_n hx hb dX7_owe_19 rfl (lv_at hl 0 rfl) ?_
    refine lv_iconst (v := 1) hx hb dX7_owe_20 (by decide) ?_
    obtain ⟨r5, M6, f7, h⟩ := zbi_e h
    refine z_qVi (As := [.int (1 : Int32)]) (rest := []) X hw (kX7_error l D cy a (1 : Int32) M2 r5 M6 f7) (cwX7_61 X.2.2.2.2.2.1 rfl rfl (zroomO (Nat.le_of_ble_eq_true rfl) (Nat.le_of_ble_eq_true rfl))) (zX7_lt (rfl : zX7 0)) (zS7 (rfl : zX7 0) cy a (M2 0)) rfl rfl rfl (Nat.le_of_ble_eq_true rfl) hl.1 hcs dX7_owe_21 (fun H locs hw => ?_)
    exact z_ri X hw (zret h) dX7_owe_24
  · replace h := zif_t c4 h
    refine lv_iload_n hx hb dX7_owe_9 rfl (lv_at hl 2 rfl) ?_
    refine lv_iconst (v := 0) hx hb dX7_owe_10 (by decide) ?_
    refine z_ldc (v := 99999) X zm_7_17 dX7_owe_11 ?_
    obtain ⟨r8, M9, f10, h⟩ := zbi_e h
    refine z_qSi (As := [.int p1, .int (0 : Int32), .int (99999 : Int32)]) (rest := []) X hw (kX7_outside l D cy a p1 (0 : Int32) (99999 : Int32) M2 r8 M9 f10) (cwX7_57 X.2.2.2.2.2.1 rfl rfl (zroomO (Nat.le_of_ble_eq_true rfl) (Nat.le_of_ble_eq_true rfl))) rfl rfl (Nat.le_of_ble_eq_true rfl) hl.1 hcs dX7_owe_13 (fun H locs hw => ?_)
    refine lv_if_eq (tgt := 25) hx hb dX7_owe_16 (by decide) (fun c11 => ?_) (fun c11 => ?_)
    · replace h := zif_t c11 h
      refine lv_aload_n hx hb dX7_owe_25 rfl (lv_at hl 0 rfl) ?_
      refine gtX7_10 X hw dX7_owe_26 ?_
      refine gtX7_76 X hw zX0_1 dX7_owe_29 ?_
      refine lv_iload_n hx hb dX7_owe_32 rfl (lv_at hl 1 rfl) ?_
      obtain ⟨g12, h⟩ := zgd_e h
      refine z_ald X hw (zI_0_3 zX0_1) g12 dX7_owe_33 ?_
      refine lv_topi (fun x13 ex13 => ?_)
      replace h := zlt_s ex13 h
      refine lv_istore_n (lv' := [(3, .int x13), (0, .ref (a 0)), (1, .int p0), (2, .int p1)]) hx hb dX7_owe_34 rfl hl (by decide) rfl (fun ls hl => ?_)
      refine lv_aload_n hx hb dX7_owe_35 rfl (lv_at hl 1 rfl) ?_
      refine gtX7_10 X hw dX7_owe_36 ?_
      refine gtX7_76 X hw zX0_1 dX7_owe_39 ?_
      refine lv_iload_n hx hb dX7_owe_42 rfl (lv_at hl 2 rfl) ?_
      refine lv_iload_n hx hb dX7_owe_43 rfl (lv_at hl 3 rfl) ?_
      obtain ⟨g15, h⟩ := zgd_e h
      refine z_ast X hw (zI_0_3 zX0_1) g15 dX7_owe_44 (fun M14 H locs eM14 hw => ?_)
      replace h := zlt_s eM14 h
      refine lv_iload_n hx hb dX7_owe_45 rfl (lv_at hl 0 rfl) ?_
      exact z_ri X hw (zret h) dX7_owe_46
    · replace h := zif_f c11 h
      refine lv_aload_n hx hb dX7_owe_19 rfl (lv_at hl 0 rfl) ?_
      refine lv_iconst (v := 1) hx hb dX7_owe_20 (by decide) ?_
      obtain ⟨r16, M17, f18, h⟩ := zbi_e h
      refine z_qVi (As := [.int (1 : Int32)]) (rest := []) X hw (kX7_error l D cy a (1 : Int32) M9 r16 M17 f18) (cwX7_61 X.2.2.2.2.2.1 rfl rfl (zroomO (Nat.le_of_ble_eq_true rfl) (Nat.le_of_ble_eq_true rfl))) (zX7_lt (rfl : zX7 0)) (zS7 (rfl : zX7 0) cy a (M9 0)) rfl rfl rfl (Nat.le_of_ble_eq_true rfl) hl.1 hcs dX7_owe_21 (fun H locs hw => ?_)
      exact z_ri X hw (zret h) dX7_owe_24
def fX7_familyIs (p0 : Int32) (p1 : Int32) (M : zM) : Option (Int32 × zM) := zbi (fX7_outside p0 (0 : Int32) (4 : Int32) M) (fun r1 M2 => if r1 = 0 then (zbi (fX7_outside p1 (0 : Int32) (3 : Int32) M2) (fun r8 M9 => if r8 = 0 then (zbi (fX0_familyPart 1 p0 p1 M9) (fun r12 M13 => some (r12, M13))) else (zbi (fX7_error (1 : Int32) M9) (fun r15 M16 => some (r15, M16))))) else (zbi (fX7_error (1 : Int32) M2) (fun r5 M6 => some (r5, M6))))
set_option maxRecDepth 100000 in
set_option maxHeartbeats 4000000 in
theorem kX7_familyIs (l : Launch) (D : va_G) (cy : Nat → ClassId) (a : Nat → Nat) (p0 : Int32) (p1 : Int32) (M : zM) (r0 : Int32) (M0 : zM) (h : fX7_familyIs p0 p1 M = some (r0, M0)) : zCi l D cy a yX7_familyIs cX7_familyIs 3 (some .int) (zRm 2 45) [.ref (a 0), .int p0, .int p1] M (fun r u => r = r0 ∧ u = M0) := by
  intro sz
  refine zent_i sz (by decide) (Nat.le_of_ble_eq_true rfl) rfl (fun p e s m args below meth c ls H locs X hw hl => ?_)
  obtain ⟨hx, hb, hr, hml, hown, hW, hlocks⟩ := id X
  have hE := hw.2.2.2.2.1
  have hcs : 0 ≤ ((zRm 2 45)).cells ∧ 0 ≤ ((zRm 2 45)).slots := ⟨Nat.zero_le _, Nat.zero_le _⟩
  rw [fX7_familyIs] at h
  refine lv_iload_n hx hb dX7_familyIs_0 rfl (lv_at hl 1 rfl) ?_
  refine lv_iconst (v := 0) hx hb dX7_familyIs_1 (by decide) ?_
  refine lv_iconst (v := 4) hx hb dX7_familyIs_2 (by decide) ?_
  obtain ⟨r1, M2, f3, h⟩ := zbi_e h
  refine z_qSi (As := [.int p0, .int (0 : Int32), .int (4 : Int32)]) (rest := []) X hw (kX7_outside l D cy a p0 (0 : Int32) (4 : Int32) M r1 M2 f3) (cwX7_57 X.2.2.2.2.2.1 rfl rfl (zroomO (Nat.le_of_ble_eq_true rfl) (Nat.le_of_ble_eq_true rfl))) rfl rfl (Nat.le_of_ble_eq_true rfl) hl.1 hcs dX7_familyIs_3 (fun H locs hw => ?_)
  refine lv_if_ne (tgt := 18) hx hb dX7_familyIs_6 (by decide) (fun c4 => ?_) (fun c4 => ?_)
  · replace h := zif_f c4 h
    refine lv_aload_n hx hb dX7_familyIs_18 rfl (lv_at hl 0 rfl) ?_
    refine lv_iconst (v := 1) hx hb dX7_familyIs_19 (by decide) ?_
    obtain ⟨r5, M6, f7, h⟩ := zbi_e h
    refine z_qVi (As := [.int (1 : Int32)]) (rest := []) X hw (kX7_error l D cy a (1 : Int32) M2 r5 M6 f7) (cwX7_61 X.2.2.2.2.2.1 rfl rfl (zroomO (Nat.le_of_ble_eq_true rfl) (Nat.le_of_ble_eq_true rfl))) (zX7_lt (rfl : zX7 0)) (zS7 (rfl : zX7 0) cy a (M2 0)) rfl rfl rfl (Nat.le_of_ble_eq_true rfl) hl.1 hcs dX7_familyIs_20 (fun H locs hw => ?_)
    exact z_ri X hw (zret h) dX7_familyIs_23
  · replace h := zif_t c4 h
    refine lv_iload_n hx hb dX7_familyIs_9 rfl (lv_at hl 2 rfl) ?_
    refine lv_iconst (v := 0) hx hb dX7_familyIs_10 (by decide) ?_
    refine lv_iconst (v := 3) hx hb dX7_familyIs_11 (by decide) ?_
    obtain ⟨r8, M9, f10, h⟩ := zbi_e h
    refine z_qSi (As := [.int p1, .int (0 : Int32), .int (3 : Int32)]) (rest := []) X hw (kX7_outside l D cy a p1 (0 : Int32) (3 : Int32) M2 r8 M9 f10) (cwX7_57 X.2.2.2.2.2.1 rfl rfl (zroomO (Nat.le_of_ble_eq_true rfl) (Nat.le_of_ble_eq_true rfl))) rfl rfl (Nat.le_of_ble_eq_true rfl) hl.1 hcs dX7_familyIs_12 (fun H locs hw => ?_)
    refine lv_if_eq (tgt := 24) hx hb dX7_familyIs_15 (by decide) (fun c11 => ?_) (fun c11 => ?_)
    · replace h := zif_t c11 h
      refine lv_aload_n hx hb dX7_familyIs_24 rfl (lv_at hl 0 rfl) ?_
      refine gtX7_10 X hw dX7_familyIs_25 ?_
      refine lv_iload_n hx hb dX7_familyIs_28 rfl (lv_at hl 1 rfl) ?_
      refine lv_iload_n hx hb dX7_familyIs_29 rfl (lv_at hl 2 rfl) ?_
      obtain ⟨r12, M13, f14, h⟩ := zbi_e h
      refine z_qVi (As := [.int p0, .int p1]) (rest := []) X hw (kX0_familyPart l D cy a 1 zX0_1 p0 p1 M9 r12 M13 f14) (cwX7_79 X.2.2.2.2.2.1 rfl rfl (zroomO (Nat.le_of_ble_eq_true rfl) (Nat.le_of_ble_eq_true rfl))) (zX0_lt zX0_1) (zS0 zX0_1 cy a (M9 1)) rfl rfl rfl (Nat.le_of_ble_eq_true rfl) hl.1 hcs dX7_familyIs_30 (fun H locs hw => ?_)
      exact z_ri X hw (zret h) dX7_familyIs_33
    · replace h := zif_f c11 h
      refine lv_aload_n hx hb dX7_familyIs_18 rfl (lv_at hl 0 rfl) ?_
      refine lv_iconst (v := 1) hx hb dX7_familyIs_19 (by decide) ?_
      obtain ⟨r15, M16, f17, h⟩ := zbi_e h
      refine z_qVi (As := [.int (1 : Int32)]) (rest := []) X hw (kX7_error l D cy a (1 : Int32) M9 r15 M16 f17) (cwX7_61 X.2.2.2.2.2.1 rfl rfl (zroomO (Nat.le_of_ble_eq_true rfl) (Nat.le_of_ble_eq_true rfl))) (zX7_lt (rfl : zX7 0)) (zS7 (rfl : zX7 0) cy a (M9 0)) rfl rfl rfl (Nat.le_of_ble_eq_true rfl) hl.1 hcs dX7_familyIs_20 (fun H locs hw => ?_)
      exact z_ri X hw (zret h) dX7_familyIs_23
def fX7_wheel (p0 : Int32) (p1 : Int32) (M : zM) : Option (Int32 × zM) := zbi (fX7_outside p0 (0 : Int32) (69 : Int32) M) (fun r1 M2 => if r1 = 0 then (zbi (fX7_outside p1 (0 : Int32) (119 : Int32) M2) (fun r8 M9 => if r8 = 0 then (zlt (zrem p1 (10 : Int32)) (fun x15 => zbi (fX7_outside x15 (0 : Int32) (4 : Int32) M9) (fun r16 M17 => if r16 = 0 then (if M17 1 9 < (8 : Int32) then (zlt (zrem p1 (10 : Int32)) (fun x21 => zbv (fX0_addWheel 1 p0 (p1 / (10 : Int32)) x21 M17) (fun M23 => some ((M23 1 9) - (1 : Int32), M23)))) else (zbi (fX7_error (4 : Int32) M17) (fun r25 M26 => some (r25, M26)))) else (zbi (fX7_error (1 : Int32) M17) (fun r28 M29 => some (r28, M29)))))) else (zbi (fX7_error (1 : Int32) M9) (fun r12 M13 => some (r12, M13))))) else (zbi (fX7_error (1 : Int32) M2) (fun r5 M6 => some (r5, M6))))
set_option maxRecDepth 100000 in
set_option maxHeartbeats 4000000 in
theorem kX7_wheel (l : Launch) (D : va_G) (cy : Nat → ClassId) (a : Nat → Nat) (p0 : Int32) (p1 : Int32) (M : zM) (r0 : Int32) (M0 : zM) (h : fX7_wheel p0 p1 M = some (r0, M0)) : zCi l D cy a yX7_wheel cX7_wheel 3 (some .int) (zRm 1 24) [.ref (a 0), .int p0, .int p1] M (fun r u => r = r0 ∧ u = M0) := by
  intro sz
  refine zent_i sz (by decide) (Nat.le_of_ble_eq_true rfl) rfl (fun p e s m args below meth c ls H locs X hw hl => ?_)
  obtain ⟨hx, hb, hr, hml, hown, hW, hlocks⟩ := id X
  have hE := hw.2.2.2.2.1
  have hcs : 0 ≤ ((zRm 1 24)).cells ∧ 0 ≤ ((zRm 1 24)).slots := ⟨Nat.zero_le _, Nat.zero_le _⟩
  rw [fX7_wheel] at h
  refine lv_iload_n hx hb dX7_wheel_0 rfl (lv_at hl 1 rfl) ?_
  refine lv_iconst (v := 0) hx hb dX7_wheel_1 (by decide) ?_
  refine lv_bipush (v := 69) hx hb dX7_wheel_2 (by decide) ?_
  obtain ⟨r1, M2, f3, h⟩ := zbi_e h
  refine z_qSi (As := [.int p0, .int (0 : Int32), .int (69 : Int32)]) (rest := []) X hw (kX7_outside l D cy a p0 (0 : Int32) (69 : Int32) M r1 M2 f3) (cwX7_57 X.2.2.2.2.2.1 rfl rfl (zroomO (Nat.le_of_ble_eq_true rfl) (Nat.le_of_ble_eq_true rfl))) rfl rfl (Nat.le_of_ble_eq_true rfl) hl.1 hcs dX7_wheel_4 (fun H locs hw => ?_)
  refine lv_if_ne (tgt := 32) hx hb dX7_wheel_7 (by decide) (fun c4 => ?_) (fun c4 => ?_)
  · replace h := zif_f c4 h
    refine lv_aload_n hx hb dX7_wheel_32 rfl (lv_at hl 0 rfl) ?_
    refine lv_iconst (v := 1) hx hb dX7_wheel_33 (by decide) ?_
    obtain ⟨r5, M6, f7, h⟩ := zbi_e h
    refine z_qVi (As := [.int (1 : Int32)]) (rest := []) X hw (kX7_error l D cy a (1 : Int32) M2 r5 M6 f7) (cwX7_61 X.2.2.2.2.2.1 rfl rfl (zroomO (Nat.le_of_ble_eq_true rfl) (Nat.le_of_ble_eq_true rfl))) (zX7_lt (rfl : zX7 0)) (zS7 (rfl : zX7 0) cy a (M2 0)) rfl rfl rfl (Nat.le_of_ble_eq_true rfl) hl.1 hcs dX7_wheel_34 (fun H locs hw => ?_)
    exact z_ri X hw (zret h) dX7_wheel_37
  · replace h := zif_t c4 h
    refine lv_iload_n hx hb dX7_wheel_10 rfl (lv_at hl 2 rfl) ?_
    refine lv_iconst (v := 0) hx hb dX7_wheel_11 (by decide) ?_
    refine lv_bipush (v := 119) hx hb dX7_wheel_12 (by decide) ?_
    obtain ⟨r8, M9, f10, h⟩ := zbi_e h
    refine z_qSi (As := [.int p1, .int (0 : Int32), .int (119 : Int32)]) (rest := []) X hw (kX7_outside l D cy a p1 (0 : Int32) (119 : Int32) M2 r8 M9 f10) (cwX7_57 X.2.2.2.2.2.1 rfl rfl (zroomO (Nat.le_of_ble_eq_true rfl) (Nat.le_of_ble_eq_true rfl))) rfl rfl (Nat.le_of_ble_eq_true rfl) hl.1 hcs dX7_wheel_14 (fun H locs hw => ?_)
    refine lv_if_ne (tgt := 32) hx hb dX7_wheel_17 (by decide) (fun c11 => ?_) (fun c11 => ?_)
    · replace h := zif_f c11 h
      refine lv_aload_n hx hb dX7_wheel_32 rfl (lv_at hl 0 rfl) ?_
      refine lv_iconst (v := 1) hx hb dX7_wheel_33 (by decide) ?_
      obtain ⟨r12, M13, f14, h⟩ := zbi_e h
      refine z_qVi (As := [.int (1 : Int32)]) (rest := []) X hw (kX7_error l D cy a (1 : Int32) M9 r12 M13 f14) (cwX7_61 X.2.2.2.2.2.1 rfl rfl (zroomO (Nat.le_of_ble_eq_true rfl) (Nat.le_of_ble_eq_true rfl))) (zX7_lt (rfl : zX7 0)) (zS7 (rfl : zX7 0) cy a (M9 0)) rfl rfl rfl (Nat.le_of_ble_eq_true rfl) hl.1 hcs dX7_wheel_34 (fun H locs hw => ?_)
      exact z_ri X hw (zret h) dX7_wheel_37
    · replace h := zif_t c11 h
      refine lv_iload_n hx hb dX7_wheel_20 rfl (lv_at hl 2 rfl) ?_
      refine lv_bipush (v := 10) hx hb dX7_wheel_21 (by decide) ?_
      refine lv_irem hx hb dX7_wheel_23 (by decide) ?_
      refine lv_topi (fun x15 ex15 => ?_)
      replace h := zlt_s ex15 h
      refine lv_iconst (v := 0) hx hb dX7_wheel_24 (by decide) ?_
      refine lv_iconst (v := 4) hx hb dX7_wheel_25 (by decide) ?_
      obtain ⟨r16, M17, f18, h⟩ := zbi_e h
      refine z_qSi (As := [.int x15, .int (0 : Int32), .int (4 : Int32)]) (rest := []) X hw (kX7_outside l D cy a x15 (0 : Int32) (4 : Int32) M9 r16 M17 f18) (cwX7_57 X.2.2.2.2.2.1 rfl rfl (zroomO (Nat.le_of_ble_eq_true rfl) (Nat.le_of_ble_eq_true rfl))) rfl rfl (Nat.le_of_ble_eq_true rfl) hl.1 hcs dX7_wheel_26 (fun H locs hw => ?_)
      refine lv_if_eq (tgt := 38) hx hb dX7_wheel_29 (by decide) (fun c19 => ?_) (fun c19 => ?_)
      · replace h := zif_t c19 h
        refine lv_aload_n hx hb dX7_wheel_38 rfl (lv_at hl 0 rfl) ?_
        refine gtX7_10 X hw dX7_wheel_39 ?_
        refine gtX7_83 X hw zX0_1 dX7_wheel_42 ?_
        refine lv_bipush (v := 8) hx hb dX7_wheel_45 (by decide) ?_
        refine lv_icmp_lt (tgt := 56) hx hb dX7_wheel_47 (by decide) (fun c20 => ?_) (fun c20 => ?_)
        · replace h := zif_t c20 h
          refine lv_aload_n hx hb dX7_wheel_56 rfl (lv_at hl 0 rfl) ?_
          refine gtX7_10 X hw dX7_wheel_57 ?_
          refine lv_iload_n hx hb dX7_wheel_60 rfl (lv_at hl 1 rfl) ?_
          refine lv_iload_n hx hb dX7_wheel_61 rfl (lv_at hl 2 rfl) ?_
          refine lv_bipush (v := 10) hx hb dX7_wheel_62 (by decide) ?_
          refine lv_idiv hx hb dX7_wheel_64 (by decide) ?_
          refine lv_iload_n hx hb dX7_wheel_65 rfl (lv_at hl 2 rfl) ?_
          refine lv_bipush (v := 10) hx hb dX7_wheel_66 (by decide) ?_
          refine lv_irem hx hb dX7_wheel_68 (by decide) ?_
          refine lv_topi (fun x21 ex21 => ?_)
          replace h := zlt_s ex21 h
          obtain ⟨M23, f24, h⟩ := zbv_e h
          refine z_qVv (As := [.int p0, .int (p1 / (10 : Int32)), .int x21]) (rest := []) X hw (kX0_addWheel l D cy a 1 zX0_1 p0 (p1 / (10 : Int32)) x21 M17 M23 f24) (cwX7_86 X.2.2.2.2.2.1 rfl rfl (zroomO (Nat.le_of_ble_eq_true rfl) (Nat.le_of_ble_eq_true rfl))) (zX0_lt zX0_1) (zS0 zX0_1 cy a (M17 1)) rfl rfl rfl (Nat.le_of_ble_eq_true rfl) hl.1 hcs dX7_wheel_69 (fun H locs hw => ?_)
          refine lv_aload_n hx hb dX7_wheel_72 rfl (lv_at hl 0 rfl) ?_
          refine gtX7_10 X hw dX7_wheel_73 ?_
          refine gtX7_83 X hw zX0_1 dX7_wheel_76 ?_
          refine lv_iconst (v := 1) hx hb dX7_wheel_79 (by decide) ?_
          refine lv_isub hx hb dX7_wheel_80 ?_
          exact z_ri X hw (zret h) dX7_wheel_81
        · replace h := zif_f c20 h
          refine lv_aload_n hx hb dX7_wheel_50 rfl (lv_at hl 0 rfl) ?_
          refine lv_iconst (v := 4) hx hb dX7_wheel_51 (by decide) ?_
          obtain ⟨r25, M26, f27, h⟩ := zbi_e h
          refine z_qVi (As := [.int (4 : Int32)]) (rest := []) X hw (kX7_error l D cy a (4 : Int32) M17 r25 M26 f27) (cwX7_61 X.2.2.2.2.2.1 rfl rfl (zroomO (Nat.le_of_ble_eq_true rfl) (Nat.le_of_ble_eq_true rfl))) (zX7_lt (rfl : zX7 0)) (zS7 (rfl : zX7 0) cy a (M17 0)) rfl rfl rfl (Nat.le_of_ble_eq_true rfl) hl.1 hcs dX7_wheel_52 (fun H locs hw => ?_)
          exact z_ri X hw (zret h) dX7_wheel_55
      · replace h := zif_f c19 h
        refine lv_aload_n hx hb dX7_wheel_32 rfl (lv_at hl 0 rfl) ?_
        refine lv_iconst (v := 1) hx hb dX7_wheel_33 (by decide) ?_
        obtain ⟨r28, M29, f30, h⟩ := zbi_e h
        refine z_qVi (As := [.int (1 : Int32)]) (rest := []) X hw (kX7_error l D cy a (1 : Int32) M17 r28 M29 f30) (cwX7_61 X.2.2.2.2.2.1 rfl rfl (zroomO (Nat.le_of_ble_eq_true rfl) (Nat.le_of_ble_eq_true rfl))) (zX7_lt (rfl : zX7 0)) (zS7 (rfl : zX7 0) cy a (M17 0)) rfl rfl rfl (Nat.le_of_ble_eq_true rfl) hl.1 hcs dX7_wheel_34 (fun H locs hw => ?_)
        exact z_ri X hw (zret h) dX7_wheel_37
def fX7_noWheel (p0 : Int32) (M : zM) : Option (Int32 × zM) := zbi (fX7_outside p0 (0 : Int32) ((M 1 9) - (1 : Int32)) M) (fun r1 M2 => zgd (¬ (r1 = 0 ∨ r1 = 1)) (some (r1, M2)))
set_option maxRecDepth 100000 in
set_option maxHeartbeats 4000000 in
theorem kX7_noWheel (l : Launch) (D : va_G) (cy : Nat → ClassId) (a : Nat → Nat) (p0 : Int32) (M : zM) (r0 : Int32) (M0 : zM) (h : fX7_noWheel p0 M = some (r0, M0)) : zCi l D cy a yX7_noWheel cX7_noWheel 2 (some .boolean) (zRm 1 22) [.ref (a 0), .int p0] M (fun r u => r = r0 ∧ u = M0) := by
  intro sz
  refine zent_i sz (by decide) (Nat.le_of_ble_eq_true rfl) rfl (fun p e s m args below meth c ls H locs X hw hl => ?_)
  obtain ⟨hx, hb, hr, hml, hown, hW, hlocks⟩ := id X
  have hE := hw.2.2.2.2.1
  have hcs : 0 ≤ ((zRm 1 22)).cells ∧ 0 ≤ ((zRm 1 22)).slots := ⟨Nat.zero_le _, Nat.zero_le _⟩
  rw [fX7_noWheel] at h
  refine lv_iload_n hx hb dX7_noWheel_0 rfl (lv_at hl 1 rfl) ?_
  refine lv_iconst (v := 0) hx hb dX7_noWheel_1 (by decide) ?_
  refine lv_aload_n hx hb dX7_noWheel_2 rfl (lv_at hl 0 rfl) ?_
  refine gtX7_10 X hw dX7_noWheel_3 ?_
  refine gtX7_83 X hw zX0_1 dX7_noWheel_6 ?_
  refine lv_iconst (v := 1) hx hb dX7_noWheel_9 (by decide) ?_
  refine lv_isub hx hb dX7_noWheel_10 ?_
  obtain ⟨r1, M2, f3, h⟩ := zbi_e h
  refine z_qSi (As := [.int p0, .int (0 : Int32), .int ((M 1 9) - (1 : Int32))]) (rest := []) X hw (kX7_outside l D cy a p0 (0 : Int32) ((M 1 9) - (1 : Int32)) M r1 M2 f3) (cwX7_57 X.2.2.2.2.2.1 rfl rfl (zroomO (Nat.le_of_ble_eq_true rfl) (Nat.le_of_ble_eq_true rfl))) rfl rfl (Nat.le_of_ble_eq_true rfl) hl.1 hcs dX7_noWheel_11 (fun H locs hw => ?_)
  obtain ⟨g4, h⟩ := zgd_e h
  exact z_rz X hw (Decidable.not_not.mp g4) (zret h) dX7_noWheel_14
def fX7_wheelIs (p0 : Int32) (p1 : Int32) (M : zM) : Option (Int32 × zM) := zbi (fX7_noWheel p0 M) (fun r1 M2 => if r1 = 0 then (zbi (fX7_outside p1 (0 : Int32) (9 : Int32) M2) (fun r8 M9 => if r8 = 0 then (zbi (fX0_wheelPart 1 p0 p1 M9) (fun r12 M13 => some (r12, M13))) else (zbi (fX7_error (1 : Int32) M9) (fun r15 M16 => some (r15, M16))))) else (zbi (fX7_error (1 : Int32) M2) (fun r5 M6 => some (r5, M6))))
set_option maxRecDepth 100000 in
set_option maxHeartbeats 4000000 in
theorem kX7_wheelIs (l : Launch) (D : va_G) (cy : Nat → ClassId) (a : Nat → Nat) (p0 : Int32) (p1 : Int32) (M : zM) (r0 : Int32) (M0 : zM) (h : fX7_wheelIs p0 p1 M = some (r0, M0)) : zCi l D cy a yX7_wheelIs cX7_wheelIs 3 (some .int) (zRm 6 139) [.ref (a 0), .int p0, .int p1] M (fun r u => r = r0 ∧ u = M0) := by
  intro sz
  refine zent_i sz (by decide) (Nat.le_of_ble_eq_true rfl) rfl (fun p e s m args below meth c ls H locs X hw hl => ?_)
  obtain ⟨hx, hb, hr, hml, hown, hW, hlocks⟩ := id X
  have hE := hw.2.2.2.2.1
  have hcs : 0 ≤ ((zRm 6 139)).cells ∧ 0 ≤ ((zRm 6 139)).slots := ⟨Nat.zero_le _, Nat.zero_le _⟩
  rw [fX7_wheelIs] at h
  refine lv_aload_n hx hb dX7_wheelIs_0 rfl (lv_at hl 0 rfl) ?_
  refine lv_iload_n hx hb dX7_wheelIs_1 rfl (lv_at hl 1 rfl) ?_
  obtain ⟨r1, M2, f3, h⟩ := zbi_e h
  refine z_qVi (As := [.int p0]) (rest := []) X hw (kX7_noWheel l D cy a p0 M r1 M2 f3) (cwX7_90 X.2.2.2.2.2.1 rfl rfl (zroomO (Nat.le_of_ble_eq_true rfl) (Nat.le_of_ble_eq_true rfl))) (zX7_lt (rfl : zX7 0)) (zS7 (rfl : zX7 0) cy a (M 0)) rfl rfl rfl (Nat.le_of_ble_eq_true rfl) hl.1 hcs dX7_wheelIs_2 (fun H locs hw => ?_)
  refine lv_if_ne (tgt := 18) hx hb dX7_wheelIs_5 (by decide) (fun c4 => ?_) (fun c4 => ?_)
  · replace h := zif_f c4 h
    refine lv_aload_n hx hb dX7_wheelIs_18 rfl (lv_at hl 0 rfl) ?_
    refine lv_iconst (v := 1) hx hb dX7_wheelIs_19 (by decide) ?_
    obtain ⟨r5, M6, f7, h⟩ := zbi_e h
    refine z_qVi (As := [.int (1 : Int32)]) (rest := []) X hw (kX7_error l D cy a (1 : Int32) M2 r5 M6 f7) (cwX7_61 X.2.2.2.2.2.1 rfl rfl (zroomO (Nat.le_of_ble_eq_true rfl) (Nat.le_of_ble_eq_true rfl))) (zX7_lt (rfl : zX7 0)) (zS7 (rfl : zX7 0) cy a (M2 0)) rfl rfl rfl (Nat.le_of_ble_eq_true rfl) hl.1 hcs dX7_wheelIs_20 (fun H locs hw => ?_)
    exact z_ri X hw (zret h) dX7_wheelIs_23
  · replace h := zif_t c4 h
    refine lv_iload_n hx hb dX7_wheelIs_8 rfl (lv_at hl 2 rfl) ?_
    refine lv_iconst (v := 0) hx hb dX7_wheelIs_9 (by decide) ?_
    refine lv_bipush (v := 9) hx hb dX7_wheelIs_10 (by decide) ?_
    obtain ⟨r8, M9, f10, h⟩ := zbi_e h
    refine z_qSi (As := [.int p1, .int (0 : Int32), .int (9 : Int32)]) (rest := []) X hw (kX7_outside l D cy a p1 (0 : Int32) (9 : Int32) M2 r8 M9 f10) (cwX7_57 X.2.2.2.2.2.1 rfl rfl (zroomO (Nat.le_of_ble_eq_true rfl) (Nat.le_of_ble_eq_true rfl))) rfl rfl (Nat.le_of_ble_eq_true rfl) hl.1 hcs dX7_wheelIs_12 (fun H locs hw => ?_)
    refine lv_if_eq (tgt := 24) hx hb dX7_wheelIs_15 (by decide) (fun c11 => ?_) (fun c11 => ?_)
    · replace h := zif_t c11 h
      refine lv_aload_n hx hb dX7_wheelIs_24 rfl (lv_at hl 0 rfl) ?_
      refine gtX7_10 X hw dX7_wheelIs_25 ?_
      refine lv_iload_n hx hb dX7_wheelIs_28 rfl (lv_at hl 1 rfl) ?_
      refine lv_iload_n hx hb dX7_wheelIs_29 rfl (lv_at hl 2 rfl) ?_
      obtain ⟨r12, M13, f14, h⟩ := zbi_e h
      refine z_qVi (As := [.int p0, .int p1]) (rest := []) X hw (kX0_wheelPart l D cy a 1 zX0_1 p0 p1 M9 r12 M13 f14) (cwX7_94 X.2.2.2.2.2.1 rfl rfl (zroomO (Nat.le_of_ble_eq_true rfl) (Nat.le_of_ble_eq_true rfl))) (zX0_lt zX0_1) (zS0 zX0_1 cy a (M9 1)) rfl rfl rfl (Nat.le_of_ble_eq_true rfl) hl.1 hcs dX7_wheelIs_30 (fun H locs hw => ?_)
      exact z_ri X hw (zret h) dX7_wheelIs_33
    · replace h := zif_f c11 h
      refine lv_aload_n hx hb dX7_wheelIs_18 rfl (lv_at hl 0 rfl) ?_
      refine lv_iconst (v := 1) hx hb dX7_wheelIs_19 (by decide) ?_
      obtain ⟨r15, M16, f17, h⟩ := zbi_e h
      refine z_qVi (As := [.int (1 : Int32)]) (rest := []) X hw (kX7_error l D cy a (1 : Int32) M9 r15 M16 f17) (cwX7_61 X.2.2.2.2.2.1 rfl rfl (zroomO (Nat.le_of_ble_eq_true rfl) (Nat.le_of_ble_eq_true rfl))) (zX7_lt (rfl : zX7 0)) (zS7 (rfl : zX7 0) cy a (M9 0)) rfl rfl rfl (Nat.le_of_ble_eq_true rfl) hl.1 hcs dX7_wheelIs_20 (fun H locs hw => ?_)
      exact z_ri X hw (zret h) dX7_wheelIs_23
def fX7_isUnder_4 (y1 : Int32) (k : Int32 → zM → Option (Int32 × zM)) : Nat → Int32 → Int32 → zM → Option (Int32 × zM)
  | 0, _, _, _ => none
  | n + 1, v2, v3, M => if (7 : Int32) ≤ v3 then (k v2 M) else (if v2 = y1 then (k v2 M) else (zgd (v2 < 0 ∨ 7 ≤ v2.toNatClampNeg) (zlt (zABOVE (v2.toNatClampNeg)) (fun x5 => zlt (v3 + (1 : Int32)) (fun x6 => fX7_isUnder_4 y1 k n x5 x6 M)))))
set_option maxRecDepth 100000 in
set_option maxHeartbeats 4000000 in
theorem lX7_isUnder_4 {p : Program} {l : Launch} {e : Env} {s : State} {m : MethodId} {args : Array Value} {below : List Frame} {meth : Method} {c : Code} {D : va_G} {cy : Nat → ClassId} {a : Nat → Nat} {r0 : Int32} {M0 : zM} (X : zCX p s m meth c args cX7_isUnder 4 (some .boolean) RX7) (y1 : Int32) (k : Int32 → zM → Option (Int32 × zM)) : ∀ (n : Nat) (v2 : Int32) (v3 : Int32) (M : zM) (H : Heap) (locs : List Loc) (ls : Array Slot), zWD D cy a (zfr a s.heap.size) M H locs s → lv_has ls 4 [(1, .int y1), (2, .int v2), (3, .int v3)] → fX7_isUnder_4 y1 k n v2 v3 M = some (r0, M0) →
    (∀ (u2 : Int32) (M' : zM) (H' : Heap) (locs' : List Loc) (ls' : Array Slot), zWD D cy a (zfr a s.heap.size) M' H' locs' s → lv_has ls' 4 [(1, .int y1), (2, .int u2)] → k u2 M' = some (r0, M0) → W p l e (zRm 0 0) s m args below meth c H' locs' 0 0 (zQi D cy a s args below r0 M0) (F0 m 27 ls' [])) →
    W p l e (zRm 0 0) s m args below meth c H locs 0 0 (zQi D cy a s args below r0 M0) (F0 m 4 ls []) := by
  obtain ⟨hx, hb, hr, hml, hown, hW, hlocks⟩ := id X
  have hcs : 0 ≤ ((zRm 0 0)).cells ∧ 0 ≤ ((zRm 0 0)).slots := ⟨Nat.zero_le _, Nat.zero_le _⟩
  intro n
  induction n with
  | zero =>
    intro v2 v3 M H locs ls hw hl h hk
    cases h
  | succ n ih =>
    intro v2 v3 M H locs ls hw hl h hk
    have hE := hw.2.2.2.2.1
    rw [fX7_isUnder_4] at h
    refine lv_iload_n hx hb dX7_isUnder_4 rfl (lv_at hl 2 rfl) ?_
    refine lv_bipush (v := 7) hx hb dX7_isUnder_5 (by decide) ?_
    refine lv_icmp_ge (tgt := 27) hx hb dX7_isUnder_7 (by decide) (fun c1 => ?_) (fun c1 => ?_)
    · replace h := zif_t c1 h
      exact hk v2 M H locs _ hw (lv_sub hl [0, 1] rfl) h
    · replace h := zif_f c1 h
      refine lv_iload_n hx hb dX7_isUnder_10 rfl (lv_at hl 1 rfl) ?_
      refine lv_iload_n hx hb dX7_isUnder_11 rfl (lv_at hl 0 rfl) ?_
      refine lv_icmp_eq (tgt := 27) hx hb dX7_isUnder_12 (by decide) (fun c2 => ?_) (fun c2 => ?_)
      · replace h := zif_t c2 h
        exact hk v2 M H locs _ hw (lv_sub hl [0, 1] rfl) h
      · replace h := zif_f c2 h
        refine z_tabA (n := 0) (i := 0) X hw hE.2.1 zm_17_3 dX7_isUnder_15 (fun t3 hTt3 => ?_)
        refine lv_iload_n hx hb dX7_isUnder_18 rfl (lv_at hl 1 rfl) ?_
        obtain ⟨g4, h⟩ := zgd_e h
        refine z_tald X hw hTt3 g4 dX7_isUnder_19 ?_
        refine lv_topi (fun x5 ex5 => ?_)
        replace h := zlt_s ex5 h
        refine lv_istore_n (lv' := [(2, .int x5), (1, .int y1), (3, .int v3)]) hx hb dX7_isUnder_20 rfl hl (by decide) rfl (fun ls hl => ?_)
        obtain ⟨x6, ex6⟩ : ∃ y : Int32, y = v3 + (1 : Int32) := ⟨_, rfl⟩
        replace h := zlt_s ex6 h
        refine lv_iinc (v := x6) (lv' := [(3, .int x6), (2, .int x5), (1, .int y1)]) hx hb dX7_isUnder_21 hl (k := 2) rfl (by rw [ex6]; rfl) (by decide) rfl (fun ls hl => ?_)
        refine lv_goto (tgt := 4) hx hb dX7_isUnder_24 (by decide) ?_
        exact ih x5 x6 M H locs _ hw (lv_sub hl [2, 1, 0] rfl) h hk
def fX7_isUnder (p0 : Int32) (p1 : Int32) (M : zM) : Option (Int32 × zM) := fX7_isUnder_4 p1 (fun x7 M8 => if x7 = p1 then (some ((1 : Int32), M8)) else (some ((0 : Int32), M8))) zF p0 (0 : Int32) M
set_option maxRecDepth 100000 in
set_option maxHeartbeats 4000000 in
theorem kX7_isUnder (l : Launch) (D : va_G) (cy : Nat → ClassId) (a : Nat → Nat) (p0 : Int32) (p1 : Int32) (M : zM) (r0 : Int32) (M0 : zM) (h : fX7_isUnder p0 p1 M = some (r0, M0)) : zCi l D cy a yX7_isUnder cX7_isUnder 4 (some .boolean) (zRm 0 0) [.int p0, .int p1] M (fun r u => r = r0 ∧ u = M0) := by
  intro sz
  refine zent_i sz (by decide) (Nat.le_of_ble_eq_true rfl) rfl (fun p e s m args below meth c ls H locs X hw hl => ?_)
  obtain ⟨hx, hb, hr, hml, hown, hW, hlocks⟩ := id X
  have hE := hw.2.2.2.2.1
  have hcs : 0 ≤ ((zRm 0 0)).cells ∧ 0 ≤ ((zRm 0 0)).slots := ⟨Nat.zero_le _, Nat.zero_le _⟩
  rw [fX7_isUnder] at h
  refine lv_iload_n hx hb dX7_isUnder_0 rfl (lv_at hl 0 rfl) ?_
  refine lv_istore_n (lv' := [(2, .int p0), (0, .int p0), (1, .int p1)]) hx hb dX7_isUnder_1 rfl hl (by decide) rfl (fun ls hl => ?_)
  refine lv_iconst (v := 0) hx hb dX7_isUnder_2 (by decide) ?_
  refine lv_istore_n (lv' := [(3, .int (0 : Int32)), (2, .int p0), (0, .int p0), (1, .int p1)]) hx hb dX7_isUnder_3 rfl hl (by decide) rfl (fun ls hl => ?_)
  refine lX7_isUnder_4 X p1 _ zF p0 (0 : Int32) M H locs _ hw (lv_sub hl [3, 1, 0] rfl) h (fun x7 M8 H locs ls hw hl h => ?_)
  refine lv_iload_n hx hb dX7_isUnder_27 rfl (lv_at hl 1 rfl) ?_
  refine lv_iload_n hx hb dX7_isUnder_28 rfl (lv_at hl 0 rfl) ?_
  refine lv_icmp_ne (tgt := 36) hx hb dX7_isUnder_29 (by decide) (fun c9 => ?_) (fun c9 => ?_)
  · replace h := zif_f c9 h
    refine lv_iconst (v := 0) hx hb dX7_isUnder_36 (by decide) ?_
    exact z_rz X hw (Or.inl rfl) (zret h) dX7_isUnder_37
  · replace h := zif_t c9 h
    refine lv_iconst (v := 1) hx hb dX7_isUnder_32 (by decide) ?_
    refine lv_goto (tgt := 37) hx hb dX7_isUnder_33 (by decide) ?_
    exact z_rz X hw (Or.inr rfl) (zret h) dX7_isUnder_37
def fX7_as (p0 : Int32) (p1 : Int32) (M : zM) : Option (Int32 × zM) := zbi (fX7_noWheel p0 M) (fun r1 M2 => if r1 = 0 then (zbi (fX7_outside p1 (0 : Int32) (6 : Int32) M2) (fun r8 M9 => if r8 = 0 then (zgd (p0 < 0 ∨ 8 ≤ p0.toNatClampNeg) (zlt (9 + p0.toNatClampNeg) (fun w13 => zbi (fX7_isUnder (M9 w13 0) p1 M9) (fun r14 M15 => if r14 = 0 then (zbi (fX7_error (5 : Int32) M15) (fun r18 M19 => some (r18, M19))) else (some (M15 w13 5, M15)))))) else (zbi (fX7_error (1 : Int32) M9) (fun r21 M22 => some (r21, M22))))) else (zbi (fX7_error (1 : Int32) M2) (fun r5 M6 => some (r5, M6))))
set_option maxRecDepth 100000 in
set_option maxHeartbeats 4000000 in
theorem kX7_as (l : Launch) (D : va_G) (cy : Nat → ClassId) (a : Nat → Nat) (p0 : Int32) (p1 : Int32) (M : zM) (r0 : Int32) (M0 : zM) (h : fX7_as p0 p1 M = some (r0, M0)) : zCi l D cy a yX7_as cX7_as 4 (some .int) (zRm 2 43) [.ref (a 0), .int p0, .int p1] M (fun r u => r = r0 ∧ u = M0) := by
  intro sz
  refine zent_i sz (by decide) (Nat.le_of_ble_eq_true rfl) rfl (fun p e s m args below meth c ls H locs X hw hl => ?_)
  obtain ⟨hx, hb, hr, hml, hown, hW, hlocks⟩ := id X
  have hE := hw.2.2.2.2.1
  have hcs : 0 ≤ ((zRm 2 43)).cells ∧ 0 ≤ ((zRm 2 43)).slots := ⟨Nat.zero_le _, Nat.zero_le _⟩
  rw [fX7_as] at h
  refine lv_aload_n hx hb dX7_as_0 rfl (lv_at hl 0 rfl) ?_
  refine lv_iload_n hx hb dX7_as_1 rfl (lv_at hl 1 rfl) ?_
  obtain ⟨r1, M2, f3, h⟩ := zbi_e h
  refine z_qVi (As := [.int p0]) (rest := []) X hw (kX7_noWheel l D cy a p0 M r1 M2 f3) (cwX7_90 X.2.2.2.2.2.1 rfl rfl (zroomO (Nat.le_of_ble_eq_true rfl) (Nat.le_of_ble_eq_true rfl))) (zX7_lt (rfl : zX7 0)) (zS7 (rfl : zX7 0) cy a (M 0)) rfl rfl rfl (Nat.le_of_ble_eq_true rfl) hl.1 hcs dX7_as_2 (fun H locs hw => ?_)
  refine lv_if_ne (tgt := 18) hx hb dX7_as_5 (by decide) (fun c4 => ?_) (fun c4 => ?_)
  · replace h := zif_f c4 h
    refine lv_aload_n hx hb dX7_as_18 rfl (lv_at hl 0 rfl) ?_
    refine lv_iconst (v := 1) hx hb dX7_as_19 (by decide) ?_
    obtain ⟨r5, M6, f7, h⟩ := zbi_e h
    refine z_qVi (As := [.int (1 : Int32)]) (rest := []) X hw (kX7_error l D cy a (1 : Int32) M2 r5 M6 f7) (cwX7_61 X.2.2.2.2.2.1 rfl rfl (zroomO (Nat.le_of_ble_eq_true rfl) (Nat.le_of_ble_eq_true rfl))) (zX7_lt (rfl : zX7 0)) (zS7 (rfl : zX7 0) cy a (M2 0)) rfl rfl rfl (Nat.le_of_ble_eq_true rfl) hl.1 hcs dX7_as_20 (fun H locs hw => ?_)
    exact z_ri X hw (zret h) dX7_as_23
  · replace h := zif_t c4 h
    refine lv_iload_n hx hb dX7_as_8 rfl (lv_at hl 2 rfl) ?_
    refine lv_iconst (v := 0) hx hb dX7_as_9 (by decide) ?_
    refine lv_bipush (v := 6) hx hb dX7_as_10 (by decide) ?_
    obtain ⟨r8, M9, f10, h⟩ := zbi_e h
    refine z_qSi (As := [.int p1, .int (0 : Int32), .int (6 : Int32)]) (rest := []) X hw (kX7_outside l D cy a p1 (0 : Int32) (6 : Int32) M2 r8 M9 f10) (cwX7_57 X.2.2.2.2.2.1 rfl rfl (zroomO (Nat.le_of_ble_eq_true rfl) (Nat.le_of_ble_eq_true rfl))) rfl rfl (Nat.le_of_ble_eq_true rfl) hl.1 hcs dX7_as_12 (fun H locs hw => ?_)
    refine lv_if_eq (tgt := 24) hx hb dX7_as_15 (by decide) (fun c11 => ?_) (fun c11 => ?_)
    · replace h := zif_t c11 h
      refine lv_aload_n hx hb dX7_as_24 rfl (lv_at hl 0 rfl) ?_
      refine gtX7_10 X hw dX7_as_25 ?_
      refine gtX7_97 X hw zX0_1 dX7_as_28 ?_
      refine lv_iload_n hx hb dX7_as_31 rfl (lv_at hl 1 rfl) ?_
      obtain ⟨g12, h⟩ := zgd_e h
      refine z_aldW X hw (zRW_0_5 zX0_1) g12 dX7_as_32 (fun w13 ew13 hw13 => ?_)
      replace h := zlt_s ew13 h
      refine lv_astore_n (lv' := [(3, .ref (a w13)), (0, .ref (a 0)), (1, .int p0), (2, .int p1)]) hx hb dX7_as_33 rfl hl (by decide) rfl (fun ls hl => ?_)
      refine lv_aload_n hx hb dX7_as_34 rfl (lv_at hl 0 rfl) ?_
      refine gtX7_101 X hw hw13 dX7_as_35 ?_
      refine lv_iload_n hx hb dX7_as_38 rfl (lv_at hl 3 rfl) ?_
      obtain ⟨r14, M15, f16, h⟩ := zbi_e h
      refine z_qSi (As := [.int (M9 w13 0), .int p1]) (rest := []) X hw (kX7_isUnder l D cy a (M9 w13 0) p1 M9 r14 M15 f16) (cwX7_106 X.2.2.2.2.2.1 rfl rfl (zroomO (Nat.le_of_ble_eq_true rfl) (Nat.le_of_ble_eq_true rfl))) rfl rfl (Nat.le_of_ble_eq_true rfl) hl.1 hcs dX7_as_39 (fun H locs hw => ?_)
      refine lv_if_ne (tgt := 51) hx hb dX7_as_42 (by decide) (fun c17 => ?_) (fun c17 => ?_)
      · replace h := zif_f c17 h
        refine lv_aload_n hx hb dX7_as_51 rfl (lv_at hl 0 rfl) ?_
        refine gtX7_110 X hw hw13 dX7_as_52 ?_
        exact z_ri X hw (zret h) dX7_as_55
      · replace h := zif_t c17 h
        refine lv_aload_n hx hb dX7_as_45 rfl (lv_at hl 1 rfl) ?_
        refine lv_iconst (v := 5) hx hb dX7_as_46 (by decide) ?_
        obtain ⟨r18, M19, f20, h⟩ := zbi_e h
        refine z_qVi (As := [.int (5 : Int32)]) (rest := []) X hw (kX7_error l D cy a (5 : Int32) M15 r18 M19 f20) (cwX7_61 X.2.2.2.2.2.1 rfl rfl (zroomO (Nat.le_of_ble_eq_true rfl) (Nat.le_of_ble_eq_true rfl))) (zX7_lt (rfl : zX7 0)) (zS7 (rfl : zX7 0) cy a (M15 0)) rfl rfl rfl (Nat.le_of_ble_eq_true rfl) hl.1 hcs dX7_as_47 (fun H locs hw => ?_)
        exact z_ri X hw (zret h) dX7_as_50
    · replace h := zif_f c11 h
      refine lv_aload_n hx hb dX7_as_18 rfl (lv_at hl 0 rfl) ?_
      refine lv_iconst (v := 1) hx hb dX7_as_19 (by decide) ?_
      obtain ⟨r21, M22, f23, h⟩ := zbi_e h
      refine z_qVi (As := [.int (1 : Int32)]) (rest := []) X hw (kX7_error l D cy a (1 : Int32) M9 r21 M22 f23) (cwX7_61 X.2.2.2.2.2.1 rfl rfl (zroomO (Nat.le_of_ble_eq_true rfl) (Nat.le_of_ble_eq_true rfl))) (zX7_lt (rfl : zX7 0)) (zS7 (rfl : zX7 0) cy a (M9 0)) rfl rfl rfl (Nat.le_of_ble_eq_true rfl) hl.1 hcs dX7_as_20 (fun H locs hw => ?_)
      exact z_ri X hw (zret h) dX7_as_23
def fX7_set (p0 : Int32) (p1 : Int32) (p2 : Int32) (M : zM) : Option (Int32 × zM) := zbi (fX7_noWheel p0 M) (fun r1 M2 => if r1 = 0 then (zbi (fX7_outside p1 (0 : Int32) ((6 : Int32) - (1 : Int32)) M2) (fun r9 M10 => if r9 = 0 then (zgd (p1 < 0 ∨ 6 ≤ p1.toNatClampNeg) (zbi (fX7_outside p2 (0 : Int32) (zMSET (p1.toNatClampNeg)) M10) (fun r18 M19 => if r18 = 0 then (zgd (p0 < 0 ∨ 8 ≤ p0.toNatClampNeg) (zlt (9 + p0.toNatClampNeg) (fun w23 => zbi (fX6_part w23 p1 M19) (fun r24 M25 => zbv (fX6_change w23 p1 p2 M25) (fun M28 => some (r24, M28)))))) else (zbi (fX7_error (1 : Int32) M19) (fun r30 M31 => some (r30, M31)))))) else (zbi (fX7_error (1 : Int32) M10) (fun r13 M14 => some (r13, M14))))) else (zbi (fX7_error (1 : Int32) M2) (fun r5 M6 => some (r5, M6))))
set_option maxRecDepth 100000 in
set_option maxHeartbeats 4000000 in
theorem kX7_set (l : Launch) (D : va_G) (cy : Nat → ClassId) (a : Nat → Nat) (p0 : Int32) (p1 : Int32) (p2 : Int32) (M : zM) (r0 : Int32) (M0 : zM) (h : fX7_set p0 p1 p2 M = some (r0, M0)) : zCi l D cy a yX7_set cX7_set 6 (some .int) (zRm 2 43) [.ref (a 0), .int p0, .int p1, .int p2] M (fun r u => r = r0 ∧ u = M0) := by
  intro sz
  refine zent_i sz (by decide) (Nat.le_of_ble_eq_true rfl) rfl (fun p e s m args below meth c ls H locs X hw hl => ?_)
  obtain ⟨hx, hb, hr, hml, hown, hW, hlocks⟩ := id X
  have hE := hw.2.2.2.2.1
  have hcs : 0 ≤ ((zRm 2 43)).cells ∧ 0 ≤ ((zRm 2 43)).slots := ⟨Nat.zero_le _, Nat.zero_le _⟩
  rw [fX7_set] at h
  refine lv_aload_n hx hb dX7_set_0 rfl (lv_at hl 0 rfl) ?_
  refine lv_iload_n hx hb dX7_set_1 rfl (lv_at hl 1 rfl) ?_
  obtain ⟨r1, M2, f3, h⟩ := zbi_e h
  refine z_qVi (As := [.int p0]) (rest := []) X hw (kX7_noWheel l D cy a p0 M r1 M2 f3) (cwX7_90 X.2.2.2.2.2.1 rfl rfl (zroomO (Nat.le_of_ble_eq_true rfl) (Nat.le_of_ble_eq_true rfl))) (zX7_lt (rfl : zX7 0)) (zS7 (rfl : zX7 0) cy a (M 0)) rfl rfl rfl (Nat.le_of_ble_eq_true rfl) hl.1 hcs dX7_set_2 (fun H locs hw => ?_)
  refine lv_if_ne (tgt := 35) hx hb dX7_set_5 (by decide) (fun c4 => ?_) (fun c4 => ?_)
  · replace h := zif_f c4 h
    refine lv_aload_n hx hb dX7_set_35 rfl (lv_at hl 0 rfl) ?_
    refine lv_iconst (v := 1) hx hb dX7_set_36 (by decide) ?_
    obtain ⟨r5, M6, f7, h⟩ := zbi_e h
    refine z_qVi (As := [.int (1 : Int32)]) (rest := []) X hw (kX7_error l D cy a (1 : Int32) M2 r5 M6 f7) (cwX7_61 X.2.2.2.2.2.1 rfl rfl (zroomO (Nat.le_of_ble_eq_true rfl) (Nat.le_of_ble_eq_true rfl))) (zX7_lt (rfl : zX7 0)) (zS7 (rfl : zX7 0) cy a (M2 0)) rfl rfl rfl (Nat.le_of_ble_eq_true rfl) hl.1 hcs dX7_set_37 (fun H locs hw => ?_)
    exact z_ri X hw (zret h) dX7_set_40
  · replace h := zif_t c4 h
    refine lv_iload_n hx hb dX7_set_8 rfl (lv_at hl 2 rfl) ?_
    refine lv_iconst (v := 0) hx hb dX7_set_9 (by decide) ?_
    refine z_tabA (n := 0) (i := 0) X hw hE.2.2.1 zm_17_15 dX7_set_10 (fun t8 hTt8 => ?_)
    refine z_tlen (v := 6) X hw hTt8 rfl dX7_set_13 ?_
    refine lv_iconst (v := 1) hx hb dX7_set_14 (by decide) ?_
    refine lv_isub hx hb dX7_set_15 ?_
    obtain ⟨r9, M10, f11, h⟩ := zbi_e h
    refine z_qSi (As := [.int p1, .int (0 : Int32), .int ((6 : Int32) - (1 : Int32))]) (rest := []) X hw (kX7_outside l D cy a p1 (0 : Int32) ((6 : Int32) - (1 : Int32)) M2 r9 M10 f11) (cwX7_57 X.2.2.2.2.2.1 rfl rfl (zroomO (Nat.le_of_ble_eq_true rfl) (Nat.le_of_ble_eq_true rfl))) rfl rfl (Nat.le_of_ble_eq_true rfl) hl.1 hcs dX7_set_16 (fun H locs hw => ?_)
    refine lv_if_ne (tgt := 35) hx hb dX7_set_19 (by decide) (fun c12 => ?_) (fun c12 => ?_)
    · replace h := zif_f c12 h
      refine lv_aload_n hx hb dX7_set_35 rfl (lv_at hl 0 rfl) ?_
      refine lv_iconst (v := 1) hx hb dX7_set_36 (by decide) ?_
      obtain ⟨r13, M14, f15, h⟩ := zbi_e h
      refine z_qVi (As := [.int (1 : Int32)]) (rest := []) X hw (kX7_error l D cy a (1 : Int32) M10 r13 M14 f15) (cwX7_61 X.2.2.2.2.2.1 rfl rfl (zroomO (Nat.le_of_ble_eq_true rfl) (Nat.le_of_ble_eq_true rfl))) (zX7_lt (rfl : zX7 0)) (zS7 (rfl : zX7 0) cy a (M10 0)) rfl rfl rfl (Nat.le_of_ble_eq_true rfl) hl.1 hcs dX7_set_37 (fun H locs hw => ?_)
      exact z_ri X hw (zret h) dX7_set_40
    · replace h := zif_t c12 h
      refine lv_iload_n hx hb dX7_set_22 rfl (lv_at hl 3 rfl) ?_
      refine lv_iconst (v := 0) hx hb dX7_set_23 (by decide) ?_
      refine z_tabA (n := 0) (i := 0) X hw hE.2.2.1 zm_17_15 dX7_set_24 (fun t16 hTt16 => ?_)
      refine lv_iload_n hx hb dX7_set_27 rfl (lv_at hl 2 rfl) ?_
      obtain ⟨g17, h⟩ := zgd_e h
      refine z_tald X hw hTt16 g17 dX7_set_28 ?_
      obtain ⟨r18, M19, f20, h⟩ := zbi_e h
      refine z_qSi (As := [.int p2, .int (0 : Int32), .int (zMSET (p1.toNatClampNeg))]) (rest := []) X hw (kX7_outside l D cy a p2 (0 : Int32) (zMSET (p1.toNatClampNeg)) M10 r18 M19 f20) (cwX7_57 X.2.2.2.2.2.1 rfl rfl (zroomO (Nat.le_of_ble_eq_true rfl) (Nat.le_of_ble_eq_true rfl))) rfl rfl (Nat.le_of_ble_eq_true rfl) hl.1 hcs dX7_set_29 (fun H locs hw => ?_)
      refine lv_if_eq (tgt := 41) hx hb dX7_set_32 (by decide) (fun c21 => ?_) (fun c21 => ?_)
      · replace h := zif_t c21 h
        refine lv_aload_n hx hb dX7_set_41 rfl (lv_at hl 0 rfl) ?_
        refine gtX7_10 X hw dX7_set_42 ?_
        refine gtX7_97 X hw zX0_1 dX7_set_45 ?_
        refine lv_iload_n hx hb dX7_set_48 rfl (lv_at hl 1 rfl) ?_
        obtain ⟨g22, h⟩ := zgd_e h
        refine z_aldW X hw (zRW_0_5 zX0_1) g22 dX7_set_49 (fun w23 ew23 hw23 => ?_)
        replace h := zlt_s ew23 h
        refine lv_astore (lv' := [(4, .ref (a w23)), (0, .ref (a 0)), (1, .int p0), (2, .int p1), (3, .int p2)]) hx hb dX7_set_50 hl (by decide) rfl (fun ls hl => ?_)
        refine lv_aload hx hb dX7_set_52 (lv_at hl 0 rfl) ?_
        refine lv_iload_n hx hb dX7_set_54 rfl (lv_at hl 3 rfl) ?_
        obtain ⟨r24, M25, f26, h⟩ := zbi_e h
        refine z_qVi (As := [.int p1]) (rest := []) X hw (kX6_part l D cy a w23 hw23 p1 M19 r24 M25 f26) (cwX7_116 X.2.2.2.2.2.1 rfl rfl (zroomO (Nat.le_of_ble_eq_true rfl) (Nat.le_of_ble_eq_true rfl))) (zX6_lt hw23) (zS6 hw23 cy a (M19 w23)) rfl rfl rfl (Nat.le_of_ble_eq_true rfl) hl.1 hcs dX7_set_55 (fun H locs hw => ?_)
        refine lv_istore (lv' := [(5, .int r24), (4, .ref (a w23)), (0, .ref (a 0)), (1, .int p0), (2, .int p1), (3, .int p2)]) hx hb dX7_set_58 hl (by decide) rfl (fun ls hl => ?_)
        refine lv_aload hx hb dX7_set_60 (lv_at hl 1 rfl) ?_
        refine lv_iload_n hx hb dX7_set_62 rfl (lv_at hl 4 rfl) ?_
        refine lv_iload_n hx hb dX7_set_63 rfl (lv_at hl 5 rfl) ?_
        obtain ⟨M28, f29, h⟩ := zbv_e h
        refine z_qVv (As := [.int p1, .int p2]) (rest := []) X hw (kX6_change l D cy a w23 hw23 p1 p2 M25 M28 f29) (cwX7_119 X.2.2.2.2.2.1 rfl rfl (zroomO (Nat.le_of_ble_eq_true rfl) (Nat.le_of_ble_eq_true rfl))) (zX6_lt hw23) (zS6 hw23 cy a (M25 w23)) rfl rfl rfl (Nat.le_of_ble_eq_true rfl) hl.1 hcs dX7_set_64 (fun H locs hw => ?_)
        refine lv_iload hx hb dX7_set_67 (lv_at hl 0 rfl) ?_
        exact z_ri X hw (zret h) dX7_set_69
      · replace h := zif_f c21 h
        refine lv_aload_n hx hb dX7_set_35 rfl (lv_at hl 0 rfl) ?_
        refine lv_iconst (v := 1) hx hb dX7_set_36 (by decide) ?_
        obtain ⟨r30, M31, f32, h⟩ := zbi_e h
        refine z_qVi (As := [.int (1 : Int32)]) (rest := []) X hw (kX7_error l D cy a (1 : Int32) M19 r30 M31 f32) (cwX7_61 X.2.2.2.2.2.1 rfl rfl (zroomO (Nat.le_of_ble_eq_true rfl) (Nat.le_of_ble_eq_true rfl))) (zX7_lt (rfl : zX7 0)) (zS7 (rfl : zX7 0) cy a (M19 0)) rfl rfl rfl (Nat.le_of_ble_eq_true rfl) hl.1 hcs dX7_set_37 (fun H locs hw => ?_)
        exact z_ri X hw (zret h) dX7_set_40
def fX7_flows (p0 : Int32) (M : zM) : Option (Int32 × zM) := zbi (fX7_outside p0 (0 : Int32) (11 : Int32) M) (fun r1 M2 => if r1 = 0 then (zbv (fX0_letFlow 1 M2) (fun M6 => zgd (p0 < 0 ∨ 12 ≤ p0.toNatClampNeg) (some (M6 8 (p0.toNatClampNeg), M6)))) else (zbi (fX7_error (1 : Int32) M2) (fun r9 M10 => some (r9, M10))))
set_option maxRecDepth 100000 in
set_option maxHeartbeats 4000000 in
theorem kX7_flows (l : Launch) (D : va_G) (cy : Nat → ClassId) (a : Nat → Nat) (p0 : Int32) (M : zM) (r0 : Int32) (M0 : zM) (h : fX7_flows p0 M = some (r0, M0)) : zCi l D cy a yX7_flows cX7_flows 2 (some .int) (zRm 5 115) [.ref (a 0), .int p0] M (fun r u => r = r0 ∧ u = M0) := by
  intro sz
  refine zent_i sz (by decide) (Nat.le_of_ble_eq_true rfl) rfl (fun p e s m args below meth c ls H locs X hw hl => ?_)
  obtain ⟨hx, hb, hr, hml, hown, hW, hlocks⟩ := id X
  have hE := hw.2.2.2.2.1
  have hcs : 0 ≤ ((zRm 5 115)).cells ∧ 0 ≤ ((zRm 5 115)).slots := ⟨Nat.zero_le _, Nat.zero_le _⟩
  rw [fX7_flows] at h
  refine lv_iload_n hx hb dX7_flows_0 rfl (lv_at hl 1 rfl) ?_
  refine lv_iconst (v := 0) hx hb dX7_flows_1 (by decide) ?_
  refine lv_bipush (v := 11) hx hb dX7_flows_2 (by decide) ?_
  obtain ⟨r1, M2, f3, h⟩ := zbi_e h
  refine z_qSi (As := [.int p0, .int (0 : Int32), .int (11 : Int32)]) (rest := []) X hw (kX7_outside l D cy a p0 (0 : Int32) (11 : Int32) M r1 M2 f3) (cwX7_57 X.2.2.2.2.2.1 rfl rfl (zroomO (Nat.le_of_ble_eq_true rfl) (Nat.le_of_ble_eq_true rfl))) rfl rfl (Nat.le_of_ble_eq_true rfl) hl.1 hcs dX7_flows_4 (fun H locs hw => ?_)
  refine lv_if_eq (tgt := 16) hx hb dX7_flows_7 (by decide) (fun c4 => ?_) (fun c4 => ?_)
  · replace h := zif_t c4 h
    refine lv_aload_n hx hb dX7_flows_16 rfl (lv_at hl 0 rfl) ?_
    refine gtX7_10 X hw dX7_flows_17 ?_
    obtain ⟨M6, f7, h⟩ := zbv_e h
    refine z_qVv (As := []) (rest := []) X hw (kX0_letFlow l D cy a 1 zX0_1 M2 M6 f7) (cwX7_123 X.2.2.2.2.2.1 rfl rfl (zroomO (Nat.le_of_ble_eq_true rfl) (Nat.le_of_ble_eq_true rfl))) (zX0_lt zX0_1) (zS0 zX0_1 cy a (M2 1)) rfl rfl rfl (Nat.le_of_ble_eq_true rfl) hl.1 hcs dX7_flows_20 (fun H locs hw => ?_)
    refine lv_aload_n hx hb dX7_flows_23 rfl (lv_at hl 0 rfl) ?_
    refine gtX7_10 X hw dX7_flows_24 ?_
    refine gtX7_126 X hw zX0_1 dX7_flows_27 ?_
    refine lv_iload_n hx hb dX7_flows_30 rfl (lv_at hl 1 rfl) ?_
    obtain ⟨g8, h⟩ := zgd_e h
    refine z_ald X hw (zI_0_7 zX0_1) g8 dX7_flows_31 ?_
    exact z_ri X hw (zret h) dX7_flows_32
  · replace h := zif_f c4 h
    refine lv_aload_n hx hb dX7_flows_10 rfl (lv_at hl 0 rfl) ?_
    refine lv_iconst (v := 1) hx hb dX7_flows_11 (by decide) ?_
    obtain ⟨r9, M10, f11, h⟩ := zbi_e h
    refine z_qVi (As := [.int (1 : Int32)]) (rest := []) X hw (kX7_error l D cy a (1 : Int32) M2 r9 M10 f11) (cwX7_61 X.2.2.2.2.2.1 rfl rfl (zroomO (Nat.le_of_ble_eq_true rfl) (Nat.le_of_ble_eq_true rfl))) (zX7_lt (rfl : zX7 0)) (zS7 (rfl : zX7 0) cy a (M2 0)) rfl rfl rfl (Nat.le_of_ble_eq_true rfl) hl.1 hcs dX7_flows_12 (fun H locs hw => ?_)
    exact z_ri X hw (zret h) dX7_flows_15
def fX7_feed (p0 : Int64) (p1 : Int32) (M : zM) : Option (Int32 × zM) := zbi (fX7_outside p1 (1 : Int32) (8 : Int32) M) (fun r1 M2 => if r1 = 0 then (if (M2 67 2) + p1 ≤ (60 : Int32) then (zbv (fX1_addBytes 67 p0 p1 M2) (fun M7 => some (M7 67 2, M7))) else (zbi (fX7_error (4 : Int32) M2) (fun r9 M10 => some (r9, M10)))) else (zbi (fX7_error (1 : Int32) M2) (fun r12 M13 => some (r12, M13))))
set_option maxRecDepth 100000 in
set_option maxHeartbeats 4000000 in
theorem kX7_feed (l : Launch) (D : va_G) (cy : Nat → ClassId) (a : Nat → Nat) (p0 : Int64) (p1 : Int32) (M : zM) (r0 : Int32) (M0 : zM) (h : fX7_feed p0 p1 M = some (r0, M0)) : zCi l D cy a yX7_feed cX7_feed 4 (some .int) (zRm 1 24) [.ref (a 0), .long p0, .int p1] M (fun r u => r = r0 ∧ u = M0) := by
  intro sz
  refine zent_i sz (by decide) (Nat.le_of_ble_eq_true rfl) rfl (fun p e s m args below meth c ls H locs X hw hl => ?_)
  obtain ⟨hx, hb, hr, hml, hown, hW, hlocks⟩ := id X
  have hE := hw.2.2.2.2.1
  have hcs : 0 ≤ ((zRm 1 24)).cells ∧ 0 ≤ ((zRm 1 24)).slots := ⟨Nat.zero_le _, Nat.zero_le _⟩
  rw [fX7_feed] at h
  refine lv_iload_n hx hb dX7_feed_0 rfl (lv_at hl 2 rfl) ?_
  refine lv_iconst (v := 1) hx hb dX7_feed_1 (by decide) ?_
  refine lv_bipush (v := 8) hx hb dX7_feed_2 (by decide) ?_
  obtain ⟨r1, M2, f3, h⟩ := zbi_e h
  refine z_qSi (As := [.int p1, .int (1 : Int32), .int (8 : Int32)]) (rest := []) X hw (kX7_outside l D cy a p1 (1 : Int32) (8 : Int32) M r1 M2 f3) (cwX7_57 X.2.2.2.2.2.1 rfl rfl (zroomO (Nat.le_of_ble_eq_true rfl) (Nat.le_of_ble_eq_true rfl))) rfl rfl (Nat.le_of_ble_eq_true rfl) hl.1 hcs dX7_feed_4 (fun H locs hw => ?_)
  refine lv_if_eq (tgt := 16) hx hb dX7_feed_7 (by decide) (fun c4 => ?_) (fun c4 => ?_)
  · replace h := zif_t c4 h
    refine lv_aload_n hx hb dX7_feed_16 rfl (lv_at hl 0 rfl) ?_
    refine gtX7_25 X hw dX7_feed_17 ?_
    refine gtX7_129 X hw zX1_67 dX7_feed_20 ?_
    refine lv_iload_n hx hb dX7_feed_23 rfl (lv_at hl 2 rfl) ?_
    refine lv_iadd hx hb dX7_feed_24 ?_
    refine lv_bipush (v := 60) hx hb dX7_feed_25 (by decide) ?_
    refine lv_icmp_le (tgt := 36) hx hb dX7_feed_27 (by decide) (fun c5 => ?_) (fun c5 => ?_)
    · replace h := zif_t c5 h
      refine lv_aload_n hx hb dX7_feed_36 rfl (lv_at hl 0 rfl) ?_
      refine gtX7_25 X hw dX7_feed_37 ?_
      refine lv_lload_n hx hb dX7_feed_40 rfl (lv_at hl 1 rfl) ?_
      refine lv_iload_n hx hb dX7_feed_41 rfl (lv_at hl 2 rfl) ?_
      obtain ⟨M7, f8, h⟩ := zbv_e h
      refine z_qVv (As := [.long p0, .int p1]) (rest := []) X hw (kX1_addBytes l D cy a 67 zX1_67 p0 p1 M2 M7 f8) (cwX7_132 X.2.2.2.2.2.1 rfl rfl (zroomO (Nat.le_of_ble_eq_true rfl) (Nat.le_of_ble_eq_true rfl))) (zX1_lt zX1_67) (zS1 zX1_67 cy a (M2 67)) rfl rfl rfl (Nat.le_of_ble_eq_true rfl) hl.1 hcs dX7_feed_42 (fun H locs hw => ?_)
      refine lv_aload_n hx hb dX7_feed_45 rfl (lv_at hl 0 rfl) ?_
      refine gtX7_25 X hw dX7_feed_46 ?_
      refine gtX7_129 X hw zX1_67 dX7_feed_49 ?_
      exact z_ri X hw (zret h) dX7_feed_52
    · replace h := zif_f c5 h
      refine lv_aload_n hx hb dX7_feed_30 rfl (lv_at hl 0 rfl) ?_
      refine lv_iconst (v := 4) hx hb dX7_feed_31 (by decide) ?_
      obtain ⟨r9, M10, f11, h⟩ := zbi_e h
      refine z_qVi (As := [.int (4 : Int32)]) (rest := []) X hw (kX7_error l D cy a (4 : Int32) M2 r9 M10 f11) (cwX7_61 X.2.2.2.2.2.1 rfl rfl (zroomO (Nat.le_of_ble_eq_true rfl) (Nat.le_of_ble_eq_true rfl))) (zX7_lt (rfl : zX7 0)) (zS7 (rfl : zX7 0) cy a (M2 0)) rfl rfl rfl (Nat.le_of_ble_eq_true rfl) hl.1 hcs dX7_feed_32 (fun H locs hw => ?_)
      exact z_ri X hw (zret h) dX7_feed_35
  · replace h := zif_f c4 h
    refine lv_aload_n hx hb dX7_feed_10 rfl (lv_at hl 0 rfl) ?_
    refine lv_iconst (v := 1) hx hb dX7_feed_11 (by decide) ?_
    obtain ⟨r12, M13, f14, h⟩ := zbi_e h
    refine z_qVi (As := [.int (1 : Int32)]) (rest := []) X hw (kX7_error l D cy a (1 : Int32) M2 r12 M13 f14) (cwX7_61 X.2.2.2.2.2.1 rfl rfl (zroomO (Nat.le_of_ble_eq_true rfl) (Nat.le_of_ble_eq_true rfl))) (zX7_lt (rfl : zX7 0)) (zS7 (rfl : zX7 0) cy a (M2 0)) rfl rfl rfl (Nat.le_of_ble_eq_true rfl) hl.1 hcs dX7_feed_12 (fun H locs hw => ?_)
    exact z_ri X hw (zret h) dX7_feed_15
def fX7_text (p0 : Int32) (M : zM) : Option (Int32 × zM) := zbi (fX7_outside p0 (0 : Int32) (1 : Int32) M) (fun r1 M2 => if r1 = 0 then (zbi (fX3_read 68 (M2 67 2) p0 M2) (fun r5 M6 => zlt (zst M6 67 2 (0 : Int32)) (fun M8 => if r5 < 0 then (zbi (fX0_law 1 p0 M8) (fun r10 M11 => zbv (fX2_learn r10 74 (M11 73 2) M11) (fun M14 => some ((1 : Int32), M14)))) else (some ((-10 : Int32) - r5, M8))))) else (zbi (fX7_error (1 : Int32) M2) (fun r16 M17 => some (r16, M17))))
set_option maxRecDepth 100000 in
set_option maxHeartbeats 4000000 in
theorem kX7_text (l : Launch) (D : va_G) (cy : Nat → ClassId) (a : Nat → Nat) (p0 : Int32) (M : zM) (r0 : Int32) (M0 : zM) (h : fX7_text p0 M = some (r0, M0)) : zCi l D cy a yX7_text cX7_text 3 (some .int) (zRm 11 369) [.ref (a 0), .int p0] M (fun r u => r = r0 ∧ u = M0) := by
  intro sz
  refine zent_i sz (by decide) (Nat.le_of_ble_eq_true rfl) rfl (fun p e s m args below meth c ls H locs X hw hl => ?_)
  obtain ⟨hx, hb, hr, hml, hown, hW, hlocks⟩ := id X
  have hE := hw.2.2.2.2.1
  have hcs : 0 ≤ ((zRm 11 369)).cells ∧ 0 ≤ ((zRm 11 369)).slots := ⟨Nat.zero_le _, Nat.zero_le _⟩
  rw [fX7_text] at h
  refine lv_iload_n hx hb dX7_text_0 rfl (lv_at hl 1 rfl) ?_
  refine lv_iconst (v := 0) hx hb dX7_text_1 (by decide) ?_
  refine lv_iconst (v := 1) hx hb dX7_text_2 (by decide) ?_
  obtain ⟨r1, M2, f3, h⟩ := zbi_e h
  refine z_qSi (As := [.int p0, .int (0 : Int32), .int (1 : Int32)]) (rest := []) X hw (kX7_outside l D cy a p0 (0 : Int32) (1 : Int32) M r1 M2 f3) (cwX7_57 X.2.2.2.2.2.1 rfl rfl (zroomO (Nat.le_of_ble_eq_true rfl) (Nat.le_of_ble_eq_true rfl))) rfl rfl (Nat.le_of_ble_eq_true rfl) hl.1 hcs dX7_text_3 (fun H locs hw => ?_)
  refine lv_if_eq (tgt := 15) hx hb dX7_text_6 (by decide) (fun c4 => ?_) (fun c4 => ?_)
  · replace h := zif_t c4 h
    refine lv_aload_n hx hb dX7_text_15 rfl (lv_at hl 0 rfl) ?_
    refine gtX7_35 X hw dX7_text_16 ?_
    refine lv_aload_n hx hb dX7_text_19 rfl (lv_at hl 0 rfl) ?_
    refine gtX7_25 X hw dX7_text_20 ?_
    refine gtX7_136 X hw zX1_67 dX7_text_23 ?_
    refine lv_aload_n hx hb dX7_text_26 rfl (lv_at hl 0 rfl) ?_
    refine gtX7_25 X hw dX7_text_27 ?_
    refine gtX7_129 X hw zX1_67 dX7_text_30 ?_
    refine lv_iload_n hx hb dX7_text_33 rfl (lv_at hl 1 rfl) ?_
    obtain ⟨r5, M6, f7, h⟩ := zbi_e h
    refine z_qVi (As := [.ref (a 68), .int (M2 67 2), .int p0]) (rest := []) X hw (kX3_read l D cy a 68 (zB_1_1 zX1_67) (M2 67 2) p0 M2 r5 M6 f7) (cwX7_140 X.2.2.2.2.2.1 rfl rfl (zroomO (Nat.le_of_ble_eq_true rfl) (Nat.le_of_ble_eq_true rfl))) (zX3_lt zX3_73) (zS3 zX3_73 cy a (M2 73)) rfl rfl rfl (Nat.le_of_ble_eq_true rfl) hl.1 hcs dX7_text_34 (fun H locs hw => ?_)
    refine lv_istore_n (lv' := [(2, .int r5), (0, .ref (a 0)), (1, .int p0)]) hx hb dX7_text_37 rfl hl (by decide) rfl (fun ls hl => ?_)
    refine lv_aload_n hx hb dX7_text_38 rfl (lv_at hl 1 rfl) ?_
    refine gtX7_25 X hw dX7_text_39 ?_
    refine lv_iconst (v := 0) hx hb dX7_text_42 (by decide) ?_
    refine ptX7_129 X hw zX1_67 dX7_text_43 (fun M8 H locs eM8 hw => ?_)
    replace h := zlt_s eM8 h
    refine lv_iload_n hx hb dX7_text_46 rfl (lv_at hl 0 rfl) ?_
    refine lv_if_lt (tgt := 55) hx hb dX7_text_47 (by decide) (fun c9 => ?_) (fun c9 => ?_)
    · replace h := zif_t c9 h
      refine lv_aload_n hx hb dX7_text_55 rfl (lv_at hl 1 rfl) ?_
      refine gtX7_10 X hw dX7_text_56 ?_
      refine lv_iload_n hx hb dX7_text_59 rfl (lv_at hl 2 rfl) ?_
      obtain ⟨r10, M11, f12, h⟩ := zbi_e h
      refine z_qVr (As := [.int p0]) (rest := []) X hw (kX0_law l D cy a 1 zX0_1 p0 M8 r10 M11 f12) (cwX7_144 X.2.2.2.2.2.1 rfl rfl (zroomO (Nat.le_of_ble_eq_true rfl) (Nat.le_of_ble_eq_true rfl))) (zX0_lt zX0_1) (zS0 zX0_1 cy a (M8 1)) rfl rfl rfl (Nat.le_of_ble_eq_true rfl) hl.1 hcs dX7_text_60 (fun H locs hw => ?_)
      have hr10 : zX2 r10 := gX0_law _ _ _ zX0_1 f12
      refine lv_aload_n hx hb dX7_text_63 rfl (lv_at hl 1 rfl) ?_
      refine gtX7_35 X hw dX7_text_64 ?_
      refine gtX7_148 X hw dX7_text_67 ?_
      refine lv_aload_n hx hb dX7_text_70 rfl (lv_at hl 1 rfl) ?_
      refine gtX7_35 X hw dX7_text_71 ?_
      refine gtX7_151 X hw dX7_text_74 ?_
      obtain ⟨M14, f15, h⟩ := zbv_e h
      refine z_qVv (As := [.ref (a 74), .int (M11 73 2)]) (rest := []) X hw (kX2_learn l D cy a r10 hr10 74 (zI_3_1 zX3_73) (M11 73 2) M11 M14 f15) (cwX7_152 X.2.2.2.2.2.1 rfl rfl (zroomO (Nat.le_of_ble_eq_true rfl) (Nat.le_of_ble_eq_true rfl))) (zX2_lt hr10) (zS2 hr10 cy a (M11 r10)) rfl rfl rfl (Nat.le_of_ble_eq_true rfl) hl.1 hcs dX7_text_77 (fun H locs hw => ?_)
      refine lv_iconst (v := 1) hx hb dX7_text_80 (by decide) ?_
      exact z_ri X hw (zret h) dX7_text_81
    · replace h := zif_f c9 h
      refine lv_bipush (v := (-10)) hx hb dX7_text_50 (by decide) ?_
      refine lv_iload_n hx hb dX7_text_52 rfl (lv_at hl 0 rfl) ?_
      refine lv_isub hx hb dX7_text_53 ?_
      exact z_ri X hw (zret h) dX7_text_54
  · replace h := zif_f c4 h
    refine lv_aload_n hx hb dX7_text_9 rfl (lv_at hl 0 rfl) ?_
    refine lv_iconst (v := 1) hx hb dX7_text_10 (by decide) ?_
    obtain ⟨r16, M17, f18, h⟩ := zbi_e h
    refine z_qVi (As := [.int (1 : Int32)]) (rest := []) X hw (kX7_error l D cy a (1 : Int32) M2 r16 M17 f18) (cwX7_61 X.2.2.2.2.2.1 rfl rfl (zroomO (Nat.le_of_ble_eq_true rfl) (Nat.le_of_ble_eq_true rfl))) (zX7_lt (rfl : zX7 0)) (zS7 (rfl : zX7 0) cy a (M2 0)) rfl rfl rfl (Nat.le_of_ble_eq_true rfl) hl.1 hcs dX7_text_11 (fun H locs hw => ?_)
    exact z_ri X hw (zret h) dX7_text_14
def fX7_untell (p0 : Int32) (M : zM) : Option (Int32 × zM) := zbi (fX7_outside p0 (0 : Int32) (1 : Int32) M) (fun r1 M2 => if r1 = 0 then (zbi (fX0_law 1 p0 M2) (fun r5 M6 => if M6 r5 2 ≤ 0 then (zlt (zst M6 r5 2 (0 : Int32)) (fun M9 => some ((0 : Int32), M9))) else (zlt (zst M6 r5 2 (0 : Int32)) (fun M10 => some ((1 : Int32), M10))))) else (zbi (fX7_error (1 : Int32) M2) (fun r11 M12 => some (r11, M12))))
set_option maxRecDepth 100000 in
set_option maxHeartbeats 4000000 in
theorem kX7_untell (l : Launch) (D : va_G) (cy : Nat → ClassId) (a : Nat → Nat) (p0 : Int32) (M : zM) (r0 : Int32) (M0 : zM) (h : fX7_untell p0 M = some (r0, M0)) : zCi l D cy a yX7_untell cX7_untell 4 (some .int) (zRm 1 22) [.ref (a 0), .int p0] M (fun r u => r = r0 ∧ u = M0) := by
  intro sz
  refine zent_i sz (by decide) (Nat.le_of_ble_eq_true rfl) rfl (fun p e s m args below meth c ls H locs X hw hl => ?_)
  obtain ⟨hx, hb, hr, hml, hown, hW, hlocks⟩ := id X
  have hE := hw.2.2.2.2.1
  have hcs : 0 ≤ ((zRm 1 22)).cells ∧ 0 ≤ ((zRm 1 22)).slots := ⟨Nat.zero_le _, Nat.zero_le _⟩
  rw [fX7_untell] at h
  refine lv_iload_n hx hb dX7_untell_0 rfl (lv_at hl 1 rfl) ?_
  refine lv_iconst (v := 0) hx hb dX7_untell_1 (by decide) ?_
  refine lv_iconst (v := 1) hx hb dX7_untell_2 (by decide) ?_
  obtain ⟨r1, M2, f3, h⟩ := zbi_e h
  refine z_qSi (As := [.int p0, .int (0 : Int32), .int (1 : Int32)]) (rest := []) X hw (kX7_outside l D cy a p0 (0 : Int32) (1 : Int32) M r1 M2 f3) (cwX7_57 X.2.2.2.2.2.1 rfl rfl (zroomO (Nat.le_of_ble_eq_true rfl) (Nat.le_of_ble_eq_true rfl))) rfl rfl (Nat.le_of_ble_eq_true rfl) hl.1 hcs dX7_untell_3 (fun H locs hw => ?_)
  refine lv_if_eq (tgt := 15) hx hb dX7_untell_6 (by decide) (fun c4 => ?_) (fun c4 => ?_)
  · replace h := zif_t c4 h
    refine lv_aload_n hx hb dX7_untell_15 rfl (lv_at hl 0 rfl) ?_
    refine gtX7_10 X hw dX7_untell_16 ?_
    refine lv_iload_n hx hb dX7_untell_19 rfl (lv_at hl 1 rfl) ?_
    obtain ⟨r5, M6, f7, h⟩ := zbi_e h
    refine z_qVr (As := [.int p0]) (rest := []) X hw (kX0_law l D cy a 1 zX0_1 p0 M2 r5 M6 f7) (cwX7_144 X.2.2.2.2.2.1 rfl rfl (zroomO (Nat.le_of_ble_eq_true rfl) (Nat.le_of_ble_eq_true rfl))) (zX0_lt zX0_1) (zS0 zX0_1 cy a (M2 1)) rfl rfl rfl (Nat.le_of_ble_eq_true rfl) hl.1 hcs dX7_untell_20 (fun H locs hw => ?_)
    have hr5 : zX2 r5 := gX0_law _ _ _ zX0_1 f7
    refine lv_astore_n (lv' := [(2, .ref (a r5)), (0, .ref (a 0)), (1, .int p0)]) hx hb dX7_untell_23 rfl hl (by decide) rfl (fun ls hl => ?_)
    refine lv_aload_n hx hb dX7_untell_24 rfl (lv_at hl 0 rfl) ?_
    refine gtX7_158 X hw hr5 dX7_untell_25 ?_
    refine lv_if_le (tgt := 35) hx hb dX7_untell_28 (by decide) (fun c8 => ?_) (fun c8 => ?_)
    · replace h := zif_t c8 h
      refine lv_iconst (v := 0) hx hb dX7_untell_35 (by decide) ?_
      refine lv_istore_n (lv' := [(3, .int (0 : Int32)), (2, .ref (a r5)), (0, .ref (a 0)), (1, .int p0)]) hx hb dX7_untell_36 rfl hl (by decide) rfl (fun ls hl => ?_)
      refine lv_aload_n hx hb dX7_untell_37 rfl (lv_at hl 1 rfl) ?_
      refine lv_iconst (v := 0) hx hb dX7_untell_38 (by decide) ?_
      refine ptX7_158 X hw hr5 dX7_untell_39 (fun M9 H locs eM9 hw => ?_)
      replace h := zlt_s eM9 h
      refine lv_iload_n hx hb dX7_untell_42 rfl (lv_at hl 0 rfl) ?_
      exact z_ri X hw (zret h) dX7_untell_43
    · replace h := zif_f c8 h
      refine lv_iconst (v := 1) hx hb dX7_untell_31 (by decide) ?_
      refine lv_goto (tgt := 36) hx hb dX7_untell_32 (by decide) ?_
      refine lv_istore_n (lv' := [(3, .int (1 : Int32)), (2, .ref (a r5)), (0, .ref (a 0)), (1, .int p0)]) hx hb dX7_untell_36 rfl hl (by decide) rfl (fun ls hl => ?_)
      refine lv_aload_n hx hb dX7_untell_37 rfl (lv_at hl 1 rfl) ?_
      refine lv_iconst (v := 0) hx hb dX7_untell_38 (by decide) ?_
      refine ptX7_158 X hw hr5 dX7_untell_39 (fun M10 H locs eM10 hw => ?_)
      replace h := zlt_s eM10 h
      refine lv_iload_n hx hb dX7_untell_42 rfl (lv_at hl 0 rfl) ?_
      exact z_ri X hw (zret h) dX7_untell_43
  · replace h := zif_f c4 h
    refine lv_aload_n hx hb dX7_untell_9 rfl (lv_at hl 0 rfl) ?_
    refine lv_iconst (v := 1) hx hb dX7_untell_10 (by decide) ?_
    obtain ⟨r11, M12, f13, h⟩ := zbi_e h
    refine z_qVi (As := [.int (1 : Int32)]) (rest := []) X hw (kX7_error l D cy a (1 : Int32) M2 r11 M12 f13) (cwX7_61 X.2.2.2.2.2.1 rfl rfl (zroomO (Nat.le_of_ble_eq_true rfl) (Nat.le_of_ble_eq_true rfl))) (zX7_lt (rfl : zX7 0)) (zS7 (rfl : zX7 0) cy a (M2 0)) rfl rfl rfl (Nat.le_of_ble_eq_true rfl) hl.1 hcs dX7_untell_11 (fun H locs hw => ?_)
    exact z_ri X hw (zret h) dX7_untell_14
def fX7_hours (p0 : Int32) (M : zM) : Option (Int32 × zM) := zbi (fX7_outside p0 (1 : Int32) (240 : Int32) M) (fun r1 M2 => if r1 = 0 then (if (M2 1 10) + p0 ≤ (9999 : Int32) then (zbi (fX0_passHours 1 p0 M2) (fun r6 M7 => zbi (fX0_prayedOfAll 1 M7) (fun r9 M10 => some (r9, M10)))) else (zbi (fX7_error (3 : Int32) M2) (fun r12 M13 => some (r12, M13)))) else (zbi (fX7_error (1 : Int32) M2) (fun r15 M16 => some (r15, M16))))
set_option maxRecDepth 100000 in
set_option maxHeartbeats 4000000 in
theorem kX7_hours (l : Launch) (D : va_G) (cy : Nat → ClassId) (a : Nat → Nat) (p0 : Int32) (M : zM) (r0 : Int32) (M0 : zM) (h : fX7_hours p0 M = some (r0, M0)) : zCi l D cy a yX7_hours cX7_hours 2 (some .int) (zRm 7 161) [.ref (a 0), .int p0] M (fun r u => r = r0 ∧ u = M0) := by
  intro sz
  refine zent_i sz (by decide) (Nat.le_of_ble_eq_true rfl) rfl (fun p e s m args below meth c ls H locs X hw hl => ?_)
  obtain ⟨hx, hb, hr, hml, hown, hW, hlocks⟩ := id X
  have hE := hw.2.2.2.2.1
  have hcs : 0 ≤ ((zRm 7 161)).cells ∧ 0 ≤ ((zRm 7 161)).slots := ⟨Nat.zero_le _, Nat.zero_le _⟩
  rw [fX7_hours] at h
  refine lv_iload_n hx hb dX7_hours_0 rfl (lv_at hl 1 rfl) ?_
  refine lv_iconst (v := 1) hx hb dX7_hours_1 (by decide) ?_
  refine lv_sipush (v := 240) hx hb dX7_hours_2 (by decide) ?_
  obtain ⟨r1, M2, f3, h⟩ := zbi_e h
  refine z_qSi (As := [.int p0, .int (1 : Int32), .int (240 : Int32)]) (rest := []) X hw (kX7_outside l D cy a p0 (1 : Int32) (240 : Int32) M r1 M2 f3) (cwX7_57 X.2.2.2.2.2.1 rfl rfl (zroomO (Nat.le_of_ble_eq_true rfl) (Nat.le_of_ble_eq_true rfl))) rfl rfl (Nat.le_of_ble_eq_true rfl) hl.1 hcs dX7_hours_5 (fun H locs hw => ?_)
  refine lv_if_eq (tgt := 17) hx hb dX7_hours_8 (by decide) (fun c4 => ?_) (fun c4 => ?_)
  · replace h := zif_t c4 h
    refine lv_aload_n hx hb dX7_hours_17 rfl (lv_at hl 0 rfl) ?_
    refine gtX7_10 X hw dX7_hours_18 ?_
    refine gtX7_159 X hw zX0_1 dX7_hours_21 ?_
    refine lv_iload_n hx hb dX7_hours_24 rfl (lv_at hl 1 rfl) ?_
    refine lv_iadd hx hb dX7_hours_25 ?_
    refine lv_sipush (v := 9999) hx hb dX7_hours_26 (by decide) ?_
    refine lv_icmp_le (tgt := 38) hx hb dX7_hours_29 (by decide) (fun c5 => ?_) (fun c5 => ?_)
    · replace h := zif_t c5 h
      refine lv_aload_n hx hb dX7_hours_38 rfl (lv_at hl 0 rfl) ?_
      refine gtX7_10 X hw dX7_hours_39 ?_
      refine lv_iload_n hx hb dX7_hours_42 rfl (lv_at hl 1 rfl) ?_
      obtain ⟨r6, M7, f8, h⟩ := zbi_e h
      refine z_qVi (As := [.int p0]) (rest := []) X hw (kX0_passHours l D cy a 1 zX0_1 p0 M2 r6 M7 f8) (cwX7_162 X.2.2.2.2.2.1 rfl rfl (zroomO (Nat.le_of_ble_eq_true rfl) (Nat.le_of_ble_eq_true rfl))) (zX0_lt zX0_1) (zS0 zX0_1 cy a (M2 1)) rfl rfl rfl (Nat.le_of_ble_eq_true rfl) hl.1 hcs dX7_hours_43 (fun H locs hw => ?_)
      refine lv_pop hx hb dX7_hours_46 rfl ?_
      refine lv_aload_n hx hb dX7_hours_47 rfl (lv_at hl 0 rfl) ?_
      refine gtX7_10 X hw dX7_hours_48 ?_
      obtain ⟨r9, M10, f11, h⟩ := zbi_e h
      refine z_qVi (As := []) (rest := []) X hw (kX0_prayedOfAll l D cy a 1 zX0_1 M7 r9 M10 f11) (cwX7_165 X.2.2.2.2.2.1 rfl rfl (zroomO (Nat.le_of_ble_eq_true rfl) (Nat.le_of_ble_eq_true rfl))) (zX0_lt zX0_1) (zS0 zX0_1 cy a (M7 1)) rfl rfl rfl (Nat.le_of_ble_eq_true rfl) hl.1 hcs dX7_hours_51 (fun H locs hw => ?_)
      exact z_ri X hw (zret h) dX7_hours_54
    · replace h := zif_f c5 h
      refine lv_aload_n hx hb dX7_hours_32 rfl (lv_at hl 0 rfl) ?_
      refine lv_iconst (v := 3) hx hb dX7_hours_33 (by decide) ?_
      obtain ⟨r12, M13, f14, h⟩ := zbi_e h
      refine z_qVi (As := [.int (3 : Int32)]) (rest := []) X hw (kX7_error l D cy a (3 : Int32) M2 r12 M13 f14) (cwX7_61 X.2.2.2.2.2.1 rfl rfl (zroomO (Nat.le_of_ble_eq_true rfl) (Nat.le_of_ble_eq_true rfl))) (zX7_lt (rfl : zX7 0)) (zS7 (rfl : zX7 0) cy a (M2 0)) rfl rfl rfl (Nat.le_of_ble_eq_true rfl) hl.1 hcs dX7_hours_34 (fun H locs hw => ?_)
      exact z_ri X hw (zret h) dX7_hours_37
  · replace h := zif_f c4 h
    refine lv_aload_n hx hb dX7_hours_11 rfl (lv_at hl 0 rfl) ?_
    refine lv_iconst (v := 1) hx hb dX7_hours_12 (by decide) ?_
    obtain ⟨r15, M16, f17, h⟩ := zbi_e h
    refine z_qVi (As := [.int (1 : Int32)]) (rest := []) X hw (kX7_error l D cy a (1 : Int32) M2 r15 M16 f17) (cwX7_61 X.2.2.2.2.2.1 rfl rfl (zroomO (Nat.le_of_ble_eq_true rfl) (Nat.le_of_ble_eq_true rfl))) (zX7_lt (rfl : zX7 0)) (zS7 (rfl : zX7 0) cy a (M2 0)) rfl rfl rfl (Nat.le_of_ble_eq_true rfl) hl.1 hcs dX7_hours_13 (fun H locs hw => ?_)
    exact z_ri X hw (zret h) dX7_hours_16
def fX7_draws_41 (y1 : Int32) (k : Int32 → zM → Option (Int32 × zM)) : Nat → Int32 → Int32 → zM → Option (Int32 × zM)
  | 0, _, _, _ => none
  | n + 1, v2, v3, M => if y1 ≤ v3 then (k v2 M) else (zbi (fX0_drawWeather 1 M) (fun r7 M8 => zlt (v2 + r7) (fun x10 => zbi (fX0_passHour 1 M8) (fun r11 M12 => zlt (v3 + (1 : Int32)) (fun x14 => fX7_draws_41 y1 k n x10 x14 M12)))))
set_option maxRecDepth 100000 in
set_option maxHeartbeats 4000000 in
theorem lX7_draws_41 {p : Program} {l : Launch} {e : Env} {s : State} {m : MethodId} {args : Array Value} {below : List Frame} {meth : Method} {c : Code} {D : va_G} {cy : Nat → ClassId} {a : Nat → Nat} {r0 : Int32} {M0 : zM} (X : zCX p s m meth c args cX7_draws 4 (some .int) RX7) (y1 : Int32) (k : Int32 → zM → Option (Int32 × zM)) : ∀ (n : Nat) (v2 : Int32) (v3 : Int32) (M : zM) (H : Heap) (locs : List Loc) (ls : Array Slot), zWD D cy a (zfr a s.heap.size) M H locs s → lv_has ls 4 [(0, .ref (a 0)), (1, .int y1), (2, .int v2), (3, .int v3)] → fX7_draws_41 y1 k n v2 v3 M = some (r0, M0) →
    (∀ (u2 : Int32) (M' : zM) (H' : Heap) (locs' : List Loc) (ls' : Array Slot), zWD D cy a (zfr a s.heap.size) M' H' locs' s → lv_has ls' 4 [(2, .int u2)] → k u2 M' = some (r0, M0) → W p l e (zRm 6 138) s m args below meth c H' locs' 0 0 (zQi D cy a s args below r0 M0) (F0 m 70 ls' [])) →
    W p l e (zRm 6 138) s m args below meth c H locs 0 0 (zQi D cy a s args below r0 M0) (F0 m 41 ls []) := by
  obtain ⟨hx, hb, hr, hml, hown, hW, hlocks⟩ := id X
  have hcs : 0 ≤ ((zRm 6 138)).cells ∧ 0 ≤ ((zRm 6 138)).slots := ⟨Nat.zero_le _, Nat.zero_le _⟩
  intro n
  induction n with
  | zero =>
    intro v2 v3 M H locs ls hw hl h hk
    cases h
  | succ n ih =>
    intro v2 v3 M H locs ls hw hl h hk
    have hE := hw.2.2.2.2.1
    rw [fX7_draws_41] at h
    refine lv_iload_n hx hb dX7_draws_41 rfl (lv_at hl 3 rfl) ?_
    refine lv_iload_n hx hb dX7_draws_42 rfl (lv_at hl 1 rfl) ?_
    refine lv_icmp_ge (tgt := 70) hx hb dX7_draws_43 (by decide) (fun c6 => ?_) (fun c6 => ?_)
    · replace h := zif_t c6 h
      exact hk v2 M H locs _ hw (lv_sub hl [2] rfl) h
    · replace h := zif_f c6 h
      refine lv_iload_n hx hb dX7_draws_46 rfl (lv_at hl 2 rfl) ?_
      refine lv_aload_n hx hb dX7_draws_47 rfl (lv_at hl 0 rfl) ?_
      refine gtX7_10 X hw dX7_draws_48 ?_
      obtain ⟨r7, M8, f9, h⟩ := zbi_e h
      refine z_qVi (As := []) (rest := [.int v2]) X hw (kX0_drawWeather l D cy a 1 zX0_1 M r7 M8 f9) (cwX7_169 X.2.2.2.2.2.1 rfl rfl (zroomO (Nat.le_of_ble_eq_true rfl) (Nat.le_of_ble_eq_true rfl))) (zX0_lt zX0_1) (zS0 zX0_1 cy a (M 1)) rfl rfl rfl (Nat.le_of_ble_eq_true rfl) hl.1 hcs dX7_draws_51 (fun H locs hw => ?_)
      refine lv_iadd hx hb dX7_draws_54 ?_
      refine lv_topi (fun x10 ex10 => ?_)
      replace h := zlt_s ex10 h
      refine lv_istore_n (lv' := [(2, .int x10), (0, .ref (a 0)), (1, .int y1), (3, .int v3)]) hx hb dX7_draws_55 rfl hl (by decide) rfl (fun ls hl => ?_)
      refine lv_aload_n hx hb dX7_draws_56 rfl (lv_at hl 1 rfl) ?_
      refine gtX7_10 X hw dX7_draws_57 ?_
      obtain ⟨r11, M12, f13, h⟩ := zbi_e h
      refine z_qVi (As := []) (rest := []) X hw (kX0_passHour l D cy a 1 zX0_1 M8 r11 M12 f13) (cwX7_172 X.2.2.2.2.2.1 rfl rfl (zroomO (Nat.le_of_ble_eq_true rfl) (Nat.le_of_ble_eq_true rfl))) (zX0_lt zX0_1) (zS0 zX0_1 cy a (M8 1)) rfl rfl rfl (Nat.le_of_ble_eq_true rfl) hl.1 hcs dX7_draws_60 (fun H locs hw => ?_)
      refine lv_pop hx hb dX7_draws_63 rfl ?_
      obtain ⟨x14, ex14⟩ : ∃ y : Int32, y = v3 + (1 : Int32) := ⟨_, rfl⟩
      replace h := zlt_s ex14 h
      refine lv_iinc (v := x14) (lv' := [(3, .int x14), (2, .int x10), (0, .ref (a 0)), (1, .int y1)]) hx hb dX7_draws_64 hl (k := 3) rfl (by rw [ex14]; rfl) (by decide) rfl (fun ls hl => ?_)
      refine lv_goto (tgt := 41) hx hb dX7_draws_67 (by decide) ?_
      exact ih x10 x14 M12 H locs _ hw (lv_sub hl [2, 3, 1, 0] rfl) h hk
def fX7_draws (p0 : Int32) (M : zM) : Option (Int32 × zM) := zbi (fX7_outside p0 (1 : Int32) (60 : Int32) M) (fun r1 M2 => if r1 = 0 then (if (M2 1 10) + p0 ≤ (9999 : Int32) then (fX7_draws_41 p0 (fun x15 M16 => some (x15, M16)) zF (0 : Int32) (0 : Int32) M2) else (zbi (fX7_error (3 : Int32) M2) (fun r17 M18 => some (r17, M18)))) else (zbi (fX7_error (1 : Int32) M2) (fun r20 M21 => some (r20, M21))))
set_option maxRecDepth 100000 in
set_option maxHeartbeats 4000000 in
theorem kX7_draws (l : Launch) (D : va_G) (cy : Nat → ClassId) (a : Nat → Nat) (p0 : Int32) (M : zM) (r0 : Int32) (M0 : zM) (h : fX7_draws p0 M = some (r0, M0)) : zCi l D cy a yX7_draws cX7_draws 4 (some .int) (zRm 6 138) [.ref (a 0), .int p0] M (fun r u => r = r0 ∧ u = M0) := by
  intro sz
  refine zent_i sz (by decide) (Nat.le_of_ble_eq_true rfl) rfl (fun p e s m args below meth c ls H locs X hw hl => ?_)
  obtain ⟨hx, hb, hr, hml, hown, hW, hlocks⟩ := id X
  have hE := hw.2.2.2.2.1
  have hcs : 0 ≤ ((zRm 6 138)).cells ∧ 0 ≤ ((zRm 6 138)).slots := ⟨Nat.zero_le _, Nat.zero_le _⟩
  rw [fX7_draws] at h
  refine lv_iload_n hx hb dX7_draws_0 rfl (lv_at hl 1 rfl) ?_
  refine lv_iconst (v := 1) hx hb dX7_draws_1 (by decide) ?_
  refine lv_bipush (v := 60) hx hb dX7_draws_2 (by decide) ?_
  obtain ⟨r1, M2, f3, h⟩ := zbi_e h
  refine z_qSi (As := [.int p0, .int (1 : Int32), .int (60 : Int32)]) (rest := []) X hw (kX7_outside l D cy a p0 (1 : Int32) (60 : Int32) M r1 M2 f3) (cwX7_57 X.2.2.2.2.2.1 rfl rfl (zroomO (Nat.le_of_ble_eq_true rfl) (Nat.le_of_ble_eq_true rfl))) rfl rfl (Nat.le_of_ble_eq_true rfl) hl.1 hcs dX7_draws_4 (fun H locs hw => ?_)
  refine lv_if_eq (tgt := 16) hx hb dX7_draws_7 (by decide) (fun c4 => ?_) (fun c4 => ?_)
  · replace h := zif_t c4 h
    refine lv_aload_n hx hb dX7_draws_16 rfl (lv_at hl 0 rfl) ?_
    refine gtX7_10 X hw dX7_draws_17 ?_
    refine gtX7_159 X hw zX0_1 dX7_draws_20 ?_
    refine lv_iload_n hx hb dX7_draws_23 rfl (lv_at hl 1 rfl) ?_
    refine lv_iadd hx hb dX7_draws_24 ?_
    refine lv_sipush (v := 9999) hx hb dX7_draws_25 (by decide) ?_
    refine lv_icmp_le (tgt := 37) hx hb dX7_draws_28 (by decide) (fun c5 => ?_) (fun c5 => ?_)
    · replace h := zif_t c5 h
      refine lv_iconst (v := 0) hx hb dX7_draws_37 (by decide) ?_
      refine lv_istore_n (lv' := [(2, .int (0 : Int32)), (0, .ref (a 0)), (1, .int p0)]) hx hb dX7_draws_38 rfl hl (by decide) rfl (fun ls hl => ?_)
      refine lv_iconst (v := 0) hx hb dX7_draws_39 (by decide) ?_
      refine lv_istore_n (lv' := [(3, .int (0 : Int32)), (2, .int (0 : Int32)), (0, .ref (a 0)), (1, .int p0)]) hx hb dX7_draws_40 rfl hl (by decide) rfl (fun ls hl => ?_)
      refine lX7_draws_41 X p0 _ zF (0 : Int32) (0 : Int32) M2 H locs _ hw (lv_sub hl [2, 3, 1, 0] rfl) h (fun x15 M16 H locs ls hw hl h => ?_)
      refine lv_iload_n hx hb dX7_draws_70 rfl (lv_at hl 0 rfl) ?_
      exact z_ri X hw (zret h) dX7_draws_71
    · replace h := zif_f c5 h
      refine lv_aload_n hx hb dX7_draws_31 rfl (lv_at hl 0 rfl) ?_
      refine lv_iconst (v := 3) hx hb dX7_draws_32 (by decide) ?_
      obtain ⟨r17, M18, f19, h⟩ := zbi_e h
      refine z_qVi (As := [.int (3 : Int32)]) (rest := []) X hw (kX7_error l D cy a (3 : Int32) M2 r17 M18 f19) (cwX7_61 X.2.2.2.2.2.1 rfl rfl (zroomO (Nat.le_of_ble_eq_true rfl) (Nat.le_of_ble_eq_true rfl))) (zX7_lt (rfl : zX7 0)) (zS7 (rfl : zX7 0) cy a (M2 0)) rfl rfl rfl (Nat.le_of_ble_eq_true rfl) hl.1 hcs dX7_draws_33 (fun H locs hw => ?_)
      exact z_ri X hw (zret h) dX7_draws_36
  · replace h := zif_f c4 h
    refine lv_aload_n hx hb dX7_draws_10 rfl (lv_at hl 0 rfl) ?_
    refine lv_iconst (v := 1) hx hb dX7_draws_11 (by decide) ?_
    obtain ⟨r20, M21, f22, h⟩ := zbi_e h
    refine z_qVi (As := [.int (1 : Int32)]) (rest := []) X hw (kX7_error l D cy a (1 : Int32) M2 r20 M21 f22) (cwX7_61 X.2.2.2.2.2.1 rfl rfl (zroomO (Nat.le_of_ble_eq_true rfl) (Nat.le_of_ble_eq_true rfl))) (zX7_lt (rfl : zX7 0)) (zS7 (rfl : zX7 0) cy a (M2 0)) rfl rfl rfl (Nat.le_of_ble_eq_true rfl) hl.1 hcs dX7_draws_12 (fun H locs hw => ?_)
    exact z_ri X hw (zret h) dX7_draws_15
def fX7_seed (p0 : Int32) (M : zM) : Option (Int32 × zM) := zlt (M 1 12) (fun x1 => zlt (zst M 1 12 p0) (fun M2 => some (x1, M2)))
set_option maxRecDepth 100000 in
set_option maxHeartbeats 4000000 in
theorem kX7_seed (l : Launch) (D : va_G) (cy : Nat → ClassId) (a : Nat → Nat) (p0 : Int32) (M : zM) (r0 : Int32) (M0 : zM) (h : fX7_seed p0 M = some (r0, M0)) : zCi l D cy a yX7_seed cX7_seed 3 (some .int) (zRm 0 0) [.ref (a 0), .int p0] M (fun r u => r = r0 ∧ u = M0) := by
  intro sz
  refine zent_i sz (by decide) (Nat.le_of_ble_eq_true rfl) rfl (fun p e s m args below meth c ls H locs X hw hl => ?_)
  obtain ⟨hx, hb, hr, hml, hown, hW, hlocks⟩ := id X
  have hE := hw.2.2.2.2.1
  have hcs : 0 ≤ ((zRm 0 0)).cells ∧ 0 ≤ ((zRm 0 0)).slots := ⟨Nat.zero_le _, Nat.zero_le _⟩
  rw [fX7_seed] at h
  refine lv_aload_n hx hb dX7_seed_0 rfl (lv_at hl 0 rfl) ?_
  refine gtX7_10 X hw dX7_seed_1 ?_
  refine gtX7_175 X hw zX0_1 dX7_seed_4 ?_
  refine lv_topi (fun x1 ex1 => ?_)
  replace h := zlt_s ex1 h
  refine lv_istore_n (lv' := [(2, .int x1), (0, .ref (a 0)), (1, .int p0)]) hx hb dX7_seed_7 rfl hl (by decide) rfl (fun ls hl => ?_)
  refine lv_aload_n hx hb dX7_seed_8 rfl (lv_at hl 1 rfl) ?_
  refine gtX7_10 X hw dX7_seed_9 ?_
  refine lv_iload_n hx hb dX7_seed_12 rfl (lv_at hl 2 rfl) ?_
  refine ptX7_175 X hw zX0_1 dX7_seed_13 (fun M2 H locs eM2 hw => ?_)
  replace h := zlt_s eM2 h
  refine lv_iload_n hx hb dX7_seed_16 rfl (lv_at hl 0 rfl) ?_
  exact z_ri X hw (zret h) dX7_seed_17
def fX7_sell (p0 : Int32) (p1 : Int32) (p2 : Int32) (M : zM) : Option (Int32 × zM) := zbi (fX7_outside p0 (0 : Int32) (4 : Int32) M) (fun r1 M2 => if r1 = 0 then (zbi (fX7_outside p1 (0 : Int32) (4 : Int32) M2) (fun r8 M9 => if r8 = 0 then (if p0 = p1 then (zbi (fX7_error (1 : Int32) M9) (fun r16 M17 => some (r16, M17))) else (zbi (fX7_outside p2 (1 : Int32) (9999 : Int32) M9) (fun r19 M20 => if r19 = 0 then (zgd (p0 < 0 ∨ 5 ≤ p0.toNatClampNeg) (if p2 ≤ M20 5 (p0.toNatClampNeg) then (zgd (p0 < 0 ∨ 5 ≤ p0.toNatClampNeg) (zgd (p0 < 0 ∨ 5 ≤ p0.toNatClampNeg) (zlt (zst M20 5 (p0.toNatClampNeg) ((M20 5 (p0.toNatClampNeg)) - p2)) (fun M26 => zgd (p1 < 0 ∨ 5 ≤ p1.toNatClampNeg) (zlt (zmin ((M26 5 (p1.toNatClampNeg)) + p2) (999999 : Int32)) (fun x29 => zgd (p1 < 0 ∨ 5 ≤ p1.toNatClampNeg) (zlt (zst M26 5 (p1.toNatClampNeg) x29) (fun M30 => zgd (p1 < 0 ∨ 5 ≤ p1.toNatClampNeg) (some (M30 5 (p1.toNatClampNeg), M30)))))))))) else (zbi (fX7_error (3 : Int32) M20) (fun r33 M34 => some (r33, M34))))) else (zbi (fX7_error (1 : Int32) M20) (fun r36 M37 => some (r36, M37)))))) else (zbi (fX7_error (1 : Int32) M9) (fun r12 M13 => some (r12, M13))))) else (zbi (fX7_error (1 : Int32) M2) (fun r5 M6 => some (r5, M6))))
set_option maxRecDepth 100000 in
set_option maxHeartbeats 4000000 in
theorem kX7_sell (l : Launch) (D : va_G) (cy : Nat → ClassId) (a : Nat → Nat) (p0 : Int32) (p1 : Int32) (p2 : Int32) (M : zM) (r0 : Int32) (M0 : zM) (h : fX7_sell p0 p1 p2 M = some (r0, M0)) : zCi l D cy a yX7_sell cX7_sell 4 (some .int) (zRm 1 22) [.ref (a 0), .int p0, .int p1, .int p2] M (fun r u => r = r0 ∧ u = M0) := by
  intro sz
  refine zent_i sz (by decide) (Nat.le_of_ble_eq_true rfl) rfl (fun p e s m args below meth c ls H locs X hw hl => ?_)
  obtain ⟨hx, hb, hr, hml, hown, hW, hlocks⟩ := id X
  have hE := hw.2.2.2.2.1
  have hcs : 0 ≤ ((zRm 1 22)).cells ∧ 0 ≤ ((zRm 1 22)).slots := ⟨Nat.zero_le _, Nat.zero_le _⟩
  rw [fX7_sell] at h
  refine lv_iload_n hx hb dX7_sell_0 rfl (lv_at hl 1 rfl) ?_
  refine lv_iconst (v := 0) hx hb dX7_sell_1 (by decide) ?_
  refine lv_iconst (v := 4) hx hb dX7_sell_2 (by decide) ?_
  obtain ⟨r1, M2, f3, h⟩ := zbi_e h
  refine z_qSi (As := [.int p0, .int (0 : Int32), .int (4 : Int32)]) (rest := []) X hw (kX7_outside l D cy a p0 (0 : Int32) (4 : Int32) M r1 M2 f3) (cwX7_57 X.2.2.2.2.2.1 rfl rfl (zroomO (Nat.le_of_ble_eq_true rfl) (Nat.le_of_ble_eq_true rfl))) rfl rfl (Nat.le_of_ble_eq_true rfl) hl.1 hcs dX7_sell_3 (fun H locs hw => ?_)
  refine lv_if_ne (tgt := 34) hx hb dX7_sell_6 (by decide) (fun c4 => ?_) (fun c4 => ?_)
  · replace h := zif_f c4 h
    refine lv_aload_n hx hb dX7_sell_34 rfl (lv_at hl 0 rfl) ?_
    refine lv_iconst (v := 1) hx hb dX7_sell_35 (by decide) ?_
    obtain ⟨r5, M6, f7, h⟩ := zbi_e h
    refine z_qVi (As := [.int (1 : Int32)]) (rest := []) X hw (kX7_error l D cy a (1 : Int32) M2 r5 M6 f7) (cwX7_61 X.2.2.2.2.2.1 rfl rfl (zroomO (Nat.le_of_ble_eq_true rfl) (Nat.le_of_ble_eq_true rfl))) (zX7_lt (rfl : zX7 0)) (zS7 (rfl : zX7 0) cy a (M2 0)) rfl rfl rfl (Nat.le_of_ble_eq_true rfl) hl.1 hcs dX7_sell_36 (fun H locs hw => ?_)
    exact z_ri X hw (zret h) dX7_sell_39
  · replace h := zif_t c4 h
    refine lv_iload_n hx hb dX7_sell_9 rfl (lv_at hl 2 rfl) ?_
    refine lv_iconst (v := 0) hx hb dX7_sell_10 (by decide) ?_
    refine lv_iconst (v := 4) hx hb dX7_sell_11 (by decide) ?_
    obtain ⟨r8, M9, f10, h⟩ := zbi_e h
    refine z_qSi (As := [.int p1, .int (0 : Int32), .int (4 : Int32)]) (rest := []) X hw (kX7_outside l D cy a p1 (0 : Int32) (4 : Int32) M2 r8 M9 f10) (cwX7_57 X.2.2.2.2.2.1 rfl rfl (zroomO (Nat.le_of_ble_eq_true rfl) (Nat.le_of_ble_eq_true rfl))) rfl rfl (Nat.le_of_ble_eq_true rfl) hl.1 hcs dX7_sell_12 (fun H locs hw => ?_)
    refine lv_if_ne (tgt := 34) hx hb dX7_sell_15 (by decide) (fun c11 => ?_) (fun c11 => ?_)
    · replace h := zif_f c11 h
      refine lv_aload_n hx hb dX7_sell_34 rfl (lv_at hl 0 rfl) ?_
      refine lv_iconst (v := 1) hx hb dX7_sell_35 (by decide) ?_
      obtain ⟨r12, M13, f14, h⟩ := zbi_e h
      refine z_qVi (As := [.int (1 : Int32)]) (rest := []) X hw (kX7_error l D cy a (1 : Int32) M9 r12 M13 f14) (cwX7_61 X.2.2.2.2.2.1 rfl rfl (zroomO (Nat.le_of_ble_eq_true rfl) (Nat.le_of_ble_eq_true rfl))) (zX7_lt (rfl : zX7 0)) (zS7 (rfl : zX7 0) cy a (M9 0)) rfl rfl rfl (Nat.le_of_ble_eq_true rfl) hl.1 hcs dX7_sell_36 (fun H locs hw => ?_)
      exact z_ri X hw (zret h) dX7_sell_39
    · replace h := zif_t c11 h
      refine lv_iload_n hx hb dX7_sell_18 rfl (lv_at hl 1 rfl) ?_
      refine lv_iload_n hx hb dX7_sell_19 rfl (lv_at hl 2 rfl) ?_
      refine lv_icmp_eq (tgt := 34) hx hb dX7_sell_20 (by decide) (fun c15 => ?_) (fun c15 => ?_)
      · replace h := zif_t c15 h
        refine lv_aload_n hx hb dX7_sell_34 rfl (lv_at hl 0 rfl) ?_
        refine lv_iconst (v := 1) hx hb dX7_sell_35 (by decide) ?_
        obtain ⟨r16, M17, f18, h⟩ := zbi_e h
        refine z_qVi (As := [.int (1 : Int32)]) (rest := []) X hw (kX7_error l D cy a (1 : Int32) M9 r16 M17 f18) (cwX7_61 X.2.2.2.2.2.1 rfl rfl (zroomO (Nat.le_of_ble_eq_true rfl) (Nat.le_of_ble_eq_true rfl))) (zX7_lt (rfl : zX7 0)) (zS7 (rfl : zX7 0) cy a (M9 0)) rfl rfl rfl (Nat.le_of_ble_eq_true rfl) hl.1 hcs dX7_sell_36 (fun H locs hw => ?_)
        exact z_ri X hw (zret h) dX7_sell_39
      · replace h := zif_f c15 h
        refine lv_iload_n hx hb dX7_sell_23 rfl (lv_at hl 3 rfl) ?_
        refine lv_iconst (v := 1) hx hb dX7_sell_24 (by decide) ?_
        refine lv_sipush (v := 9999) hx hb dX7_sell_25 (by decide) ?_
        obtain ⟨r19, M20, f21, h⟩ := zbi_e h
        refine z_qSi (As := [.int p2, .int (1 : Int32), .int (9999 : Int32)]) (rest := []) X hw (kX7_outside l D cy a p2 (1 : Int32) (9999 : Int32) M9 r19 M20 f21) (cwX7_57 X.2.2.2.2.2.1 rfl rfl (zroomO (Nat.le_of_ble_eq_true rfl) (Nat.le_of_ble_eq_true rfl))) rfl rfl (Nat.le_of_ble_eq_true rfl) hl.1 hcs dX7_sell_28 (fun H locs hw => ?_)
        refine lv_if_eq (tgt := 40) hx hb dX7_sell_31 (by decide) (fun c22 => ?_) (fun c22 => ?_)
        · replace h := zif_t c22 h
          refine lv_aload_n hx hb dX7_sell_40 rfl (lv_at hl 0 rfl) ?_
          refine gtX7_10 X hw dX7_sell_41 ?_
          refine gtX7_178 X hw zX0_1 dX7_sell_44 ?_
          refine lv_iload_n hx hb dX7_sell_47 rfl (lv_at hl 1 rfl) ?_
          obtain ⟨g23, h⟩ := zgd_e h
          refine z_ald X hw (zI_0_4 zX0_1) g23 dX7_sell_48 ?_
          refine lv_iload_n hx hb dX7_sell_49 rfl (lv_at hl 3 rfl) ?_
          refine lv_icmp_ge (tgt := 59) hx hb dX7_sell_50 (by decide) (fun c24 => ?_) (fun c24 => ?_)
          · replace h := zif_t c24 h
            refine lv_aload_n hx hb dX7_sell_59 rfl (lv_at hl 0 rfl) ?_
            refine gtX7_10 X hw dX7_sell_60 ?_
            refine gtX7_178 X hw zX0_1 dX7_sell_63 ?_
            refine lv_iload_n hx hb dX7_sell_66 rfl (lv_at hl 1 rfl) ?_
            refine lv_dup2_11 hx hb dX7_sell_67 rfl rfl ?_
            obtain ⟨g25, h⟩ := zgd_e h
            refine z_ald X hw (zI_0_4 zX0_1) g25 dX7_sell_68 ?_
            refine lv_iload_n hx hb dX7_sell_69 rfl (lv_at hl 3 rfl) ?_
            refine lv_isub hx hb dX7_sell_70 ?_
            obtain ⟨g27, h⟩ := zgd_e h
            refine z_ast X hw (zI_0_4 zX0_1) g27 dX7_sell_71 (fun M26 H locs eM26 hw => ?_)
            replace h := zlt_s eM26 h
            refine lv_aload_n hx hb dX7_sell_72 rfl (lv_at hl 0 rfl) ?_
            refine gtX7_10 X hw dX7_sell_73 ?_
            refine gtX7_178 X hw zX0_1 dX7_sell_76 ?_
            refine lv_iload_n hx hb dX7_sell_79 rfl (lv_at hl 2 rfl) ?_
            refine lv_aload_n hx hb dX7_sell_80 rfl (lv_at hl 0 rfl) ?_
            refine gtX7_10 X hw dX7_sell_81 ?_
            refine gtX7_178 X hw zX0_1 dX7_sell_84 ?_
            refine lv_iload_n hx hb dX7_sell_87 rfl (lv_at hl 2 rfl) ?_
            obtain ⟨g28, h⟩ := zgd_e h
            refine z_ald X hw (zI_0_4 zX0_1) g28 dX7_sell_88 ?_
            refine lv_iload_n hx hb dX7_sell_89 rfl (lv_at hl 3 rfl) ?_
            refine lv_iadd hx hb dX7_sell_90 ?_
            refine z_ldc (v := 999999) X zm_31_8 dX7_sell_91 ?_
            refine z_min (rest := [.int p1, .ref (a 5)]) X zm_12_22 zm_12_6 zm_12_7 zm_12_8 hl.1 (Nat.le_of_ble_eq_true rfl) (Nat.le_of_ble_eq_true rfl) hcs dX7_sell_93 ?_
            refine lv_topi (fun x29 ex29 => ?_)
            replace h := zlt_s ex29 h
            obtain ⟨g31, h⟩ := zgd_e h
            refine z_ast X hw (zI_0_4 zX0_1) g31 dX7_sell_96 (fun M30 H locs eM30 hw => ?_)
            replace h := zlt_s eM30 h
            refine lv_aload_n hx hb dX7_sell_97 rfl (lv_at hl 0 rfl) ?_
            refine gtX7_10 X hw dX7_sell_98 ?_
            refine gtX7_178 X hw zX0_1 dX7_sell_101 ?_
            refine lv_iload_n hx hb dX7_sell_104 rfl (lv_at hl 2 rfl) ?_
            obtain ⟨g32, h⟩ := zgd_e h
            refine z_ald X hw (zI_0_4 zX0_1) g32 dX7_sell_105 ?_
            exact z_ri X hw (zret h) dX7_sell_106
          · replace h := zif_f c24 h
            refine lv_aload_n hx hb dX7_sell_53 rfl (lv_at hl 0 rfl) ?_
            refine lv_iconst (v := 3) hx hb dX7_sell_54 (by decide) ?_
            obtain ⟨r33, M34, f35, h⟩ := zbi_e h
            refine z_qVi (As := [.int (3 : Int32)]) (rest := []) X hw (kX7_error l D cy a (3 : Int32) M20 r33 M34 f35) (cwX7_61 X.2.2.2.2.2.1 rfl rfl (zroomO (Nat.le_of_ble_eq_true rfl) (Nat.le_of_ble_eq_true rfl))) (zX7_lt (rfl : zX7 0)) (zS7 (rfl : zX7 0) cy a (M20 0)) rfl rfl rfl (Nat.le_of_ble_eq_true rfl) hl.1 hcs dX7_sell_55 (fun H locs hw => ?_)
            exact z_ri X hw (zret h) dX7_sell_58
        · replace h := zif_f c22 h
          refine lv_aload_n hx hb dX7_sell_34 rfl (lv_at hl 0 rfl) ?_
          refine lv_iconst (v := 1) hx hb dX7_sell_35 (by decide) ?_
          obtain ⟨r36, M37, f38, h⟩ := zbi_e h
          refine z_qVi (As := [.int (1 : Int32)]) (rest := []) X hw (kX7_error l D cy a (1 : Int32) M20 r36 M37 f38) (cwX7_61 X.2.2.2.2.2.1 rfl rfl (zroomO (Nat.le_of_ble_eq_true rfl) (Nat.le_of_ble_eq_true rfl))) (zX7_lt (rfl : zX7 0)) (zS7 (rfl : zX7 0) cy a (M20 0)) rfl rfl rfl (Nat.le_of_ble_eq_true rfl) hl.1 hcs dX7_sell_36 (fun H locs hw => ?_)
          exact z_ri X hw (zret h) dX7_sell_39
def fX7_fair (p0 : Int32) (p1 : Int32) (M : zM) : Option (Int32 × zM) := zbi (fX7_outside p0 (0 : Int32) (4 : Int32) M) (fun r1 M2 => if r1 = 0 then (zbi (fX7_outside p1 (0 : Int32) (4 : Int32) M2) (fun r8 M9 => if r8 = 0 then (if p0 = p1 then (zbi (fX7_error (1 : Int32) M9) (fun r22 M23 => some (r22, M23))) else (zgd (p0 < 0 ∨ 5 ≤ p0.toNatClampNeg) (zgd (p0 < 0 ∨ 5 ≤ p0.toNatClampNeg) (zlt ((M9 5 (p0.toNatClampNeg)) - (M9 4 (p0.toNatClampNeg))) (fun x18 => zgd (p1 < 0 ∨ 5 ≤ p1.toNatClampNeg) (zgd (p1 < 0 ∨ 5 ≤ p1.toNatClampNeg) (zlt ((M9 5 (p1.toNatClampNeg)) - (M9 4 (p1.toNatClampNeg))) (fun x21 => some ((x18 - x21) / (2 : Int32), M9))))))))) else (zbi (fX7_error (1 : Int32) M9) (fun r12 M13 => some (r12, M13))))) else (zbi (fX7_error (1 : Int32) M2) (fun r5 M6 => some (r5, M6))))
set_option maxRecDepth 100000 in
set_option maxHeartbeats 4000000 in
theorem kX7_fair (l : Launch) (D : va_G) (cy : Nat → ClassId) (a : Nat → Nat) (p0 : Int32) (p1 : Int32) (M : zM) (r0 : Int32) (M0 : zM) (h : fX7_fair p0 p1 M = some (r0, M0)) : zCi l D cy a yX7_fair cX7_fair 5 (some .int) (zRm 1 22) [.ref (a 0), .int p0, .int p1] M (fun r u => r = r0 ∧ u = M0) := by
  intro sz
  refine zent_i sz (by decide) (Nat.le_of_ble_eq_true rfl) rfl (fun p e s m args below meth c ls H locs X hw hl => ?_)
  obtain ⟨hx, hb, hr, hml, hown, hW, hlocks⟩ := id X
  have hE := hw.2.2.2.2.1
  have hcs : 0 ≤ ((zRm 1 22)).cells ∧ 0 ≤ ((zRm 1 22)).slots := ⟨Nat.zero_le _, Nat.zero_le _⟩
  rw [fX7_fair] at h
  refine lv_iload_n hx hb dX7_fair_0 rfl (lv_at hl 1 rfl) ?_
  refine lv_iconst (v := 0) hx hb dX7_fair_1 (by decide) ?_
  refine lv_iconst (v := 4) hx hb dX7_fair_2 (by decide) ?_
  obtain ⟨r1, M2, f3, h⟩ := zbi_e h
  refine z_qSi (As := [.int p0, .int (0 : Int32), .int (4 : Int32)]) (rest := []) X hw (kX7_outside l D cy a p0 (0 : Int32) (4 : Int32) M r1 M2 f3) (cwX7_57 X.2.2.2.2.2.1 rfl rfl (zroomO (Nat.le_of_ble_eq_true rfl) (Nat.le_of_ble_eq_true rfl))) rfl rfl (Nat.le_of_ble_eq_true rfl) hl.1 hcs dX7_fair_3 (fun H locs hw => ?_)
  refine lv_if_ne (tgt := 23) hx hb dX7_fair_6 (by decide) (fun c4 => ?_) (fun c4 => ?_)
  · replace h := zif_f c4 h
    refine lv_aload_n hx hb dX7_fair_23 rfl (lv_at hl 0 rfl) ?_
    refine lv_iconst (v := 1) hx hb dX7_fair_24 (by decide) ?_
    obtain ⟨r5, M6, f7, h⟩ := zbi_e h
    refine z_qVi (As := [.int (1 : Int32)]) (rest := []) X hw (kX7_error l D cy a (1 : Int32) M2 r5 M6 f7) (cwX7_61 X.2.2.2.2.2.1 rfl rfl (zroomO (Nat.le_of_ble_eq_true rfl) (Nat.le_of_ble_eq_true rfl))) (zX7_lt (rfl : zX7 0)) (zS7 (rfl : zX7 0) cy a (M2 0)) rfl rfl rfl (Nat.le_of_ble_eq_true rfl) hl.1 hcs dX7_fair_25 (fun H locs hw => ?_)
    exact z_ri X hw (zret h) dX7_fair_28
  · replace h := zif_t c4 h
    refine lv_iload_n hx hb dX7_fair_9 rfl (lv_at hl 2 rfl) ?_
    refine lv_iconst (v := 0) hx hb dX7_fair_10 (by decide) ?_
    refine lv_iconst (v := 4) hx hb dX7_fair_11 (by decide) ?_
    obtain ⟨r8, M9, f10, h⟩ := zbi_e h
    refine z_qSi (As := [.int p1, .int (0 : Int32), .int (4 : Int32)]) (rest := []) X hw (kX7_outside l D cy a p1 (0 : Int32) (4 : Int32) M2 r8 M9 f10) (cwX7_57 X.2.2.2.2.2.1 rfl rfl (zroomO (Nat.le_of_ble_eq_true rfl) (Nat.le_of_ble_eq_true rfl))) rfl rfl (Nat.le_of_ble_eq_true rfl) hl.1 hcs dX7_fair_12 (fun H locs hw => ?_)
    refine lv_if_ne (tgt := 23) hx hb dX7_fair_15 (by decide) (fun c11 => ?_) (fun c11 => ?_)
    · replace h := zif_f c11 h
      refine lv_aload_n hx hb dX7_fair_23 rfl (lv_at hl 0 rfl) ?_
      refine lv_iconst (v := 1) hx hb dX7_fair_24 (by decide) ?_
      obtain ⟨r12, M13, f14, h⟩ := zbi_e h
      refine z_qVi (As := [.int (1 : Int32)]) (rest := []) X hw (kX7_error l D cy a (1 : Int32) M9 r12 M13 f14) (cwX7_61 X.2.2.2.2.2.1 rfl rfl (zroomO (Nat.le_of_ble_eq_true rfl) (Nat.le_of_ble_eq_true rfl))) (zX7_lt (rfl : zX7 0)) (zS7 (rfl : zX7 0) cy a (M9 0)) rfl rfl rfl (Nat.le_of_ble_eq_true rfl) hl.1 hcs dX7_fair_25 (fun H locs hw => ?_)
      exact z_ri X hw (zret h) dX7_fair_28
    · replace h := zif_t c11 h
      refine lv_iload_n hx hb dX7_fair_18 rfl (lv_at hl 1 rfl) ?_
      refine lv_iload_n hx hb dX7_fair_19 rfl (lv_at hl 2 rfl) ?_
      refine lv_icmp_ne (tgt := 29) hx hb dX7_fair_20 (by decide) (fun c15 => ?_) (fun c15 => ?_)
      · replace h := zif_f c15 h
        refine lv_aload_n hx hb dX7_fair_29 rfl (lv_at hl 0 rfl) ?_
        refine gtX7_10 X hw dX7_fair_30 ?_
        refine gtX7_178 X hw zX0_1 dX7_fair_33 ?_
        refine lv_iload_n hx hb dX7_fair_36 rfl (lv_at hl 1 rfl) ?_
        obtain ⟨g16, h⟩ := zgd_e h
        refine z_ald X hw (zI_0_4 zX0_1) g16 dX7_fair_37 ?_
        refine lv_aload_n hx hb dX7_fair_38 rfl (lv_at hl 0 rfl) ?_
        refine gtX7_10 X hw dX7_fair_39 ?_
        refine gtX7_76 X hw zX0_1 dX7_fair_42 ?_
        refine lv_iload_n hx hb dX7_fair_45 rfl (lv_at hl 1 rfl) ?_
        obtain ⟨g17, h⟩ := zgd_e h
        refine z_ald X hw (zI_0_3 zX0_1) g17 dX7_fair_46 ?_
        refine lv_isub hx hb dX7_fair_47 ?_
        refine lv_topi (fun x18 ex18 => ?_)
        replace h := zlt_s ex18 h
        refine lv_istore_n (lv' := [(3, .int x18), (0, .ref (a 0)), (1, .int p0), (2, .int p1)]) hx hb dX7_fair_48 rfl hl (by decide) rfl (fun ls hl => ?_)
        refine lv_aload_n hx hb dX7_fair_49 rfl (lv_at hl 1 rfl) ?_
        refine gtX7_10 X hw dX7_fair_50 ?_
        refine gtX7_178 X hw zX0_1 dX7_fair_53 ?_
        refine lv_iload_n hx hb dX7_fair_56 rfl (lv_at hl 3 rfl) ?_
        obtain ⟨g19, h⟩ := zgd_e h
        refine z_ald X hw (zI_0_4 zX0_1) g19 dX7_fair_57 ?_
        refine lv_aload_n hx hb dX7_fair_58 rfl (lv_at hl 1 rfl) ?_
        refine gtX7_10 X hw dX7_fair_59 ?_
        refine gtX7_76 X hw zX0_1 dX7_fair_62 ?_
        refine lv_iload_n hx hb dX7_fair_65 rfl (lv_at hl 3 rfl) ?_
        obtain ⟨g20, h⟩ := zgd_e h
        refine z_ald X hw (zI_0_3 zX0_1) g20 dX7_fair_66 ?_
        refine lv_isub hx hb dX7_fair_67 ?_
        refine lv_topi (fun x21 ex21 => ?_)
        replace h := zlt_s ex21 h
        refine lv_istore (lv' := [(4, .int x21), (3, .int x18), (0, .ref (a 0)), (1, .int p0), (2, .int p1)]) hx hb dX7_fair_68 hl (by decide) rfl (fun ls hl => ?_)
        refine lv_iload_n hx hb dX7_fair_70 rfl (lv_at hl 1 rfl) ?_
        refine lv_iload hx hb dX7_fair_71 (lv_at hl 0 rfl) ?_
        refine lv_isub hx hb dX7_fair_73 ?_
        refine lv_iconst (v := 2) hx hb dX7_fair_74 (by decide) ?_
        refine lv_idiv hx hb dX7_fair_75 (by decide) ?_
        exact z_ri X hw (zret h) dX7_fair_76
      · replace h := zif_t c15 h
        refine lv_aload_n hx hb dX7_fair_23 rfl (lv_at hl 0 rfl) ?_
        refine lv_iconst (v := 1) hx hb dX7_fair_24 (by decide) ?_
        obtain ⟨r22, M23, f24, h⟩ := zbi_e h
        refine z_qVi (As := [.int (1 : Int32)]) (rest := []) X hw (kX7_error l D cy a (1 : Int32) M9 r22 M23 f24) (cwX7_61 X.2.2.2.2.2.1 rfl rfl (zroomO (Nat.le_of_ble_eq_true rfl) (Nat.le_of_ble_eq_true rfl))) (zX7_lt (rfl : zX7 0)) (zS7 (rfl : zX7 0) cy a (M9 0)) rfl rfl rfl (Nat.le_of_ble_eq_true rfl) hl.1 hcs dX7_fair_25 (fun H locs hw => ?_)
        exact z_ri X hw (zret h) dX7_fair_28
def fX7_then (p0 : Int32) (p1 : Int32) (p2 : Int32) (M : zM) : Option (Int32 × zM) := zbi (fX7_outside p0 (0 : Int32) (240 : Int32) M) (fun r1 M2 => if r1 = 0 then (zbi (fX7_noWheel p1 M2) (fun r8 M9 => if r8 = 0 then (zbi (fX7_outside p2 (0 : Int32) (9 : Int32) M9) (fun r15 M16 => if r15 = 0 then (zbv (fX0_copyFrom 45 1 M16) (fun M20 => zbi (fX0_passHours 45 p0 M20) (fun r22 M23 => zbi (fX0_wheelPart 45 p1 p2 M23) (fun r25 M26 => some (r25, M26))))) else (zbi (fX7_error (1 : Int32) M16) (fun r28 M29 => some (r28, M29))))) else (zbi (fX7_error (1 : Int32) M9) (fun r12 M13 => some (r12, M13))))) else (zbi (fX7_error (1 : Int32) M2) (fun r5 M6 => some (r5, M6))))
set_option maxRecDepth 100000 in
set_option maxHeartbeats 4000000 in
theorem kX7_then (l : Launch) (D : va_G) (cy : Nat → ClassId) (a : Nat → Nat) (p0 : Int32) (p1 : Int32) (p2 : Int32) (M : zM) (r0 : Int32) (M0 : zM) (h : fX7_then p0 p1 p2 M = some (r0, M0)) : zCi l D cy a yX7_then cX7_then 4 (some .int) (zRm 7 161) [.ref (a 0), .int p0, .int p1, .int p2] M (fun r u => r = r0 ∧ u = M0) := by
  intro sz
  refine zent_i sz (by decide) (Nat.le_of_ble_eq_true rfl) rfl (fun p e s m args below meth c ls H locs X hw hl => ?_)
  obtain ⟨hx, hb, hr, hml, hown, hW, hlocks⟩ := id X
  have hE := hw.2.2.2.2.1
  have hcs : 0 ≤ ((zRm 7 161)).cells ∧ 0 ≤ ((zRm 7 161)).slots := ⟨Nat.zero_le _, Nat.zero_le _⟩
  rw [fX7_then] at h
  refine lv_iload_n hx hb dX7_then_0 rfl (lv_at hl 1 rfl) ?_
  refine lv_iconst (v := 0) hx hb dX7_then_1 (by decide) ?_
  refine lv_sipush (v := 240) hx hb dX7_then_2 (by decide) ?_
  obtain ⟨r1, M2, f3, h⟩ := zbi_e h
  refine z_qSi (As := [.int p0, .int (0 : Int32), .int (240 : Int32)]) (rest := []) X hw (kX7_outside l D cy a p0 (0 : Int32) (240 : Int32) M r1 M2 f3) (cwX7_57 X.2.2.2.2.2.1 rfl rfl (zroomO (Nat.le_of_ble_eq_true rfl) (Nat.le_of_ble_eq_true rfl))) rfl rfl (Nat.le_of_ble_eq_true rfl) hl.1 hcs dX7_then_5 (fun H locs hw => ?_)
  refine lv_if_ne (tgt := 29) hx hb dX7_then_8 (by decide) (fun c4 => ?_) (fun c4 => ?_)
  · replace h := zif_f c4 h
    refine lv_aload_n hx hb dX7_then_29 rfl (lv_at hl 0 rfl) ?_
    refine lv_iconst (v := 1) hx hb dX7_then_30 (by decide) ?_
    obtain ⟨r5, M6, f7, h⟩ := zbi_e h
    refine z_qVi (As := [.int (1 : Int32)]) (rest := []) X hw (kX7_error l D cy a (1 : Int32) M2 r5 M6 f7) (cwX7_61 X.2.2.2.2.2.1 rfl rfl (zroomO (Nat.le_of_ble_eq_true rfl) (Nat.le_of_ble_eq_true rfl))) (zX7_lt (rfl : zX7 0)) (zS7 (rfl : zX7 0) cy a (M2 0)) rfl rfl rfl (Nat.le_of_ble_eq_true rfl) hl.1 hcs dX7_then_31 (fun H locs hw => ?_)
    exact z_ri X hw (zret h) dX7_then_34
  · replace h := zif_t c4 h
    refine lv_aload_n hx hb dX7_then_11 rfl (lv_at hl 0 rfl) ?_
    refine lv_iload_n hx hb dX7_then_12 rfl (lv_at hl 2 rfl) ?_
    obtain ⟨r8, M9, f10, h⟩ := zbi_e h
    refine z_qVi (As := [.int p1]) (rest := []) X hw (kX7_noWheel l D cy a p1 M2 r8 M9 f10) (cwX7_90 X.2.2.2.2.2.1 rfl rfl (zroomO (Nat.le_of_ble_eq_true rfl) (Nat.le_of_ble_eq_true rfl))) (zX7_lt (rfl : zX7 0)) (zS7 (rfl : zX7 0) cy a (M2 0)) rfl rfl rfl (Nat.le_of_ble_eq_true rfl) hl.1 hcs dX7_then_13 (fun H locs hw => ?_)
    refine lv_if_ne (tgt := 29) hx hb dX7_then_16 (by decide) (fun c11 => ?_) (fun c11 => ?_)
    · replace h := zif_f c11 h
      refine lv_aload_n hx hb dX7_then_29 rfl (lv_at hl 0 rfl) ?_
      refine lv_iconst (v := 1) hx hb dX7_then_30 (by decide) ?_
      obtain ⟨r12, M13, f14, h⟩ := zbi_e h
      refine z_qVi (As := [.int (1 : Int32)]) (rest := []) X hw (kX7_error l D cy a (1 : Int32) M9 r12 M13 f14) (cwX7_61 X.2.2.2.2.2.1 rfl rfl (zroomO (Nat.le_of_ble_eq_true rfl) (Nat.le_of_ble_eq_true rfl))) (zX7_lt (rfl : zX7 0)) (zS7 (rfl : zX7 0) cy a (M9 0)) rfl rfl rfl (Nat.le_of_ble_eq_true rfl) hl.1 hcs dX7_then_31 (fun H locs hw => ?_)
      exact z_ri X hw (zret h) dX7_then_34
    · replace h := zif_t c11 h
      refine lv_iload_n hx hb dX7_then_19 rfl (lv_at hl 3 rfl) ?_
      refine lv_iconst (v := 0) hx hb dX7_then_20 (by decide) ?_
      refine lv_bipush (v := 9) hx hb dX7_then_21 (by decide) ?_
      obtain ⟨r15, M16, f17, h⟩ := zbi_e h
      refine z_qSi (As := [.int p2, .int (0 : Int32), .int (9 : Int32)]) (rest := []) X hw (kX7_outside l D cy a p2 (0 : Int32) (9 : Int32) M9 r15 M16 f17) (cwX7_57 X.2.2.2.2.2.1 rfl rfl (zroomO (Nat.le_of_ble_eq_true rfl) (Nat.le_of_ble_eq_true rfl))) rfl rfl (Nat.le_of_ble_eq_true rfl) hl.1 hcs dX7_then_23 (fun H locs hw => ?_)
      refine lv_if_eq (tgt := 35) hx hb dX7_then_26 (by decide) (fun c18 => ?_) (fun c18 => ?_)
      · replace h := zif_t c18 h
        refine lv_aload_n hx hb dX7_then_35 rfl (lv_at hl 0 rfl) ?_
        refine gtX7_19 X hw dX7_then_36 ?_
        refine lv_aload_n hx hb dX7_then_39 rfl (lv_at hl 0 rfl) ?_
        refine gtX7_10 X hw dX7_then_40 ?_
        obtain ⟨M20, f21, h⟩ := zbv_e h
        refine z_qVv (As := [.ref (a 1)]) (rest := []) X hw (kX0_copyFrom l D cy a 45 zX0_45 1 zX0_1 M16 M20 f21) (cwX7_187 X.2.2.2.2.2.1 rfl rfl (zroomO (Nat.le_of_ble_eq_true rfl) (Nat.le_of_ble_eq_true rfl))) (zX0_lt zX0_45) (zS0 zX0_45 cy a (M16 45)) rfl rfl rfl (Nat.le_of_ble_eq_true rfl) hl.1 hcs dX7_then_43 (fun H locs hw => ?_)
        refine lv_aload_n hx hb dX7_then_46 rfl (lv_at hl 0 rfl) ?_
        refine gtX7_19 X hw dX7_then_47 ?_
        refine lv_iload_n hx hb dX7_then_50 rfl (lv_at hl 1 rfl) ?_
        obtain ⟨r22, M23, f24, h⟩ := zbi_e h
        refine z_qVi (As := [.int p0]) (rest := []) X hw (kX0_passHours l D cy a 45 zX0_45 p0 M20 r22 M23 f24) (cwX7_162 X.2.2.2.2.2.1 rfl rfl (zroomO (Nat.le_of_ble_eq_true rfl) (Nat.le_of_ble_eq_true rfl))) (zX0_lt zX0_45) (zS0 zX0_45 cy a (M20 45)) rfl rfl rfl (Nat.le_of_ble_eq_true rfl) hl.1 hcs dX7_then_51 (fun H locs hw => ?_)
        refine lv_pop hx hb dX7_then_54 rfl ?_
        refine lv_aload_n hx hb dX7_then_55 rfl (lv_at hl 0 rfl) ?_
        refine gtX7_19 X hw dX7_then_56 ?_
        refine lv_iload_n hx hb dX7_then_59 rfl (lv_at hl 2 rfl) ?_
        refine lv_iload_n hx hb dX7_then_60 rfl (lv_at hl 3 rfl) ?_
        obtain ⟨r25, M26, f27, h⟩ := zbi_e h
        refine z_qVi (As := [.int p1, .int p2]) (rest := []) X hw (kX0_wheelPart l D cy a 45 zX0_45 p1 p2 M23 r25 M26 f27) (cwX7_94 X.2.2.2.2.2.1 rfl rfl (zroomO (Nat.le_of_ble_eq_true rfl) (Nat.le_of_ble_eq_true rfl))) (zX0_lt zX0_45) (zS0 zX0_45 cy a (M23 45)) rfl rfl rfl (Nat.le_of_ble_eq_true rfl) hl.1 hcs dX7_then_61 (fun H locs hw => ?_)
        exact z_ri X hw (zret h) dX7_then_64
      · replace h := zif_f c18 h
        refine lv_aload_n hx hb dX7_then_29 rfl (lv_at hl 0 rfl) ?_
        refine lv_iconst (v := 1) hx hb dX7_then_30 (by decide) ?_
        obtain ⟨r28, M29, f30, h⟩ := zbi_e h
        refine z_qVi (As := [.int (1 : Int32)]) (rest := []) X hw (kX7_error l D cy a (1 : Int32) M16 r28 M29 f30) (cwX7_61 X.2.2.2.2.2.1 rfl rfl (zroomO (Nat.le_of_ble_eq_true rfl) (Nat.le_of_ble_eq_true rfl))) (zX7_lt (rfl : zX7 0)) (zS7 (rfl : zX7 0) cy a (M16 0)) rfl rfl rfl (Nat.le_of_ble_eq_true rfl) hl.1 hcs dX7_then_31 (fun H locs hw => ?_)
        exact z_ri X hw (zret h) dX7_then_34
def fX7_thenFamily (p0 : Int32) (p1 : Int32) (p2 : Int32) (M : zM) : Option (Int32 × zM) := zbi (fX7_outside p0 (0 : Int32) (240 : Int32) M) (fun r1 M2 => if r1 = 0 then (zbi (fX7_outside p1 (0 : Int32) (4 : Int32) M2) (fun r8 M9 => if r8 = 0 then (zbi (fX7_outside p2 (0 : Int32) (3 : Int32) M9) (fun r15 M16 => if r15 = 0 then (zbv (fX0_copyFrom 45 1 M16) (fun M20 => zbi (fX0_passHours 45 p0 M20) (fun r22 M23 => zbi (fX0_familyPart 45 p1 p2 M23) (fun r25 M26 => some (r25, M26))))) else (zbi (fX7_error (1 : Int32) M16) (fun r28 M29 => some (r28, M29))))) else (zbi (fX7_error (1 : Int32) M9) (fun r12 M13 => some (r12, M13))))) else (zbi (fX7_error (1 : Int32) M2) (fun r5 M6 => some (r5, M6))))
set_option maxRecDepth 100000 in
set_option maxHeartbeats 4000000 in
theorem kX7_thenFamily (l : Launch) (D : va_G) (cy : Nat → ClassId) (a : Nat → Nat) (p0 : Int32) (p1 : Int32) (p2 : Int32) (M : zM) (r0 : Int32) (M0 : zM) (h : fX7_thenFamily p0 p1 p2 M = some (r0, M0)) : zCi l D cy a yX7_thenFamily cX7_thenFamily 4 (some .int) (zRm 7 161) [.ref (a 0), .int p0, .int p1, .int p2] M (fun r u => r = r0 ∧ u = M0) := by
  intro sz
  refine zent_i sz (by decide) (Nat.le_of_ble_eq_true rfl) rfl (fun p e s m args below meth c ls H locs X hw hl => ?_)
  obtain ⟨hx, hb, hr, hml, hown, hW, hlocks⟩ := id X
  have hE := hw.2.2.2.2.1
  have hcs : 0 ≤ ((zRm 7 161)).cells ∧ 0 ≤ ((zRm 7 161)).slots := ⟨Nat.zero_le _, Nat.zero_le _⟩
  rw [fX7_thenFamily] at h
  refine lv_iload_n hx hb dX7_thenFamily_0 rfl (lv_at hl 1 rfl) ?_
  refine lv_iconst (v := 0) hx hb dX7_thenFamily_1 (by decide) ?_
  refine lv_sipush (v := 240) hx hb dX7_thenFamily_2 (by decide) ?_
  obtain ⟨r1, M2, f3, h⟩ := zbi_e h
  refine z_qSi (As := [.int p0, .int (0 : Int32), .int (240 : Int32)]) (rest := []) X hw (kX7_outside l D cy a p0 (0 : Int32) (240 : Int32) M r1 M2 f3) (cwX7_57 X.2.2.2.2.2.1 rfl rfl (zroomO (Nat.le_of_ble_eq_true rfl) (Nat.le_of_ble_eq_true rfl))) rfl rfl (Nat.le_of_ble_eq_true rfl) hl.1 hcs dX7_thenFamily_5 (fun H locs hw => ?_)
  refine lv_if_ne (tgt := 29) hx hb dX7_thenFamily_8 (by decide) (fun c4 => ?_) (fun c4 => ?_)
  · replace h := zif_f c4 h
    refine lv_aload_n hx hb dX7_thenFamily_29 rfl (lv_at hl 0 rfl) ?_
    refine lv_iconst (v := 1) hx hb dX7_thenFamily_30 (by decide) ?_
    obtain ⟨r5, M6, f7, h⟩ := zbi_e h
    refine z_qVi (As := [.int (1 : Int32)]) (rest := []) X hw (kX7_error l D cy a (1 : Int32) M2 r5 M6 f7) (cwX7_61 X.2.2.2.2.2.1 rfl rfl (zroomO (Nat.le_of_ble_eq_true rfl) (Nat.le_of_ble_eq_true rfl))) (zX7_lt (rfl : zX7 0)) (zS7 (rfl : zX7 0) cy a (M2 0)) rfl rfl rfl (Nat.le_of_ble_eq_true rfl) hl.1 hcs dX7_thenFamily_31 (fun H locs hw => ?_)
    exact z_ri X hw (zret h) dX7_thenFamily_34
  · replace h := zif_t c4 h
    refine lv_iload_n hx hb dX7_thenFamily_11 rfl (lv_at hl 2 rfl) ?_
    refine lv_iconst (v := 0) hx hb dX7_thenFamily_12 (by decide) ?_
    refine lv_iconst (v := 4) hx hb dX7_thenFamily_13 (by decide) ?_
    obtain ⟨r8, M9, f10, h⟩ := zbi_e h
    refine z_qSi (As := [.int p1, .int (0 : Int32), .int (4 : Int32)]) (rest := []) X hw (kX7_outside l D cy a p1 (0 : Int32) (4 : Int32) M2 r8 M9 f10) (cwX7_57 X.2.2.2.2.2.1 rfl rfl (zroomO (Nat.le_of_ble_eq_true rfl) (Nat.le_of_ble_eq_true rfl))) rfl rfl (Nat.le_of_ble_eq_true rfl) hl.1 hcs dX7_thenFamily_14 (fun H locs hw => ?_)
    refine lv_if_ne (tgt := 29) hx hb dX7_thenFamily_17 (by decide) (fun c11 => ?_) (fun c11 => ?_)
    · replace h := zif_f c11 h
      refine lv_aload_n hx hb dX7_thenFamily_29 rfl (lv_at hl 0 rfl) ?_
      refine lv_iconst (v := 1) hx hb dX7_thenFamily_30 (by decide) ?_
      obtain ⟨r12, M13, f14, h⟩ := zbi_e h
      refine z_qVi (As := [.int (1 : Int32)]) (rest := []) X hw (kX7_error l D cy a (1 : Int32) M9 r12 M13 f14) (cwX7_61 X.2.2.2.2.2.1 rfl rfl (zroomO (Nat.le_of_ble_eq_true rfl) (Nat.le_of_ble_eq_true rfl))) (zX7_lt (rfl : zX7 0)) (zS7 (rfl : zX7 0) cy a (M9 0)) rfl rfl rfl (Nat.le_of_ble_eq_true rfl) hl.1 hcs dX7_thenFamily_31 (fun H locs hw => ?_)
      exact z_ri X hw (zret h) dX7_thenFamily_34
    · replace h := zif_t c11 h
      refine lv_iload_n hx hb dX7_thenFamily_20 rfl (lv_at hl 3 rfl) ?_
      refine lv_iconst (v := 0) hx hb dX7_thenFamily_21 (by decide) ?_
      refine lv_iconst (v := 3) hx hb dX7_thenFamily_22 (by decide) ?_
      obtain ⟨r15, M16, f17, h⟩ := zbi_e h
      refine z_qSi (As := [.int p2, .int (0 : Int32), .int (3 : Int32)]) (rest := []) X hw (kX7_outside l D cy a p2 (0 : Int32) (3 : Int32) M9 r15 M16 f17) (cwX7_57 X.2.2.2.2.2.1 rfl rfl (zroomO (Nat.le_of_ble_eq_true rfl) (Nat.le_of_ble_eq_true rfl))) rfl rfl (Nat.le_of_ble_eq_true rfl) hl.1 hcs dX7_thenFamily_23 (fun H locs hw => ?_)
      refine lv_if_eq (tgt := 35) hx hb dX7_thenFamily_26 (by decide) (fun c18 => ?_) (fun c18 => ?_)
      · replace h := zif_t c18 h
        refine lv_aload_n hx hb dX7_thenFamily_35 rfl (lv_at hl 0 rfl) ?_
        refine gtX7_19 X hw dX7_thenFamily_36 ?_
        refine lv_aload_n hx hb dX7_thenFamily_39 rfl (lv_at hl 0 rfl) ?_
        refine gtX7_10 X hw dX7_thenFamily_40 ?_
        obtain ⟨M20, f21, h⟩ := zbv_e h
        refine z_qVv (As := [.ref (a 1)]) (rest := []) X hw (kX0_copyFrom l D cy a 45 zX0_45 1 zX0_1 M16 M20 f21) (cwX7_187 X.2.2.2.2.2.1 rfl rfl (zroomO (Nat.le_of_ble_eq_true rfl) (Nat.le_of_ble_eq_true rfl))) (zX0_lt zX0_45) (zS0 zX0_45 cy a (M16 45)) rfl rfl rfl (Nat.le_of_ble_eq_true rfl) hl.1 hcs dX7_thenFamily_43 (fun H locs hw => ?_)
        refine lv_aload_n hx hb dX7_thenFamily_46 rfl (lv_at hl 0 rfl) ?_
        refine gtX7_19 X hw dX7_thenFamily_47 ?_
        refine lv_iload_n hx hb dX7_thenFamily_50 rfl (lv_at hl 1 rfl) ?_
        obtain ⟨r22, M23, f24, h⟩ := zbi_e h
        refine z_qVi (As := [.int p0]) (rest := []) X hw (kX0_passHours l D cy a 45 zX0_45 p0 M20 r22 M23 f24) (cwX7_162 X.2.2.2.2.2.1 rfl rfl (zroomO (Nat.le_of_ble_eq_true rfl) (Nat.le_of_ble_eq_true rfl))) (zX0_lt zX0_45) (zS0 zX0_45 cy a (M20 45)) rfl rfl rfl (Nat.le_of_ble_eq_true rfl) hl.1 hcs dX7_thenFamily_51 (fun H locs hw => ?_)
        refine lv_pop hx hb dX7_thenFamily_54 rfl ?_
        refine lv_aload_n hx hb dX7_thenFamily_55 rfl (lv_at hl 0 rfl) ?_
        refine gtX7_19 X hw dX7_thenFamily_56 ?_
        refine lv_iload_n hx hb dX7_thenFamily_59 rfl (lv_at hl 2 rfl) ?_
        refine lv_iload_n hx hb dX7_thenFamily_60 rfl (lv_at hl 3 rfl) ?_
        obtain ⟨r25, M26, f27, h⟩ := zbi_e h
        refine z_qVi (As := [.int p1, .int p2]) (rest := []) X hw (kX0_familyPart l D cy a 45 zX0_45 p1 p2 M23 r25 M26 f27) (cwX7_79 X.2.2.2.2.2.1 rfl rfl (zroomO (Nat.le_of_ble_eq_true rfl) (Nat.le_of_ble_eq_true rfl))) (zX0_lt zX0_45) (zS0 zX0_45 cy a (M23 45)) rfl rfl rfl (Nat.le_of_ble_eq_true rfl) hl.1 hcs dX7_thenFamily_61 (fun H locs hw => ?_)
        exact z_ri X hw (zret h) dX7_thenFamily_64
      · replace h := zif_f c18 h
        refine lv_aload_n hx hb dX7_thenFamily_29 rfl (lv_at hl 0 rfl) ?_
        refine lv_iconst (v := 1) hx hb dX7_thenFamily_30 (by decide) ?_
        obtain ⟨r28, M29, f30, h⟩ := zbi_e h
        refine z_qVi (As := [.int (1 : Int32)]) (rest := []) X hw (kX7_error l D cy a (1 : Int32) M16 r28 M29 f30) (cwX7_61 X.2.2.2.2.2.1 rfl rfl (zroomO (Nat.le_of_ble_eq_true rfl) (Nat.le_of_ble_eq_true rfl))) (zX7_lt (rfl : zX7 0)) (zS7 (rfl : zX7 0) cy a (M16 0)) rfl rfl rfl (Nat.le_of_ble_eq_true rfl) hl.1 hcs dX7_thenFamily_31 (fun H locs hw => ?_)
        exact z_ri X hw (zret h) dX7_thenFamily_34
def fX7_when_39 (y1 : Int32) (y2 : Int32) (k : zM → Option (Int32 × zM)) : Nat → Int32 → zM → Option (Int32 × zM)
  | 0, _, _ => none
  | n + 1, v3, M => if y2 < v3 then (k  M) else (zbi (fX0_isPaid 45 y1 M) (fun r16 M17 => if r16 = 0 then (zbi (fX0_passHour 45 M17) (fun r20 M21 => zlt (v3 + (1 : Int32)) (fun x23 => fX7_when_39 y1 y2 k n x23 M21))) else (some (v3, M17))))
set_option maxRecDepth 100000 in
set_option maxHeartbeats 4000000 in
theorem lX7_when_39 {p : Program} {l : Launch} {e : Env} {s : State} {m : MethodId} {args : Array Value} {below : List Frame} {meth : Method} {c : Code} {D : va_G} {cy : Nat → ClassId} {a : Nat → Nat} {r0 : Int32} {M0 : zM} (X : zCX p s m meth c args cX7_when 4 (some .int) RX7) (y1 : Int32) (y2 : Int32) (k : zM → Option (Int32 × zM)) : ∀ (n : Nat) (v3 : Int32) (M : zM) (H : Heap) (locs : List Loc) (ls : Array Slot), zWD D cy a (zfr a s.heap.size) M H locs s → lv_has ls 4 [(0, .ref (a 0)), (1, .int y1), (2, .int y2), (3, .int v3)] → fX7_when_39 y1 y2 k n v3 M = some (r0, M0) →
    (∀ (M' : zM) (H' : Heap) (locs' : List Loc) (ls' : Array Slot), zWD D cy a (zfr a s.heap.size) M' H' locs' s → lv_has ls' 4 [(0, .ref (a 0))] → k M' = some (r0, M0) → W p l e (zRm 6 138) s m args below meth c H' locs' 0 0 (zQi D cy a s args below r0 M0) (F0 m 71 ls' [])) →
    W p l e (zRm 6 138) s m args below meth c H locs 0 0 (zQi D cy a s args below r0 M0) (F0 m 39 ls []) := by
  obtain ⟨hx, hb, hr, hml, hown, hW, hlocks⟩ := id X
  have hcs : 0 ≤ ((zRm 6 138)).cells ∧ 0 ≤ ((zRm 6 138)).slots := ⟨Nat.zero_le _, Nat.zero_le _⟩
  intro n
  induction n with
  | zero =>
    intro v3 M H locs ls hw hl h hk
    cases h
  | succ n ih =>
    intro v3 M H locs ls hw hl h hk
    have hE := hw.2.2.2.2.1
    rw [fX7_when_39] at h
    refine lv_iload_n hx hb dX7_when_39 rfl (lv_at hl 3 rfl) ?_
    refine lv_iload_n hx hb dX7_when_40 rfl (lv_at hl 2 rfl) ?_
    refine lv_icmp_gt (tgt := 71) hx hb dX7_when_41 (by decide) (fun c15 => ?_) (fun c15 => ?_)
    · replace h := zif_t c15 h
      exact hk  M H locs _ hw (lv_sub hl [0] rfl) h
    · replace h := zif_f c15 h
      refine lv_aload_n hx hb dX7_when_44 rfl (lv_at hl 0 rfl) ?_
      refine gtX7_19 X hw dX7_when_45 ?_
      refine lv_iload_n hx hb dX7_when_48 rfl (lv_at hl 1 rfl) ?_
      obtain ⟨r16, M17, f18, h⟩ := zbi_e h
      refine z_qVi (As := [.int y1]) (rest := []) X hw (kX0_isPaid l D cy a 45 zX0_45 y1 M r16 M17 f18) (cwX7_191 X.2.2.2.2.2.1 rfl rfl (zroomO (Nat.le_of_ble_eq_true rfl) (Nat.le_of_ble_eq_true rfl))) (zX0_lt zX0_45) (zS0 zX0_45 cy a (M 45)) rfl rfl rfl (Nat.le_of_ble_eq_true rfl) hl.1 hcs dX7_when_49 (fun H locs hw => ?_)
      refine lv_if_eq (tgt := 57) hx hb dX7_when_52 (by decide) (fun c19 => ?_) (fun c19 => ?_)
      · replace h := zif_t c19 h
        refine lv_aload_n hx hb dX7_when_57 rfl (lv_at hl 0 rfl) ?_
        refine gtX7_19 X hw dX7_when_58 ?_
        obtain ⟨r20, M21, f22, h⟩ := zbi_e h
        refine z_qVi (As := []) (rest := []) X hw (kX0_passHour l D cy a 45 zX0_45 M17 r20 M21 f22) (cwX7_172 X.2.2.2.2.2.1 rfl rfl (zroomO (Nat.le_of_ble_eq_true rfl) (Nat.le_of_ble_eq_true rfl))) (zX0_lt zX0_45) (zS0 zX0_45 cy a (M17 45)) rfl rfl rfl (Nat.le_of_ble_eq_true rfl) hl.1 hcs dX7_when_61 (fun H locs hw => ?_)
        refine lv_pop hx hb dX7_when_64 rfl ?_
        obtain ⟨x23, ex23⟩ : ∃ y : Int32, y = v3 + (1 : Int32) := ⟨_, rfl⟩
        replace h := zlt_s ex23 h
        refine lv_iinc (v := x23) (lv' := [(3, .int x23), (0, .ref (a 0)), (1, .int y1), (2, .int y2)]) hx hb dX7_when_65 hl (k := 3) rfl (by rw [ex23]; rfl) (by decide) rfl (fun ls hl => ?_)
        refine lv_goto (tgt := 39) hx hb dX7_when_68 (by decide) ?_
        exact ih x23 M21 H locs _ hw (lv_sub hl [1, 2, 3, 0] rfl) h hk
      · replace h := zif_f c19 h
        refine lv_iload_n hx hb dX7_when_55 rfl (lv_at hl 3 rfl) ?_
        exact z_ri X hw (zret h) dX7_when_56
def fX7_when (p0 : Int32) (p1 : Int32) (M : zM) : Option (Int32 × zM) := zbi (fX7_outside p0 (0 : Int32) (4 : Int32) M) (fun r1 M2 => if r1 = 0 then (zbi (fX7_outside p1 (0 : Int32) (240 : Int32) M2) (fun r8 M9 => if r8 = 0 then (zbv (fX0_copyFrom 45 1 M9) (fun M13 => fX7_when_39 p0 p1 (fun  M24 => zbi (fX7_error (2 : Int32) M24) (fun r25 M26 => some (r25, M26))) zF (0 : Int32) M13)) else (zbi (fX7_error (1 : Int32) M9) (fun r28 M29 => some (r28, M29))))) else (zbi (fX7_error (1 : Int32) M2) (fun r5 M6 => some (r5, M6))))
set_option maxRecDepth 100000 in
set_option maxHeartbeats 4000000 in
theorem kX7_when (l : Launch) (D : va_G) (cy : Nat → ClassId) (a : Nat → Nat) (p0 : Int32) (p1 : Int32) (M : zM) (r0 : Int32) (M0 : zM) (h : fX7_when p0 p1 M = some (r0, M0)) : zCi l D cy a yX7_when cX7_when 4 (some .int) (zRm 6 138) [.ref (a 0), .int p0, .int p1] M (fun r u => r = r0 ∧ u = M0) := by
  intro sz
  refine zent_i sz (by decide) (Nat.le_of_ble_eq_true rfl) rfl (fun p e s m args below meth c ls H locs X hw hl => ?_)
  obtain ⟨hx, hb, hr, hml, hown, hW, hlocks⟩ := id X
  have hE := hw.2.2.2.2.1
  have hcs : 0 ≤ ((zRm 6 138)).cells ∧ 0 ≤ ((zRm 6 138)).slots := ⟨Nat.zero_le _, Nat.zero_le _⟩
  rw [fX7_when] at h
  refine lv_iload_n hx hb dX7_when_0 rfl (lv_at hl 1 rfl) ?_
  refine lv_iconst (v := 0) hx hb dX7_when_1 (by decide) ?_
  refine lv_iconst (v := 4) hx hb dX7_when_2 (by decide) ?_
  obtain ⟨r1, M2, f3, h⟩ := zbi_e h
  refine z_qSi (As := [.int p0, .int (0 : Int32), .int (4 : Int32)]) (rest := []) X hw (kX7_outside l D cy a p0 (0 : Int32) (4 : Int32) M r1 M2 f3) (cwX7_57 X.2.2.2.2.2.1 rfl rfl (zroomO (Nat.le_of_ble_eq_true rfl) (Nat.le_of_ble_eq_true rfl))) rfl rfl (Nat.le_of_ble_eq_true rfl) hl.1 hcs dX7_when_3 (fun H locs hw => ?_)
  refine lv_if_ne (tgt := 20) hx hb dX7_when_6 (by decide) (fun c4 => ?_) (fun c4 => ?_)
  · replace h := zif_f c4 h
    refine lv_aload_n hx hb dX7_when_20 rfl (lv_at hl 0 rfl) ?_
    refine lv_iconst (v := 1) hx hb dX7_when_21 (by decide) ?_
    obtain ⟨r5, M6, f7, h⟩ := zbi_e h
    refine z_qVi (As := [.int (1 : Int32)]) (rest := []) X hw (kX7_error l D cy a (1 : Int32) M2 r5 M6 f7) (cwX7_61 X.2.2.2.2.2.1 rfl rfl (zroomO (Nat.le_of_ble_eq_true rfl) (Nat.le_of_ble_eq_true rfl))) (zX7_lt (rfl : zX7 0)) (zS7 (rfl : zX7 0) cy a (M2 0)) rfl rfl rfl (Nat.le_of_ble_eq_true rfl) hl.1 hcs dX7_when_22 (fun H locs hw => ?_)
    exact z_ri X hw (zret h) dX7_when_25
  · replace h := zif_t c4 h
    refine lv_iload_n hx hb dX7_when_9 rfl (lv_at hl 2 rfl) ?_
    refine lv_iconst (v := 0) hx hb dX7_when_10 (by decide) ?_
    refine lv_sipush (v := 240) hx hb dX7_when_11 (by decide) ?_
    obtain ⟨r8, M9, f10, h⟩ := zbi_e h
    refine z_qSi (As := [.int p1, .int (0 : Int32), .int (240 : Int32)]) (rest := []) X hw (kX7_outside l D cy a p1 (0 : Int32) (240 : Int32) M2 r8 M9 f10) (cwX7_57 X.2.2.2.2.2.1 rfl rfl (zroomO (Nat.le_of_ble_eq_true rfl) (Nat.le_of_ble_eq_true rfl))) rfl rfl (Nat.le_of_ble_eq_true rfl) hl.1 hcs dX7_when_14 (fun H locs hw => ?_)
    refine lv_if_eq (tgt := 26) hx hb dX7_when_17 (by decide) (fun c11 => ?_) (fun c11 => ?_)
    · replace h := zif_t c11 h
      refine lv_aload_n hx hb dX7_when_26 rfl (lv_at hl 0 rfl) ?_
      refine gtX7_19 X hw dX7_when_27 ?_
      refine lv_aload_n hx hb dX7_when_30 rfl (lv_at hl 0 rfl) ?_
      refine gtX7_10 X hw dX7_when_31 ?_
      obtain ⟨M13, f14, h⟩ := zbv_e h
      refine z_qVv (As := [.ref (a 1)]) (rest := []) X hw (kX0_copyFrom l D cy a 45 zX0_45 1 zX0_1 M9 M13 f14) (cwX7_187 X.2.2.2.2.2.1 rfl rfl (zroomO (Nat.le_of_ble_eq_true rfl) (Nat.le_of_ble_eq_true rfl))) (zX0_lt zX0_45) (zS0 zX0_45 cy a (M9 45)) rfl rfl rfl (Nat.le_of_ble_eq_true rfl) hl.1 hcs dX7_when_34 (fun H locs hw => ?_)
      refine lv_iconst (v := 0) hx hb dX7_when_37 (by decide) ?_
      refine lv_istore_n (lv' := [(3, .int (0 : Int32)), (0, .ref (a 0)), (1, .int p0), (2, .int p1)]) hx hb dX7_when_38 rfl hl (by decide) rfl (fun ls hl => ?_)
      refine lX7_when_39 X p0 p1 _ zF (0 : Int32) M13 H locs _ hw (lv_sub hl [1, 2, 3, 0] rfl) h (fun  M24 H locs ls hw hl h => ?_)
      refine lv_aload_n hx hb dX7_when_71 rfl (lv_at hl 0 rfl) ?_
      refine lv_iconst (v := 2) hx hb dX7_when_72 (by decide) ?_
      obtain ⟨r25, M26, f27, h⟩ := zbi_e h
      refine z_qVi (As := [.int (2 : Int32)]) (rest := []) X hw (kX7_error l D cy a (2 : Int32) M24 r25 M26 f27) (cwX7_61 X.2.2.2.2.2.1 rfl rfl (zroomO (Nat.le_of_ble_eq_true rfl) (Nat.le_of_ble_eq_true rfl))) (zX7_lt (rfl : zX7 0)) (zS7 (rfl : zX7 0) cy a (M24 0)) rfl rfl rfl (Nat.le_of_ble_eq_true rfl) hl.1 hcs dX7_when_73 (fun H locs hw => ?_)
      exact z_ri X hw (zret h) dX7_when_76
    · replace h := zif_f c11 h
      refine lv_aload_n hx hb dX7_when_20 rfl (lv_at hl 0 rfl) ?_
      refine lv_iconst (v := 1) hx hb dX7_when_21 (by decide) ?_
      obtain ⟨r28, M29, f30, h⟩ := zbi_e h
      refine z_qVi (As := [.int (1 : Int32)]) (rest := []) X hw (kX7_error l D cy a (1 : Int32) M9 r28 M29 f30) (cwX7_61 X.2.2.2.2.2.1 rfl rfl (zroomO (Nat.le_of_ble_eq_true rfl) (Nat.le_of_ble_eq_true rfl))) (zX7_lt (rfl : zX7 0)) (zS7 (rfl : zX7 0) cy a (M9 0)) rfl rfl rfl (Nat.le_of_ble_eq_true rfl) hl.1 hcs dX7_when_22 (fun H locs hw => ?_)
      exact z_ri X hw (zret h) dX7_when_25
def fX7_sluices_33 (y1 : Int32) (y2 : Int32) (k : Int32 → Int32 → zM → Option (Int32 × zM)) : Nat → Int32 → Int32 → Int32 → zM → Option (Int32 × zM)
  | 0, _, _, _, _ => none
  | n + 1, v3, v4, v5, M => zlt ((1 : Int32) <<< ((M 1 9) &&& 31)) (fun x12 => if x12 ≤ v5 then (k v3 v4 M) else (zbv (fX0_copyFrom 45 1 M) (fun M15 => zbv (fX0_openOnly 45 v5 M15) (fun M18 => zbi (fX0_passHours 45 y1 M18) (fun r20 M21 => zbi (fX0_allArePaid 45 M21) (fun r23 M24 => if r23 = 0 then (zlt (v5 + (1 : Int32)) (fun x27 => fX7_sluices_33 y1 y2 k n v3 v4 x27 M24)) else (if v3 < 0 then (zlt (v5 + (1 : Int32)) (fun x29 => fX7_sluices_33 y1 y2 k n v5 r20 x29 M24)) else (if v4 ≤ r20 then (zlt (v5 + (1 : Int32)) (fun x31 => fX7_sluices_33 y1 y2 k n v3 v4 x31 M24)) else (zlt (v5 + (1 : Int32)) (fun x32 => fX7_sluices_33 y1 y2 k n v5 r20 x32 M24))))))))))
set_option maxRecDepth 100000 in
set_option maxHeartbeats 4000000 in
theorem lX7_sluices_33 {p : Program} {l : Launch} {e : Env} {s : State} {m : MethodId} {args : Array Value} {below : List Frame} {meth : Method} {c : Code} {D : va_G} {cy : Nat → ClassId} {a : Nat → Nat} {r0 : Int32} {M0 : zM} (X : zCX p s m meth c args cX7_sluices 7 (some .int) RX7) (y1 : Int32) (y2 : Int32) (k : Int32 → Int32 → zM → Option (Int32 × zM)) : ∀ (n : Nat) (v3 : Int32) (v4 : Int32) (v5 : Int32) (M : zM) (H : Heap) (locs : List Loc) (ls : Array Slot), zWD D cy a (zfr a s.heap.size) M H locs s → lv_has ls 7 [(0, .ref (a 0)), (1, .int y1), (2, .int y2), (3, .int v3), (4, .int v4), (5, .int v5)] → fX7_sluices_33 y1 y2 k n v3 v4 v5 M = some (r0, M0) →
    (∀ (u3 : Int32) (u4 : Int32) (M' : zM) (H' : Heap) (locs' : List Loc) (ls' : Array Slot), zWD D cy a (zfr a s.heap.size) M' H' locs' s → lv_has ls' 7 [(0, .ref (a 0)), (2, .int y2), (3, .int u3), (4, .int u4)] → k u3 u4 M' = some (r0, M0) → W p l e (zRm 7 161) s m args below meth c H' locs' 0 0 (zQi D cy a s args below r0 M0) (F0 m 111 ls' [])) →
    W p l e (zRm 7 161) s m args below meth c H locs 0 0 (zQi D cy a s args below r0 M0) (F0 m 33 ls []) := by
  obtain ⟨hx, hb, hr, hml, hown, hW, hlocks⟩ := id X
  have hcs : 0 ≤ ((zRm 7 161)).cells ∧ 0 ≤ ((zRm 7 161)).slots := ⟨Nat.zero_le _, Nat.zero_le _⟩
  intro n
  induction n with
  | zero =>
    intro v3 v4 v5 M H locs ls hw hl h hk
    cases h
  | succ n ih =>
    intro v3 v4 v5 M H locs ls hw hl h hk
    have hE := hw.2.2.2.2.1
    rw [fX7_sluices_33] at h
    refine lv_iload hx hb dX7_sluices_33 (lv_at hl 5 rfl) ?_
    refine lv_iconst (v := 1) hx hb dX7_sluices_35 (by decide) ?_
    refine lv_aload_n hx hb dX7_sluices_36 rfl (lv_at hl 0 rfl) ?_
    refine gtX7_10 X hw dX7_sluices_37 ?_
    refine gtX7_83 X hw zX0_1 dX7_sluices_40 ?_
    refine lv_ishl hx hb dX7_sluices_43 ?_
    refine lv_topi (fun x12 ex12 => ?_)
    replace h := zlt_s ex12 h
    refine lv_icmp_ge (tgt := 111) hx hb dX7_sluices_44 (by decide) (fun c13 => ?_) (fun c13 => ?_)
    · replace h := zif_t c13 h
      exact hk v3 v4 M H locs _ hw (lv_sub hl [0, 2, 3, 4] rfl) h
    · replace h := zif_f c13 h
      refine lv_aload_n hx hb dX7_sluices_47 rfl (lv_at hl 0 rfl) ?_
      refine gtX7_19 X hw dX7_sluices_48 ?_
      refine lv_aload_n hx hb dX7_sluices_51 rfl (lv_at hl 0 rfl) ?_
      refine gtX7_10 X hw dX7_sluices_52 ?_
      obtain ⟨M15, f16, h⟩ := zbv_e h
      refine z_qVv (As := [.ref (a 1)]) (rest := []) X hw (kX0_copyFrom l D cy a 45 zX0_45 1 zX0_1 M M15 f16) (cwX7_187 X.2.2.2.2.2.1 rfl rfl (zroomO (Nat.le_of_ble_eq_true rfl) (Nat.le_of_ble_eq_true rfl))) (zX0_lt zX0_45) (zS0 zX0_45 cy a (M 45)) rfl rfl rfl (Nat.le_of_ble_eq_true rfl) hl.1 hcs dX7_sluices_55 (fun H locs hw => ?_)
      refine lv_aload_n hx hb dX7_sluices_58 rfl (lv_at hl 0 rfl) ?_
      refine gtX7_19 X hw dX7_sluices_59 ?_
      refine lv_iload hx hb dX7_sluices_62 (lv_at hl 5 rfl) ?_
      obtain ⟨M18, f19, h⟩ := zbv_e h
      refine z_qVv (As := [.int v5]) (rest := []) X hw (kX0_openOnly l D cy a 45 zX0_45 v5 M15 M18 f19) (cwX7_194 X.2.2.2.2.2.1 rfl rfl (zroomO (Nat.le_of_ble_eq_true rfl) (Nat.le_of_ble_eq_true rfl))) (zX0_lt zX0_45) (zS0 zX0_45 cy a (M15 45)) rfl rfl rfl (Nat.le_of_ble_eq_true rfl) hl.1 hcs dX7_sluices_64 (fun H locs hw => ?_)
      refine lv_aload_n hx hb dX7_sluices_67 rfl (lv_at hl 0 rfl) ?_
      refine gtX7_19 X hw dX7_sluices_68 ?_
      refine lv_iload_n hx hb dX7_sluices_71 rfl (lv_at hl 1 rfl) ?_
      obtain ⟨r20, M21, f22, h⟩ := zbi_e h
      refine z_qVi (As := [.int y1]) (rest := []) X hw (kX0_passHours l D cy a 45 zX0_45 y1 M18 r20 M21 f22) (cwX7_162 X.2.2.2.2.2.1 rfl rfl (zroomO (Nat.le_of_ble_eq_true rfl) (Nat.le_of_ble_eq_true rfl))) (zX0_lt zX0_45) (zS0 zX0_45 cy a (M18 45)) rfl rfl rfl (Nat.le_of_ble_eq_true rfl) hl.1 hcs dX7_sluices_72 (fun H locs hw => ?_)
      refine lv_istore (lv' := [(6, .int r20), (0, .ref (a 0)), (1, .int y1), (2, .int y2), (3, .int v3), (4, .int v4), (5, .int v5)]) hx hb dX7_sluices_75 hl (by decide) rfl (fun ls hl => ?_)
      refine lv_aload_n hx hb dX7_sluices_77 rfl (lv_at hl 1 rfl) ?_
      refine gtX7_19 X hw dX7_sluices_78 ?_
      obtain ⟨r23, M24, f25, h⟩ := zbi_e h
      refine z_qVi (As := []) (rest := []) X hw (kX0_allArePaid l D cy a 45 zX0_45 M21 r23 M24 f25) (cwX7_198 X.2.2.2.2.2.1 rfl rfl (zroomO (Nat.le_of_ble_eq_true rfl) (Nat.le_of_ble_eq_true rfl))) (zX0_lt zX0_45) (zS0 zX0_45 cy a (M21 45)) rfl rfl rfl (Nat.le_of_ble_eq_true rfl) hl.1 hcs dX7_sluices_81 (fun H locs hw => ?_)
      refine lv_if_eq (tgt := 105) hx hb dX7_sluices_84 (by decide) (fun c26 => ?_) (fun c26 => ?_)
      · replace h := zif_t c26 h
        obtain ⟨x27, ex27⟩ : ∃ y : Int32, y = v5 + (1 : Int32) := ⟨_, rfl⟩
        replace h := zlt_s ex27 h
        refine lv_iinc (v := x27) (lv' := [(5, .int x27), (6, .int r20), (0, .ref (a 0)), (1, .int y1), (2, .int y2), (3, .int v3), (4, .int v4)]) hx hb dX7_sluices_105 hl (k := 6) rfl (by rw [ex27]; rfl) (by decide) rfl (fun ls hl => ?_)
        refine lv_goto (tgt := 33) hx hb dX7_sluices_108 (by decide) ?_
        exact ih v3 v4 x27 M24 H locs _ hw (lv_sub hl [2, 3, 4, 5, 6, 0] rfl) h hk
      · replace h := zif_f c26 h
        refine lv_iload_n hx hb dX7_sluices_87 rfl (lv_at hl 4 rfl) ?_
        refine lv_if_lt (tgt := 98) hx hb dX7_sluices_88 (by decide) (fun c28 => ?_) (fun c28 => ?_)
        · replace h := zif_t c28 h
          refine lv_iload hx hb dX7_sluices_98 (lv_at hl 6 rfl) ?_
          refine lv_istore_n (lv' := [(3, .int v5), (6, .int r20), (0, .ref (a 0)), (1, .int y1), (2, .int y2), (4, .int v4), (5, .int v5)]) hx hb dX7_sluices_100 rfl hl (by decide) rfl (fun ls hl => ?_)
          refine lv_iload hx hb dX7_sluices_101 (lv_at hl 1 rfl) ?_
          refine lv_istore (lv' := [(4, .int r20), (3, .int v5), (6, .int r20), (0, .ref (a 0)), (1, .int y1), (2, .int y2), (5, .int v5)]) hx hb dX7_sluices_103 hl (by decide) rfl (fun ls hl => ?_)
          obtain ⟨x29, ex29⟩ : ∃ y : Int32, y = v5 + (1 : Int32) := ⟨_, rfl⟩
          replace h := zlt_s ex29 h
          refine lv_iinc (v := x29) (lv' := [(5, .int x29), (4, .int r20), (3, .int v5), (6, .int r20), (0, .ref (a 0)), (1, .int y1), (2, .int y2)]) hx hb dX7_sluices_105 hl (k := 6) rfl (by rw [ex29]; rfl) (by decide) rfl (fun ls hl => ?_)
          refine lv_goto (tgt := 33) hx hb dX7_sluices_108 (by decide) ?_
          exact ih v5 r20 x29 M24 H locs _ hw (lv_sub hl [4, 5, 6, 2, 1, 0] rfl) h hk
        · replace h := zif_f c28 h
          refine lv_iload hx hb dX7_sluices_91 (lv_at hl 0 rfl) ?_
          refine lv_iload hx hb dX7_sluices_93 (lv_at hl 5 rfl) ?_
          refine lv_icmp_ge (tgt := 105) hx hb dX7_sluices_95 (by decide) (fun c30 => ?_) (fun c30 => ?_)
          · replace h := zif_t c30 h
            obtain ⟨x31, ex31⟩ : ∃ y : Int32, y = v5 + (1 : Int32) := ⟨_, rfl⟩
            replace h := zlt_s ex31 h
            refine lv_iinc (v := x31) (lv' := [(5, .int x31), (6, .int r20), (0, .ref (a 0)), (1, .int y1), (2, .int y2), (3, .int v3), (4, .int v4)]) hx hb dX7_sluices_105 hl (k := 6) rfl (by rw [ex31]; rfl) (by decide) rfl (fun ls hl => ?_)
            refine lv_goto (tgt := 33) hx hb dX7_sluices_108 (by decide) ?_
            exact ih v3 v4 x31 M24 H locs _ hw (lv_sub hl [2, 3, 4, 5, 6, 0] rfl) h hk
          · replace h := zif_f c30 h
            refine lv_iload hx hb dX7_sluices_98 (lv_at hl 6 rfl) ?_
            refine lv_istore_n (lv' := [(3, .int v5), (6, .int r20), (0, .ref (a 0)), (1, .int y1), (2, .int y2), (4, .int v4), (5, .int v5)]) hx hb dX7_sluices_100 rfl hl (by decide) rfl (fun ls hl => ?_)
            refine lv_iload hx hb dX7_sluices_101 (lv_at hl 1 rfl) ?_
            refine lv_istore (lv' := [(4, .int r20), (3, .int v5), (6, .int r20), (0, .ref (a 0)), (1, .int y1), (2, .int y2), (5, .int v5)]) hx hb dX7_sluices_103 hl (by decide) rfl (fun ls hl => ?_)
            obtain ⟨x32, ex32⟩ : ∃ y : Int32, y = v5 + (1 : Int32) := ⟨_, rfl⟩
            replace h := zlt_s ex32 h
            refine lv_iinc (v := x32) (lv' := [(5, .int x32), (4, .int r20), (3, .int v5), (6, .int r20), (0, .ref (a 0)), (1, .int y1), (2, .int y2)]) hx hb dX7_sluices_105 hl (k := 6) rfl (by rw [ex32]; rfl) (by decide) rfl (fun ls hl => ?_)
            refine lv_goto (tgt := 33) hx hb dX7_sluices_108 (by decide) ?_
            exact ih v5 r20 x32 M24 H locs _ hw (lv_sub hl [4, 5, 6, 2, 1, 0] rfl) h hk
def fX7_sluices (p0 : Int32) (p1 : Int32) (M : zM) : Option (Int32 × zM) := zbi (fX7_outside p0 (1 : Int32) (6 : Int32) M) (fun r1 M2 => if r1 = 0 then (zbi (fX7_outside p1 (0 : Int32) (1 : Int32) M2) (fun r8 M9 => if r8 = 0 then (fX7_sluices_33 p0 p1 (fun x33 x34 M35 => if 0 ≤ x33 then (if p1 = 0 then (some (x33, M35)) else (some (x34, M35))) else (zbi (fX7_error (2 : Int32) M35) (fun r38 M39 => some (r38, M39)))) zF (-1 : Int32) (0 : Int32) (0 : Int32) M9) else (zbi (fX7_error (1 : Int32) M9) (fun r41 M42 => some (r41, M42))))) else (zbi (fX7_error (1 : Int32) M2) (fun r5 M6 => some (r5, M6))))
set_option maxRecDepth 100000 in
set_option maxHeartbeats 4000000 in
theorem kX7_sluices (l : Launch) (D : va_G) (cy : Nat → ClassId) (a : Nat → Nat) (p0 : Int32) (p1 : Int32) (M : zM) (r0 : Int32) (M0 : zM) (h : fX7_sluices p0 p1 M = some (r0, M0)) : zCi l D cy a yX7_sluices cX7_sluices 7 (some .int) (zRm 7 161) [.ref (a 0), .int p0, .int p1] M (fun r u => r = r0 ∧ u = M0) := by
  intro sz
  refine zent_i sz (by decide) (Nat.le_of_ble_eq_true rfl) rfl (fun p e s m args below meth c ls H locs X hw hl => ?_)
  obtain ⟨hx, hb, hr, hml, hown, hW, hlocks⟩ := id X
  have hE := hw.2.2.2.2.1
  have hcs : 0 ≤ ((zRm 7 161)).cells ∧ 0 ≤ ((zRm 7 161)).slots := ⟨Nat.zero_le _, Nat.zero_le _⟩
  rw [fX7_sluices] at h
  refine lv_iload_n hx hb dX7_sluices_0 rfl (lv_at hl 1 rfl) ?_
  refine lv_iconst (v := 1) hx hb dX7_sluices_1 (by decide) ?_
  refine lv_bipush (v := 6) hx hb dX7_sluices_2 (by decide) ?_
  obtain ⟨r1, M2, f3, h⟩ := zbi_e h
  refine z_qSi (As := [.int p0, .int (1 : Int32), .int (6 : Int32)]) (rest := []) X hw (kX7_outside l D cy a p0 (1 : Int32) (6 : Int32) M r1 M2 f3) (cwX7_57 X.2.2.2.2.2.1 rfl rfl (zroomO (Nat.le_of_ble_eq_true rfl) (Nat.le_of_ble_eq_true rfl))) rfl rfl (Nat.le_of_ble_eq_true rfl) hl.1 hcs dX7_sluices_4 (fun H locs hw => ?_)
  refine lv_if_ne (tgt := 19) hx hb dX7_sluices_7 (by decide) (fun c4 => ?_) (fun c4 => ?_)
  · replace h := zif_f c4 h
    refine lv_aload_n hx hb dX7_sluices_19 rfl (lv_at hl 0 rfl) ?_
    refine lv_iconst (v := 1) hx hb dX7_sluices_20 (by decide) ?_
    obtain ⟨r5, M6, f7, h⟩ := zbi_e h
    refine z_qVi (As := [.int (1 : Int32)]) (rest := []) X hw (kX7_error l D cy a (1 : Int32) M2 r5 M6 f7) (cwX7_61 X.2.2.2.2.2.1 rfl rfl (zroomO (Nat.le_of_ble_eq_true rfl) (Nat.le_of_ble_eq_true rfl))) (zX7_lt (rfl : zX7 0)) (zS7 (rfl : zX7 0) cy a (M2 0)) rfl rfl rfl (Nat.le_of_ble_eq_true rfl) hl.1 hcs dX7_sluices_21 (fun H locs hw => ?_)
    exact z_ri X hw (zret h) dX7_sluices_24
  · replace h := zif_t c4 h
    refine lv_iload_n hx hb dX7_sluices_10 rfl (lv_at hl 2 rfl) ?_
    refine lv_iconst (v := 0) hx hb dX7_sluices_11 (by decide) ?_
    refine lv_iconst (v := 1) hx hb dX7_sluices_12 (by decide) ?_
    obtain ⟨r8, M9, f10, h⟩ := zbi_e h
    refine z_qSi (As := [.int p1, .int (0 : Int32), .int (1 : Int32)]) (rest := []) X hw (kX7_outside l D cy a p1 (0 : Int32) (1 : Int32) M2 r8 M9 f10) (cwX7_57 X.2.2.2.2.2.1 rfl rfl (zroomO (Nat.le_of_ble_eq_true rfl) (Nat.le_of_ble_eq_true rfl))) rfl rfl (Nat.le_of_ble_eq_true rfl) hl.1 hcs dX7_sluices_13 (fun H locs hw => ?_)
    refine lv_if_eq (tgt := 25) hx hb dX7_sluices_16 (by decide) (fun c11 => ?_) (fun c11 => ?_)
    · replace h := zif_t c11 h
      refine lv_iconst (v := (-1)) hx hb dX7_sluices_25 (by decide) ?_
      refine lv_istore_n (lv' := [(3, .int (-1 : Int32)), (0, .ref (a 0)), (1, .int p0), (2, .int p1)]) hx hb dX7_sluices_26 rfl hl (by decide) rfl (fun ls hl => ?_)
      refine lv_iconst (v := 0) hx hb dX7_sluices_27 (by decide) ?_
      refine lv_istore (lv' := [(4, .int (0 : Int32)), (3, .int (-1 : Int32)), (0, .ref (a 0)), (1, .int p0), (2, .int p1)]) hx hb dX7_sluices_28 hl (by decide) rfl (fun ls hl => ?_)
      refine lv_iconst (v := 0) hx hb dX7_sluices_30 (by decide) ?_
      refine lv_istore (lv' := [(5, .int (0 : Int32)), (4, .int (0 : Int32)), (3, .int (-1 : Int32)), (0, .ref (a 0)), (1, .int p0), (2, .int p1)]) hx hb dX7_sluices_31 hl (by decide) rfl (fun ls hl => ?_)
      refine lX7_sluices_33 X p0 p1 _ zF (-1 : Int32) (0 : Int32) (0 : Int32) M9 H locs _ hw (lv_sub hl [3, 4, 5, 2, 1, 0] rfl) h (fun x33 x34 M35 H locs ls hw hl h => ?_)
      refine lv_iload_n hx hb dX7_sluices_111 rfl (lv_at hl 2 rfl) ?_
      refine lv_if_ge (tgt := 121) hx hb dX7_sluices_112 (by decide) (fun c36 => ?_) (fun c36 => ?_)
      · replace h := zif_t c36 h
        refine lv_iload_n hx hb dX7_sluices_121 rfl (lv_at hl 1 rfl) ?_
        refine lv_if_ne (tgt := 129) hx hb dX7_sluices_122 (by decide) (fun c37 => ?_) (fun c37 => ?_)
        · replace h := zif_f c37 h
          refine lv_iload hx hb dX7_sluices_129 (lv_at hl 3 rfl) ?_
          exact z_ri X hw (zret h) dX7_sluices_131
        · replace h := zif_t c37 h
          refine lv_iload_n hx hb dX7_sluices_125 rfl (lv_at hl 2 rfl) ?_
          refine lv_goto (tgt := 131) hx hb dX7_sluices_126 (by decide) ?_
          exact z_ri X hw (zret h) dX7_sluices_131
      · replace h := zif_f c36 h
        refine lv_aload_n hx hb dX7_sluices_115 rfl (lv_at hl 0 rfl) ?_
        refine lv_iconst (v := 2) hx hb dX7_sluices_116 (by decide) ?_
        obtain ⟨r38, M39, f40, h⟩ := zbi_e h
        refine z_qVi (As := [.int (2 : Int32)]) (rest := []) X hw (kX7_error l D cy a (2 : Int32) M35 r38 M39 f40) (cwX7_61 X.2.2.2.2.2.1 rfl rfl (zroomO (Nat.le_of_ble_eq_true rfl) (Nat.le_of_ble_eq_true rfl))) (zX7_lt (rfl : zX7 0)) (zS7 (rfl : zX7 0) cy a (M35 0)) rfl rfl rfl (Nat.le_of_ble_eq_true rfl) hl.1 hcs dX7_sluices_117 (fun H locs hw => ?_)
        exact z_ri X hw (zret h) dX7_sluices_120
    · replace h := zif_f c11 h
      refine lv_aload_n hx hb dX7_sluices_19 rfl (lv_at hl 0 rfl) ?_
      refine lv_iconst (v := 1) hx hb dX7_sluices_20 (by decide) ?_
      obtain ⟨r41, M42, f43, h⟩ := zbi_e h
      refine z_qVi (As := [.int (1 : Int32)]) (rest := []) X hw (kX7_error l D cy a (1 : Int32) M9 r41 M42 f43) (cwX7_61 X.2.2.2.2.2.1 rfl rfl (zroomO (Nat.le_of_ble_eq_true rfl) (Nat.le_of_ble_eq_true rfl))) (zX7_lt (rfl : zX7 0)) (zS7 (rfl : zX7 0) cy a (M9 0)) rfl rfl rfl (Nat.le_of_ble_eq_true rfl) hl.1 hcs dX7_sluices_21 (fun H locs hw => ?_)
      exact z_ri X hw (zret h) dX7_sluices_24
def fX7_fewer (p0 : Int32) (p1 : Int32) (p2 : Int32) (M : zM) : Option (Int32 × zM) := zbi (fX7_outside p0 (0 : Int32) (69 : Int32) M) (fun r1 M2 => if r1 = 0 then (zbi (fX7_outside p1 (0 : Int32) (11 : Int32) M2) (fun r8 M9 => if r8 = 0 then (zbi (fX7_outside p2 (1 : Int32) (48 : Int32) M9) (fun r15 M16 => if r15 = 0 then (zlt (M16 1 9) (fun x19 => if x19 < (8 : Int32) then (zbv (fX0_copyFrom 45 1 M16) (fun M22 => zbi (fX0_turnsIn 45 p2 (0 : Int32) x19 M22) (fun r24 M25 => zbv (fX0_copyFrom 45 1 M25) (fun M28 => zbv (fX0_addWheel 45 p0 p1 (0 : Int32) M28) (fun M31 => zbi (fX0_turnsIn 45 p2 (0 : Int32) x19 M31) (fun r33 M34 => some (r24 - r33, M34))))))) else (zbi (fX7_error (4 : Int32) M16) (fun r36 M37 => some (r36, M37))))) else (zbi (fX7_error (1 : Int32) M16) (fun r39 M40 => some (r39, M40))))) else (zbi (fX7_error (1 : Int32) M9) (fun r12 M13 => some (r12, M13))))) else (zbi (fX7_error (1 : Int32) M2) (fun r5 M6 => some (r5, M6))))
set_option maxRecDepth 100000 in
set_option maxHeartbeats 4000000 in
theorem kX7_fewer (l : Launch) (D : va_G) (cy : Nat → ClassId) (a : Nat → Nat) (p0 : Int32) (p1 : Int32) (p2 : Int32) (M : zM) (r0 : Int32) (M0 : zM) (h : fX7_fewer p0 p1 p2 M = some (r0, M0)) : zCi l D cy a yX7_fewer cX7_fewer 6 (some .int) (zRm 7 164) [.ref (a 0), .int p0, .int p1, .int p2] M (fun r u => r = r0 ∧ u = M0) := by
  intro sz
  refine zent_i sz (by decide) (Nat.le_of_ble_eq_true rfl) rfl (fun p e s m args below meth c ls H locs X hw hl => ?_)
  obtain ⟨hx, hb, hr, hml, hown, hW, hlocks⟩ := id X
  have hE := hw.2.2.2.2.1
  have hcs : 0 ≤ ((zRm 7 164)).cells ∧ 0 ≤ ((zRm 7 164)).slots := ⟨Nat.zero_le _, Nat.zero_le _⟩
  rw [fX7_fewer] at h
  refine lv_iload_n hx hb dX7_fewer_0 rfl (lv_at hl 1 rfl) ?_
  refine lv_iconst (v := 0) hx hb dX7_fewer_1 (by decide) ?_
  refine lv_bipush (v := 69) hx hb dX7_fewer_2 (by decide) ?_
  obtain ⟨r1, M2, f3, h⟩ := zbi_e h
  refine z_qSi (As := [.int p0, .int (0 : Int32), .int (69 : Int32)]) (rest := []) X hw (kX7_outside l D cy a p0 (0 : Int32) (69 : Int32) M r1 M2 f3) (cwX7_57 X.2.2.2.2.2.1 rfl rfl (zroomO (Nat.le_of_ble_eq_true rfl) (Nat.le_of_ble_eq_true rfl))) rfl rfl (Nat.le_of_ble_eq_true rfl) hl.1 hcs dX7_fewer_4 (fun H locs hw => ?_)
  refine lv_if_ne (tgt := 30) hx hb dX7_fewer_7 (by decide) (fun c4 => ?_) (fun c4 => ?_)
  · replace h := zif_f c4 h
    refine lv_aload_n hx hb dX7_fewer_30 rfl (lv_at hl 0 rfl) ?_
    refine lv_iconst (v := 1) hx hb dX7_fewer_31 (by decide) ?_
    obtain ⟨r5, M6, f7, h⟩ := zbi_e h
    refine z_qVi (As := [.int (1 : Int32)]) (rest := []) X hw (kX7_error l D cy a (1 : Int32) M2 r5 M6 f7) (cwX7_61 X.2.2.2.2.2.1 rfl rfl (zroomO (Nat.le_of_ble_eq_true rfl) (Nat.le_of_ble_eq_true rfl))) (zX7_lt (rfl : zX7 0)) (zS7 (rfl : zX7 0) cy a (M2 0)) rfl rfl rfl (Nat.le_of_ble_eq_true rfl) hl.1 hcs dX7_fewer_32 (fun H locs hw => ?_)
    exact z_ri X hw (zret h) dX7_fewer_35
  · replace h := zif_t c4 h
    refine lv_iload_n hx hb dX7_fewer_10 rfl (lv_at hl 2 rfl) ?_
    refine lv_iconst (v := 0) hx hb dX7_fewer_11 (by decide) ?_
    refine lv_bipush (v := 11) hx hb dX7_fewer_12 (by decide) ?_
    obtain ⟨r8, M9, f10, h⟩ := zbi_e h
    refine z_qSi (As := [.int p1, .int (0 : Int32), .int (11 : Int32)]) (rest := []) X hw (kX7_outside l D cy a p1 (0 : Int32) (11 : Int32) M2 r8 M9 f10) (cwX7_57 X.2.2.2.2.2.1 rfl rfl (zroomO (Nat.le_of_ble_eq_true rfl) (Nat.le_of_ble_eq_true rfl))) rfl rfl (Nat.le_of_ble_eq_true rfl) hl.1 hcs dX7_fewer_14 (fun H locs hw => ?_)
    refine lv_if_ne (tgt := 30) hx hb dX7_fewer_17 (by decide) (fun c11 => ?_) (fun c11 => ?_)
    · replace h := zif_f c11 h
      refine lv_aload_n hx hb dX7_fewer_30 rfl (lv_at hl 0 rfl) ?_
      refine lv_iconst (v := 1) hx hb dX7_fewer_31 (by decide) ?_
      obtain ⟨r12, M13, f14, h⟩ := zbi_e h
      refine z_qVi (As := [.int (1 : Int32)]) (rest := []) X hw (kX7_error l D cy a (1 : Int32) M9 r12 M13 f14) (cwX7_61 X.2.2.2.2.2.1 rfl rfl (zroomO (Nat.le_of_ble_eq_true rfl) (Nat.le_of_ble_eq_true rfl))) (zX7_lt (rfl : zX7 0)) (zS7 (rfl : zX7 0) cy a (M9 0)) rfl rfl rfl (Nat.le_of_ble_eq_true rfl) hl.1 hcs dX7_fewer_32 (fun H locs hw => ?_)
      exact z_ri X hw (zret h) dX7_fewer_35
    · replace h := zif_t c11 h
      refine lv_iload_n hx hb dX7_fewer_20 rfl (lv_at hl 3 rfl) ?_
      refine lv_iconst (v := 1) hx hb dX7_fewer_21 (by decide) ?_
      refine lv_bipush (v := 48) hx hb dX7_fewer_22 (by decide) ?_
      obtain ⟨r15, M16, f17, h⟩ := zbi_e h
      refine z_qSi (As := [.int p2, .int (1 : Int32), .int (48 : Int32)]) (rest := []) X hw (kX7_outside l D cy a p2 (1 : Int32) (48 : Int32) M9 r15 M16 f17) (cwX7_57 X.2.2.2.2.2.1 rfl rfl (zroomO (Nat.le_of_ble_eq_true rfl) (Nat.le_of_ble_eq_true rfl))) rfl rfl (Nat.le_of_ble_eq_true rfl) hl.1 hcs dX7_fewer_24 (fun H locs hw => ?_)
      refine lv_if_eq (tgt := 36) hx hb dX7_fewer_27 (by decide) (fun c18 => ?_) (fun c18 => ?_)
      · replace h := zif_t c18 h
        refine lv_aload_n hx hb dX7_fewer_36 rfl (lv_at hl 0 rfl) ?_
        refine gtX7_10 X hw dX7_fewer_37 ?_
        refine gtX7_83 X hw zX0_1 dX7_fewer_40 ?_
        refine lv_topi (fun x19 ex19 => ?_)
        replace h := zlt_s ex19 h
        refine lv_istore (lv' := [(4, .int x19), (0, .ref (a 0)), (1, .int p0), (2, .int p1), (3, .int p2)]) hx hb dX7_fewer_43 hl (by decide) rfl (fun ls hl => ?_)
        refine lv_iload hx hb dX7_fewer_45 (lv_at hl 0 rfl) ?_
        refine lv_bipush (v := 8) hx hb dX7_fewer_47 (by decide) ?_
        refine lv_icmp_lt (tgt := 58) hx hb dX7_fewer_49 (by decide) (fun c20 => ?_) (fun c20 => ?_)
        · replace h := zif_t c20 h
          refine lv_aload_n hx hb dX7_fewer_58 rfl (lv_at hl 1 rfl) ?_
          refine gtX7_19 X hw dX7_fewer_59 ?_
          refine lv_aload_n hx hb dX7_fewer_62 rfl (lv_at hl 1 rfl) ?_
          refine gtX7_10 X hw dX7_fewer_63 ?_
          obtain ⟨M22, f23, h⟩ := zbv_e h
          refine z_qVv (As := [.ref (a 1)]) (rest := []) X hw (kX0_copyFrom l D cy a 45 zX0_45 1 zX0_1 M16 M22 f23) (cwX7_187 X.2.2.2.2.2.1 rfl rfl (zroomO (Nat.le_of_ble_eq_true rfl) (Nat.le_of_ble_eq_true rfl))) (zX0_lt zX0_45) (zS0 zX0_45 cy a (M16 45)) rfl rfl rfl (Nat.le_of_ble_eq_true rfl) hl.1 hcs dX7_fewer_66 (fun H locs hw => ?_)
          refine lv_aload_n hx hb dX7_fewer_69 rfl (lv_at hl 1 rfl) ?_
          refine gtX7_19 X hw dX7_fewer_70 ?_
          refine lv_iload_n hx hb dX7_fewer_73 rfl (lv_at hl 4 rfl) ?_
          refine lv_iconst (v := 0) hx hb dX7_fewer_74 (by decide) ?_
          refine lv_iload hx hb dX7_fewer_75 (lv_at hl 0 rfl) ?_
          obtain ⟨r24, M25, f26, h⟩ := zbi_e h
          refine z_qVi (As := [.int p2, .int (0 : Int32), .int x19]) (rest := []) X hw (kX0_turnsIn l D cy a 45 zX0_45 p2 (0 : Int32) x19 M22 r24 M25 f26) (cwX7_202 X.2.2.2.2.2.1 rfl rfl (zroomO (Nat.le_of_ble_eq_true rfl) (Nat.le_of_ble_eq_true rfl))) (zX0_lt zX0_45) (zS0 zX0_45 cy a (M22 45)) rfl rfl rfl (Nat.le_of_ble_eq_true rfl) hl.1 hcs dX7_fewer_77 (fun H locs hw => ?_)
          refine lv_istore (lv' := [(5, .int r24), (4, .int x19), (0, .ref (a 0)), (1, .int p0), (2, .int p1), (3, .int p2)]) hx hb dX7_fewer_80 hl (by decide) rfl (fun ls hl => ?_)
          refine lv_aload_n hx hb dX7_fewer_82 rfl (lv_at hl 2 rfl) ?_
          refine gtX7_19 X hw dX7_fewer_83 ?_
          refine lv_aload_n hx hb dX7_fewer_86 rfl (lv_at hl 2 rfl) ?_
          refine gtX7_10 X hw dX7_fewer_87 ?_
          obtain ⟨M28, f29, h⟩ := zbv_e h
          refine z_qVv (As := [.ref (a 1)]) (rest := []) X hw (kX0_copyFrom l D cy a 45 zX0_45 1 zX0_1 M25 M28 f29) (cwX7_187 X.2.2.2.2.2.1 rfl rfl (zroomO (Nat.le_of_ble_eq_true rfl) (Nat.le_of_ble_eq_true rfl))) (zX0_lt zX0_45) (zS0 zX0_45 cy a (M25 45)) rfl rfl rfl (Nat.le_of_ble_eq_true rfl) hl.1 hcs dX7_fewer_90 (fun H locs hw => ?_)
          refine lv_aload_n hx hb dX7_fewer_93 rfl (lv_at hl 2 rfl) ?_
          refine gtX7_19 X hw dX7_fewer_94 ?_
          refine lv_iload_n hx hb dX7_fewer_97 rfl (lv_at hl 3 rfl) ?_
          refine lv_iload_n hx hb dX7_fewer_98 rfl (lv_at hl 4 rfl) ?_
          refine lv_iconst (v := 0) hx hb dX7_fewer_99 (by decide) ?_
          obtain ⟨M31, f32, h⟩ := zbv_e h
          refine z_qVv (As := [.int p0, .int p1, .int (0 : Int32)]) (rest := []) X hw (kX0_addWheel l D cy a 45 zX0_45 p0 p1 (0 : Int32) M28 M31 f32) (cwX7_86 X.2.2.2.2.2.1 rfl rfl (zroomO (Nat.le_of_ble_eq_true rfl) (Nat.le_of_ble_eq_true rfl))) (zX0_lt zX0_45) (zS0 zX0_45 cy a (M28 45)) rfl rfl rfl (Nat.le_of_ble_eq_true rfl) hl.1 hcs dX7_fewer_100 (fun H locs hw => ?_)
          refine lv_iload hx hb dX7_fewer_103 (lv_at hl 0 rfl) ?_
          refine lv_aload_n hx hb dX7_fewer_105 rfl (lv_at hl 2 rfl) ?_
          refine gtX7_19 X hw dX7_fewer_106 ?_
          refine lv_iload_n hx hb dX7_fewer_109 rfl (lv_at hl 5 rfl) ?_
          refine lv_iconst (v := 0) hx hb dX7_fewer_110 (by decide) ?_
          refine lv_iload hx hb dX7_fewer_111 (lv_at hl 1 rfl) ?_
          obtain ⟨r33, M34, f35, h⟩ := zbi_e h
          refine z_qVi (As := [.int p2, .int (0 : Int32), .int x19]) (rest := [.int r24]) X hw (kX0_turnsIn l D cy a 45 zX0_45 p2 (0 : Int32) x19 M31 r33 M34 f35) (cwX7_202 X.2.2.2.2.2.1 rfl rfl (zroomO (Nat.le_of_ble_eq_true rfl) (Nat.le_of_ble_eq_true rfl))) (zX0_lt zX0_45) (zS0 zX0_45 cy a (M31 45)) rfl rfl rfl (Nat.le_of_ble_eq_true rfl) hl.1 hcs dX7_fewer_113 (fun H locs hw => ?_)
          refine lv_isub hx hb dX7_fewer_116 ?_
          exact z_ri X hw (zret h) dX7_fewer_117
        · replace h := zif_f c20 h
          refine lv_aload_n hx hb dX7_fewer_52 rfl (lv_at hl 1 rfl) ?_
          refine lv_iconst (v := 4) hx hb dX7_fewer_53 (by decide) ?_
          obtain ⟨r36, M37, f38, h⟩ := zbi_e h
          refine z_qVi (As := [.int (4 : Int32)]) (rest := []) X hw (kX7_error l D cy a (4 : Int32) M16 r36 M37 f38) (cwX7_61 X.2.2.2.2.2.1 rfl rfl (zroomO (Nat.le_of_ble_eq_true rfl) (Nat.le_of_ble_eq_true rfl))) (zX7_lt (rfl : zX7 0)) (zS7 (rfl : zX7 0) cy a (M16 0)) rfl rfl rfl (Nat.le_of_ble_eq_true rfl) hl.1 hcs dX7_fewer_54 (fun H locs hw => ?_)
          exact z_ri X hw (zret h) dX7_fewer_57
      · replace h := zif_f c18 h
        refine lv_aload_n hx hb dX7_fewer_30 rfl (lv_at hl 0 rfl) ?_
        refine lv_iconst (v := 1) hx hb dX7_fewer_31 (by decide) ?_
        obtain ⟨r39, M40, f41, h⟩ := zbi_e h
        refine z_qVi (As := [.int (1 : Int32)]) (rest := []) X hw (kX7_error l D cy a (1 : Int32) M16 r39 M40 f41) (cwX7_61 X.2.2.2.2.2.1 rfl rfl (zroomO (Nat.le_of_ble_eq_true rfl) (Nat.le_of_ble_eq_true rfl))) (zX7_lt (rfl : zX7 0)) (zS7 (rfl : zX7 0) cy a (M16 0)) rfl rfl rfl (Nat.le_of_ble_eq_true rfl) hl.1 hcs dX7_fewer_32 (fun H locs hw => ?_)
        exact z_ri X hw (zret h) dX7_fewer_35
def fX7_bestPlace_55 (y1 : Int32) (y2 : Int32) (y3 : Int32) (k : Int32 → zM → Option (Int32 × zM)) : Nat → Int32 → Int32 → Int32 → zM → Option (Int32 × zM)
  | 0, _, _, _, _ => none
  | n + 1, v4, v5, v6, M => if (12 : Int32) ≤ v6 then (k v4 M) else (zbv (fX0_copyFrom 45 1 M) (fun M16 => zbv (fX0_addWheel 45 y1 v6 (0 : Int32) M16) (fun M19 => zbi (fX0_turnsIn 45 y2 y3 (y3 + (1 : Int32)) M19) (fun r21 M22 => if r21 ≤ v5 then (zlt (v6 + (1 : Int32)) (fun x25 => fX7_bestPlace_55 y1 y2 y3 k n v4 v5 x25 M22)) else (zlt (v6 + (1 : Int32)) (fun x26 => fX7_bestPlace_55 y1 y2 y3 k n v6 r21 x26 M22))))))
set_option maxRecDepth 100000 in
set_option maxHeartbeats 4000000 in
theorem lX7_bestPlace_55 {p : Program} {l : Launch} {e : Env} {s : State} {m : MethodId} {args : Array Value} {below : List Frame} {meth : Method} {c : Code} {D : va_G} {cy : Nat → ClassId} {a : Nat → Nat} {r0 : Int32} {M0 : zM} (X : zCX p s m meth c args cX7_bestPlace 8 (some .int) RX7) (y1 : Int32) (y2 : Int32) (y3 : Int32) (k : Int32 → zM → Option (Int32 × zM)) : ∀ (n : Nat) (v4 : Int32) (v5 : Int32) (v6 : Int32) (M : zM) (H : Heap) (locs : List Loc) (ls : Array Slot), zWD D cy a (zfr a s.heap.size) M H locs s → lv_has ls 8 [(0, .ref (a 0)), (1, .int y1), (2, .int y2), (3, .int y3), (4, .int v4), (5, .int v5), (6, .int v6)] → fX7_bestPlace_55 y1 y2 y3 k n v4 v5 v6 M = some (r0, M0) →
    (∀ (u4 : Int32) (M' : zM) (H' : Heap) (locs' : List Loc) (ls' : Array Slot), zWD D cy a (zfr a s.heap.size) M' H' locs' s → lv_has ls' 8 [(4, .int u4)] → k u4 M' = some (r0, M0) → W p l e (zRm 7 164) s m args below meth c H' locs' 0 0 (zQi D cy a s args below r0 M0) (F0 m 119 ls' [])) →
    W p l e (zRm 7 164) s m args below meth c H locs 0 0 (zQi D cy a s args below r0 M0) (F0 m 55 ls []) := by
  obtain ⟨hx, hb, hr, hml, hown, hW, hlocks⟩ := id X
  have hcs : 0 ≤ ((zRm 7 164)).cells ∧ 0 ≤ ((zRm 7 164)).slots := ⟨Nat.zero_le _, Nat.zero_le _⟩
  intro n
  induction n with
  | zero =>
    intro v4 v5 v6 M H locs ls hw hl h hk
    cases h
  | succ n ih =>
    intro v4 v5 v6 M H locs ls hw hl h hk
    have hE := hw.2.2.2.2.1
    rw [fX7_bestPlace_55] at h
    refine lv_iload hx hb dX7_bestPlace_55 (lv_at hl 6 rfl) ?_
    refine lv_bipush (v := 12) hx hb dX7_bestPlace_57 (by decide) ?_
    refine lv_icmp_ge (tgt := 119) hx hb dX7_bestPlace_59 (by decide) (fun c14 => ?_) (fun c14 => ?_)
    · replace h := zif_t c14 h
      exact hk v4 M H locs _ hw (lv_sub hl [4] rfl) h
    · replace h := zif_f c14 h
      refine lv_aload_n hx hb dX7_bestPlace_62 rfl (lv_at hl 0 rfl) ?_
      refine gtX7_19 X hw dX7_bestPlace_63 ?_
      refine lv_aload_n hx hb dX7_bestPlace_66 rfl (lv_at hl 0 rfl) ?_
      refine gtX7_10 X hw dX7_bestPlace_67 ?_
      obtain ⟨M16, f17, h⟩ := zbv_e h
      refine z_qVv (As := [.ref (a 1)]) (rest := []) X hw (kX0_copyFrom l D cy a 45 zX0_45 1 zX0_1 M M16 f17) (cwX7_187 X.2.2.2.2.2.1 rfl rfl (zroomO (Nat.le_of_ble_eq_true rfl) (Nat.le_of_ble_eq_true rfl))) (zX0_lt zX0_45) (zS0 zX0_45 cy a (M 45)) rfl rfl rfl (Nat.le_of_ble_eq_true rfl) hl.1 hcs dX7_bestPlace_70 (fun H locs hw => ?_)
      refine lv_aload_n hx hb dX7_bestPlace_73 rfl (lv_at hl 0 rfl) ?_
      refine gtX7_19 X hw dX7_bestPlace_74 ?_
      refine lv_iload_n hx hb dX7_bestPlace_77 rfl (lv_at hl 1 rfl) ?_
      refine lv_iload hx hb dX7_bestPlace_78 (lv_at hl 6 rfl) ?_
      refine lv_iconst (v := 0) hx hb dX7_bestPlace_80 (by decide) ?_
      obtain ⟨M19, f20, h⟩ := zbv_e h
      refine z_qVv (As := [.int y1, .int v6, .int (0 : Int32)]) (rest := []) X hw (kX0_addWheel l D cy a 45 zX0_45 y1 v6 (0 : Int32) M16 M19 f20) (cwX7_86 X.2.2.2.2.2.1 rfl rfl (zroomO (Nat.le_of_ble_eq_true rfl) (Nat.le_of_ble_eq_true rfl))) (zX0_lt zX0_45) (zS0 zX0_45 cy a (M16 45)) rfl rfl rfl (Nat.le_of_ble_eq_true rfl) hl.1 hcs dX7_bestPlace_81 (fun H locs hw => ?_)
      refine lv_aload_n hx hb dX7_bestPlace_84 rfl (lv_at hl 0 rfl) ?_
      refine gtX7_19 X hw dX7_bestPlace_85 ?_
      refine lv_iload_n hx hb dX7_bestPlace_88 rfl (lv_at hl 2 rfl) ?_
      refine lv_iload_n hx hb dX7_bestPlace_89 rfl (lv_at hl 3 rfl) ?_
      refine lv_iload_n hx hb dX7_bestPlace_90 rfl (lv_at hl 3 rfl) ?_
      refine lv_iconst (v := 1) hx hb dX7_bestPlace_91 (by decide) ?_
      refine lv_iadd hx hb dX7_bestPlace_92 ?_
      obtain ⟨r21, M22, f23, h⟩ := zbi_e h
      refine z_qVi (As := [.int y2, .int y3, .int (y3 + (1 : Int32))]) (rest := []) X hw (kX0_turnsIn l D cy a 45 zX0_45 y2 y3 (y3 + (1 : Int32)) M19 r21 M22 f23) (cwX7_202 X.2.2.2.2.2.1 rfl rfl (zroomO (Nat.le_of_ble_eq_true rfl) (Nat.le_of_ble_eq_true rfl))) (zX0_lt zX0_45) (zS0 zX0_45 cy a (M19 45)) rfl rfl rfl (Nat.le_of_ble_eq_true rfl) hl.1 hcs dX7_bestPlace_93 (fun H locs hw => ?_)
      refine lv_istore (lv' := [(7, .int r21), (0, .ref (a 0)), (1, .int y1), (2, .int y2), (3, .int y3), (4, .int v4), (5, .int v5), (6, .int v6)]) hx hb dX7_bestPlace_96 hl (by decide) rfl (fun ls hl => ?_)
      refine lv_iload hx hb dX7_bestPlace_98 (lv_at hl 0 rfl) ?_
      refine lv_iload hx hb dX7_bestPlace_100 (lv_at hl 6 rfl) ?_
      refine lv_icmp_le (tgt := 113) hx hb dX7_bestPlace_102 (by decide) (fun c24 => ?_) (fun c24 => ?_)
      · replace h := zif_t c24 h
        obtain ⟨x25, ex25⟩ : ∃ y : Int32, y = v6 + (1 : Int32) := ⟨_, rfl⟩
        replace h := zlt_s ex25 h
        refine lv_iinc (v := x25) (lv' := [(6, .int x25), (7, .int r21), (0, .ref (a 0)), (1, .int y1), (2, .int y2), (3, .int y3), (4, .int v4), (5, .int v5)]) hx hb dX7_bestPlace_113 hl (k := 7) rfl (by rw [ex25]; rfl) (by decide) rfl (fun ls hl => ?_)
        refine lv_goto (tgt := 55) hx hb dX7_bestPlace_116 (by decide) ?_
        exact ih v4 v5 x25 M22 H locs _ hw (lv_sub hl [2, 3, 4, 5, 6, 7, 0] rfl) h hk
      · replace h := zif_f c24 h
        refine lv_iload hx hb dX7_bestPlace_105 (lv_at hl 7 rfl) ?_
        refine lv_istore (lv' := [(4, .int v6), (7, .int r21), (0, .ref (a 0)), (1, .int y1), (2, .int y2), (3, .int y3), (5, .int v5), (6, .int v6)]) hx hb dX7_bestPlace_107 hl (by decide) rfl (fun ls hl => ?_)
        refine lv_iload hx hb dX7_bestPlace_109 (lv_at hl 1 rfl) ?_
        refine lv_istore (lv' := [(5, .int r21), (4, .int v6), (7, .int r21), (0, .ref (a 0)), (1, .int y1), (2, .int y2), (3, .int y3), (6, .int v6)]) hx hb dX7_bestPlace_111 hl (by decide) rfl (fun ls hl => ?_)
        obtain ⟨x26, ex26⟩ : ∃ y : Int32, y = v6 + (1 : Int32) := ⟨_, rfl⟩
        replace h := zlt_s ex26 h
        refine lv_iinc (v := x26) (lv' := [(6, .int x26), (5, .int r21), (4, .int v6), (7, .int r21), (0, .ref (a 0)), (1, .int y1), (2, .int y2), (3, .int y3)]) hx hb dX7_bestPlace_113 hl (k := 7) rfl (by rw [ex26]; rfl) (by decide) rfl (fun ls hl => ?_)
        refine lv_goto (tgt := 55) hx hb dX7_bestPlace_116 (by decide) ?_
        exact ih v6 r21 x26 M22 H locs _ hw (lv_sub hl [4, 5, 6, 7, 2, 1, 0] rfl) h hk
def fX7_bestPlace (p0 : Int32) (p1 : Int32) (M : zM) : Option (Int32 × zM) := zbi (fX7_outside p0 (0 : Int32) (69 : Int32) M) (fun r1 M2 => if r1 = 0 then (zbi (fX7_outside p1 (1 : Int32) (48 : Int32) M2) (fun r8 M9 => if r8 = 0 then (zlt (M9 1 9) (fun x12 => if x12 < (8 : Int32) then (fX7_bestPlace_55 p0 p1 x12 (fun x27 M28 => some (x27, M28)) zF (0 : Int32) (-1 : Int32) (0 : Int32) M9) else (zbi (fX7_error (4 : Int32) M9) (fun r29 M30 => some (r29, M30))))) else (zbi (fX7_error (1 : Int32) M9) (fun r32 M33 => some (r32, M33))))) else (zbi (fX7_error (1 : Int32) M2) (fun r5 M6 => some (r5, M6))))
set_option maxRecDepth 100000 in
set_option maxHeartbeats 4000000 in
theorem kX7_bestPlace (l : Launch) (D : va_G) (cy : Nat → ClassId) (a : Nat → Nat) (p0 : Int32) (p1 : Int32) (M : zM) (r0 : Int32) (M0 : zM) (h : fX7_bestPlace p0 p1 M = some (r0, M0)) : zCi l D cy a yX7_bestPlace cX7_bestPlace 8 (some .int) (zRm 7 164) [.ref (a 0), .int p0, .int p1] M (fun r u => r = r0 ∧ u = M0) := by
  intro sz
  refine zent_i sz (by decide) (Nat.le_of_ble_eq_true rfl) rfl (fun p e s m args below meth c ls H locs X hw hl => ?_)
  obtain ⟨hx, hb, hr, hml, hown, hW, hlocks⟩ := id X
  have hE := hw.2.2.2.2.1
  have hcs : 0 ≤ ((zRm 7 164)).cells ∧ 0 ≤ ((zRm 7 164)).slots := ⟨Nat.zero_le _, Nat.zero_le _⟩
  rw [fX7_bestPlace] at h
  refine lv_iload_n hx hb dX7_bestPlace_0 rfl (lv_at hl 1 rfl) ?_
  refine lv_iconst (v := 0) hx hb dX7_bestPlace_1 (by decide) ?_
  refine lv_bipush (v := 69) hx hb dX7_bestPlace_2 (by decide) ?_
  obtain ⟨r1, M2, f3, h⟩ := zbi_e h
  refine z_qSi (As := [.int p0, .int (0 : Int32), .int (69 : Int32)]) (rest := []) X hw (kX7_outside l D cy a p0 (0 : Int32) (69 : Int32) M r1 M2 f3) (cwX7_57 X.2.2.2.2.2.1 rfl rfl (zroomO (Nat.le_of_ble_eq_true rfl) (Nat.le_of_ble_eq_true rfl))) rfl rfl (Nat.le_of_ble_eq_true rfl) hl.1 hcs dX7_bestPlace_4 (fun H locs hw => ?_)
  refine lv_if_ne (tgt := 20) hx hb dX7_bestPlace_7 (by decide) (fun c4 => ?_) (fun c4 => ?_)
  · replace h := zif_f c4 h
    refine lv_aload_n hx hb dX7_bestPlace_20 rfl (lv_at hl 0 rfl) ?_
    refine lv_iconst (v := 1) hx hb dX7_bestPlace_21 (by decide) ?_
    obtain ⟨r5, M6, f7, h⟩ := zbi_e h
    refine z_qVi (As := [.int (1 : Int32)]) (rest := []) X hw (kX7_error l D cy a (1 : Int32) M2 r5 M6 f7) (cwX7_61 X.2.2.2.2.2.1 rfl rfl (zroomO (Nat.le_of_ble_eq_true rfl) (Nat.le_of_ble_eq_true rfl))) (zX7_lt (rfl : zX7 0)) (zS7 (rfl : zX7 0) cy a (M2 0)) rfl rfl rfl (Nat.le_of_ble_eq_true rfl) hl.1 hcs dX7_bestPlace_22 (fun H locs hw => ?_)
    exact z_ri X hw (zret h) dX7_bestPlace_25
  · replace h := zif_t c4 h
    refine lv_iload_n hx hb dX7_bestPlace_10 rfl (lv_at hl 2 rfl) ?_
    refine lv_iconst (v := 1) hx hb dX7_bestPlace_11 (by decide) ?_
    refine lv_bipush (v := 48) hx hb dX7_bestPlace_12 (by decide) ?_
    obtain ⟨r8, M9, f10, h⟩ := zbi_e h
    refine z_qSi (As := [.int p1, .int (1 : Int32), .int (48 : Int32)]) (rest := []) X hw (kX7_outside l D cy a p1 (1 : Int32) (48 : Int32) M2 r8 M9 f10) (cwX7_57 X.2.2.2.2.2.1 rfl rfl (zroomO (Nat.le_of_ble_eq_true rfl) (Nat.le_of_ble_eq_true rfl))) rfl rfl (Nat.le_of_ble_eq_true rfl) hl.1 hcs dX7_bestPlace_14 (fun H locs hw => ?_)
    refine lv_if_eq (tgt := 26) hx hb dX7_bestPlace_17 (by decide) (fun c11 => ?_) (fun c11 => ?_)
    · replace h := zif_t c11 h
      refine lv_aload_n hx hb dX7_bestPlace_26 rfl (lv_at hl 0 rfl) ?_
      refine gtX7_10 X hw dX7_bestPlace_27 ?_
      refine gtX7_83 X hw zX0_1 dX7_bestPlace_30 ?_
      refine lv_topi (fun x12 ex12 => ?_)
      replace h := zlt_s ex12 h
      refine lv_istore_n (lv' := [(3, .int x12), (0, .ref (a 0)), (1, .int p0), (2, .int p1)]) hx hb dX7_bestPlace_33 rfl hl (by decide) rfl (fun ls hl => ?_)
      refine lv_iload_n hx hb dX7_bestPlace_34 rfl (lv_at hl 0 rfl) ?_
      refine lv_bipush (v := 8) hx hb dX7_bestPlace_35 (by decide) ?_
      refine lv_icmp_lt (tgt := 46) hx hb dX7_bestPlace_37 (by decide) (fun c13 => ?_) (fun c13 => ?_)
      · replace h := zif_t c13 h
        refine lv_iconst (v := 0) hx hb dX7_bestPlace_46 (by decide) ?_
        refine lv_istore (lv' := [(4, .int (0 : Int32)), (3, .int x12), (0, .ref (a 0)), (1, .int p0), (2, .int p1)]) hx hb dX7_bestPlace_47 hl (by decide) rfl (fun ls hl => ?_)
        refine lv_iconst (v := (-1)) hx hb dX7_bestPlace_49 (by decide) ?_
        refine lv_istore (lv' := [(5, .int (-1 : Int32)), (4, .int (0 : Int32)), (3, .int x12), (0, .ref (a 0)), (1, .int p0), (2, .int p1)]) hx hb dX7_bestPlace_50 hl (by decide) rfl (fun ls hl => ?_)
        refine lv_iconst (v := 0) hx hb dX7_bestPlace_52 (by decide) ?_
        refine lv_istore (lv' := [(6, .int (0 : Int32)), (5, .int (-1 : Int32)), (4, .int (0 : Int32)), (3, .int x12), (0, .ref (a 0)), (1, .int p0), (2, .int p1)]) hx hb dX7_bestPlace_53 hl (by decide) rfl (fun ls hl => ?_)
        refine lX7_bestPlace_55 X p0 p1 x12 _ zF (0 : Int32) (-1 : Int32) (0 : Int32) M9 H locs _ hw (lv_sub hl [4, 5, 6, 3, 2, 1, 0] rfl) h (fun x27 M28 H locs ls hw hl h => ?_)
        refine lv_iload hx hb dX7_bestPlace_119 (lv_at hl 0 rfl) ?_
        exact z_ri X hw (zret h) dX7_bestPlace_121
      · replace h := zif_f c13 h
        refine lv_aload_n hx hb dX7_bestPlace_40 rfl (lv_at hl 1 rfl) ?_
        refine lv_iconst (v := 4) hx hb dX7_bestPlace_41 (by decide) ?_
        obtain ⟨r29, M30, f31, h⟩ := zbi_e h
        refine z_qVi (As := [.int (4 : Int32)]) (rest := []) X hw (kX7_error l D cy a (4 : Int32) M9 r29 M30 f31) (cwX7_61 X.2.2.2.2.2.1 rfl rfl (zroomO (Nat.le_of_ble_eq_true rfl) (Nat.le_of_ble_eq_true rfl))) (zX7_lt (rfl : zX7 0)) (zS7 (rfl : zX7 0) cy a (M9 0)) rfl rfl rfl (Nat.le_of_ble_eq_true rfl) hl.1 hcs dX7_bestPlace_42 (fun H locs hw => ?_)
        exact z_ri X hw (zret h) dX7_bestPlace_45
    · replace h := zif_f c11 h
      refine lv_aload_n hx hb dX7_bestPlace_20 rfl (lv_at hl 0 rfl) ?_
      refine lv_iconst (v := 1) hx hb dX7_bestPlace_21 (by decide) ?_
      obtain ⟨r32, M33, f34, h⟩ := zbi_e h
      refine z_qVi (As := [.int (1 : Int32)]) (rest := []) X hw (kX7_error l D cy a (1 : Int32) M9 r32 M33 f34) (cwX7_61 X.2.2.2.2.2.1 rfl rfl (zroomO (Nat.le_of_ble_eq_true rfl) (Nat.le_of_ble_eq_true rfl))) (zX7_lt (rfl : zX7 0)) (zS7 (rfl : zX7 0) cy a (M9 0)) rfl rfl rfl (Nat.le_of_ble_eq_true rfl) hl.1 hcs dX7_bestPlace_22 (fun H locs hw => ?_)
      exact z_ri X hw (zret h) dX7_bestPlace_25
def fX7_who_60 (y1 : Int32) (y2 : Int32) (k : Int32 → Int32 → Int32 → Int32 → zM → Option (Int32 × zM)) : Nat → Int32 → Int32 → Int32 → Int32 → Int32 → zM → Option (Int32 × zM)
  | 0, _, _, _, _, _, _ => none
  | n + 1, v3, v4, v5, v6, v7, M => zlt ((1 : Int32) <<< ((M 1 9) &&& 31)) (fun x17 => if x17 ≤ v7 then (k v3 v4 v5 v6 M) else (zbv (fX0_openOnly 45 v7 M) (fun M20 => zbv (fX0_letFlow 45 M20) (fun M23 => if M23 45 13 = y1 then (if v3 = 0 then (zlt (v3 + (1 : Int32)) (fun x32 => zlt (v5 &&& v7) (fun x33 => zlt (v6 ||| v7) (fun x34 => zlt (v7 + (1 : Int32)) (fun x35 => fX7_who_60 y1 y2 k n x32 v7 x33 x34 x35 M23))))) else (zlt (v3 + (1 : Int32)) (fun x28 => zlt (v5 &&& v7) (fun x29 => zlt (v6 ||| v7) (fun x30 => zlt (v7 + (1 : Int32)) (fun x31 => fX7_who_60 y1 y2 k n x28 v4 x29 x30 x31 M23)))))) else (zlt (v7 + (1 : Int32)) (fun x26 => fX7_who_60 y1 y2 k n v3 v4 v5 v6 x26 M23))))))
set_option maxRecDepth 100000 in
set_option maxHeartbeats 4000000 in
theorem lX7_who_60 {p : Program} {l : Launch} {e : Env} {s : State} {m : MethodId} {args : Array Value} {below : List Frame} {meth : Method} {c : Code} {D : va_G} {cy : Nat → ClassId} {a : Nat → Nat} {r0 : Int32} {M0 : zM} (X : zCX p s m meth c args cX7_who 8 (some .int) RX7) (y1 : Int32) (y2 : Int32) (k : Int32 → Int32 → Int32 → Int32 → zM → Option (Int32 × zM)) : ∀ (n : Nat) (v3 : Int32) (v4 : Int32) (v5 : Int32) (v6 : Int32) (v7 : Int32) (M : zM) (H : Heap) (locs : List Loc) (ls : Array Slot), zWD D cy a (zfr a s.heap.size) M H locs s → lv_has ls 8 [(0, .ref (a 0)), (1, .int y1), (2, .int y2), (3, .int v3), (4, .int v4), (5, .int v5), (6, .int v6), (7, .int v7)] → fX7_who_60 y1 y2 k n v3 v4 v5 v6 v7 M = some (r0, M0) →
    (∀ (u3 : Int32) (u4 : Int32) (u5 : Int32) (u6 : Int32) (M' : zM) (H' : Heap) (locs' : List Loc) (ls' : Array Slot), zWD D cy a (zfr a s.heap.size) M' H' locs' s → lv_has ls' 8 [(0, .ref (a 0)), (2, .int y2), (3, .int u3), (4, .int u4), (5, .int u5), (6, .int u6)] → k u3 u4 u5 u6 M' = some (r0, M0) → W p l e (zRm 5 115) s m args below meth c H' locs' 0 0 (zQi D cy a s args below r0 M0) (F0 m 132 ls' [])) →
    W p l e (zRm 5 115) s m args below meth c H locs 0 0 (zQi D cy a s args below r0 M0) (F0 m 60 ls []) := by
  obtain ⟨hx, hb, hr, hml, hown, hW, hlocks⟩ := id X
  have hcs : 0 ≤ ((zRm 5 115)).cells ∧ 0 ≤ ((zRm 5 115)).slots := ⟨Nat.zero_le _, Nat.zero_le _⟩
  intro n
  induction n with
  | zero =>
    intro v3 v4 v5 v6 v7 M H locs ls hw hl h hk
    cases h
  | succ n ih =>
    intro v3 v4 v5 v6 v7 M H locs ls hw hl h hk
    have hE := hw.2.2.2.2.1
    rw [fX7_who_60] at h
    refine lv_iload hx hb dX7_who_60 (lv_at hl 7 rfl) ?_
    refine lv_iconst (v := 1) hx hb dX7_who_62 (by decide) ?_
    refine lv_aload_n hx hb dX7_who_63 rfl (lv_at hl 0 rfl) ?_
    refine gtX7_10 X hw dX7_who_64 ?_
    refine gtX7_83 X hw zX0_1 dX7_who_67 ?_
    refine lv_ishl hx hb dX7_who_70 ?_
    refine lv_topi (fun x17 ex17 => ?_)
    replace h := zlt_s ex17 h
    refine lv_icmp_ge (tgt := 132) hx hb dX7_who_71 (by decide) (fun c18 => ?_) (fun c18 => ?_)
    · replace h := zif_t c18 h
      exact hk v3 v4 v5 v6 M H locs _ hw (lv_sub hl [0, 2, 3, 4, 5, 6] rfl) h
    · replace h := zif_f c18 h
      refine lv_aload_n hx hb dX7_who_74 rfl (lv_at hl 0 rfl) ?_
      refine gtX7_19 X hw dX7_who_75 ?_
      refine lv_iload hx hb dX7_who_78 (lv_at hl 7 rfl) ?_
      obtain ⟨M20, f21, h⟩ := zbv_e h
      refine z_qVv (As := [.int v7]) (rest := []) X hw (kX0_openOnly l D cy a 45 zX0_45 v7 M M20 f21) (cwX7_194 X.2.2.2.2.2.1 rfl rfl (zroomO (Nat.le_of_ble_eq_true rfl) (Nat.le_of_ble_eq_true rfl))) (zX0_lt zX0_45) (zS0 zX0_45 cy a (M 45)) rfl rfl rfl (Nat.le_of_ble_eq_true rfl) hl.1 hcs dX7_who_80 (fun H locs hw => ?_)
      refine lv_aload_n hx hb dX7_who_83 rfl (lv_at hl 0 rfl) ?_
      refine gtX7_19 X hw dX7_who_84 ?_
      obtain ⟨M23, f24, h⟩ := zbv_e h
      refine z_qVv (As := []) (rest := []) X hw (kX0_letFlow l D cy a 45 zX0_45 M20 M23 f24) (cwX7_123 X.2.2.2.2.2.1 rfl rfl (zroomO (Nat.le_of_ble_eq_true rfl) (Nat.le_of_ble_eq_true rfl))) (zX0_lt zX0_45) (zS0 zX0_45 cy a (M20 45)) rfl rfl rfl (Nat.le_of_ble_eq_true rfl) hl.1 hcs dX7_who_87 (fun H locs hw => ?_)
      refine lv_aload_n hx hb dX7_who_90 rfl (lv_at hl 0 rfl) ?_
      refine gtX7_19 X hw dX7_who_91 ?_
      refine gtX7_206 X hw zX0_45 dX7_who_94 ?_
      refine lv_iload_n hx hb dX7_who_97 rfl (lv_at hl 1 rfl) ?_
      refine lv_icmp_ne (tgt := 126) hx hb dX7_who_98 (by decide) (fun c25 => ?_) (fun c25 => ?_)
      · replace h := zif_f c25 h
        obtain ⟨x26, ex26⟩ : ∃ y : Int32, y = v7 + (1 : Int32) := ⟨_, rfl⟩
        replace h := zlt_s ex26 h
        refine lv_iinc (v := x26) (lv' := [(7, .int x26), (0, .ref (a 0)), (1, .int y1), (2, .int y2), (3, .int v3), (4, .int v4), (5, .int v5), (6, .int v6)]) hx hb dX7_who_126 hl (k := 7) rfl (by rw [ex26]; rfl) (by decide) rfl (fun ls hl => ?_)
        refine lv_goto (tgt := 60) hx hb dX7_who_129 (by decide) ?_
        exact ih v3 v4 v5 v6 x26 M23 H locs _ hw (lv_sub hl [1, 2, 3, 4, 5, 6, 7, 0] rfl) h hk
      · replace h := zif_t c25 h
        refine lv_iload_n hx hb dX7_who_101 rfl (lv_at hl 3 rfl) ?_
        refine lv_if_ne (tgt := 109) hx hb dX7_who_102 (by decide) (fun c27 => ?_) (fun c27 => ?_)
        · replace h := zif_f c27 h
          obtain ⟨x28, ex28⟩ : ∃ y : Int32, y = v3 + (1 : Int32) := ⟨_, rfl⟩
          replace h := zlt_s ex28 h
          refine lv_iinc (v := x28) (lv' := [(3, .int x28), (0, .ref (a 0)), (1, .int y1), (2, .int y2), (4, .int v4), (5, .int v5), (6, .int v6), (7, .int v7)]) hx hb dX7_who_109 hl (k := 3) rfl (by rw [ex28]; rfl) (by decide) rfl (fun ls hl => ?_)
          refine lv_iload hx hb dX7_who_112 (lv_at hl 5 rfl) ?_
          refine lv_iload hx hb dX7_who_114 (lv_at hl 7 rfl) ?_
          refine lv_iand hx hb dX7_who_116 ?_
          refine lv_topi (fun x29 ex29 => ?_)
          replace h := zlt_s ex29 h
          refine lv_istore (lv' := [(5, .int x29), (3, .int x28), (0, .ref (a 0)), (1, .int y1), (2, .int y2), (4, .int v4), (6, .int v6), (7, .int v7)]) hx hb dX7_who_117 hl (by decide) rfl (fun ls hl => ?_)
          refine lv_iload hx hb dX7_who_119 (lv_at hl 6 rfl) ?_
          refine lv_iload hx hb dX7_who_121 (lv_at hl 7 rfl) ?_
          refine lv_ior hx hb dX7_who_123 ?_
          refine lv_topi (fun x30 ex30 => ?_)
          replace h := zlt_s ex30 h
          refine lv_istore (lv' := [(6, .int x30), (5, .int x29), (3, .int x28), (0, .ref (a 0)), (1, .int y1), (2, .int y2), (4, .int v4), (7, .int v7)]) hx hb dX7_who_124 hl (by decide) rfl (fun ls hl => ?_)
          obtain ⟨x31, ex31⟩ : ∃ y : Int32, y = v7 + (1 : Int32) := ⟨_, rfl⟩
          replace h := zlt_s ex31 h
          refine lv_iinc (v := x31) (lv' := [(7, .int x31), (6, .int x30), (5, .int x29), (3, .int x28), (0, .ref (a 0)), (1, .int y1), (2, .int y2), (4, .int v4)]) hx hb dX7_who_126 hl (k := 7) rfl (by rw [ex31]; rfl) (by decide) rfl (fun ls hl => ?_)
          refine lv_goto (tgt := 60) hx hb dX7_who_129 (by decide) ?_
          exact ih x28 v4 x29 x30 x31 M23 H locs _ hw (lv_sub hl [4, 5, 6, 3, 7, 2, 1, 0] rfl) h hk
        · replace h := zif_t c27 h
          refine lv_iload hx hb dX7_who_105 (lv_at hl 7 rfl) ?_
          refine lv_istore (lv' := [(4, .int v7), (0, .ref (a 0)), (1, .int y1), (2, .int y2), (3, .int v3), (5, .int v5), (6, .int v6), (7, .int v7)]) hx hb dX7_who_107 hl (by decide) rfl (fun ls hl => ?_)
          obtain ⟨x32, ex32⟩ : ∃ y : Int32, y = v3 + (1 : Int32) := ⟨_, rfl⟩
          replace h := zlt_s ex32 h
          refine lv_iinc (v := x32) (lv' := [(3, .int x32), (4, .int v7), (0, .ref (a 0)), (1, .int y1), (2, .int y2), (5, .int v5), (6, .int v6), (7, .int v7)]) hx hb dX7_who_109 hl (k := 4) rfl (by rw [ex32]; rfl) (by decide) rfl (fun ls hl => ?_)
          refine lv_iload hx hb dX7_who_112 (lv_at hl 5 rfl) ?_
          refine lv_iload hx hb dX7_who_114 (lv_at hl 7 rfl) ?_
          refine lv_iand hx hb dX7_who_116 ?_
          refine lv_topi (fun x33 ex33 => ?_)
          replace h := zlt_s ex33 h
          refine lv_istore (lv' := [(5, .int x33), (3, .int x32), (4, .int v7), (0, .ref (a 0)), (1, .int y1), (2, .int y2), (6, .int v6), (7, .int v7)]) hx hb dX7_who_117 hl (by decide) rfl (fun ls hl => ?_)
          refine lv_iload hx hb dX7_who_119 (lv_at hl 6 rfl) ?_
          refine lv_iload hx hb dX7_who_121 (lv_at hl 7 rfl) ?_
          refine lv_ior hx hb dX7_who_123 ?_
          refine lv_topi (fun x34 ex34 => ?_)
          replace h := zlt_s ex34 h
          refine lv_istore (lv' := [(6, .int x34), (5, .int x33), (3, .int x32), (4, .int v7), (0, .ref (a 0)), (1, .int y1), (2, .int y2), (7, .int v7)]) hx hb dX7_who_124 hl (by decide) rfl (fun ls hl => ?_)
          obtain ⟨x35, ex35⟩ : ∃ y : Int32, y = v7 + (1 : Int32) := ⟨_, rfl⟩
          replace h := zlt_s ex35 h
          refine lv_iinc (v := x35) (lv' := [(7, .int x35), (6, .int x34), (5, .int x33), (3, .int x32), (4, .int v7), (0, .ref (a 0)), (1, .int y1), (2, .int y2)]) hx hb dX7_who_126 hl (k := 7) rfl (by rw [ex35]; rfl) (by decide) rfl (fun ls hl => ?_)
          refine lv_goto (tgt := 60) hx hb dX7_who_129 (by decide) ?_
          exact ih x32 v7 x33 x34 x35 M23 H locs _ hw (lv_sub hl [5, 6, 7, 3, 4, 2, 1, 0] rfl) h hk
def fX7_who (p0 : Int32) (p1 : Int32) (M : zM) : Option (Int32 × zM) := zbi (fX7_outside p0 (0 : Int32) (99 : Int32) M) (fun r1 M2 => if r1 = 0 then (zbi (fX7_outside p1 (0 : Int32) (3 : Int32) M2) (fun r8 M9 => if r8 = 0 then (zlt ((1 : Int32) <<< ((M9 1 9) &&& 31)) (fun x12 => zlt (x12 - (1 : Int32)) (fun x13 => zbv (fX0_copyFrom 45 1 M9) (fun M15 => fX7_who_60 p0 p1 (fun x36 x37 x38 x39 M40 => if x36 = 0 then (if p1 = (1 : Int32) then (zbi (fX7_error (2 : Int32) M40) (fun r46 M47 => some (r46, M47))) else (if p1 = (2 : Int32) then (zbi (fX7_error (2 : Int32) M40) (fun r53 M54 => some (r53, M54))) else (if p1 = (0 : Int32) then (some (x36, M40)) else (if p1 = (1 : Int32) then (some (x37, M40)) else (if p1 = (2 : Int32) then (some (x38, M40)) else (some (x39, M40))))))) else (if p1 = (0 : Int32) then (some (x36, M40)) else (if p1 = (1 : Int32) then (some (x37, M40)) else (if p1 = (2 : Int32) then (some (x38, M40)) else (some (x39, M40)))))) zF (0 : Int32) (0 : Int32) x13 (0 : Int32) (0 : Int32) M15)))) else (zbi (fX7_error (1 : Int32) M9) (fun r56 M57 => some (r56, M57))))) else (zbi (fX7_error (1 : Int32) M2) (fun r5 M6 => some (r5, M6))))
set_option maxRecDepth 100000 in
set_option maxHeartbeats 4000000 in
theorem kX7_who (l : Launch) (D : va_G) (cy : Nat → ClassId) (a : Nat → Nat) (p0 : Int32) (p1 : Int32) (M : zM) (r0 : Int32) (M0 : zM) (h : fX7_who p0 p1 M = some (r0, M0)) : zCi l D cy a yX7_who cX7_who 8 (some .int) (zRm 5 115) [.ref (a 0), .int p0, .int p1] M (fun r u => r = r0 ∧ u = M0) := by
  intro sz
  refine zent_i sz (by decide) (Nat.le_of_ble_eq_true rfl) rfl (fun p e s m args below meth c ls H locs X hw hl => ?_)
  obtain ⟨hx, hb, hr, hml, hown, hW, hlocks⟩ := id X
  have hE := hw.2.2.2.2.1
  have hcs : 0 ≤ ((zRm 5 115)).cells ∧ 0 ≤ ((zRm 5 115)).slots := ⟨Nat.zero_le _, Nat.zero_le _⟩
  rw [fX7_who] at h
  refine lv_iload_n hx hb dX7_who_0 rfl (lv_at hl 1 rfl) ?_
  refine lv_iconst (v := 0) hx hb dX7_who_1 (by decide) ?_
  refine lv_bipush (v := 99) hx hb dX7_who_2 (by decide) ?_
  obtain ⟨r1, M2, f3, h⟩ := zbi_e h
  refine z_qSi (As := [.int p0, .int (0 : Int32), .int (99 : Int32)]) (rest := []) X hw (kX7_outside l D cy a p0 (0 : Int32) (99 : Int32) M r1 M2 f3) (cwX7_57 X.2.2.2.2.2.1 rfl rfl (zroomO (Nat.le_of_ble_eq_true rfl) (Nat.le_of_ble_eq_true rfl))) rfl rfl (Nat.le_of_ble_eq_true rfl) hl.1 hcs dX7_who_4 (fun H locs hw => ?_)
  refine lv_if_ne (tgt := 19) hx hb dX7_who_7 (by decide) (fun c4 => ?_) (fun c4 => ?_)
  · replace h := zif_f c4 h
    refine lv_aload_n hx hb dX7_who_19 rfl (lv_at hl 0 rfl) ?_
    refine lv_iconst (v := 1) hx hb dX7_who_20 (by decide) ?_
    obtain ⟨r5, M6, f7, h⟩ := zbi_e h
    refine z_qVi (As := [.int (1 : Int32)]) (rest := []) X hw (kX7_error l D cy a (1 : Int32) M2 r5 M6 f7) (cwX7_61 X.2.2.2.2.2.1 rfl rfl (zroomO (Nat.le_of_ble_eq_true rfl) (Nat.le_of_ble_eq_true rfl))) (zX7_lt (rfl : zX7 0)) (zS7 (rfl : zX7 0) cy a (M2 0)) rfl rfl rfl (Nat.le_of_ble_eq_true rfl) hl.1 hcs dX7_who_21 (fun H locs hw => ?_)
    exact z_ri X hw (zret h) dX7_who_24
  · replace h := zif_t c4 h
    refine lv_iload_n hx hb dX7_who_10 rfl (lv_at hl 2 rfl) ?_
    refine lv_iconst (v := 0) hx hb dX7_who_11 (by decide) ?_
    refine lv_iconst (v := 3) hx hb dX7_who_12 (by decide) ?_
    obtain ⟨r8, M9, f10, h⟩ := zbi_e h
    refine z_qSi (As := [.int p1, .int (0 : Int32), .int (3 : Int32)]) (rest := []) X hw (kX7_outside l D cy a p1 (0 : Int32) (3 : Int32) M2 r8 M9 f10) (cwX7_57 X.2.2.2.2.2.1 rfl rfl (zroomO (Nat.le_of_ble_eq_true rfl) (Nat.le_of_ble_eq_true rfl))) rfl rfl (Nat.le_of_ble_eq_true rfl) hl.1 hcs dX7_who_13 (fun H locs hw => ?_)
    refine lv_if_eq (tgt := 25) hx hb dX7_who_16 (by decide) (fun c11 => ?_) (fun c11 => ?_)
    · replace h := zif_t c11 h
      refine lv_iconst (v := 0) hx hb dX7_who_25 (by decide) ?_
      refine lv_istore_n (lv' := [(3, .int (0 : Int32)), (0, .ref (a 0)), (1, .int p0), (2, .int p1)]) hx hb dX7_who_26 rfl hl (by decide) rfl (fun ls hl => ?_)
      refine lv_iconst (v := 0) hx hb dX7_who_27 (by decide) ?_
      refine lv_istore (lv' := [(4, .int (0 : Int32)), (3, .int (0 : Int32)), (0, .ref (a 0)), (1, .int p0), (2, .int p1)]) hx hb dX7_who_28 hl (by decide) rfl (fun ls hl => ?_)
      refine lv_iconst (v := 1) hx hb dX7_who_30 (by decide) ?_
      refine lv_aload_n hx hb dX7_who_31 rfl (lv_at hl 2 rfl) ?_
      refine gtX7_10 X hw dX7_who_32 ?_
      refine gtX7_83 X hw zX0_1 dX7_who_35 ?_
      refine lv_ishl hx hb dX7_who_38 ?_
      refine lv_topi (fun x12 ex12 => ?_)
      replace h := zlt_s ex12 h
      refine lv_iconst (v := 1) hx hb dX7_who_39 (by decide) ?_
      refine lv_isub hx hb dX7_who_40 ?_
      refine lv_topi (fun x13 ex13 => ?_)
      replace h := zlt_s ex13 h
      refine lv_istore (lv' := [(5, .int x13), (4, .int (0 : Int32)), (3, .int (0 : Int32)), (0, .ref (a 0)), (1, .int p0), (2, .int p1)]) hx hb dX7_who_41 hl (by decide) rfl (fun ls hl => ?_)
      refine lv_iconst (v := 0) hx hb dX7_who_43 (by decide) ?_
      refine lv_istore (lv' := [(6, .int (0 : Int32)), (5, .int x13), (4, .int (0 : Int32)), (3, .int (0 : Int32)), (0, .ref (a 0)), (1, .int p0), (2, .int p1)]) hx hb dX7_who_44 hl (by decide) rfl (fun ls hl => ?_)
      refine lv_aload_n hx hb dX7_who_46 rfl (lv_at hl 4 rfl) ?_
      refine gtX7_19 X hw dX7_who_47 ?_
      refine lv_aload_n hx hb dX7_who_50 rfl (lv_at hl 4 rfl) ?_
      refine gtX7_10 X hw dX7_who_51 ?_
      obtain ⟨M15, f16, h⟩ := zbv_e h
      refine z_qVv (As := [.ref (a 1)]) (rest := []) X hw (kX0_copyFrom l D cy a 45 zX0_45 1 zX0_1 M9 M15 f16) (cwX7_187 X.2.2.2.2.2.1 rfl rfl (zroomO (Nat.le_of_ble_eq_true rfl) (Nat.le_of_ble_eq_true rfl))) (zX0_lt zX0_45) (zS0 zX0_45 cy a (M9 45)) rfl rfl rfl (Nat.le_of_ble_eq_true rfl) hl.1 hcs dX7_who_54 (fun H locs hw => ?_)
      refine lv_iconst (v := 0) hx hb dX7_who_57 (by decide) ?_
      refine lv_istore (lv' := [(7, .int (0 : Int32)), (6, .int (0 : Int32)), (5, .int x13), (4, .int (0 : Int32)), (3, .int (0 : Int32)), (0, .ref (a 0)), (1, .int p0), (2, .int p1)]) hx hb dX7_who_58 hl (by decide) rfl (fun ls hl => ?_)
      refine lX7_who_60 X p0 p1 _ zF (0 : Int32) (0 : Int32) x13 (0 : Int32) (0 : Int32) M15 H locs _ hw (lv_sub hl [5, 6, 7, 4, 3, 2, 1, 0] rfl) h (fun x36 x37 x38 x39 M40 H locs ls hw hl h => ?_)
      refine lv_iload_n hx hb dX7_who_132 rfl (lv_at hl 2 rfl) ?_
      refine lv_if_ne (tgt := 152) hx hb dX7_who_133 (by decide) (fun c41 => ?_) (fun c41 => ?_)
      · replace h := zif_f c41 h
        refine lv_iload_n hx hb dX7_who_152 rfl (lv_at hl 1 rfl) ?_
        by_cases c42 : p1 = (0 : Int32)
        · replace h := zif_t c42 h
          refine lv_tableIn (off := 27) (tgt := 180) hx hb dX7_who_153 (by rw [c42]; decide) (by rw [c42]; decide) (by rw [c42]; rfl) (by decide) ?_
          refine lv_iload_n hx hb dX7_who_180 rfl (lv_at hl 2 rfl) ?_
          exact z_ri X hw (zret h) dX7_who_181
        replace h := zif_f c42 h
        by_cases c43 : p1 = (1 : Int32)
        · replace h := zif_t c43 h
          refine lv_tableIn (off := 29) (tgt := 182) hx hb dX7_who_153 (by rw [c43]; decide) (by rw [c43]; decide) (by rw [c43]; rfl) (by decide) ?_
          refine lv_iload hx hb dX7_who_182 (lv_at hl 3 rfl) ?_
          exact z_ri X hw (zret h) dX7_who_184
        replace h := zif_f c43 h
        by_cases c44 : p1 = (2 : Int32)
        · replace h := zif_t c44 h
          refine lv_tableIn (off := 32) (tgt := 185) hx hb dX7_who_153 (by rw [c44]; decide) (by rw [c44]; decide) (by rw [c44]; rfl) (by decide) ?_
          refine lv_iload hx hb dX7_who_185 (lv_at hl 4 rfl) ?_
          exact z_ri X hw (zret h) dX7_who_187
        replace h := zif_f c44 h
        refine lv_tableOut (tgt := 188) hx hb dX7_who_153 (by have tc42 := lv_neT c42 (a := 0) rfl; have tc43 := lv_neT c43 (a := 1) rfl; have tc44 := lv_neT c44 (a := 2) rfl; omega) (by decide) ?_
        refine lv_iload hx hb dX7_who_188 (lv_at hl 5 rfl) ?_
        exact z_ri X hw (zret h) dX7_who_190
      · replace h := zif_t c41 h
        refine lv_iload_n hx hb dX7_who_136 rfl (lv_at hl 1 rfl) ?_
        refine lv_iconst (v := 1) hx hb dX7_who_137 (by decide) ?_
        refine lv_icmp_eq (tgt := 146) hx hb dX7_who_138 (by decide) (fun c45 => ?_) (fun c45 => ?_)
        · replace h := zif_t c45 h
          refine lv_aload_n hx hb dX7_who_146 rfl (lv_at hl 0 rfl) ?_
          refine lv_iconst (v := 2) hx hb dX7_who_147 (by decide) ?_
          obtain ⟨r46, M47, f48, h⟩ := zbi_e h
          refine z_qVi (As := [.int (2 : Int32)]) (rest := []) X hw (kX7_error l D cy a (2 : Int32) M40 r46 M47 f48) (cwX7_61 X.2.2.2.2.2.1 rfl rfl (zroomO (Nat.le_of_ble_eq_true rfl) (Nat.le_of_ble_eq_true rfl))) (zX7_lt (rfl : zX7 0)) (zS7 (rfl : zX7 0) cy a (M40 0)) rfl rfl rfl (Nat.le_of_ble_eq_true rfl) hl.1 hcs dX7_who_148 (fun H locs hw => ?_)
          exact z_ri X hw (zret h) dX7_who_151
        · replace h := zif_f c45 h
          refine lv_iload_n hx hb dX7_who_141 rfl (lv_at hl 1 rfl) ?_
          refine lv_iconst (v := 2) hx hb dX7_who_142 (by decide) ?_
          refine lv_icmp_ne (tgt := 152) hx hb dX7_who_143 (by decide) (fun c49 => ?_) (fun c49 => ?_)
          · replace h := zif_f c49 h
            refine lv_iload_n hx hb dX7_who_152 rfl (lv_at hl 1 rfl) ?_
            by_cases c50 : p1 = (0 : Int32)
            · replace h := zif_t c50 h
              refine lv_tableIn (off := 27) (tgt := 180) hx hb dX7_who_153 (by rw [c50]; decide) (by rw [c50]; decide) (by rw [c50]; rfl) (by decide) ?_
              refine lv_iload_n hx hb dX7_who_180 rfl (lv_at hl 2 rfl) ?_
              exact z_ri X hw (zret h) dX7_who_181
            replace h := zif_f c50 h
            by_cases c51 : p1 = (1 : Int32)
            · replace h := zif_t c51 h
              refine lv_tableIn (off := 29) (tgt := 182) hx hb dX7_who_153 (by rw [c51]; decide) (by rw [c51]; decide) (by rw [c51]; rfl) (by decide) ?_
              refine lv_iload hx hb dX7_who_182 (lv_at hl 3 rfl) ?_
              exact z_ri X hw (zret h) dX7_who_184
            replace h := zif_f c51 h
            by_cases c52 : p1 = (2 : Int32)
            · replace h := zif_t c52 h
              refine lv_tableIn (off := 32) (tgt := 185) hx hb dX7_who_153 (by rw [c52]; decide) (by rw [c52]; decide) (by rw [c52]; rfl) (by decide) ?_
              refine lv_iload hx hb dX7_who_185 (lv_at hl 4 rfl) ?_
              exact z_ri X hw (zret h) dX7_who_187
            replace h := zif_f c52 h
            refine lv_tableOut (tgt := 188) hx hb dX7_who_153 (by have tc50 := lv_neT c50 (a := 0) rfl; have tc51 := lv_neT c51 (a := 1) rfl; have tc52 := lv_neT c52 (a := 2) rfl; omega) (by decide) ?_
            refine lv_iload hx hb dX7_who_188 (lv_at hl 5 rfl) ?_
            exact z_ri X hw (zret h) dX7_who_190
          · replace h := zif_t c49 h
            refine lv_aload_n hx hb dX7_who_146 rfl (lv_at hl 0 rfl) ?_
            refine lv_iconst (v := 2) hx hb dX7_who_147 (by decide) ?_
            obtain ⟨r53, M54, f55, h⟩ := zbi_e h
            refine z_qVi (As := [.int (2 : Int32)]) (rest := []) X hw (kX7_error l D cy a (2 : Int32) M40 r53 M54 f55) (cwX7_61 X.2.2.2.2.2.1 rfl rfl (zroomO (Nat.le_of_ble_eq_true rfl) (Nat.le_of_ble_eq_true rfl))) (zX7_lt (rfl : zX7 0)) (zS7 (rfl : zX7 0) cy a (M40 0)) rfl rfl rfl (Nat.le_of_ble_eq_true rfl) hl.1 hcs dX7_who_148 (fun H locs hw => ?_)
            exact z_ri X hw (zret h) dX7_who_151
    · replace h := zif_f c11 h
      refine lv_aload_n hx hb dX7_who_19 rfl (lv_at hl 0 rfl) ?_
      refine lv_iconst (v := 1) hx hb dX7_who_20 (by decide) ?_
      obtain ⟨r56, M57, f58, h⟩ := zbi_e h
      refine z_qVi (As := [.int (1 : Int32)]) (rest := []) X hw (kX7_error l D cy a (1 : Int32) M9 r56 M57 f58) (cwX7_61 X.2.2.2.2.2.1 rfl rfl (zroomO (Nat.le_of_ble_eq_true rfl) (Nat.le_of_ble_eq_true rfl))) (zX7_lt (rfl : zX7 0)) (zS7 (rfl : zX7 0) cy a (M9 0)) rfl rfl rfl (Nat.le_of_ble_eq_true rfl) hl.1 hcs dX7_who_21 (fun H locs hw => ?_)
      exact z_ri X hw (zret h) dX7_who_24
def fX7_slipped_4 (k : Int32 → zM → Option (Int32 × zM)) : Nat → Int32 → Int32 → zM → Option (Int32 × zM)
  | 0, _, _, _ => none
  | n + 1, v1, v2, M => if M 1 9 ≤ v2 then (k v1 M) else (zgd (v2 < 0 ∨ 8 ≤ v2.toNatClampNeg) (zlt (9 + v2.toNatClampNeg) (fun w3 => zgd (v2 < 0 ∨ 8 ≤ v2.toNatClampNeg) (zlt (9 + v2.toNatClampNeg) (fun w5 => if M w3 5 = M w5 6 then (zlt (v2 + (1 : Int32)) (fun x7 => fX7_slipped_4 k n v1 x7 M)) else (zlt ((1 : Int32) <<< (v2 &&& 31)) (fun x8 => zlt (v1 ||| x8) (fun x9 => zlt (v2 + (1 : Int32)) (fun x10 => fX7_slipped_4 k n x9 x10 M)))))))))
set_option maxRecDepth 100000 in
set_option maxHeartbeats 4000000 in
theorem lX7_slipped_4 {p : Program} {l : Launch} {e : Env} {s : State} {m : MethodId} {args : Array Value} {below : List Frame} {meth : Method} {c : Code} {D : va_G} {cy : Nat → ClassId} {a : Nat → Nat} {r0 : Int32} {M0 : zM} (X : zCX p s m meth c args cX7_slipped 3 (some .int) RX7) (k : Int32 → zM → Option (Int32 × zM)) : ∀ (n : Nat) (v1 : Int32) (v2 : Int32) (M : zM) (H : Heap) (locs : List Loc) (ls : Array Slot), zWD D cy a (zfr a s.heap.size) M H locs s → lv_has ls 3 [(0, .ref (a 0)), (1, .int v1), (2, .int v2)] → fX7_slipped_4 k n v1 v2 M = some (r0, M0) →
    (∀ (u1 : Int32) (M' : zM) (H' : Heap) (locs' : List Loc) (ls' : Array Slot), zWD D cy a (zfr a s.heap.size) M' H' locs' s → lv_has ls' 3 [(1, .int u1)] → k u1 M' = some (r0, M0) → W p l e (zRm 0 0) s m args below meth c H' locs' 0 0 (zQi D cy a s args below r0 M0) (F0 m 54 ls' [])) →
    W p l e (zRm 0 0) s m args below meth c H locs 0 0 (zQi D cy a s args below r0 M0) (F0 m 4 ls []) := by
  obtain ⟨hx, hb, hr, hml, hown, hW, hlocks⟩ := id X
  have hcs : 0 ≤ ((zRm 0 0)).cells ∧ 0 ≤ ((zRm 0 0)).slots := ⟨Nat.zero_le _, Nat.zero_le _⟩
  intro n
  induction n with
  | zero =>
    intro v1 v2 M H locs ls hw hl h hk
    cases h
  | succ n ih =>
    intro v1 v2 M H locs ls hw hl h hk
    have hE := hw.2.2.2.2.1
    rw [fX7_slipped_4] at h
    refine lv_iload_n hx hb dX7_slipped_4 rfl (lv_at hl 2 rfl) ?_
    refine lv_aload_n hx hb dX7_slipped_5 rfl (lv_at hl 0 rfl) ?_
    refine gtX7_10 X hw dX7_slipped_6 ?_
    refine gtX7_83 X hw zX0_1 dX7_slipped_9 ?_
    refine lv_icmp_ge (tgt := 54) hx hb dX7_slipped_12 (by decide) (fun c1 => ?_) (fun c1 => ?_)
    · replace h := zif_t c1 h
      exact hk v1 M H locs _ hw (lv_sub hl [1] rfl) h
    · replace h := zif_f c1 h
      refine lv_aload_n hx hb dX7_slipped_15 rfl (lv_at hl 0 rfl) ?_
      refine gtX7_10 X hw dX7_slipped_16 ?_
      refine gtX7_97 X hw zX0_1 dX7_slipped_19 ?_
      refine lv_iload_n hx hb dX7_slipped_22 rfl (lv_at hl 2 rfl) ?_
      obtain ⟨g2, h⟩ := zgd_e h
      refine z_aldW X hw (zRW_0_5 zX0_1) g2 dX7_slipped_23 (fun w3 ew3 hw3 => ?_)
      replace h := zlt_s ew3 h
      refine gtX7_110 X hw hw3 dX7_slipped_24 ?_
      refine lv_aload_n hx hb dX7_slipped_27 rfl (lv_at hl 0 rfl) ?_
      refine gtX7_10 X hw dX7_slipped_28 ?_
      refine gtX7_97 X hw zX0_1 dX7_slipped_31 ?_
      refine lv_iload_n hx hb dX7_slipped_34 rfl (lv_at hl 2 rfl) ?_
      obtain ⟨g4, h⟩ := zgd_e h
      refine z_aldW X hw (zRW_0_5 zX0_1) g4 dX7_slipped_35 (fun w5 ew5 hw5 => ?_)
      replace h := zlt_s ew5 h
      refine gtX7_209 X hw hw5 dX7_slipped_36 ?_
      refine lv_icmp_eq (tgt := 48) hx hb dX7_slipped_39 (by decide) (fun c6 => ?_) (fun c6 => ?_)
      · replace h := zif_t c6 h
        obtain ⟨x7, ex7⟩ : ∃ y : Int32, y = v2 + (1 : Int32) := ⟨_, rfl⟩
        replace h := zlt_s ex7 h
        refine lv_iinc (v := x7) (lv' := [(2, .int x7), (0, .ref (a 0)), (1, .int v1)]) hx hb dX7_slipped_48 hl (k := 2) rfl (by rw [ex7]; rfl) (by decide) rfl (fun ls hl => ?_)
        refine lv_goto (tgt := 4) hx hb dX7_slipped_51 (by decide) ?_
        exact ih v1 x7 M H locs _ hw (lv_sub hl [1, 2, 0] rfl) h hk
      · replace h := zif_f c6 h
        refine lv_iload_n hx hb dX7_slipped_42 rfl (lv_at hl 1 rfl) ?_
        refine lv_iconst (v := 1) hx hb dX7_slipped_43 (by decide) ?_
        refine lv_iload_n hx hb dX7_slipped_44 rfl (lv_at hl 2 rfl) ?_
        refine lv_ishl hx hb dX7_slipped_45 ?_
        refine lv_topi (fun x8 ex8 => ?_)
        replace h := zlt_s ex8 h
        refine lv_ior hx hb dX7_slipped_46 ?_
        refine lv_topi (fun x9 ex9 => ?_)
        replace h := zlt_s ex9 h
        refine lv_istore_n (lv' := [(1, .int x9), (0, .ref (a 0)), (2, .int v2)]) hx hb dX7_slipped_47 rfl hl (by decide) rfl (fun ls hl => ?_)
        obtain ⟨x10, ex10⟩ : ∃ y : Int32, y = v2 + (1 : Int32) := ⟨_, rfl⟩
        replace h := zlt_s ex10 h
        refine lv_iinc (v := x10) (lv' := [(2, .int x10), (1, .int x9), (0, .ref (a 0))]) hx hb dX7_slipped_48 hl (k := 2) rfl (by rw [ex10]; rfl) (by decide) rfl (fun ls hl => ?_)
        refine lv_goto (tgt := 4) hx hb dX7_slipped_51 (by decide) ?_
        exact ih x9 x10 M H locs _ hw (lv_sub hl [2, 1, 0] rfl) h hk
def fX7_slipped (M : zM) : Option (Int32 × zM) := fX7_slipped_4  (fun x11 M12 => some (x11, M12)) zF (0 : Int32) (0 : Int32) M
set_option maxRecDepth 100000 in
set_option maxHeartbeats 4000000 in
theorem kX7_slipped (l : Launch) (D : va_G) (cy : Nat → ClassId) (a : Nat → Nat) (M : zM) (r0 : Int32) (M0 : zM) (h : fX7_slipped  M = some (r0, M0)) : zCi l D cy a yX7_slipped cX7_slipped 3 (some .int) (zRm 0 0) [.ref (a 0)] M (fun r u => r = r0 ∧ u = M0) := by
  intro sz
  refine zent_i sz (by decide) (Nat.le_of_ble_eq_true rfl) rfl (fun p e s m args below meth c ls H locs X hw hl => ?_)
  obtain ⟨hx, hb, hr, hml, hown, hW, hlocks⟩ := id X
  have hE := hw.2.2.2.2.1
  have hcs : 0 ≤ ((zRm 0 0)).cells ∧ 0 ≤ ((zRm 0 0)).slots := ⟨Nat.zero_le _, Nat.zero_le _⟩
  rw [fX7_slipped] at h
  refine lv_iconst (v := 0) hx hb dX7_slipped_0 (by decide) ?_
  refine lv_istore_n (lv' := [(1, .int (0 : Int32)), (0, .ref (a 0))]) hx hb dX7_slipped_1 rfl hl (by decide) rfl (fun ls hl => ?_)
  refine lv_iconst (v := 0) hx hb dX7_slipped_2 (by decide) ?_
  refine lv_istore_n (lv' := [(2, .int (0 : Int32)), (1, .int (0 : Int32)), (0, .ref (a 0))]) hx hb dX7_slipped_3 rfl hl (by decide) rfl (fun ls hl => ?_)
  refine lX7_slipped_4 X  _ zF (0 : Int32) (0 : Int32) M H locs _ hw (lv_sub hl [2, 1, 0] rfl) h (fun x11 M12 H locs ls hw hl h => ?_)
  refine lv_iload_n hx hb dX7_slipped_54 rfl (lv_at hl 0 rfl) ?_
  exact z_ri X hw (zret h) dX7_slipped_55
def fX7_voice (p0 : Int32) (p1 : Int32) (p2 : Int32) (M : zM) : Option (Int32 × zM) := zbi (fX7_noWheel p0 M) (fun r1 M2 => if r1 = 0 then (zbi (fX7_outside p1 (0 : Int32) (3 : Int32) M2) (fun r8 M9 => if r8 = 0 then (zgd (p0 < 0 ∨ 8 ≤ p0.toNatClampNeg) (zlt (9 + p0.toNatClampNeg) (fun w13 => zbi (fX5_answer (M9 w13 0) p0 (M9 w13 1) p1 p2 M9) (fun r14 M15 => if M15 76 2 = 0 then (some (r14, M15)) else (zbi (fX7_error (6 : Int32) M15) (fun r18 M19 => some (r18, M19))))))) else (zbi (fX7_error (1 : Int32) M9) (fun r21 M22 => some (r21, M22))))) else (zbi (fX7_error (1 : Int32) M2) (fun r5 M6 => some (r5, M6))))
set_option maxRecDepth 100000 in
set_option maxHeartbeats 4000000 in
theorem kX7_voice (l : Launch) (D : va_G) (cy : Nat → ClassId) (a : Nat → Nat) (p0 : Int32) (p1 : Int32) (p2 : Int32) (M : zM) (r0 : Int32) (M0 : zM) (h : fX7_voice p0 p1 p2 M = some (r0, M0)) : zCi l D cy a yX7_voice cX7_voice 6 (some .int) (zRm 182 4551) [.ref (a 0), .int p0, .int p1, .int p2] M (fun r u => r = r0 ∧ u = M0) := by
  intro sz
  refine zent_i sz (by decide) (Nat.le_of_ble_eq_true rfl) rfl (fun p e s m args below meth c ls H locs X hw hl => ?_)
  obtain ⟨hx, hb, hr, hml, hown, hW, hlocks⟩ := id X
  have hE := hw.2.2.2.2.1
  have hcs : 0 ≤ ((zRm 182 4551)).cells ∧ 0 ≤ ((zRm 182 4551)).slots := ⟨Nat.zero_le _, Nat.zero_le _⟩
  rw [fX7_voice] at h
  refine lv_aload_n hx hb dX7_voice_0 rfl (lv_at hl 0 rfl) ?_
  refine lv_iload_n hx hb dX7_voice_1 rfl (lv_at hl 1 rfl) ?_
  obtain ⟨r1, M2, f3, h⟩ := zbi_e h
  refine z_qVi (As := [.int p0]) (rest := []) X hw (kX7_noWheel l D cy a p0 M r1 M2 f3) (cwX7_90 X.2.2.2.2.2.1 rfl rfl (zroomO (Nat.le_of_ble_eq_true rfl) (Nat.le_of_ble_eq_true rfl))) (zX7_lt (rfl : zX7 0)) (zS7 (rfl : zX7 0) cy a (M 0)) rfl rfl rfl (Nat.le_of_ble_eq_true rfl) hl.1 hcs dX7_voice_2 (fun H locs hw => ?_)
  refine lv_if_ne (tgt := 17) hx hb dX7_voice_5 (by decide) (fun c4 => ?_) (fun c4 => ?_)
  · replace h := zif_f c4 h
    refine lv_aload_n hx hb dX7_voice_17 rfl (lv_at hl 0 rfl) ?_
    refine lv_iconst (v := 1) hx hb dX7_voice_18 (by decide) ?_
    obtain ⟨r5, M6, f7, h⟩ := zbi_e h
    refine z_qVi (As := [.int (1 : Int32)]) (rest := []) X hw (kX7_error l D cy a (1 : Int32) M2 r5 M6 f7) (cwX7_61 X.2.2.2.2.2.1 rfl rfl (zroomO (Nat.le_of_ble_eq_true rfl) (Nat.le_of_ble_eq_true rfl))) (zX7_lt (rfl : zX7 0)) (zS7 (rfl : zX7 0) cy a (M2 0)) rfl rfl rfl (Nat.le_of_ble_eq_true rfl) hl.1 hcs dX7_voice_19 (fun H locs hw => ?_)
    exact z_ri X hw (zret h) dX7_voice_22
  · replace h := zif_t c4 h
    refine lv_iload_n hx hb dX7_voice_8 rfl (lv_at hl 2 rfl) ?_
    refine lv_iconst (v := 0) hx hb dX7_voice_9 (by decide) ?_
    refine lv_iconst (v := 3) hx hb dX7_voice_10 (by decide) ?_
    obtain ⟨r8, M9, f10, h⟩ := zbi_e h
    refine z_qSi (As := [.int p1, .int (0 : Int32), .int (3 : Int32)]) (rest := []) X hw (kX7_outside l D cy a p1 (0 : Int32) (3 : Int32) M2 r8 M9 f10) (cwX7_57 X.2.2.2.2.2.1 rfl rfl (zroomO (Nat.le_of_ble_eq_true rfl) (Nat.le_of_ble_eq_true rfl))) rfl rfl (Nat.le_of_ble_eq_true rfl) hl.1 hcs dX7_voice_11 (fun H locs hw => ?_)
    refine lv_if_eq (tgt := 23) hx hb dX7_voice_14 (by decide) (fun c11 => ?_) (fun c11 => ?_)
    · replace h := zif_t c11 h
      refine lv_aload_n hx hb dX7_voice_23 rfl (lv_at hl 0 rfl) ?_
      refine gtX7_10 X hw dX7_voice_24 ?_
      refine gtX7_97 X hw zX0_1 dX7_voice_27 ?_
      refine lv_iload_n hx hb dX7_voice_30 rfl (lv_at hl 1 rfl) ?_
      obtain ⟨g12, h⟩ := zgd_e h
      refine z_aldW X hw (zRW_0_5 zX0_1) g12 dX7_voice_31 (fun w13 ew13 hw13 => ?_)
      replace h := zlt_s ew13 h
      refine lv_astore (lv' := [(4, .ref (a w13)), (0, .ref (a 0)), (1, .int p0), (2, .int p1), (3, .int p2)]) hx hb dX7_voice_32 hl (by decide) rfl (fun ls hl => ?_)
      refine lv_aload_n hx hb dX7_voice_34 rfl (lv_at hl 1 rfl) ?_
      refine gtX7_42 X hw dX7_voice_35 ?_
      refine lv_aload hx hb dX7_voice_38 (lv_at hl 0 rfl) ?_
      refine gtX7_101 X hw hw13 dX7_voice_40 ?_
      refine lv_iload_n hx hb dX7_voice_43 rfl (lv_at hl 2 rfl) ?_
      refine lv_aload hx hb dX7_voice_44 (lv_at hl 0 rfl) ?_
      refine gtX7_212 X hw hw13 dX7_voice_46 ?_
      refine lv_iload_n hx hb dX7_voice_49 rfl (lv_at hl 3 rfl) ?_
      refine lv_iload_n hx hb dX7_voice_50 rfl (lv_at hl 4 rfl) ?_
      obtain ⟨r14, M15, f16, h⟩ := zbi_e h
      refine z_qVi (As := [.int (M9 w13 0), .int p0, .int (M9 w13 1), .int p1, .int p2]) (rest := []) X hw (kX5_answer l D cy a (M9 w13 0) p0 (M9 w13 1) p1 p2 M9 r14 M15 f16) (cwX7_215 X.2.2.2.2.2.1 rfl rfl (zroomO (Nat.le_of_ble_eq_true rfl) (Nat.le_of_ble_eq_true rfl))) (zX5_lt zX5_76) (zS5 zX5_76 cy a (M9 76)) rfl rfl rfl (Nat.le_of_ble_eq_true rfl) hl.1 hcs dX7_voice_51 (fun H locs hw => ?_)
      refine lv_istore (lv' := [(5, .int r14), (4, .ref (a w13)), (0, .ref (a 0)), (1, .int p0), (2, .int p1), (3, .int p2)]) hx hb dX7_voice_54 hl (by decide) rfl (fun ls hl => ?_)
      refine lv_aload_n hx hb dX7_voice_56 rfl (lv_at hl 2 rfl) ?_
      refine gtX7_42 X hw dX7_voice_57 ?_
      refine gtX7_219 X hw dX7_voice_60 ?_
      refine lv_if_eq (tgt := 75) hx hb dX7_voice_63 (by decide) (fun c17 => ?_) (fun c17 => ?_)
      · replace h := zif_t c17 h
        refine lv_iload hx hb dX7_voice_75 (lv_at hl 0 rfl) ?_
        exact z_ri X hw (zret h) dX7_voice_77
      · replace h := zif_f c17 h
        refine lv_aload_n hx hb dX7_voice_66 rfl (lv_at hl 2 rfl) ?_
        refine lv_bipush (v := 6) hx hb dX7_voice_67 (by decide) ?_
        obtain ⟨r18, M19, f20, h⟩ := zbi_e h
        refine z_qVi (As := [.int (6 : Int32)]) (rest := []) X hw (kX7_error l D cy a (6 : Int32) M15 r18 M19 f20) (cwX7_61 X.2.2.2.2.2.1 rfl rfl (zroomO (Nat.le_of_ble_eq_true rfl) (Nat.le_of_ble_eq_true rfl))) (zX7_lt (rfl : zX7 0)) (zS7 (rfl : zX7 0) cy a (M15 0)) rfl rfl rfl (Nat.le_of_ble_eq_true rfl) hl.1 hcs dX7_voice_69 (fun H locs hw => ?_)
        refine lv_goto (tgt := 77) hx hb dX7_voice_72 (by decide) ?_
        exact z_ri X hw (zret h) dX7_voice_77
    · replace h := zif_f c11 h
      refine lv_aload_n hx hb dX7_voice_17 rfl (lv_at hl 0 rfl) ?_
      refine lv_iconst (v := 1) hx hb dX7_voice_18 (by decide) ?_
      obtain ⟨r21, M22, f23, h⟩ := zbi_e h
      refine z_qVi (As := [.int (1 : Int32)]) (rest := []) X hw (kX7_error l D cy a (1 : Int32) M9 r21 M22 f23) (cwX7_61 X.2.2.2.2.2.1 rfl rfl (zroomO (Nat.le_of_ble_eq_true rfl) (Nat.le_of_ble_eq_true rfl))) (zX7_lt (rfl : zX7 0)) (zS7 (rfl : zX7 0) cy a (M9 0)) rfl rfl rfl (Nat.le_of_ble_eq_true rfl) hl.1 hcs dX7_voice_19 (fun H locs hw => ?_)
      exact z_ri X hw (zret h) dX7_voice_22
def fX7_body (p0 : Int32) (M : zM) : Option (Int32 × zM) := zbi (fX7_outside p0 (0 : Int32) ((M 76 1) - (1 : Int32)) M) (fun r1 M2 => if r1 = 0 then (zgd (p0 < 0 ∨ 30 ≤ p0.toNatClampNeg) (some (M2 77 (p0.toNatClampNeg), M2))) else (zbi (fX7_error (2 : Int32) M2) (fun r6 M7 => some (r6, M7))))
set_option maxRecDepth 100000 in
set_option maxHeartbeats 4000000 in
theorem kX7_body (l : Launch) (D : va_G) (cy : Nat → ClassId) (a : Nat → Nat) (p0 : Int32) (M : zM) (r0 : Int32) (M0 : zM) (h : fX7_body p0 M = some (r0, M0)) : zCi l D cy a yX7_body cX7_body 2 (some .int) (zRm 1 22) [.ref (a 0), .int p0] M (fun r u => r = r0 ∧ u = M0) := by
  intro sz
  refine zent_i sz (by decide) (Nat.le_of_ble_eq_true rfl) rfl (fun p e s m args below meth c ls H locs X hw hl => ?_)
  obtain ⟨hx, hb, hr, hml, hown, hW, hlocks⟩ := id X
  have hE := hw.2.2.2.2.1
  have hcs : 0 ≤ ((zRm 1 22)).cells ∧ 0 ≤ ((zRm 1 22)).slots := ⟨Nat.zero_le _, Nat.zero_le _⟩
  rw [fX7_body] at h
  refine lv_iload_n hx hb dX7_body_0 rfl (lv_at hl 1 rfl) ?_
  refine lv_iconst (v := 0) hx hb dX7_body_1 (by decide) ?_
  refine lv_aload_n hx hb dX7_body_2 rfl (lv_at hl 0 rfl) ?_
  refine gtX7_42 X hw dX7_body_3 ?_
  refine gtX7_223 X hw dX7_body_6 ?_
  refine lv_iconst (v := 1) hx hb dX7_body_9 (by decide) ?_
  refine lv_isub hx hb dX7_body_10 ?_
  obtain ⟨r1, M2, f3, h⟩ := zbi_e h
  refine z_qSi (As := [.int p0, .int (0 : Int32), .int ((M 76 1) - (1 : Int32))]) (rest := []) X hw (kX7_outside l D cy a p0 (0 : Int32) ((M 76 1) - (1 : Int32)) M r1 M2 f3) (cwX7_57 X.2.2.2.2.2.1 rfl rfl (zroomO (Nat.le_of_ble_eq_true rfl) (Nat.le_of_ble_eq_true rfl))) rfl rfl (Nat.le_of_ble_eq_true rfl) hl.1 hcs dX7_body_11 (fun H locs hw => ?_)
  refine lv_if_eq (tgt := 23) hx hb dX7_body_14 (by decide) (fun c4 => ?_) (fun c4 => ?_)
  · replace h := zif_t c4 h
    refine lv_aload_n hx hb dX7_body_23 rfl (lv_at hl 0 rfl) ?_
    refine gtX7_42 X hw dX7_body_24 ?_
    refine gtX7_226 X hw dX7_body_27 ?_
    refine lv_iload_n hx hb dX7_body_30 rfl (lv_at hl 1 rfl) ?_
    obtain ⟨g5, h⟩ := zgd_e h
    refine z_ald X hw (zI_5_1 zX5_76) g5 dX7_body_31 ?_
    exact z_ri X hw (zret h) dX7_body_32
  · replace h := zif_f c4 h
    refine lv_aload_n hx hb dX7_body_17 rfl (lv_at hl 0 rfl) ?_
    refine lv_iconst (v := 2) hx hb dX7_body_18 (by decide) ?_
    obtain ⟨r6, M7, f8, h⟩ := zbi_e h
    refine z_qVi (As := [.int (2 : Int32)]) (rest := []) X hw (kX7_error l D cy a (2 : Int32) M2 r6 M7 f8) (cwX7_61 X.2.2.2.2.2.1 rfl rfl (zroomO (Nat.le_of_ble_eq_true rfl) (Nat.le_of_ble_eq_true rfl))) (zX7_lt (rfl : zX7 0)) (zS7 (rfl : zX7 0) cy a (M2 0)) rfl rfl rfl (Nat.le_of_ble_eq_true rfl) hl.1 hcs dX7_body_19 (fun H locs hw => ?_)
    exact z_ri X hw (zret h) dX7_body_22
def fX7_noSheet (p0 : Int32) (M : zM) : Option (Int32 × zM) := zbi (fX7_outside p0 (0 : Int32) (3 : Int32) M) (fun r1 M2 => zgd (¬ (r1 = 0 ∨ r1 = 1)) (some (r1, M2)))
set_option maxRecDepth 100000 in
set_option maxHeartbeats 4000000 in
theorem kX7_noSheet (l : Launch) (D : va_G) (cy : Nat → ClassId) (a : Nat → Nat) (p0 : Int32) (M : zM) (r0 : Int32) (M0 : zM) (h : fX7_noSheet p0 M = some (r0, M0)) : zCi l D cy a yX7_noSheet cX7_noSheet 1 (some .boolean) (zRm 1 22) [.int p0] M (fun r u => r = r0 ∧ u = M0) := by
  intro sz
  refine zent_i sz (by decide) (Nat.le_of_ble_eq_true rfl) rfl (fun p e s m args below meth c ls H locs X hw hl => ?_)
  obtain ⟨hx, hb, hr, hml, hown, hW, hlocks⟩ := id X
  have hE := hw.2.2.2.2.1
  have hcs : 0 ≤ ((zRm 1 22)).cells ∧ 0 ≤ ((zRm 1 22)).slots := ⟨Nat.zero_le _, Nat.zero_le _⟩
  rw [fX7_noSheet] at h
  refine lv_iload_n hx hb dX7_noSheet_0 rfl (lv_at hl 0 rfl) ?_
  refine lv_iconst (v := 0) hx hb dX7_noSheet_1 (by decide) ?_
  refine lv_iconst (v := 3) hx hb dX7_noSheet_2 (by decide) ?_
  obtain ⟨r1, M2, f3, h⟩ := zbi_e h
  refine z_qSi (As := [.int p0, .int (0 : Int32), .int (3 : Int32)]) (rest := []) X hw (kX7_outside l D cy a p0 (0 : Int32) (3 : Int32) M r1 M2 f3) (cwX7_57 X.2.2.2.2.2.1 rfl rfl (zroomO (Nat.le_of_ble_eq_true rfl) (Nat.le_of_ble_eq_true rfl))) rfl rfl (Nat.le_of_ble_eq_true rfl) hl.1 hcs dX7_noSheet_3 (fun H locs hw => ?_)
  obtain ⟨g4, h⟩ := zgd_e h
  exact z_rz X hw (Decidable.not_not.mp g4) (zret h) dX7_noSheet_6
def fX7_sheet (p0 : Int32) (p1 : Int32) (p2 : Int32) (M : zM) : Option (Int32 × zM) := zbi (fX7_noSheet p0 M) (fun r1 M2 => if r1 = 0 then (if p1 = 0 then (if p1 = 0 then (if p1 = 0 then (if p1 = 0 then (zbv (fX4_begin p0 p1 (0 : Int32) M2) (fun M16 => some ((1 : Int32), M16))) else (zbv (fX4_begin p0 p1 p2 M2) (fun M13 => some ((1 : Int32), M13)))) else (if p2 ≤ (24 : Int32) then (if p1 = 0 then (zbv (fX4_begin p0 p1 (0 : Int32) M2) (fun M24 => some ((1 : Int32), M24))) else (zbv (fX4_begin p0 p1 p2 M2) (fun M21 => some ((1 : Int32), M21)))) else (zbi (fX7_error (1 : Int32) M2) (fun r26 M27 => some (r26, M27))))) else (if 0 ≤ p2 then (if p1 = 0 then (if p1 = 0 then (zbv (fX4_begin p0 p1 (0 : Int32) M2) (fun M36 => some ((1 : Int32), M36))) else (zbv (fX4_begin p0 p1 p2 M2) (fun M33 => some ((1 : Int32), M33)))) else (if p2 ≤ (24 : Int32) then (if p1 = 0 then (zbv (fX4_begin p0 p1 (0 : Int32) M2) (fun M44 => some ((1 : Int32), M44))) else (zbv (fX4_begin p0 p1 p2 M2) (fun M41 => some ((1 : Int32), M41)))) else (zbi (fX7_error (1 : Int32) M2) (fun r46 M47 => some (r46, M47))))) else (zbi (fX7_error (3 : Int32) M2) (fun r49 M50 => some (r49, M50))))) else (if p1 = (8 : Int32) then (if p1 = 0 then (if p1 = 0 then (if p1 = 0 then (zbv (fX4_begin p0 p1 (0 : Int32) M2) (fun M60 => some ((1 : Int32), M60))) else (zbv (fX4_begin p0 p1 p2 M2) (fun M57 => some ((1 : Int32), M57)))) else (if p2 ≤ (24 : Int32) then (if p1 = 0 then (zbv (fX4_begin p0 p1 (0 : Int32) M2) (fun M68 => some ((1 : Int32), M68))) else (zbv (fX4_begin p0 p1 p2 M2) (fun M65 => some ((1 : Int32), M65)))) else (zbi (fX7_error (1 : Int32) M2) (fun r70 M71 => some (r70, M71))))) else (if 0 ≤ p2 then (if p1 = 0 then (if p1 = 0 then (zbv (fX4_begin p0 p1 (0 : Int32) M2) (fun M80 => some ((1 : Int32), M80))) else (zbv (fX4_begin p0 p1 p2 M2) (fun M77 => some ((1 : Int32), M77)))) else (if p2 ≤ (24 : Int32) then (if p1 = 0 then (zbv (fX4_begin p0 p1 (0 : Int32) M2) (fun M88 => some ((1 : Int32), M88))) else (zbv (fX4_begin p0 p1 p2 M2) (fun M85 => some ((1 : Int32), M85)))) else (zbi (fX7_error (1 : Int32) M2) (fun r90 M91 => some (r90, M91))))) else (zbi (fX7_error (3 : Int32) M2) (fun r93 M94 => some (r93, M94))))) else (if p1 = (16 : Int32) then (if p1 = 0 then (if p1 = 0 then (if p1 = 0 then (zbv (fX4_begin p0 p1 (0 : Int32) M2) (fun M104 => some ((1 : Int32), M104))) else (zbv (fX4_begin p0 p1 p2 M2) (fun M101 => some ((1 : Int32), M101)))) else (if p2 ≤ (24 : Int32) then (if p1 = 0 then (zbv (fX4_begin p0 p1 (0 : Int32) M2) (fun M112 => some ((1 : Int32), M112))) else (zbv (fX4_begin p0 p1 p2 M2) (fun M109 => some ((1 : Int32), M109)))) else (zbi (fX7_error (1 : Int32) M2) (fun r114 M115 => some (r114, M115))))) else (if 0 ≤ p2 then (if p1 = 0 then (if p1 = 0 then (zbv (fX4_begin p0 p1 (0 : Int32) M2) (fun M124 => some ((1 : Int32), M124))) else (zbv (fX4_begin p0 p1 p2 M2) (fun M121 => some ((1 : Int32), M121)))) else (if p2 ≤ (24 : Int32) then (if p1 = 0 then (zbv (fX4_begin p0 p1 (0 : Int32) M2) (fun M132 => some ((1 : Int32), M132))) else (zbv (fX4_begin p0 p1 p2 M2) (fun M129 => some ((1 : Int32), M129)))) else (zbi (fX7_error (1 : Int32) M2) (fun r134 M135 => some (r134, M135))))) else (zbi (fX7_error (3 : Int32) M2) (fun r137 M138 => some (r137, M138))))) else (if p1 = (32 : Int32) then (if p1 = 0 then (if p1 = 0 then (if p1 = 0 then (zbv (fX4_begin p0 p1 (0 : Int32) M2) (fun M148 => some ((1 : Int32), M148))) else (zbv (fX4_begin p0 p1 p2 M2) (fun M145 => some ((1 : Int32), M145)))) else (if p2 ≤ (24 : Int32) then (if p1 = 0 then (zbv (fX4_begin p0 p1 (0 : Int32) M2) (fun M156 => some ((1 : Int32), M156))) else (zbv (fX4_begin p0 p1 p2 M2) (fun M153 => some ((1 : Int32), M153)))) else (zbi (fX7_error (1 : Int32) M2) (fun r158 M159 => some (r158, M159))))) else (if 0 ≤ p2 then (if p1 = 0 then (if p1 = 0 then (zbv (fX4_begin p0 p1 (0 : Int32) M2) (fun M168 => some ((1 : Int32), M168))) else (zbv (fX4_begin p0 p1 p2 M2) (fun M165 => some ((1 : Int32), M165)))) else (if p2 ≤ (24 : Int32) then (if p1 = 0 then (zbv (fX4_begin p0 p1 (0 : Int32) M2) (fun M176 => some ((1 : Int32), M176))) else (zbv (fX4_begin p0 p1 p2 M2) (fun M173 => some ((1 : Int32), M173)))) else (zbi (fX7_error (1 : Int32) M2) (fun r178 M179 => some (r178, M179))))) else (zbi (fX7_error (3 : Int32) M2) (fun r181 M182 => some (r181, M182))))) else (zbi (fX7_error (1 : Int32) M2) (fun r184 M185 => some (r184, M185))))))) else (zbi (fX7_error (1 : Int32) M2) (fun r5 M6 => some (r5, M6))))
set_option maxRecDepth 100000 in
set_option maxHeartbeats 4000000 in
theorem kX7_sheet (l : Launch) (D : va_G) (cy : Nat → ClassId) (a : Nat → Nat) (p0 : Int32) (p1 : Int32) (p2 : Int32) (M : zM) (r0 : Int32) (M0 : zM) (h : fX7_sheet p0 p1 p2 M = some (r0, M0)) : zCi l D cy a yX7_sheet cX7_sheet 4 (some .int) (zRm 2 42) [.ref (a 0), .int p0, .int p1, .int p2] M (fun r u => r = r0 ∧ u = M0) := by
  intro sz
  refine zent_i sz (by decide) (Nat.le_of_ble_eq_true rfl) rfl (fun p e s m args below meth c ls H locs X hw hl => ?_)
  obtain ⟨hx, hb, hr, hml, hown, hW, hlocks⟩ := id X
  have hE := hw.2.2.2.2.1
  have hcs : 0 ≤ ((zRm 2 42)).cells ∧ 0 ≤ ((zRm 2 42)).slots := ⟨Nat.zero_le _, Nat.zero_le _⟩
  rw [fX7_sheet] at h
  refine lv_iload_n hx hb dX7_sheet_0 rfl (lv_at hl 1 rfl) ?_
  obtain ⟨r1, M2, f3, h⟩ := zbi_e h
  refine z_qSi (As := [.int p0]) (rest := []) X hw (kX7_noSheet l D cy a p0 M r1 M2 f3) (cwX7_229 X.2.2.2.2.2.1 rfl rfl (zroomO (Nat.le_of_ble_eq_true rfl) (Nat.le_of_ble_eq_true rfl))) rfl rfl (Nat.le_of_ble_eq_true rfl) hl.1 hcs dX7_sheet_1 (fun H locs hw => ?_)
  refine lv_if_ne (tgt := 29) hx hb dX7_sheet_4 (by decide) (fun c4 => ?_) (fun c4 => ?_)
  · replace h := zif_f c4 h
    refine lv_aload_n hx hb dX7_sheet_29 rfl (lv_at hl 0 rfl) ?_
    refine lv_iconst (v := 1) hx hb dX7_sheet_30 (by decide) ?_
    obtain ⟨r5, M6, f7, h⟩ := zbi_e h
    refine z_qVi (As := [.int (1 : Int32)]) (rest := []) X hw (kX7_error l D cy a (1 : Int32) M2 r5 M6 f7) (cwX7_61 X.2.2.2.2.2.1 rfl rfl (zroomO (Nat.le_of_ble_eq_true rfl) (Nat.le_of_ble_eq_true rfl))) (zX7_lt (rfl : zX7 0)) (zS7 (rfl : zX7 0) cy a (M2 0)) rfl rfl rfl (Nat.le_of_ble_eq_true rfl) hl.1 hcs dX7_sheet_31 (fun H locs hw => ?_)
    exact z_ri X hw (zret h) dX7_sheet_34
  · replace h := zif_t c4 h
    refine lv_iload_n hx hb dX7_sheet_7 rfl (lv_at hl 2 rfl) ?_
    refine lv_if_eq (tgt := 35) hx hb dX7_sheet_8 (by decide) (fun c8 => ?_) (fun c8 => ?_)
    · replace h := zif_t c8 h
      refine lv_iload_n hx hb dX7_sheet_35 rfl (lv_at hl 2 rfl) ?_
      refine lv_if_eq (tgt := 49) hx hb dX7_sheet_36 (by decide) (fun c9 => ?_) (fun c9 => ?_)
      · replace h := zif_t c9 h
        refine lv_iload_n hx hb dX7_sheet_49 rfl (lv_at hl 2 rfl) ?_
        refine lv_if_eq (tgt := 65) hx hb dX7_sheet_50 (by decide) (fun c10 => ?_) (fun c10 => ?_)
        · replace h := zif_t c10 h
          refine lv_aload_n hx hb dX7_sheet_65 rfl (lv_at hl 0 rfl) ?_
          refine gtX7_49 X hw dX7_sheet_66 ?_
          refine lv_iload_n hx hb dX7_sheet_69 rfl (lv_at hl 1 rfl) ?_
          refine lv_iload_n hx hb dX7_sheet_70 rfl (lv_at hl 2 rfl) ?_
          refine lv_iload_n hx hb dX7_sheet_71 rfl (lv_at hl 2 rfl) ?_
          refine lv_if_ne (tgt := 79) hx hb dX7_sheet_72 (by decide) (fun c11 => ?_) (fun c11 => ?_)
          · replace h := zif_f c11 h
            refine lv_iload_n hx hb dX7_sheet_79 rfl (lv_at hl 3 rfl) ?_
            obtain ⟨M13, f14, h⟩ := zbv_e h
            refine z_qVv (As := [.int p0, .int p1, .int p2]) (rest := []) X hw (kX4_begin l D cy a p0 p1 p2 M2 M13 f14) (cwX7_232 X.2.2.2.2.2.1 rfl rfl (zroomO (Nat.le_of_ble_eq_true rfl) (Nat.le_of_ble_eq_true rfl))) (zX4_lt zX4_78) (zS4 zX4_78 cy a (M2 78)) rfl rfl rfl (Nat.le_of_ble_eq_true rfl) hl.1 hcs dX7_sheet_80 (fun H locs hw => ?_)
            refine lv_iconst (v := 1) hx hb dX7_sheet_83 (by decide) ?_
            exact z_ri X hw (zret h) dX7_sheet_84
          · replace h := zif_t c11 h
            refine lv_iconst (v := 0) hx hb dX7_sheet_75 (by decide) ?_
            refine lv_goto (tgt := 80) hx hb dX7_sheet_76 (by decide) ?_
            obtain ⟨M16, f17, h⟩ := zbv_e h
            refine z_qVv (As := [.int p0, .int p1, .int (0 : Int32)]) (rest := []) X hw (kX4_begin l D cy a p0 p1 (0 : Int32) M2 M16 f17) (cwX7_232 X.2.2.2.2.2.1 rfl rfl (zroomO (Nat.le_of_ble_eq_true rfl) (Nat.le_of_ble_eq_true rfl))) (zX4_lt zX4_78) (zS4 zX4_78 cy a (M2 78)) rfl rfl rfl (Nat.le_of_ble_eq_true rfl) hl.1 hcs dX7_sheet_80 (fun H locs hw => ?_)
            refine lv_iconst (v := 1) hx hb dX7_sheet_83 (by decide) ?_
            exact z_ri X hw (zret h) dX7_sheet_84
        · replace h := zif_f c10 h
          refine lv_iload_n hx hb dX7_sheet_53 rfl (lv_at hl 3 rfl) ?_
          refine lv_bipush (v := 24) hx hb dX7_sheet_54 (by decide) ?_
          refine lv_icmp_le (tgt := 65) hx hb dX7_sheet_56 (by decide) (fun c18 => ?_) (fun c18 => ?_)
          · replace h := zif_t c18 h
            refine lv_aload_n hx hb dX7_sheet_65 rfl (lv_at hl 0 rfl) ?_
            refine gtX7_49 X hw dX7_sheet_66 ?_
            refine lv_iload_n hx hb dX7_sheet_69 rfl (lv_at hl 1 rfl) ?_
            refine lv_iload_n hx hb dX7_sheet_70 rfl (lv_at hl 2 rfl) ?_
            refine lv_iload_n hx hb dX7_sheet_71 rfl (lv_at hl 2 rfl) ?_
            refine lv_if_ne (tgt := 79) hx hb dX7_sheet_72 (by decide) (fun c19 => ?_) (fun c19 => ?_)
            · replace h := zif_f c19 h
              refine lv_iload_n hx hb dX7_sheet_79 rfl (lv_at hl 3 rfl) ?_
              obtain ⟨M21, f22, h⟩ := zbv_e h
              refine z_qVv (As := [.int p0, .int p1, .int p2]) (rest := []) X hw (kX4_begin l D cy a p0 p1 p2 M2 M21 f22) (cwX7_232 X.2.2.2.2.2.1 rfl rfl (zroomO (Nat.le_of_ble_eq_true rfl) (Nat.le_of_ble_eq_true rfl))) (zX4_lt zX4_78) (zS4 zX4_78 cy a (M2 78)) rfl rfl rfl (Nat.le_of_ble_eq_true rfl) hl.1 hcs dX7_sheet_80 (fun H locs hw => ?_)
              refine lv_iconst (v := 1) hx hb dX7_sheet_83 (by decide) ?_
              exact z_ri X hw (zret h) dX7_sheet_84
            · replace h := zif_t c19 h
              refine lv_iconst (v := 0) hx hb dX7_sheet_75 (by decide) ?_
              refine lv_goto (tgt := 80) hx hb dX7_sheet_76 (by decide) ?_
              obtain ⟨M24, f25, h⟩ := zbv_e h
              refine z_qVv (As := [.int p0, .int p1, .int (0 : Int32)]) (rest := []) X hw (kX4_begin l D cy a p0 p1 (0 : Int32) M2 M24 f25) (cwX7_232 X.2.2.2.2.2.1 rfl rfl (zroomO (Nat.le_of_ble_eq_true rfl) (Nat.le_of_ble_eq_true rfl))) (zX4_lt zX4_78) (zS4 zX4_78 cy a (M2 78)) rfl rfl rfl (Nat.le_of_ble_eq_true rfl) hl.1 hcs dX7_sheet_80 (fun H locs hw => ?_)
              refine lv_iconst (v := 1) hx hb dX7_sheet_83 (by decide) ?_
              exact z_ri X hw (zret h) dX7_sheet_84
          · replace h := zif_f c18 h
            refine lv_aload_n hx hb dX7_sheet_59 rfl (lv_at hl 0 rfl) ?_
            refine lv_iconst (v := 1) hx hb dX7_sheet_60 (by decide) ?_
            obtain ⟨r26, M27, f28, h⟩ := zbi_e h
            refine z_qVi (As := [.int (1 : Int32)]) (rest := []) X hw (kX7_error l D cy a (1 : Int32) M2 r26 M27 f28) (cwX7_61 X.2.2.2.2.2.1 rfl rfl (zroomO (Nat.le_of_ble_eq_true rfl) (Nat.le_of_ble_eq_true rfl))) (zX7_lt (rfl : zX7 0)) (zS7 (rfl : zX7 0) cy a (M2 0)) rfl rfl rfl (Nat.le_of_ble_eq_true rfl) hl.1 hcs dX7_sheet_61 (fun H locs hw => ?_)
            exact z_ri X hw (zret h) dX7_sheet_64
      · replace h := zif_f c9 h
        refine lv_iload_n hx hb dX7_sheet_39 rfl (lv_at hl 3 rfl) ?_
        refine lv_if_ge (tgt := 49) hx hb dX7_sheet_40 (by decide) (fun c29 => ?_) (fun c29 => ?_)
        · replace h := zif_t c29 h
          refine lv_iload_n hx hb dX7_sheet_49 rfl (lv_at hl 2 rfl) ?_
          refine lv_if_eq (tgt := 65) hx hb dX7_sheet_50 (by decide) (fun c30 => ?_) (fun c30 => ?_)
          · replace h := zif_t c30 h
            refine lv_aload_n hx hb dX7_sheet_65 rfl (lv_at hl 0 rfl) ?_
            refine gtX7_49 X hw dX7_sheet_66 ?_
            refine lv_iload_n hx hb dX7_sheet_69 rfl (lv_at hl 1 rfl) ?_
            refine lv_iload_n hx hb dX7_sheet_70 rfl (lv_at hl 2 rfl) ?_
            refine lv_iload_n hx hb dX7_sheet_71 rfl (lv_at hl 2 rfl) ?_
            refine lv_if_ne (tgt := 79) hx hb dX7_sheet_72 (by decide) (fun c31 => ?_) (fun c31 => ?_)
            · replace h := zif_f c31 h
              refine lv_iload_n hx hb dX7_sheet_79 rfl (lv_at hl 3 rfl) ?_
              obtain ⟨M33, f34, h⟩ := zbv_e h
              refine z_qVv (As := [.int p0, .int p1, .int p2]) (rest := []) X hw (kX4_begin l D cy a p0 p1 p2 M2 M33 f34) (cwX7_232 X.2.2.2.2.2.1 rfl rfl (zroomO (Nat.le_of_ble_eq_true rfl) (Nat.le_of_ble_eq_true rfl))) (zX4_lt zX4_78) (zS4 zX4_78 cy a (M2 78)) rfl rfl rfl (Nat.le_of_ble_eq_true rfl) hl.1 hcs dX7_sheet_80 (fun H locs hw => ?_)
              refine lv_iconst (v := 1) hx hb dX7_sheet_83 (by decide) ?_
              exact z_ri X hw (zret h) dX7_sheet_84
            · replace h := zif_t c31 h
              refine lv_iconst (v := 0) hx hb dX7_sheet_75 (by decide) ?_
              refine lv_goto (tgt := 80) hx hb dX7_sheet_76 (by decide) ?_
              obtain ⟨M36, f37, h⟩ := zbv_e h
              refine z_qVv (As := [.int p0, .int p1, .int (0 : Int32)]) (rest := []) X hw (kX4_begin l D cy a p0 p1 (0 : Int32) M2 M36 f37) (cwX7_232 X.2.2.2.2.2.1 rfl rfl (zroomO (Nat.le_of_ble_eq_true rfl) (Nat.le_of_ble_eq_true rfl))) (zX4_lt zX4_78) (zS4 zX4_78 cy a (M2 78)) rfl rfl rfl (Nat.le_of_ble_eq_true rfl) hl.1 hcs dX7_sheet_80 (fun H locs hw => ?_)
              refine lv_iconst (v := 1) hx hb dX7_sheet_83 (by decide) ?_
              exact z_ri X hw (zret h) dX7_sheet_84
          · replace h := zif_f c30 h
            refine lv_iload_n hx hb dX7_sheet_53 rfl (lv_at hl 3 rfl) ?_
            refine lv_bipush (v := 24) hx hb dX7_sheet_54 (by decide) ?_
            refine lv_icmp_le (tgt := 65) hx hb dX7_sheet_56 (by decide) (fun c38 => ?_) (fun c38 => ?_)
            · replace h := zif_t c38 h
              refine lv_aload_n hx hb dX7_sheet_65 rfl (lv_at hl 0 rfl) ?_
              refine gtX7_49 X hw dX7_sheet_66 ?_
              refine lv_iload_n hx hb dX7_sheet_69 rfl (lv_at hl 1 rfl) ?_
              refine lv_iload_n hx hb dX7_sheet_70 rfl (lv_at hl 2 rfl) ?_
              refine lv_iload_n hx hb dX7_sheet_71 rfl (lv_at hl 2 rfl) ?_
              refine lv_if_ne (tgt := 79) hx hb dX7_sheet_72 (by decide) (fun c39 => ?_) (fun c39 => ?_)
              · replace h := zif_f c39 h
                refine lv_iload_n hx hb dX7_sheet_79 rfl (lv_at hl 3 rfl) ?_
                obtain ⟨M41, f42, h⟩ := zbv_e h
                refine z_qVv (As := [.int p0, .int p1, .int p2]) (rest := []) X hw (kX4_begin l D cy a p0 p1 p2 M2 M41 f42) (cwX7_232 X.2.2.2.2.2.1 rfl rfl (zroomO (Nat.le_of_ble_eq_true rfl) (Nat.le_of_ble_eq_true rfl))) (zX4_lt zX4_78) (zS4 zX4_78 cy a (M2 78)) rfl rfl rfl (Nat.le_of_ble_eq_true rfl) hl.1 hcs dX7_sheet_80 (fun H locs hw => ?_)
                refine lv_iconst (v := 1) hx hb dX7_sheet_83 (by decide) ?_
                exact z_ri X hw (zret h) dX7_sheet_84
              · replace h := zif_t c39 h
                refine lv_iconst (v := 0) hx hb dX7_sheet_75 (by decide) ?_
                refine lv_goto (tgt := 80) hx hb dX7_sheet_76 (by decide) ?_
                obtain ⟨M44, f45, h⟩ := zbv_e h
                refine z_qVv (As := [.int p0, .int p1, .int (0 : Int32)]) (rest := []) X hw (kX4_begin l D cy a p0 p1 (0 : Int32) M2 M44 f45) (cwX7_232 X.2.2.2.2.2.1 rfl rfl (zroomO (Nat.le_of_ble_eq_true rfl) (Nat.le_of_ble_eq_true rfl))) (zX4_lt zX4_78) (zS4 zX4_78 cy a (M2 78)) rfl rfl rfl (Nat.le_of_ble_eq_true rfl) hl.1 hcs dX7_sheet_80 (fun H locs hw => ?_)
                refine lv_iconst (v := 1) hx hb dX7_sheet_83 (by decide) ?_
                exact z_ri X hw (zret h) dX7_sheet_84
            · replace h := zif_f c38 h
              refine lv_aload_n hx hb dX7_sheet_59 rfl (lv_at hl 0 rfl) ?_
              refine lv_iconst (v := 1) hx hb dX7_sheet_60 (by decide) ?_
              obtain ⟨r46, M47, f48, h⟩ := zbi_e h
              refine z_qVi (As := [.int (1 : Int32)]) (rest := []) X hw (kX7_error l D cy a (1 : Int32) M2 r46 M47 f48) (cwX7_61 X.2.2.2.2.2.1 rfl rfl (zroomO (Nat.le_of_ble_eq_true rfl) (Nat.le_of_ble_eq_true rfl))) (zX7_lt (rfl : zX7 0)) (zS7 (rfl : zX7 0) cy a (M2 0)) rfl rfl rfl (Nat.le_of_ble_eq_true rfl) hl.1 hcs dX7_sheet_61 (fun H locs hw => ?_)
              exact z_ri X hw (zret h) dX7_sheet_64
        · replace h := zif_f c29 h
          refine lv_aload_n hx hb dX7_sheet_43 rfl (lv_at hl 0 rfl) ?_
          refine lv_iconst (v := 3) hx hb dX7_sheet_44 (by decide) ?_
          obtain ⟨r49, M50, f51, h⟩ := zbi_e h
          refine z_qVi (As := [.int (3 : Int32)]) (rest := []) X hw (kX7_error l D cy a (3 : Int32) M2 r49 M50 f51) (cwX7_61 X.2.2.2.2.2.1 rfl rfl (zroomO (Nat.le_of_ble_eq_true rfl) (Nat.le_of_ble_eq_true rfl))) (zX7_lt (rfl : zX7 0)) (zS7 (rfl : zX7 0) cy a (M2 0)) rfl rfl rfl (Nat.le_of_ble_eq_true rfl) hl.1 hcs dX7_sheet_45 (fun H locs hw => ?_)
          exact z_ri X hw (zret h) dX7_sheet_48
    · replace h := zif_f c8 h
      refine lv_iload_n hx hb dX7_sheet_11 rfl (lv_at hl 2 rfl) ?_
      refine lv_bipush (v := 8) hx hb dX7_sheet_12 (by decide) ?_
      refine lv_icmp_eq (tgt := 35) hx hb dX7_sheet_14 (by decide) (fun c52 => ?_) (fun c52 => ?_)
      · replace h := zif_t c52 h
        refine lv_iload_n hx hb dX7_sheet_35 rfl (lv_at hl 2 rfl) ?_
        refine lv_if_eq (tgt := 49) hx hb dX7_sheet_36 (by decide) (fun c53 => ?_) (fun c53 => ?_)
        · replace h := zif_t c53 h
          refine lv_iload_n hx hb dX7_sheet_49 rfl (lv_at hl 2 rfl) ?_
          refine lv_if_eq (tgt := 65) hx hb dX7_sheet_50 (by decide) (fun c54 => ?_) (fun c54 => ?_)
          · replace h := zif_t c54 h
            refine lv_aload_n hx hb dX7_sheet_65 rfl (lv_at hl 0 rfl) ?_
            refine gtX7_49 X hw dX7_sheet_66 ?_
            refine lv_iload_n hx hb dX7_sheet_69 rfl (lv_at hl 1 rfl) ?_
            refine lv_iload_n hx hb dX7_sheet_70 rfl (lv_at hl 2 rfl) ?_
            refine lv_iload_n hx hb dX7_sheet_71 rfl (lv_at hl 2 rfl) ?_
            refine lv_if_ne (tgt := 79) hx hb dX7_sheet_72 (by decide) (fun c55 => ?_) (fun c55 => ?_)
            · replace h := zif_f c55 h
              refine lv_iload_n hx hb dX7_sheet_79 rfl (lv_at hl 3 rfl) ?_
              obtain ⟨M57, f58, h⟩ := zbv_e h
              refine z_qVv (As := [.int p0, .int p1, .int p2]) (rest := []) X hw (kX4_begin l D cy a p0 p1 p2 M2 M57 f58) (cwX7_232 X.2.2.2.2.2.1 rfl rfl (zroomO (Nat.le_of_ble_eq_true rfl) (Nat.le_of_ble_eq_true rfl))) (zX4_lt zX4_78) (zS4 zX4_78 cy a (M2 78)) rfl rfl rfl (Nat.le_of_ble_eq_true rfl) hl.1 hcs dX7_sheet_80 (fun H locs hw => ?_)
              refine lv_iconst (v := 1) hx hb dX7_sheet_83 (by decide) ?_
              exact z_ri X hw (zret h) dX7_sheet_84
            · replace h := zif_t c55 h
              refine lv_iconst (v := 0) hx hb dX7_sheet_75 (by decide) ?_
              refine lv_goto (tgt := 80) hx hb dX7_sheet_76 (by decide) ?_
              obtain ⟨M60, f61, h⟩ := zbv_e h
              refine z_qVv (As := [.int p0, .int p1, .int (0 : Int32)]) (rest := []) X hw (kX4_begin l D cy a p0 p1 (0 : Int32) M2 M60 f61) (cwX7_232 X.2.2.2.2.2.1 rfl rfl (zroomO (Nat.le_of_ble_eq_true rfl) (Nat.le_of_ble_eq_true rfl))) (zX4_lt zX4_78) (zS4 zX4_78 cy a (M2 78)) rfl rfl rfl (Nat.le_of_ble_eq_true rfl) hl.1 hcs dX7_sheet_80 (fun H locs hw => ?_)
              refine lv_iconst (v := 1) hx hb dX7_sheet_83 (by decide) ?_
              exact z_ri X hw (zret h) dX7_sheet_84
          · replace h := zif_f c54 h
            refine lv_iload_n hx hb dX7_sheet_53 rfl (lv_at hl 3 rfl) ?_
            refine lv_bipush (v := 24) hx hb dX7_sheet_54 (by decide) ?_
            refine lv_icmp_le (tgt := 65) hx hb dX7_sheet_56 (by decide) (fun c62 => ?_) (fun c62 => ?_)
            · replace h := zif_t c62 h
              refine lv_aload_n hx hb dX7_sheet_65 rfl (lv_at hl 0 rfl) ?_
              refine gtX7_49 X hw dX7_sheet_66 ?_
              refine lv_iload_n hx hb dX7_sheet_69 rfl (lv_at hl 1 rfl) ?_
              refine lv_iload_n hx hb dX7_sheet_70 rfl (lv_at hl 2 rfl) ?_
              refine lv_iload_n hx hb dX7_sheet_71 rfl (lv_at hl 2 rfl) ?_
              refine lv_if_ne (tgt := 79) hx hb dX7_sheet_72 (by decide) (fun c63 => ?_) (fun c63 => ?_)
              · replace h := zif_f c63 h
                refine lv_iload_n hx hb dX7_sheet_79 rfl (lv_at hl 3 rfl) ?_
                obtain ⟨M65, f66, h⟩ := zbv_e h
                refine z_qVv (As := [.int p0, .int p1, .int p2]) (rest := []) X hw (kX4_begin l D cy a p0 p1 p2 M2 M65 f66) (cwX7_232 X.2.2.2.2.2.1 rfl rfl (zroomO (Nat.le_of_ble_eq_true rfl) (Nat.le_of_ble_eq_true rfl))) (zX4_lt zX4_78) (zS4 zX4_78 cy a (M2 78)) rfl rfl rfl (Nat.le_of_ble_eq_true rfl) hl.1 hcs dX7_sheet_80 (fun H locs hw => ?_)
                refine lv_iconst (v := 1) hx hb dX7_sheet_83 (by decide) ?_
                exact z_ri X hw (zret h) dX7_sheet_84
              · replace h := zif_t c63 h
                refine lv_iconst (v := 0) hx hb dX7_sheet_75 (by decide) ?_
                refine lv_goto (tgt := 80) hx hb dX7_sheet_76 (by decide) ?_
                obtain ⟨M68, f69, h⟩ := zbv_e h
                refine z_qVv (As := [.int p0, .int p1, .int (0 : Int32)]) (rest := []) X hw (kX4_begin l D cy a p0 p1 (0 : Int32) M2 M68 f69) (cwX7_232 X.2.2.2.2.2.1 rfl rfl (zroomO (Nat.le_of_ble_eq_true rfl) (Nat.le_of_ble_eq_true rfl))) (zX4_lt zX4_78) (zS4 zX4_78 cy a (M2 78)) rfl rfl rfl (Nat.le_of_ble_eq_true rfl) hl.1 hcs dX7_sheet_80 (fun H locs hw => ?_)
                refine lv_iconst (v := 1) hx hb dX7_sheet_83 (by decide) ?_
                exact z_ri X hw (zret h) dX7_sheet_84
            · replace h := zif_f c62 h
              refine lv_aload_n hx hb dX7_sheet_59 rfl (lv_at hl 0 rfl) ?_
              refine lv_iconst (v := 1) hx hb dX7_sheet_60 (by decide) ?_
              obtain ⟨r70, M71, f72, h⟩ := zbi_e h
              refine z_qVi (As := [.int (1 : Int32)]) (rest := []) X hw (kX7_error l D cy a (1 : Int32) M2 r70 M71 f72) (cwX7_61 X.2.2.2.2.2.1 rfl rfl (zroomO (Nat.le_of_ble_eq_true rfl) (Nat.le_of_ble_eq_true rfl))) (zX7_lt (rfl : zX7 0)) (zS7 (rfl : zX7 0) cy a (M2 0)) rfl rfl rfl (Nat.le_of_ble_eq_true rfl) hl.1 hcs dX7_sheet_61 (fun H locs hw => ?_)
              exact z_ri X hw (zret h) dX7_sheet_64
        · replace h := zif_f c53 h
          refine lv_iload_n hx hb dX7_sheet_39 rfl (lv_at hl 3 rfl) ?_
          refine lv_if_ge (tgt := 49) hx hb dX7_sheet_40 (by decide) (fun c73 => ?_) (fun c73 => ?_)
          · replace h := zif_t c73 h
            refine lv_iload_n hx hb dX7_sheet_49 rfl (lv_at hl 2 rfl) ?_
            refine lv_if_eq (tgt := 65) hx hb dX7_sheet_50 (by decide) (fun c74 => ?_) (fun c74 => ?_)
            · replace h := zif_t c74 h
              refine lv_aload_n hx hb dX7_sheet_65 rfl (lv_at hl 0 rfl) ?_
              refine gtX7_49 X hw dX7_sheet_66 ?_
              refine lv_iload_n hx hb dX7_sheet_69 rfl (lv_at hl 1 rfl) ?_
              refine lv_iload_n hx hb dX7_sheet_70 rfl (lv_at hl 2 rfl) ?_
              refine lv_iload_n hx hb dX7_sheet_71 rfl (lv_at hl 2 rfl) ?_
              refine lv_if_ne (tgt := 79) hx hb dX7_sheet_72 (by decide) (fun c75 => ?_) (fun c75 => ?_)
              · replace h := zif_f c75 h
                refine lv_iload_n hx hb dX7_sheet_79 rfl (lv_at hl 3 rfl) ?_
                obtain ⟨M77, f78, h⟩ := zbv_e h
                refine z_qVv (As := [.int p0, .int p1, .int p2]) (rest := []) X hw (kX4_begin l D cy a p0 p1 p2 M2 M77 f78) (cwX7_232 X.2.2.2.2.2.1 rfl rfl (zroomO (Nat.le_of_ble_eq_true rfl) (Nat.le_of_ble_eq_true rfl))) (zX4_lt zX4_78) (zS4 zX4_78 cy a (M2 78)) rfl rfl rfl (Nat.le_of_ble_eq_true rfl) hl.1 hcs dX7_sheet_80 (fun H locs hw => ?_)
                refine lv_iconst (v := 1) hx hb dX7_sheet_83 (by decide) ?_
                exact z_ri X hw (zret h) dX7_sheet_84
              · replace h := zif_t c75 h
                refine lv_iconst (v := 0) hx hb dX7_sheet_75 (by decide) ?_
                refine lv_goto (tgt := 80) hx hb dX7_sheet_76 (by decide) ?_
                obtain ⟨M80, f81, h⟩ := zbv_e h
                refine z_qVv (As := [.int p0, .int p1, .int (0 : Int32)]) (rest := []) X hw (kX4_begin l D cy a p0 p1 (0 : Int32) M2 M80 f81) (cwX7_232 X.2.2.2.2.2.1 rfl rfl (zroomO (Nat.le_of_ble_eq_true rfl) (Nat.le_of_ble_eq_true rfl))) (zX4_lt zX4_78) (zS4 zX4_78 cy a (M2 78)) rfl rfl rfl (Nat.le_of_ble_eq_true rfl) hl.1 hcs dX7_sheet_80 (fun H locs hw => ?_)
                refine lv_iconst (v := 1) hx hb dX7_sheet_83 (by decide) ?_
                exact z_ri X hw (zret h) dX7_sheet_84
            · replace h := zif_f c74 h
              refine lv_iload_n hx hb dX7_sheet_53 rfl (lv_at hl 3 rfl) ?_
              refine lv_bipush (v := 24) hx hb dX7_sheet_54 (by decide) ?_
              refine lv_icmp_le (tgt := 65) hx hb dX7_sheet_56 (by decide) (fun c82 => ?_) (fun c82 => ?_)
              · replace h := zif_t c82 h
                refine lv_aload_n hx hb dX7_sheet_65 rfl (lv_at hl 0 rfl) ?_
                refine gtX7_49 X hw dX7_sheet_66 ?_
                refine lv_iload_n hx hb dX7_sheet_69 rfl (lv_at hl 1 rfl) ?_
                refine lv_iload_n hx hb dX7_sheet_70 rfl (lv_at hl 2 rfl) ?_
                refine lv_iload_n hx hb dX7_sheet_71 rfl (lv_at hl 2 rfl) ?_
                refine lv_if_ne (tgt := 79) hx hb dX7_sheet_72 (by decide) (fun c83 => ?_) (fun c83 => ?_)
                · replace h := zif_f c83 h
                  refine lv_iload_n hx hb dX7_sheet_79 rfl (lv_at hl 3 rfl) ?_
                  obtain ⟨M85, f86, h⟩ := zbv_e h
                  refine z_qVv (As := [.int p0, .int p1, .int p2]) (rest := []) X hw (kX4_begin l D cy a p0 p1 p2 M2 M85 f86) (cwX7_232 X.2.2.2.2.2.1 rfl rfl (zroomO (Nat.le_of_ble_eq_true rfl) (Nat.le_of_ble_eq_true rfl))) (zX4_lt zX4_78) (zS4 zX4_78 cy a (M2 78)) rfl rfl rfl (Nat.le_of_ble_eq_true rfl) hl.1 hcs dX7_sheet_80 (fun H locs hw => ?_)
                  refine lv_iconst (v := 1) hx hb dX7_sheet_83 (by decide) ?_
                  exact z_ri X hw (zret h) dX7_sheet_84
                · replace h := zif_t c83 h
                  refine lv_iconst (v := 0) hx hb dX7_sheet_75 (by decide) ?_
                  refine lv_goto (tgt := 80) hx hb dX7_sheet_76 (by decide) ?_
                  obtain ⟨M88, f89, h⟩ := zbv_e h
                  refine z_qVv (As := [.int p0, .int p1, .int (0 : Int32)]) (rest := []) X hw (kX4_begin l D cy a p0 p1 (0 : Int32) M2 M88 f89) (cwX7_232 X.2.2.2.2.2.1 rfl rfl (zroomO (Nat.le_of_ble_eq_true rfl) (Nat.le_of_ble_eq_true rfl))) (zX4_lt zX4_78) (zS4 zX4_78 cy a (M2 78)) rfl rfl rfl (Nat.le_of_ble_eq_true rfl) hl.1 hcs dX7_sheet_80 (fun H locs hw => ?_)
                  refine lv_iconst (v := 1) hx hb dX7_sheet_83 (by decide) ?_
                  exact z_ri X hw (zret h) dX7_sheet_84
              · replace h := zif_f c82 h
                refine lv_aload_n hx hb dX7_sheet_59 rfl (lv_at hl 0 rfl) ?_
                refine lv_iconst (v := 1) hx hb dX7_sheet_60 (by decide) ?_
                obtain ⟨r90, M91, f92, h⟩ := zbi_e h
                refine z_qVi (As := [.int (1 : Int32)]) (rest := []) X hw (kX7_error l D cy a (1 : Int32) M2 r90 M91 f92) (cwX7_61 X.2.2.2.2.2.1 rfl rfl (zroomO (Nat.le_of_ble_eq_true rfl) (Nat.le_of_ble_eq_true rfl))) (zX7_lt (rfl : zX7 0)) (zS7 (rfl : zX7 0) cy a (M2 0)) rfl rfl rfl (Nat.le_of_ble_eq_true rfl) hl.1 hcs dX7_sheet_61 (fun H locs hw => ?_)
                exact z_ri X hw (zret h) dX7_sheet_64
          · replace h := zif_f c73 h
            refine lv_aload_n hx hb dX7_sheet_43 rfl (lv_at hl 0 rfl) ?_
            refine lv_iconst (v := 3) hx hb dX7_sheet_44 (by decide) ?_
            obtain ⟨r93, M94, f95, h⟩ := zbi_e h
            refine z_qVi (As := [.int (3 : Int32)]) (rest := []) X hw (kX7_error l D cy a (3 : Int32) M2 r93 M94 f95) (cwX7_61 X.2.2.2.2.2.1 rfl rfl (zroomO (Nat.le_of_ble_eq_true rfl) (Nat.le_of_ble_eq_true rfl))) (zX7_lt (rfl : zX7 0)) (zS7 (rfl : zX7 0) cy a (M2 0)) rfl rfl rfl (Nat.le_of_ble_eq_true rfl) hl.1 hcs dX7_sheet_45 (fun H locs hw => ?_)
            exact z_ri X hw (zret h) dX7_sheet_48
      · replace h := zif_f c52 h
        refine lv_iload_n hx hb dX7_sheet_17 rfl (lv_at hl 2 rfl) ?_
        refine lv_bipush (v := 16) hx hb dX7_sheet_18 (by decide) ?_
        refine lv_icmp_eq (tgt := 35) hx hb dX7_sheet_20 (by decide) (fun c96 => ?_) (fun c96 => ?_)
        · replace h := zif_t c96 h
          refine lv_iload_n hx hb dX7_sheet_35 rfl (lv_at hl 2 rfl) ?_
          refine lv_if_eq (tgt := 49) hx hb dX7_sheet_36 (by decide) (fun c97 => ?_) (fun c97 => ?_)
          · replace h := zif_t c97 h
            refine lv_iload_n hx hb dX7_sheet_49 rfl (lv_at hl 2 rfl) ?_
            refine lv_if_eq (tgt := 65) hx hb dX7_sheet_50 (by decide) (fun c98 => ?_) (fun c98 => ?_)
            · replace h := zif_t c98 h
              refine lv_aload_n hx hb dX7_sheet_65 rfl (lv_at hl 0 rfl) ?_
              refine gtX7_49 X hw dX7_sheet_66 ?_
              refine lv_iload_n hx hb dX7_sheet_69 rfl (lv_at hl 1 rfl) ?_
              refine lv_iload_n hx hb dX7_sheet_70 rfl (lv_at hl 2 rfl) ?_
              refine lv_iload_n hx hb dX7_sheet_71 rfl (lv_at hl 2 rfl) ?_
              refine lv_if_ne (tgt := 79) hx hb dX7_sheet_72 (by decide) (fun c99 => ?_) (fun c99 => ?_)
              · replace h := zif_f c99 h
                refine lv_iload_n hx hb dX7_sheet_79 rfl (lv_at hl 3 rfl) ?_
                obtain ⟨M101, f102, h⟩ := zbv_e h
                refine z_qVv (As := [.int p0, .int p1, .int p2]) (rest := []) X hw (kX4_begin l D cy a p0 p1 p2 M2 M101 f102) (cwX7_232 X.2.2.2.2.2.1 rfl rfl (zroomO (Nat.le_of_ble_eq_true rfl) (Nat.le_of_ble_eq_true rfl))) (zX4_lt zX4_78) (zS4 zX4_78 cy a (M2 78)) rfl rfl rfl (Nat.le_of_ble_eq_true rfl) hl.1 hcs dX7_sheet_80 (fun H locs hw => ?_)
                refine lv_iconst (v := 1) hx hb dX7_sheet_83 (by decide) ?_
                exact z_ri X hw (zret h) dX7_sheet_84
              · replace h := zif_t c99 h
                refine lv_iconst (v := 0) hx hb dX7_sheet_75 (by decide) ?_
                refine lv_goto (tgt := 80) hx hb dX7_sheet_76 (by decide) ?_
                obtain ⟨M104, f105, h⟩ := zbv_e h
                refine z_qVv (As := [.int p0, .int p1, .int (0 : Int32)]) (rest := []) X hw (kX4_begin l D cy a p0 p1 (0 : Int32) M2 M104 f105) (cwX7_232 X.2.2.2.2.2.1 rfl rfl (zroomO (Nat.le_of_ble_eq_true rfl) (Nat.le_of_ble_eq_true rfl))) (zX4_lt zX4_78) (zS4 zX4_78 cy a (M2 78)) rfl rfl rfl (Nat.le_of_ble_eq_true rfl) hl.1 hcs dX7_sheet_80 (fun H locs hw => ?_)
                refine lv_iconst (v := 1) hx hb dX7_sheet_83 (by decide) ?_
                exact z_ri X hw (zret h) dX7_sheet_84
            · replace h := zif_f c98 h
              refine lv_iload_n hx hb dX7_sheet_53 rfl (lv_at hl 3 rfl) ?_
              refine lv_bipush (v := 24) hx hb dX7_sheet_54 (by decide) ?_
              refine lv_icmp_le (tgt := 65) hx hb dX7_sheet_56 (by decide) (fun c106 => ?_) (fun c106 => ?_)
              · replace h := zif_t c106 h
                refine lv_aload_n hx hb dX7_sheet_65 rfl (lv_at hl 0 rfl) ?_
                refine gtX7_49 X hw dX7_sheet_66 ?_
                refine lv_iload_n hx hb dX7_sheet_69 rfl (lv_at hl 1 rfl) ?_
                refine lv_iload_n hx hb dX7_sheet_70 rfl (lv_at hl 2 rfl) ?_
                refine lv_iload_n hx hb dX7_sheet_71 rfl (lv_at hl 2 rfl) ?_
                refine lv_if_ne (tgt := 79) hx hb dX7_sheet_72 (by decide) (fun c107 => ?_) (fun c107 => ?_)
                · replace h := zif_f c107 h
                  refine lv_iload_n hx hb dX7_sheet_79 rfl (lv_at hl 3 rfl) ?_
                  obtain ⟨M109, f110, h⟩ := zbv_e h
                  refine z_qVv (As := [.int p0, .int p1, .int p2]) (rest := []) X hw (kX4_begin l D cy a p0 p1 p2 M2 M109 f110) (cwX7_232 X.2.2.2.2.2.1 rfl rfl (zroomO (Nat.le_of_ble_eq_true rfl) (Nat.le_of_ble_eq_true rfl))) (zX4_lt zX4_78) (zS4 zX4_78 cy a (M2 78)) rfl rfl rfl (Nat.le_of_ble_eq_true rfl) hl.1 hcs dX7_sheet_80 (fun H locs hw => ?_)
                  refine lv_iconst (v := 1) hx hb dX7_sheet_83 (by decide) ?_
                  exact z_ri X hw (zret h) dX7_sheet_84
                · replace h := zif_t c107 h
                  refine lv_iconst (v := 0) hx hb dX7_sheet_75 (by decide) ?_
                  refine lv_goto (tgt := 80) hx hb dX7_sheet_76 (by decide) ?_
                  obtain ⟨M112, f113, h⟩ := zbv_e h
                  refine z_qVv (As := [.int p0, .int p1, .int (0 : Int32)]) (rest := []) X hw (kX4_begin l D cy a p0 p1 (0 : Int32) M2 M112 f113) (cwX7_232 X.2.2.2.2.2.1 rfl rfl (zroomO (Nat.le_of_ble_eq_true rfl) (Nat.le_of_ble_eq_true rfl))) (zX4_lt zX4_78) (zS4 zX4_78 cy a (M2 78)) rfl rfl rfl (Nat.le_of_ble_eq_true rfl) hl.1 hcs dX7_sheet_80 (fun H locs hw => ?_)
                  refine lv_iconst (v := 1) hx hb dX7_sheet_83 (by decide) ?_
                  exact z_ri X hw (zret h) dX7_sheet_84
              · replace h := zif_f c106 h
                refine lv_aload_n hx hb dX7_sheet_59 rfl (lv_at hl 0 rfl) ?_
                refine lv_iconst (v := 1) hx hb dX7_sheet_60 (by decide) ?_
                obtain ⟨r114, M115, f116, h⟩ := zbi_e h
                refine z_qVi (As := [.int (1 : Int32)]) (rest := []) X hw (kX7_error l D cy a (1 : Int32) M2 r114 M115 f116) (cwX7_61 X.2.2.2.2.2.1 rfl rfl (zroomO (Nat.le_of_ble_eq_true rfl) (Nat.le_of_ble_eq_true rfl))) (zX7_lt (rfl : zX7 0)) (zS7 (rfl : zX7 0) cy a (M2 0)) rfl rfl rfl (Nat.le_of_ble_eq_true rfl) hl.1 hcs dX7_sheet_61 (fun H locs hw => ?_)
                exact z_ri X hw (zret h) dX7_sheet_64
          · replace h := zif_f c97 h
            refine lv_iload_n hx hb dX7_sheet_39 rfl (lv_at hl 3 rfl) ?_
            refine lv_if_ge (tgt := 49) hx hb dX7_sheet_40 (by decide) (fun c117 => ?_) (fun c117 => ?_)
            · replace h := zif_t c117 h
              refine lv_iload_n hx hb dX7_sheet_49 rfl (lv_at hl 2 rfl) ?_
              refine lv_if_eq (tgt := 65) hx hb dX7_sheet_50 (by decide) (fun c118 => ?_) (fun c118 => ?_)
              · replace h := zif_t c118 h
                refine lv_aload_n hx hb dX7_sheet_65 rfl (lv_at hl 0 rfl) ?_
                refine gtX7_49 X hw dX7_sheet_66 ?_
                refine lv_iload_n hx hb dX7_sheet_69 rfl (lv_at hl 1 rfl) ?_
                refine lv_iload_n hx hb dX7_sheet_70 rfl (lv_at hl 2 rfl) ?_
                refine lv_iload_n hx hb dX7_sheet_71 rfl (lv_at hl 2 rfl) ?_
                refine lv_if_ne (tgt := 79) hx hb dX7_sheet_72 (by decide) (fun c119 => ?_) (fun c119 => ?_)
                · replace h := zif_f c119 h
                  refine lv_iload_n hx hb dX7_sheet_79 rfl (lv_at hl 3 rfl) ?_
                  obtain ⟨M121, f122, h⟩ := zbv_e h
                  refine z_qVv (As := [.int p0, .int p1, .int p2]) (rest := []) X hw (kX4_begin l D cy a p0 p1 p2 M2 M121 f122) (cwX7_232 X.2.2.2.2.2.1 rfl rfl (zroomO (Nat.le_of_ble_eq_true rfl) (Nat.le_of_ble_eq_true rfl))) (zX4_lt zX4_78) (zS4 zX4_78 cy a (M2 78)) rfl rfl rfl (Nat.le_of_ble_eq_true rfl) hl.1 hcs dX7_sheet_80 (fun H locs hw => ?_)
                  refine lv_iconst (v := 1) hx hb dX7_sheet_83 (by decide) ?_
                  exact z_ri X hw (zret h) dX7_sheet_84
                · replace h := zif_t c119 h
                  refine lv_iconst (v := 0) hx hb dX7_sheet_75 (by decide) ?_
                  refine lv_goto (tgt := 80) hx hb dX7_sheet_76 (by decide) ?_
                  obtain ⟨M124, f125, h⟩ := zbv_e h
                  refine z_qVv (As := [.int p0, .int p1, .int (0 : Int32)]) (rest := []) X hw (kX4_begin l D cy a p0 p1 (0 : Int32) M2 M124 f125) (cwX7_232 X.2.2.2.2.2.1 rfl rfl (zroomO (Nat.le_of_ble_eq_true rfl) (Nat.le_of_ble_eq_true rfl))) (zX4_lt zX4_78) (zS4 zX4_78 cy a (M2 78)) rfl rfl rfl (Nat.le_of_ble_eq_true rfl) hl.1 hcs dX7_sheet_80 (fun H locs hw => ?_)
                  refine lv_iconst (v := 1) hx hb dX7_sheet_83 (by decide) ?_
                  exact z_ri X hw (zret h) dX7_sheet_84
              · replace h := zif_f c118 h
                refine lv_iload_n hx hb dX7_sheet_53 rfl (lv_at hl 3 rfl) ?_
                refine lv_bipush (v := 24) hx hb dX7_sheet_54 (by decide) ?_
                refine lv_icmp_le (tgt := 65) hx hb dX7_sheet_56 (by decide) (fun c126 => ?_) (fun c126 => ?_)
                · replace h := zif_t c126 h
                  refine lv_aload_n hx hb dX7_sheet_65 rfl (lv_at hl 0 rfl) ?_
                  refine gtX7_49 X hw dX7_sheet_66 ?_
                  refine lv_iload_n hx hb dX7_sheet_69 rfl (lv_at hl 1 rfl) ?_
                  refine lv_iload_n hx hb dX7_sheet_70 rfl (lv_at hl 2 rfl) ?_
                  refine lv_iload_n hx hb dX7_sheet_71 rfl (lv_at hl 2 rfl) ?_
                  refine lv_if_ne (tgt := 79) hx hb dX7_sheet_72 (by decide) (fun c127 => ?_) (fun c127 => ?_)
                  · replace h := zif_f c127 h
                    refine lv_iload_n hx hb dX7_sheet_79 rfl (lv_at hl 3 rfl) ?_
                    obtain ⟨M129, f130, h⟩ := zbv_e h
                    refine z_qVv (As := [.int p0, .int p1, .int p2]) (rest := []) X hw (kX4_begin l D cy a p0 p1 p2 M2 M129 f130) (cwX7_232 X.2.2.2.2.2.1 rfl rfl (zroomO (Nat.le_of_ble_eq_true rfl) (Nat.le_of_ble_eq_true rfl))) (zX4_lt zX4_78) (zS4 zX4_78 cy a (M2 78)) rfl rfl rfl (Nat.le_of_ble_eq_true rfl) hl.1 hcs dX7_sheet_80 (fun H locs hw => ?_)
                    refine lv_iconst (v := 1) hx hb dX7_sheet_83 (by decide) ?_
                    exact z_ri X hw (zret h) dX7_sheet_84
                  · replace h := zif_t c127 h
                    refine lv_iconst (v := 0) hx hb dX7_sheet_75 (by decide) ?_
                    refine lv_goto (tgt := 80) hx hb dX7_sheet_76 (by decide) ?_
                    obtain ⟨M132, f133, h⟩ := zbv_e h
                    refine z_qVv (As := [.int p0, .int p1, .int (0 : Int32)]) (rest := []) X hw (kX4_begin l D cy a p0 p1 (0 : Int32) M2 M132 f133) (cwX7_232 X.2.2.2.2.2.1 rfl rfl (zroomO (Nat.le_of_ble_eq_true rfl) (Nat.le_of_ble_eq_true rfl))) (zX4_lt zX4_78) (zS4 zX4_78 cy a (M2 78)) rfl rfl rfl (Nat.le_of_ble_eq_true rfl) hl.1 hcs dX7_sheet_80 (fun H locs hw => ?_)
                    refine lv_iconst (v := 1) hx hb dX7_sheet_83 (by decide) ?_
                    exact z_ri X hw (zret h) dX7_sheet_84
                · replace h := zif_f c126 h
                  refine lv_aload_n hx hb dX7_sheet_59 rfl (lv_at hl 0 rfl) ?_
                  refine lv_iconst (v := 1) hx hb dX7_sheet_60 (by decide) ?_
                  obtain ⟨r134, M135, f136, h⟩ := zbi_e h
                  refine z_qVi (As := [.int (1 : Int32)]) (rest := []) X hw (kX7_error l D cy a (1 : Int32) M2 r134 M135 f136) (cwX7_61 X.2.2.2.2.2.1 rfl rfl (zroomO (Nat.le_of_ble_eq_true rfl) (Nat.le_of_ble_eq_true rfl))) (zX7_lt (rfl : zX7 0)) (zS7 (rfl : zX7 0) cy a (M2 0)) rfl rfl rfl (Nat.le_of_ble_eq_true rfl) hl.1 hcs dX7_sheet_61 (fun H locs hw => ?_)
                  exact z_ri X hw (zret h) dX7_sheet_64
            · replace h := zif_f c117 h
              refine lv_aload_n hx hb dX7_sheet_43 rfl (lv_at hl 0 rfl) ?_
              refine lv_iconst (v := 3) hx hb dX7_sheet_44 (by decide) ?_
              obtain ⟨r137, M138, f139, h⟩ := zbi_e h
              refine z_qVi (As := [.int (3 : Int32)]) (rest := []) X hw (kX7_error l D cy a (3 : Int32) M2 r137 M138 f139) (cwX7_61 X.2.2.2.2.2.1 rfl rfl (zroomO (Nat.le_of_ble_eq_true rfl) (Nat.le_of_ble_eq_true rfl))) (zX7_lt (rfl : zX7 0)) (zS7 (rfl : zX7 0) cy a (M2 0)) rfl rfl rfl (Nat.le_of_ble_eq_true rfl) hl.1 hcs dX7_sheet_45 (fun H locs hw => ?_)
              exact z_ri X hw (zret h) dX7_sheet_48
        · replace h := zif_f c96 h
          refine lv_iload_n hx hb dX7_sheet_23 rfl (lv_at hl 2 rfl) ?_
          refine lv_bipush (v := 32) hx hb dX7_sheet_24 (by decide) ?_
          refine lv_icmp_eq (tgt := 35) hx hb dX7_sheet_26 (by decide) (fun c140 => ?_) (fun c140 => ?_)
          · replace h := zif_t c140 h
            refine lv_iload_n hx hb dX7_sheet_35 rfl (lv_at hl 2 rfl) ?_
            refine lv_if_eq (tgt := 49) hx hb dX7_sheet_36 (by decide) (fun c141 => ?_) (fun c141 => ?_)
            · replace h := zif_t c141 h
              refine lv_iload_n hx hb dX7_sheet_49 rfl (lv_at hl 2 rfl) ?_
              refine lv_if_eq (tgt := 65) hx hb dX7_sheet_50 (by decide) (fun c142 => ?_) (fun c142 => ?_)
              · replace h := zif_t c142 h
                refine lv_aload_n hx hb dX7_sheet_65 rfl (lv_at hl 0 rfl) ?_
                refine gtX7_49 X hw dX7_sheet_66 ?_
                refine lv_iload_n hx hb dX7_sheet_69 rfl (lv_at hl 1 rfl) ?_
                refine lv_iload_n hx hb dX7_sheet_70 rfl (lv_at hl 2 rfl) ?_
                refine lv_iload_n hx hb dX7_sheet_71 rfl (lv_at hl 2 rfl) ?_
                refine lv_if_ne (tgt := 79) hx hb dX7_sheet_72 (by decide) (fun c143 => ?_) (fun c143 => ?_)
                · replace h := zif_f c143 h
                  refine lv_iload_n hx hb dX7_sheet_79 rfl (lv_at hl 3 rfl) ?_
                  obtain ⟨M145, f146, h⟩ := zbv_e h
                  refine z_qVv (As := [.int p0, .int p1, .int p2]) (rest := []) X hw (kX4_begin l D cy a p0 p1 p2 M2 M145 f146) (cwX7_232 X.2.2.2.2.2.1 rfl rfl (zroomO (Nat.le_of_ble_eq_true rfl) (Nat.le_of_ble_eq_true rfl))) (zX4_lt zX4_78) (zS4 zX4_78 cy a (M2 78)) rfl rfl rfl (Nat.le_of_ble_eq_true rfl) hl.1 hcs dX7_sheet_80 (fun H locs hw => ?_)
                  refine lv_iconst (v := 1) hx hb dX7_sheet_83 (by decide) ?_
                  exact z_ri X hw (zret h) dX7_sheet_84
                · replace h := zif_t c143 h
                  refine lv_iconst (v := 0) hx hb dX7_sheet_75 (by decide) ?_
                  refine lv_goto (tgt := 80) hx hb dX7_sheet_76 (by decide) ?_
                  obtain ⟨M148, f149, h⟩ := zbv_e h
                  refine z_qVv (As := [.int p0, .int p1, .int (0 : Int32)]) (rest := []) X hw (kX4_begin l D cy a p0 p1 (0 : Int32) M2 M148 f149) (cwX7_232 X.2.2.2.2.2.1 rfl rfl (zroomO (Nat.le_of_ble_eq_true rfl) (Nat.le_of_ble_eq_true rfl))) (zX4_lt zX4_78) (zS4 zX4_78 cy a (M2 78)) rfl rfl rfl (Nat.le_of_ble_eq_true rfl) hl.1 hcs dX7_sheet_80 (fun H locs hw => ?_)
                  refine lv_iconst (v := 1) hx hb dX7_sheet_83 (by decide) ?_
                  exact z_ri X hw (zret h) dX7_sheet_84
              · replace h := zif_f c142 h
                refine lv_iload_n hx hb dX7_sheet_53 rfl (lv_at hl 3 rfl) ?_
                refine lv_bipush (v := 24) hx hb dX7_sheet_54 (by decide) ?_
                refine lv_icmp_le (tgt := 65) hx hb dX7_sheet_56 (by decide) (fun c150 => ?_) (fun c150 => ?_)
                · replace h := zif_t c150 h
                  refine lv_aload_n hx hb dX7_sheet_65 rfl (lv_at hl 0 rfl) ?_
                  refine gtX7_49 X hw dX7_sheet_66 ?_
                  refine lv_iload_n hx hb dX7_sheet_69 rfl (lv_at hl 1 rfl) ?_
                  refine lv_iload_n hx hb dX7_sheet_70 rfl (lv_at hl 2 rfl) ?_
                  refine lv_iload_n hx hb dX7_sheet_71 rfl (lv_at hl 2 rfl) ?_
                  refine lv_if_ne (tgt := 79) hx hb dX7_sheet_72 (by decide) (fun c151 => ?_) (fun c151 => ?_)
                  · replace h := zif_f c151 h
                    refine lv_iload_n hx hb dX7_sheet_79 rfl (lv_at hl 3 rfl) ?_
                    obtain ⟨M153, f154, h⟩ := zbv_e h
                    refine z_qVv (As := [.int p0, .int p1, .int p2]) (rest := []) X hw (kX4_begin l D cy a p0 p1 p2 M2 M153 f154) (cwX7_232 X.2.2.2.2.2.1 rfl rfl (zroomO (Nat.le_of_ble_eq_true rfl) (Nat.le_of_ble_eq_true rfl))) (zX4_lt zX4_78) (zS4 zX4_78 cy a (M2 78)) rfl rfl rfl (Nat.le_of_ble_eq_true rfl) hl.1 hcs dX7_sheet_80 (fun H locs hw => ?_)
                    refine lv_iconst (v := 1) hx hb dX7_sheet_83 (by decide) ?_
                    exact z_ri X hw (zret h) dX7_sheet_84
                  · replace h := zif_t c151 h
                    refine lv_iconst (v := 0) hx hb dX7_sheet_75 (by decide) ?_
                    refine lv_goto (tgt := 80) hx hb dX7_sheet_76 (by decide) ?_
                    obtain ⟨M156, f157, h⟩ := zbv_e h
                    refine z_qVv (As := [.int p0, .int p1, .int (0 : Int32)]) (rest := []) X hw (kX4_begin l D cy a p0 p1 (0 : Int32) M2 M156 f157) (cwX7_232 X.2.2.2.2.2.1 rfl rfl (zroomO (Nat.le_of_ble_eq_true rfl) (Nat.le_of_ble_eq_true rfl))) (zX4_lt zX4_78) (zS4 zX4_78 cy a (M2 78)) rfl rfl rfl (Nat.le_of_ble_eq_true rfl) hl.1 hcs dX7_sheet_80 (fun H locs hw => ?_)
                    refine lv_iconst (v := 1) hx hb dX7_sheet_83 (by decide) ?_
                    exact z_ri X hw (zret h) dX7_sheet_84
                · replace h := zif_f c150 h
                  refine lv_aload_n hx hb dX7_sheet_59 rfl (lv_at hl 0 rfl) ?_
                  refine lv_iconst (v := 1) hx hb dX7_sheet_60 (by decide) ?_
                  obtain ⟨r158, M159, f160, h⟩ := zbi_e h
                  refine z_qVi (As := [.int (1 : Int32)]) (rest := []) X hw (kX7_error l D cy a (1 : Int32) M2 r158 M159 f160) (cwX7_61 X.2.2.2.2.2.1 rfl rfl (zroomO (Nat.le_of_ble_eq_true rfl) (Nat.le_of_ble_eq_true rfl))) (zX7_lt (rfl : zX7 0)) (zS7 (rfl : zX7 0) cy a (M2 0)) rfl rfl rfl (Nat.le_of_ble_eq_true rfl) hl.1 hcs dX7_sheet_61 (fun H locs hw => ?_)
                  exact z_ri X hw (zret h) dX7_sheet_64
            · replace h := zif_f c141 h
              refine lv_iload_n hx hb dX7_sheet_39 rfl (lv_at hl 3 rfl) ?_
              refine lv_if_ge (tgt := 49) hx hb dX7_sheet_40 (by decide) (fun c161 => ?_) (fun c161 => ?_)
              · replace h := zif_t c161 h
                refine lv_iload_n hx hb dX7_sheet_49 rfl (lv_at hl 2 rfl) ?_
                refine lv_if_eq (tgt := 65) hx hb dX7_sheet_50 (by decide) (fun c162 => ?_) (fun c162 => ?_)
                · replace h := zif_t c162 h
                  refine lv_aload_n hx hb dX7_sheet_65 rfl (lv_at hl 0 rfl) ?_
                  refine gtX7_49 X hw dX7_sheet_66 ?_
                  refine lv_iload_n hx hb dX7_sheet_69 rfl (lv_at hl 1 rfl) ?_
                  refine lv_iload_n hx hb dX7_sheet_70 rfl (lv_at hl 2 rfl) ?_
                  refine lv_iload_n hx hb dX7_sheet_71 rfl (lv_at hl 2 rfl) ?_
                  refine lv_if_ne (tgt := 79) hx hb dX7_sheet_72 (by decide) (fun c163 => ?_) (fun c163 => ?_)
                  · replace h := zif_f c163 h
                    refine lv_iload_n hx hb dX7_sheet_79 rfl (lv_at hl 3 rfl) ?_
                    obtain ⟨M165, f166, h⟩ := zbv_e h
                    refine z_qVv (As := [.int p0, .int p1, .int p2]) (rest := []) X hw (kX4_begin l D cy a p0 p1 p2 M2 M165 f166) (cwX7_232 X.2.2.2.2.2.1 rfl rfl (zroomO (Nat.le_of_ble_eq_true rfl) (Nat.le_of_ble_eq_true rfl))) (zX4_lt zX4_78) (zS4 zX4_78 cy a (M2 78)) rfl rfl rfl (Nat.le_of_ble_eq_true rfl) hl.1 hcs dX7_sheet_80 (fun H locs hw => ?_)
                    refine lv_iconst (v := 1) hx hb dX7_sheet_83 (by decide) ?_
                    exact z_ri X hw (zret h) dX7_sheet_84
                  · replace h := zif_t c163 h
                    refine lv_iconst (v := 0) hx hb dX7_sheet_75 (by decide) ?_
                    refine lv_goto (tgt := 80) hx hb dX7_sheet_76 (by decide) ?_
                    obtain ⟨M168, f169, h⟩ := zbv_e h
                    refine z_qVv (As := [.int p0, .int p1, .int (0 : Int32)]) (rest := []) X hw (kX4_begin l D cy a p0 p1 (0 : Int32) M2 M168 f169) (cwX7_232 X.2.2.2.2.2.1 rfl rfl (zroomO (Nat.le_of_ble_eq_true rfl) (Nat.le_of_ble_eq_true rfl))) (zX4_lt zX4_78) (zS4 zX4_78 cy a (M2 78)) rfl rfl rfl (Nat.le_of_ble_eq_true rfl) hl.1 hcs dX7_sheet_80 (fun H locs hw => ?_)
                    refine lv_iconst (v := 1) hx hb dX7_sheet_83 (by decide) ?_
                    exact z_ri X hw (zret h) dX7_sheet_84
                · replace h := zif_f c162 h
                  refine lv_iload_n hx hb dX7_sheet_53 rfl (lv_at hl 3 rfl) ?_
                  refine lv_bipush (v := 24) hx hb dX7_sheet_54 (by decide) ?_
                  refine lv_icmp_le (tgt := 65) hx hb dX7_sheet_56 (by decide) (fun c170 => ?_) (fun c170 => ?_)
                  · replace h := zif_t c170 h
                    refine lv_aload_n hx hb dX7_sheet_65 rfl (lv_at hl 0 rfl) ?_
                    refine gtX7_49 X hw dX7_sheet_66 ?_
                    refine lv_iload_n hx hb dX7_sheet_69 rfl (lv_at hl 1 rfl) ?_
                    refine lv_iload_n hx hb dX7_sheet_70 rfl (lv_at hl 2 rfl) ?_
                    refine lv_iload_n hx hb dX7_sheet_71 rfl (lv_at hl 2 rfl) ?_
                    refine lv_if_ne (tgt := 79) hx hb dX7_sheet_72 (by decide) (fun c171 => ?_) (fun c171 => ?_)
                    · replace h := zif_f c171 h
                      refine lv_iload_n hx hb dX7_sheet_79 rfl (lv_at hl 3 rfl) ?_
                      obtain ⟨M173, f174, h⟩ := zbv_e h
                      refine z_qVv (As := [.int p0, .int p1, .int p2]) (rest := []) X hw (kX4_begin l D cy a p0 p1 p2 M2 M173 f174) (cwX7_232 X.2.2.2.2.2.1 rfl rfl (zroomO (Nat.le_of_ble_eq_true rfl) (Nat.le_of_ble_eq_true rfl))) (zX4_lt zX4_78) (zS4 zX4_78 cy a (M2 78)) rfl rfl rfl (Nat.le_of_ble_eq_true rfl) hl.1 hcs dX7_sheet_80 (fun H locs hw => ?_)
                      refine lv_iconst (v := 1) hx hb dX7_sheet_83 (by decide) ?_
                      exact z_ri X hw (zret h) dX7_sheet_84
                    · replace h := zif_t c171 h
                      refine lv_iconst (v := 0) hx hb dX7_sheet_75 (by decide) ?_
                      refine lv_goto (tgt := 80) hx hb dX7_sheet_76 (by decide) ?_
                      obtain ⟨M176, f177, h⟩ := zbv_e h
                      refine z_qVv (As := [.int p0, .int p1, .int (0 : Int32)]) (rest := []) X hw (kX4_begin l D cy a p0 p1 (0 : Int32) M2 M176 f177) (cwX7_232 X.2.2.2.2.2.1 rfl rfl (zroomO (Nat.le_of_ble_eq_true rfl) (Nat.le_of_ble_eq_true rfl))) (zX4_lt zX4_78) (zS4 zX4_78 cy a (M2 78)) rfl rfl rfl (Nat.le_of_ble_eq_true rfl) hl.1 hcs dX7_sheet_80 (fun H locs hw => ?_)
                      refine lv_iconst (v := 1) hx hb dX7_sheet_83 (by decide) ?_
                      exact z_ri X hw (zret h) dX7_sheet_84
                  · replace h := zif_f c170 h
                    refine lv_aload_n hx hb dX7_sheet_59 rfl (lv_at hl 0 rfl) ?_
                    refine lv_iconst (v := 1) hx hb dX7_sheet_60 (by decide) ?_
                    obtain ⟨r178, M179, f180, h⟩ := zbi_e h
                    refine z_qVi (As := [.int (1 : Int32)]) (rest := []) X hw (kX7_error l D cy a (1 : Int32) M2 r178 M179 f180) (cwX7_61 X.2.2.2.2.2.1 rfl rfl (zroomO (Nat.le_of_ble_eq_true rfl) (Nat.le_of_ble_eq_true rfl))) (zX7_lt (rfl : zX7 0)) (zS7 (rfl : zX7 0) cy a (M2 0)) rfl rfl rfl (Nat.le_of_ble_eq_true rfl) hl.1 hcs dX7_sheet_61 (fun H locs hw => ?_)
                    exact z_ri X hw (zret h) dX7_sheet_64
              · replace h := zif_f c161 h
                refine lv_aload_n hx hb dX7_sheet_43 rfl (lv_at hl 0 rfl) ?_
                refine lv_iconst (v := 3) hx hb dX7_sheet_44 (by decide) ?_
                obtain ⟨r181, M182, f183, h⟩ := zbi_e h
                refine z_qVi (As := [.int (3 : Int32)]) (rest := []) X hw (kX7_error l D cy a (3 : Int32) M2 r181 M182 f183) (cwX7_61 X.2.2.2.2.2.1 rfl rfl (zroomO (Nat.le_of_ble_eq_true rfl) (Nat.le_of_ble_eq_true rfl))) (zX7_lt (rfl : zX7 0)) (zS7 (rfl : zX7 0) cy a (M2 0)) rfl rfl rfl (Nat.le_of_ble_eq_true rfl) hl.1 hcs dX7_sheet_45 (fun H locs hw => ?_)
                exact z_ri X hw (zret h) dX7_sheet_48
          · replace h := zif_f c140 h
            refine lv_aload_n hx hb dX7_sheet_29 rfl (lv_at hl 0 rfl) ?_
            refine lv_iconst (v := 1) hx hb dX7_sheet_30 (by decide) ?_
            obtain ⟨r184, M185, f186, h⟩ := zbi_e h
            refine z_qVi (As := [.int (1 : Int32)]) (rest := []) X hw (kX7_error l D cy a (1 : Int32) M2 r184 M185 f186) (cwX7_61 X.2.2.2.2.2.1 rfl rfl (zroomO (Nat.le_of_ble_eq_true rfl) (Nat.le_of_ble_eq_true rfl))) (zX7_lt (rfl : zX7 0)) (zS7 (rfl : zX7 0) cy a (M2 0)) rfl rfl rfl (Nat.le_of_ble_eq_true rfl) hl.1 hcs dX7_sheet_31 (fun H locs hw => ?_)
            exact z_ri X hw (zret h) dX7_sheet_34
def fX7_put (p0 : Int32) (p1 : Int32) (p2 : Int32) (M : zM) : Option (Int32 × zM) := zbi (fX7_noSheet p0 M) (fun r1 M2 => if r1 = 0 then (zbi (fX4_isMissing p0 M2) (fun r5 M6 => if r5 = 0 then (zgd (p0 < 0 ∨ 4 ≤ p0.toNatClampNeg) (zbi (fX7_outside p1 (0 : Int32) ((M6 81 (p0.toNatClampNeg)) - (1 : Int32)) M6) (fun r10 M11 => if r10 = 0 then (zgd (p0 < 0 ∨ 4 ≤ p0.toNatClampNeg) (zlt (82 + p0.toNatClampNeg) (fun w15 => zbi (fX4_lowest p0 p2 M11) (fun r16 M17 => zgd (p1 < 0 ∨ 24 ≤ p1.toNatClampNeg) (zlt (zst M17 w15 (p1.toNatClampNeg) r16) (fun M19 => some ((1 : Int32), M19))))))) else (zbi (fX7_error (1 : Int32) M11) (fun r21 M22 => some (r21, M22)))))) else (zbi (fX7_error (2 : Int32) M6) (fun r24 M25 => some (r24, M25))))) else (zbi (fX7_error (1 : Int32) M2) (fun r27 M28 => some (r27, M28))))
set_option maxRecDepth 100000 in
set_option maxHeartbeats 4000000 in
theorem kX7_put (l : Launch) (D : va_G) (cy : Nat → ClassId) (a : Nat → Nat) (p0 : Int32) (p1 : Int32) (p2 : Int32) (M : zM) (r0 : Int32) (M0 : zM) (h : fX7_put p0 p1 p2 M = some (r0, M0)) : zCi l D cy a yX7_put cX7_put 4 (some .int) (zRm 2 42) [.ref (a 0), .int p0, .int p1, .int p2] M (fun r u => r = r0 ∧ u = M0) := by
  intro sz
  refine zent_i sz (by decide) (Nat.le_of_ble_eq_true rfl) rfl (fun p e s m args below meth c ls H locs X hw hl => ?_)
  obtain ⟨hx, hb, hr, hml, hown, hW, hlocks⟩ := id X
  have hE := hw.2.2.2.2.1
  have hcs : 0 ≤ ((zRm 2 42)).cells ∧ 0 ≤ ((zRm 2 42)).slots := ⟨Nat.zero_le _, Nat.zero_le _⟩
  rw [fX7_put] at h
  refine lv_iload_n hx hb dX7_put_0 rfl (lv_at hl 1 rfl) ?_
  obtain ⟨r1, M2, f3, h⟩ := zbi_e h
  refine z_qSi (As := [.int p0]) (rest := []) X hw (kX7_noSheet l D cy a p0 M r1 M2 f3) (cwX7_229 X.2.2.2.2.2.1 rfl rfl (zroomO (Nat.le_of_ble_eq_true rfl) (Nat.le_of_ble_eq_true rfl))) rfl rfl (Nat.le_of_ble_eq_true rfl) hl.1 hcs dX7_put_1 (fun H locs hw => ?_)
  refine lv_if_eq (tgt := 13) hx hb dX7_put_4 (by decide) (fun c4 => ?_) (fun c4 => ?_)
  · replace h := zif_t c4 h
    refine lv_aload_n hx hb dX7_put_13 rfl (lv_at hl 0 rfl) ?_
    refine gtX7_49 X hw dX7_put_14 ?_
    refine lv_iload_n hx hb dX7_put_17 rfl (lv_at hl 1 rfl) ?_
    obtain ⟨r5, M6, f7, h⟩ := zbi_e h
    refine z_qVi (As := [.int p0]) (rest := []) X hw (kX4_isMissing l D cy a p0 M2 r5 M6 f7) (cwX7_235 X.2.2.2.2.2.1 rfl rfl (zroomO (Nat.le_of_ble_eq_true rfl) (Nat.le_of_ble_eq_true rfl))) (zX4_lt zX4_78) (zS4 zX4_78 cy a (M2 78)) rfl rfl rfl (Nat.le_of_ble_eq_true rfl) hl.1 hcs dX7_put_18 (fun H locs hw => ?_)
    refine lv_if_eq (tgt := 30) hx hb dX7_put_21 (by decide) (fun c8 => ?_) (fun c8 => ?_)
    · replace h := zif_t c8 h
      refine lv_iload_n hx hb dX7_put_30 rfl (lv_at hl 2 rfl) ?_
      refine lv_iconst (v := 0) hx hb dX7_put_31 (by decide) ?_
      refine lv_aload_n hx hb dX7_put_32 rfl (lv_at hl 0 rfl) ?_
      refine gtX7_49 X hw dX7_put_33 ?_
      refine gtX7_238 X hw dX7_put_36 ?_
      refine lv_iload_n hx hb dX7_put_39 rfl (lv_at hl 1 rfl) ?_
      obtain ⟨g9, h⟩ := zgd_e h
      refine z_ald X hw (zI_4_3 zX4_78) g9 dX7_put_40 ?_
      refine lv_iconst (v := 1) hx hb dX7_put_41 (by decide) ?_
      refine lv_isub hx hb dX7_put_42 ?_
      obtain ⟨r10, M11, f12, h⟩ := zbi_e h
      refine z_qSi (As := [.int p1, .int (0 : Int32), .int ((M6 81 (p0.toNatClampNeg)) - (1 : Int32))]) (rest := []) X hw (kX7_outside l D cy a p1 (0 : Int32) ((M6 81 (p0.toNatClampNeg)) - (1 : Int32)) M6 r10 M11 f12) (cwX7_57 X.2.2.2.2.2.1 rfl rfl (zroomO (Nat.le_of_ble_eq_true rfl) (Nat.le_of_ble_eq_true rfl))) rfl rfl (Nat.le_of_ble_eq_true rfl) hl.1 hcs dX7_put_43 (fun H locs hw => ?_)
      refine lv_if_eq (tgt := 55) hx hb dX7_put_46 (by decide) (fun c13 => ?_) (fun c13 => ?_)
      · replace h := zif_t c13 h
        refine lv_aload_n hx hb dX7_put_55 rfl (lv_at hl 0 rfl) ?_
        refine gtX7_49 X hw dX7_put_56 ?_
        refine gtX7_241 X hw dX7_put_59 ?_
        refine lv_iload_n hx hb dX7_put_62 rfl (lv_at hl 1 rfl) ?_
        obtain ⟨g14, h⟩ := zgd_e h
        refine z_aldI X hw (zRI_4_1 zX4_78) g14 dX7_put_63 (fun w15 ew15 hw15 => ?_)
        replace h := zlt_s ew15 h
        refine lv_iload_n hx hb dX7_put_64 rfl (lv_at hl 2 rfl) ?_
        refine lv_aload_n hx hb dX7_put_65 rfl (lv_at hl 0 rfl) ?_
        refine gtX7_49 X hw dX7_put_66 ?_
        refine lv_iload_n hx hb dX7_put_69 rfl (lv_at hl 1 rfl) ?_
        refine lv_iload_n hx hb dX7_put_70 rfl (lv_at hl 3 rfl) ?_
        obtain ⟨r16, M17, f18, h⟩ := zbi_e h
        refine z_qVi (As := [.int p0, .int p2]) (rest := [.int p1, .ref (a w15)]) X hw (kX4_lowest l D cy a p0 p2 M11 r16 M17 f18) (cwX7_245 X.2.2.2.2.2.1 rfl rfl (zroomO (Nat.le_of_ble_eq_true rfl) (Nat.le_of_ble_eq_true rfl))) (zX4_lt zX4_78) (zS4 zX4_78 cy a (M11 78)) rfl rfl rfl (Nat.le_of_ble_eq_true rfl) hl.1 hcs dX7_put_71 (fun H locs hw => ?_)
        obtain ⟨g20, h⟩ := zgd_e h
        refine z_ast X hw hw15 g20 dX7_put_74 (fun M19 H locs eM19 hw => ?_)
        replace h := zlt_s eM19 h
        refine lv_iconst (v := 1) hx hb dX7_put_75 (by decide) ?_
        exact z_ri X hw (zret h) dX7_put_76
      · replace h := zif_f c13 h
        refine lv_aload_n hx hb dX7_put_49 rfl (lv_at hl 0 rfl) ?_
        refine lv_iconst (v := 1) hx hb dX7_put_50 (by decide) ?_
        obtain ⟨r21, M22, f23, h⟩ := zbi_e h
        refine z_qVi (As := [.int (1 : Int32)]) (rest := []) X hw (kX7_error l D cy a (1 : Int32) M11 r21 M22 f23) (cwX7_61 X.2.2.2.2.2.1 rfl rfl (zroomO (Nat.le_of_ble_eq_true rfl) (Nat.le_of_ble_eq_true rfl))) (zX7_lt (rfl : zX7 0)) (zS7 (rfl : zX7 0) cy a (M11 0)) rfl rfl rfl (Nat.le_of_ble_eq_true rfl) hl.1 hcs dX7_put_51 (fun H locs hw => ?_)
        exact z_ri X hw (zret h) dX7_put_54
    · replace h := zif_f c8 h
      refine lv_aload_n hx hb dX7_put_24 rfl (lv_at hl 0 rfl) ?_
      refine lv_iconst (v := 2) hx hb dX7_put_25 (by decide) ?_
      obtain ⟨r24, M25, f26, h⟩ := zbi_e h
      refine z_qVi (As := [.int (2 : Int32)]) (rest := []) X hw (kX7_error l D cy a (2 : Int32) M6 r24 M25 f26) (cwX7_61 X.2.2.2.2.2.1 rfl rfl (zroomO (Nat.le_of_ble_eq_true rfl) (Nat.le_of_ble_eq_true rfl))) (zX7_lt (rfl : zX7 0)) (zS7 (rfl : zX7 0) cy a (M6 0)) rfl rfl rfl (Nat.le_of_ble_eq_true rfl) hl.1 hcs dX7_put_26 (fun H locs hw => ?_)
      exact z_ri X hw (zret h) dX7_put_29
  · replace h := zif_f c4 h
    refine lv_aload_n hx hb dX7_put_7 rfl (lv_at hl 0 rfl) ?_
    refine lv_iconst (v := 1) hx hb dX7_put_8 (by decide) ?_
    obtain ⟨r27, M28, f29, h⟩ := zbi_e h
    refine z_qVi (As := [.int (1 : Int32)]) (rest := []) X hw (kX7_error l D cy a (1 : Int32) M2 r27 M28 f29) (cwX7_61 X.2.2.2.2.2.1 rfl rfl (zroomO (Nat.le_of_ble_eq_true rfl) (Nat.le_of_ble_eq_true rfl))) (zX7_lt (rfl : zX7 0)) (zS7 (rfl : zX7 0) cy a (M2 0)) rfl rfl rfl (Nat.le_of_ble_eq_true rfl) hl.1 hcs dX7_put_9 (fun H locs hw => ?_)
    exact z_ri X hw (zret h) dX7_put_12
def fX7_move (p0 : Int32) (p1 : Int32) (p2 : Int32) (p3 : Int32) (p4 : Int32) (M : zM) : Option (Int32 × zM) := zbi (fX7_noSheet p0 M) (fun r1 M2 => if r1 = 0 then (zbi (fX7_noSheet p2 M2) (fun r8 M9 => if r8 = 0 then (zbi (fX4_isMissing p0 M9) (fun r12 M13 => if r12 = 0 then (zbi (fX4_isMissing p2 M13) (fun r19 M20 => if r19 = 0 then (zgd (p0 < 0 ∨ 4 ≤ p0.toNatClampNeg) (zgd (p2 < 0 ∨ 4 ≤ p2.toNatClampNeg) (if M20 80 (p0.toNatClampNeg) = M20 80 (p2.toNatClampNeg) then (zbi (fX4_stand p0 p1 p4 M20) (fun r26 M27 => if r26 = 0 then (zbi (fX7_error (1 : Int32) M27) (fun r30 M31 => some (r30, M31))) else (zbi (fX4_stand p2 p3 p4 M27) (fun r33 M34 => if r33 = 0 then (zbi (fX7_error (1 : Int32) M34) (fun r43 M44 => some (r43, M44))) else (zgd (p0 < 0 ∨ 4 ≤ p0.toNatClampNeg) (zlt (82 + p0.toNatClampNeg) (fun w38 => zgd (p2 < 0 ∨ 4 ≤ p2.toNatClampNeg) (zlt (82 + p2.toNatClampNeg) (fun w40 => zgd (p1 < 0 ∨ p3 < 0 ∨ p4 < 0 ∨ 24 < p1.toNatClampNeg + p4.toNatClampNeg ∨ 24 < p3.toNatClampNeg + p4.toNatClampNeg) (zlt (zcp M34 w38 w40 p1 p3 p4) (fun M41 => some (p4, M41)))))))))))) else (zbi (fX7_error (5 : Int32) M20) (fun r46 M47 => some (r46, M47)))))) else (zbi (fX7_error (2 : Int32) M20) (fun r49 M50 => some (r49, M50))))) else (zbi (fX7_error (2 : Int32) M13) (fun r16 M17 => some (r16, M17))))) else (zbi (fX7_error (1 : Int32) M9) (fun r52 M53 => some (r52, M53))))) else (zbi (fX7_error (1 : Int32) M2) (fun r5 M6 => some (r5, M6))))
set_option maxRecDepth 100000 in
set_option maxHeartbeats 4000000 in
theorem kX7_move (l : Launch) (D : va_G) (cy : Nat → ClassId) (a : Nat → Nat) (p0 : Int32) (p1 : Int32) (p2 : Int32) (p3 : Int32) (p4 : Int32) (M : zM) (r0 : Int32) (M0 : zM) (h : fX7_move p0 p1 p2 p3 p4 M = some (r0, M0)) : zCi l D cy a yX7_move cX7_move 6 (some .int) (zRm 2 60) [.ref (a 0), .int p0, .int p1, .int p2, .int p3, .int p4] M (fun r u => r = r0 ∧ u = M0) := by
  intro sz
  refine zent_i sz (by decide) (Nat.le_of_ble_eq_true rfl) rfl (fun p e s m args below meth c ls H locs X hw hl => ?_)
  obtain ⟨hx, hb, hr, hml, hown, hW, hlocks⟩ := id X
  have hE := hw.2.2.2.2.1
  have hcs : 0 ≤ ((zRm 2 60)).cells ∧ 0 ≤ ((zRm 2 60)).slots := ⟨Nat.zero_le _, Nat.zero_le _⟩
  rw [fX7_move] at h
  refine lv_iload_n hx hb dX7_move_0 rfl (lv_at hl 1 rfl) ?_
  obtain ⟨r1, M2, f3, h⟩ := zbi_e h
  refine z_qSi (As := [.int p0]) (rest := []) X hw (kX7_noSheet l D cy a p0 M r1 M2 f3) (cwX7_229 X.2.2.2.2.2.1 rfl rfl (zroomO (Nat.le_of_ble_eq_true rfl) (Nat.le_of_ble_eq_true rfl))) rfl rfl (Nat.le_of_ble_eq_true rfl) hl.1 hcs dX7_move_1 (fun H locs hw => ?_)
  refine lv_if_ne (tgt := 14) hx hb dX7_move_4 (by decide) (fun c4 => ?_) (fun c4 => ?_)
  · replace h := zif_f c4 h
    refine lv_aload_n hx hb dX7_move_14 rfl (lv_at hl 0 rfl) ?_
    refine lv_iconst (v := 1) hx hb dX7_move_15 (by decide) ?_
    obtain ⟨r5, M6, f7, h⟩ := zbi_e h
    refine z_qVi (As := [.int (1 : Int32)]) (rest := []) X hw (kX7_error l D cy a (1 : Int32) M2 r5 M6 f7) (cwX7_61 X.2.2.2.2.2.1 rfl rfl (zroomO (Nat.le_of_ble_eq_true rfl) (Nat.le_of_ble_eq_true rfl))) (zX7_lt (rfl : zX7 0)) (zS7 (rfl : zX7 0) cy a (M2 0)) rfl rfl rfl (Nat.le_of_ble_eq_true rfl) hl.1 hcs dX7_move_16 (fun H locs hw => ?_)
    exact z_ri X hw (zret h) dX7_move_19
  · replace h := zif_t c4 h
    refine lv_iload_n hx hb dX7_move_7 rfl (lv_at hl 3 rfl) ?_
    obtain ⟨r8, M9, f10, h⟩ := zbi_e h
    refine z_qSi (As := [.int p2]) (rest := []) X hw (kX7_noSheet l D cy a p2 M2 r8 M9 f10) (cwX7_229 X.2.2.2.2.2.1 rfl rfl (zroomO (Nat.le_of_ble_eq_true rfl) (Nat.le_of_ble_eq_true rfl))) rfl rfl (Nat.le_of_ble_eq_true rfl) hl.1 hcs dX7_move_8 (fun H locs hw => ?_)
    refine lv_if_eq (tgt := 20) hx hb dX7_move_11 (by decide) (fun c11 => ?_) (fun c11 => ?_)
    · replace h := zif_t c11 h
      refine lv_aload_n hx hb dX7_move_20 rfl (lv_at hl 0 rfl) ?_
      refine gtX7_49 X hw dX7_move_21 ?_
      refine lv_iload_n hx hb dX7_move_24 rfl (lv_at hl 1 rfl) ?_
      obtain ⟨r12, M13, f14, h⟩ := zbi_e h
      refine z_qVi (As := [.int p0]) (rest := []) X hw (kX4_isMissing l D cy a p0 M9 r12 M13 f14) (cwX7_235 X.2.2.2.2.2.1 rfl rfl (zroomO (Nat.le_of_ble_eq_true rfl) (Nat.le_of_ble_eq_true rfl))) (zX4_lt zX4_78) (zS4 zX4_78 cy a (M9 78)) rfl rfl rfl (Nat.le_of_ble_eq_true rfl) hl.1 hcs dX7_move_25 (fun H locs hw => ?_)
      refine lv_if_ne (tgt := 42) hx hb dX7_move_28 (by decide) (fun c15 => ?_) (fun c15 => ?_)
      · replace h := zif_f c15 h
        refine lv_aload_n hx hb dX7_move_42 rfl (lv_at hl 0 rfl) ?_
        refine lv_iconst (v := 2) hx hb dX7_move_43 (by decide) ?_
        obtain ⟨r16, M17, f18, h⟩ := zbi_e h
        refine z_qVi (As := [.int (2 : Int32)]) (rest := []) X hw (kX7_error l D cy a (2 : Int32) M13 r16 M17 f18) (cwX7_61 X.2.2.2.2.2.1 rfl rfl (zroomO (Nat.le_of_ble_eq_true rfl) (Nat.le_of_ble_eq_true rfl))) (zX7_lt (rfl : zX7 0)) (zS7 (rfl : zX7 0) cy a (M13 0)) rfl rfl rfl (Nat.le_of_ble_eq_true rfl) hl.1 hcs dX7_move_44 (fun H locs hw => ?_)
        exact z_ri X hw (zret h) dX7_move_47
      · replace h := zif_t c15 h
        refine lv_aload_n hx hb dX7_move_31 rfl (lv_at hl 0 rfl) ?_
        refine gtX7_49 X hw dX7_move_32 ?_
        refine lv_iload_n hx hb dX7_move_35 rfl (lv_at hl 3 rfl) ?_
        obtain ⟨r19, M20, f21, h⟩ := zbi_e h
        refine z_qVi (As := [.int p2]) (rest := []) X hw (kX4_isMissing l D cy a p2 M13 r19 M20 f21) (cwX7_235 X.2.2.2.2.2.1 rfl rfl (zroomO (Nat.le_of_ble_eq_true rfl) (Nat.le_of_ble_eq_true rfl))) (zX4_lt zX4_78) (zS4 zX4_78 cy a (M13 78)) rfl rfl rfl (Nat.le_of_ble_eq_true rfl) hl.1 hcs dX7_move_36 (fun H locs hw => ?_)
        refine lv_if_eq (tgt := 48) hx hb dX7_move_39 (by decide) (fun c22 => ?_) (fun c22 => ?_)
        · replace h := zif_t c22 h
          refine lv_aload_n hx hb dX7_move_48 rfl (lv_at hl 0 rfl) ?_
          refine gtX7_49 X hw dX7_move_49 ?_
          refine gtX7_248 X hw dX7_move_52 ?_
          refine lv_iload_n hx hb dX7_move_55 rfl (lv_at hl 1 rfl) ?_
          obtain ⟨g23, h⟩ := zgd_e h
          refine z_ald X hw (zI_4_2 zX4_78) g23 dX7_move_56 ?_
          refine lv_aload_n hx hb dX7_move_57 rfl (lv_at hl 0 rfl) ?_
          refine gtX7_49 X hw dX7_move_58 ?_
          refine gtX7_248 X hw dX7_move_61 ?_
          refine lv_iload_n hx hb dX7_move_64 rfl (lv_at hl 3 rfl) ?_
          obtain ⟨g24, h⟩ := zgd_e h
          refine z_ald X hw (zI_4_2 zX4_78) g24 dX7_move_65 ?_
          refine lv_icmp_eq (tgt := 75) hx hb dX7_move_66 (by decide) (fun c25 => ?_) (fun c25 => ?_)
          · replace h := zif_t c25 h
            refine lv_aload_n hx hb dX7_move_75 rfl (lv_at hl 0 rfl) ?_
            refine gtX7_49 X hw dX7_move_76 ?_
            refine lv_iload_n hx hb dX7_move_79 rfl (lv_at hl 1 rfl) ?_
            refine lv_iload_n hx hb dX7_move_80 rfl (lv_at hl 2 rfl) ?_
            refine lv_iload hx hb dX7_move_81 (lv_at hl 5 rfl) ?_
            obtain ⟨r26, M27, f28, h⟩ := zbi_e h
            refine z_qVi (As := [.int p0, .int p1, .int p4]) (rest := []) X hw (kX4_stand l D cy a p0 p1 p4 M20 r26 M27 f28) (cwX7_251 X.2.2.2.2.2.1 rfl rfl (zroomO (Nat.le_of_ble_eq_true rfl) (Nat.le_of_ble_eq_true rfl))) (zX4_lt zX4_78) (zS4 zX4_78 cy a (M20 78)) rfl rfl rfl (Nat.le_of_ble_eq_true rfl) hl.1 hcs dX7_move_83 (fun H locs hw => ?_)
            refine lv_if_eq (tgt := 104) hx hb dX7_move_86 (by decide) (fun c29 => ?_) (fun c29 => ?_)
            · replace h := zif_t c29 h
              refine lv_aload_n hx hb dX7_move_104 rfl (lv_at hl 0 rfl) ?_
              refine lv_iconst (v := 1) hx hb dX7_move_105 (by decide) ?_
              obtain ⟨r30, M31, f32, h⟩ := zbi_e h
              refine z_qVi (As := [.int (1 : Int32)]) (rest := []) X hw (kX7_error l D cy a (1 : Int32) M27 r30 M31 f32) (cwX7_61 X.2.2.2.2.2.1 rfl rfl (zroomO (Nat.le_of_ble_eq_true rfl) (Nat.le_of_ble_eq_true rfl))) (zX7_lt (rfl : zX7 0)) (zS7 (rfl : zX7 0) cy a (M27 0)) rfl rfl rfl (Nat.le_of_ble_eq_true rfl) hl.1 hcs dX7_move_106 (fun H locs hw => ?_)
              exact z_ri X hw (zret h) dX7_move_109
            · replace h := zif_f c29 h
              refine lv_aload_n hx hb dX7_move_89 rfl (lv_at hl 0 rfl) ?_
              refine gtX7_49 X hw dX7_move_90 ?_
              refine lv_iload_n hx hb dX7_move_93 rfl (lv_at hl 3 rfl) ?_
              refine lv_iload hx hb dX7_move_94 (lv_at hl 4 rfl) ?_
              refine lv_iload hx hb dX7_move_96 (lv_at hl 5 rfl) ?_
              obtain ⟨r33, M34, f35, h⟩ := zbi_e h
              refine z_qVi (As := [.int p2, .int p3, .int p4]) (rest := []) X hw (kX4_stand l D cy a p2 p3 p4 M27 r33 M34 f35) (cwX7_251 X.2.2.2.2.2.1 rfl rfl (zroomO (Nat.le_of_ble_eq_true rfl) (Nat.le_of_ble_eq_true rfl))) (zX4_lt zX4_78) (zS4 zX4_78 cy a (M27 78)) rfl rfl rfl (Nat.le_of_ble_eq_true rfl) hl.1 hcs dX7_move_98 (fun H locs hw => ?_)
              refine lv_if_ne (tgt := 110) hx hb dX7_move_101 (by decide) (fun c36 => ?_) (fun c36 => ?_)
              · replace h := zif_f c36 h
                refine lv_aload_n hx hb dX7_move_110 rfl (lv_at hl 0 rfl) ?_
                refine gtX7_49 X hw dX7_move_111 ?_
                refine gtX7_241 X hw dX7_move_114 ?_
                refine lv_iload_n hx hb dX7_move_117 rfl (lv_at hl 1 rfl) ?_
                obtain ⟨g37, h⟩ := zgd_e h
                refine z_aldI X hw (zRI_4_1 zX4_78) g37 dX7_move_118 (fun w38 ew38 hw38 => ?_)
                replace h := zlt_s ew38 h
                refine lv_iload_n hx hb dX7_move_119 rfl (lv_at hl 2 rfl) ?_
                refine lv_aload_n hx hb dX7_move_120 rfl (lv_at hl 0 rfl) ?_
                refine gtX7_49 X hw dX7_move_121 ?_
                refine gtX7_241 X hw dX7_move_124 ?_
                refine lv_iload_n hx hb dX7_move_127 rfl (lv_at hl 3 rfl) ?_
                obtain ⟨g39, h⟩ := zgd_e h
                refine z_aldI X hw (zRI_4_1 zX4_78) g39 dX7_move_128 (fun w40 ew40 hw40 => ?_)
                replace h := zlt_s ew40 h
                refine lv_iload hx hb dX7_move_129 (lv_at hl 4 rfl) ?_
                refine lv_iload hx hb dX7_move_131 (lv_at hl 5 rfl) ?_
                obtain ⟨g42, h⟩ := zgd_e h
                refine z_cpI (rest := []) X hw hw38 hw40 g42 zm_41_20 zm_25_7 zm_25_8 zm_25_9 hl.1 (Nat.le_of_ble_eq_true rfl) (Nat.le_of_ble_eq_true rfl) dX7_move_133 (fun M41 H locs eM41 hw => ?_)
                replace h := zlt_s eM41 h
                refine lv_iload hx hb dX7_move_136 (lv_at hl 5 rfl) ?_
                exact z_ri X hw (zret h) dX7_move_138
              · replace h := zif_t c36 h
                refine lv_aload_n hx hb dX7_move_104 rfl (lv_at hl 0 rfl) ?_
                refine lv_iconst (v := 1) hx hb dX7_move_105 (by decide) ?_
                obtain ⟨r43, M44, f45, h⟩ := zbi_e h
                refine z_qVi (As := [.int (1 : Int32)]) (rest := []) X hw (kX7_error l D cy a (1 : Int32) M34 r43 M44 f45) (cwX7_61 X.2.2.2.2.2.1 rfl rfl (zroomO (Nat.le_of_ble_eq_true rfl) (Nat.le_of_ble_eq_true rfl))) (zX7_lt (rfl : zX7 0)) (zS7 (rfl : zX7 0) cy a (M34 0)) rfl rfl rfl (Nat.le_of_ble_eq_true rfl) hl.1 hcs dX7_move_106 (fun H locs hw => ?_)
                exact z_ri X hw (zret h) dX7_move_109
          · replace h := zif_f c25 h
            refine lv_aload_n hx hb dX7_move_69 rfl (lv_at hl 0 rfl) ?_
            refine lv_iconst (v := 5) hx hb dX7_move_70 (by decide) ?_
            obtain ⟨r46, M47, f48, h⟩ := zbi_e h
            refine z_qVi (As := [.int (5 : Int32)]) (rest := []) X hw (kX7_error l D cy a (5 : Int32) M20 r46 M47 f48) (cwX7_61 X.2.2.2.2.2.1 rfl rfl (zroomO (Nat.le_of_ble_eq_true rfl) (Nat.le_of_ble_eq_true rfl))) (zX7_lt (rfl : zX7 0)) (zS7 (rfl : zX7 0) cy a (M20 0)) rfl rfl rfl (Nat.le_of_ble_eq_true rfl) hl.1 hcs dX7_move_71 (fun H locs hw => ?_)
            exact z_ri X hw (zret h) dX7_move_74
        · replace h := zif_f c22 h
          refine lv_aload_n hx hb dX7_move_42 rfl (lv_at hl 0 rfl) ?_
          refine lv_iconst (v := 2) hx hb dX7_move_43 (by decide) ?_
          obtain ⟨r49, M50, f51, h⟩ := zbi_e h
          refine z_qVi (As := [.int (2 : Int32)]) (rest := []) X hw (kX7_error l D cy a (2 : Int32) M20 r49 M50 f51) (cwX7_61 X.2.2.2.2.2.1 rfl rfl (zroomO (Nat.le_of_ble_eq_true rfl) (Nat.le_of_ble_eq_true rfl))) (zX7_lt (rfl : zX7 0)) (zS7 (rfl : zX7 0) cy a (M20 0)) rfl rfl rfl (Nat.le_of_ble_eq_true rfl) hl.1 hcs dX7_move_44 (fun H locs hw => ?_)
          exact z_ri X hw (zret h) dX7_move_47
    · replace h := zif_f c11 h
      refine lv_aload_n hx hb dX7_move_14 rfl (lv_at hl 0 rfl) ?_
      refine lv_iconst (v := 1) hx hb dX7_move_15 (by decide) ?_
      obtain ⟨r52, M53, f54, h⟩ := zbi_e h
      refine z_qVi (As := [.int (1 : Int32)]) (rest := []) X hw (kX7_error l D cy a (1 : Int32) M9 r52 M53 f54) (cwX7_61 X.2.2.2.2.2.1 rfl rfl (zroomO (Nat.le_of_ble_eq_true rfl) (Nat.le_of_ble_eq_true rfl))) (zX7_lt (rfl : zX7 0)) (zS7 (rfl : zX7 0) cy a (M9 0)) rfl rfl rfl (Nat.le_of_ble_eq_true rfl) hl.1 hcs dX7_move_16 (fun H locs hw => ?_)
      exact z_ri X hw (zret h) dX7_move_19
def fX7_forces_32 (y1 : Int32) (k : Int32 → zM → Option (Int32 × zM)) : Nat → Int32 → zM → Option (Int32 × zM)
  | 0, _, _ => none
  | n + 1, v2, M => zgd (y1 < 0 ∨ 4 ≤ y1.toNatClampNeg) (if M 81 (y1.toNatClampNeg) ≤ v2 then (k v2 M) else (if (24 : Int32) ≤ v2 then (k v2 M) else (zgd (y1 < 0 ∨ 4 ≤ y1.toNatClampNeg) (zlt (82 + y1.toNatClampNeg) (fun w13 => zgd (v2 < 0 ∨ 24 ≤ v2.toNatClampNeg) (zbi (fX7_outside (M w13 (v2.toNatClampNeg)) (0 : Int32) (99 : Int32) M) (fun r15 M16 => if r15 = 0 then (zgd (y1 < 0 ∨ 4 ≤ y1.toNatClampNeg) (zlt (82 + y1.toNatClampNeg) (fun w20 => zgd (v2 < 0 ∨ 24 ≤ v2.toNatClampNeg) (zgd (v2 < 0 ∨ 24 ≤ v2.toNatClampNeg) (zlt (zst M16 2 (v2.toNatClampNeg) (M16 w20 (v2.toNatClampNeg))) (fun M22 => zlt (v2 + (1 : Int32)) (fun x24 => fX7_forces_32 y1 k n x24 M22))))))) else (k v2 M16))))))))
set_option maxRecDepth 100000 in
set_option maxHeartbeats 4000000 in
theorem lX7_forces_32 {p : Program} {l : Launch} {e : Env} {s : State} {m : MethodId} {args : Array Value} {below : List Frame} {meth : Method} {c : Code} {D : va_G} {cy : Nat → ClassId} {a : Nat → Nat} {r0 : Int32} {M0 : zM} (X : zCX p s m meth c args cX7_forces 3 (some .int) RX7) (y1 : Int32) (k : Int32 → zM → Option (Int32 × zM)) : ∀ (n : Nat) (v2 : Int32) (M : zM) (H : Heap) (locs : List Loc) (ls : Array Slot), zWD D cy a (zfr a s.heap.size) M H locs s → lv_has ls 3 [(0, .ref (a 0)), (1, .int y1), (2, .int v2)] → fX7_forces_32 y1 k n v2 M = some (r0, M0) →
    (∀ (u2 : Int32) (M' : zM) (H' : Heap) (locs' : List Loc) (ls' : Array Slot), zWD D cy a (zfr a s.heap.size) M' H' locs' s → lv_has ls' 3 [(2, .int u2)] → k u2 M' = some (r0, M0) → W p l e (zRm 2 42) s m args below meth c H' locs' 0 0 (zQi D cy a s args below r0 M0) (F0 m 97 ls' [])) →
    W p l e (zRm 2 42) s m args below meth c H locs 0 0 (zQi D cy a s args below r0 M0) (F0 m 32 ls []) := by
  obtain ⟨hx, hb, hr, hml, hown, hW, hlocks⟩ := id X
  have hcs : 0 ≤ ((zRm 2 42)).cells ∧ 0 ≤ ((zRm 2 42)).slots := ⟨Nat.zero_le _, Nat.zero_le _⟩
  intro n
  induction n with
  | zero =>
    intro v2 M H locs ls hw hl h hk
    cases h
  | succ n ih =>
    intro v2 M H locs ls hw hl h hk
    have hE := hw.2.2.2.2.1
    rw [fX7_forces_32] at h
    refine lv_iload_n hx hb dX7_forces_32 rfl (lv_at hl 2 rfl) ?_
    refine lv_aload_n hx hb dX7_forces_33 rfl (lv_at hl 0 rfl) ?_
    refine gtX7_49 X hw dX7_forces_34 ?_
    refine gtX7_238 X hw dX7_forces_37 ?_
    refine lv_iload_n hx hb dX7_forces_40 rfl (lv_at hl 1 rfl) ?_
    obtain ⟨g9, h⟩ := zgd_e h
    refine z_ald X hw (zI_4_3 zX4_78) g9 dX7_forces_41 ?_
    refine lv_icmp_ge (tgt := 97) hx hb dX7_forces_42 (by decide) (fun c10 => ?_) (fun c10 => ?_)
    · replace h := zif_t c10 h
      exact hk v2 M H locs _ hw (lv_sub hl [2] rfl) h
    · replace h := zif_f c10 h
      refine lv_iload_n hx hb dX7_forces_45 rfl (lv_at hl 2 rfl) ?_
      refine lv_bipush (v := 24) hx hb dX7_forces_46 (by decide) ?_
      refine lv_icmp_ge (tgt := 97) hx hb dX7_forces_48 (by decide) (fun c11 => ?_) (fun c11 => ?_)
      · replace h := zif_t c11 h
        exact hk v2 M H locs _ hw (lv_sub hl [2] rfl) h
      · replace h := zif_f c11 h
        refine lv_aload_n hx hb dX7_forces_51 rfl (lv_at hl 0 rfl) ?_
        refine gtX7_49 X hw dX7_forces_52 ?_
        refine gtX7_241 X hw dX7_forces_55 ?_
        refine lv_iload_n hx hb dX7_forces_58 rfl (lv_at hl 1 rfl) ?_
        obtain ⟨g12, h⟩ := zgd_e h
        refine z_aldI X hw (zRI_4_1 zX4_78) g12 dX7_forces_59 (fun w13 ew13 hw13 => ?_)
        replace h := zlt_s ew13 h
        refine lv_iload_n hx hb dX7_forces_60 rfl (lv_at hl 2 rfl) ?_
        obtain ⟨g14, h⟩ := zgd_e h
        refine z_ald X hw hw13 g14 dX7_forces_61 ?_
        refine lv_iconst (v := 0) hx hb dX7_forces_62 (by decide) ?_
        refine lv_bipush (v := 99) hx hb dX7_forces_63 (by decide) ?_
        obtain ⟨r15, M16, f17, h⟩ := zbi_e h
        refine z_qSi (As := [.int (M w13 (v2.toNatClampNeg)), .int (0 : Int32), .int (99 : Int32)]) (rest := []) X hw (kX7_outside l D cy a (M w13 (v2.toNatClampNeg)) (0 : Int32) (99 : Int32) M r15 M16 f17) (cwX7_57 X.2.2.2.2.2.1 rfl rfl (zroomO (Nat.le_of_ble_eq_true rfl) (Nat.le_of_ble_eq_true rfl))) rfl rfl (Nat.le_of_ble_eq_true rfl) hl.1 hcs dX7_forces_65 (fun H locs hw => ?_)
        refine lv_if_ne (tgt := 97) hx hb dX7_forces_68 (by decide) (fun c18 => ?_) (fun c18 => ?_)
        · replace h := zif_f c18 h
          exact hk v2 M16 H locs _ hw (lv_sub hl [2] rfl) h
        · replace h := zif_t c18 h
          refine lv_aload_n hx hb dX7_forces_71 rfl (lv_at hl 0 rfl) ?_
          refine gtX7_10 X hw dX7_forces_72 ?_
          refine gtX7_65 X hw zX0_1 dX7_forces_75 ?_
          refine lv_iload_n hx hb dX7_forces_78 rfl (lv_at hl 2 rfl) ?_
          refine lv_aload_n hx hb dX7_forces_79 rfl (lv_at hl 0 rfl) ?_
          refine gtX7_49 X hw dX7_forces_80 ?_
          refine gtX7_241 X hw dX7_forces_83 ?_
          refine lv_iload_n hx hb dX7_forces_86 rfl (lv_at hl 1 rfl) ?_
          obtain ⟨g19, h⟩ := zgd_e h
          refine z_aldI X hw (zRI_4_1 zX4_78) g19 dX7_forces_87 (fun w20 ew20 hw20 => ?_)
          replace h := zlt_s ew20 h
          refine lv_iload_n hx hb dX7_forces_88 rfl (lv_at hl 2 rfl) ?_
          obtain ⟨g21, h⟩ := zgd_e h
          refine z_ald X hw hw20 g21 dX7_forces_89 ?_
          obtain ⟨g23, h⟩ := zgd_e h
          refine z_ast X hw (zI_0_1 zX0_1) g23 dX7_forces_90 (fun M22 H locs eM22 hw => ?_)
          replace h := zlt_s eM22 h
          obtain ⟨x24, ex24⟩ : ∃ y : Int32, y = v2 + (1 : Int32) := ⟨_, rfl⟩
          replace h := zlt_s ex24 h
          refine lv_iinc (v := x24) (lv' := [(2, .int x24), (0, .ref (a 0)), (1, .int y1)]) hx hb dX7_forces_91 hl (k := 2) rfl (by rw [ex24]; rfl) (by decide) rfl (fun ls hl => ?_)
          refine lv_goto (tgt := 32) hx hb dX7_forces_94 (by decide) ?_
          exact ih x24 M22 H locs _ hw (lv_sub hl [1, 2, 0] rfl) h hk
def fX7_forces (p0 : Int32) (M : zM) : Option (Int32 × zM) := zbi (fX7_noSheet p0 M) (fun r1 M2 => if r1 = 0 then (zbi (fX4_isMissing p0 M2) (fun r5 M6 => if r5 = 0 then (fX7_forces_32 p0 (fun x25 M26 => some (x25, M26)) zF (0 : Int32) M6) else (zbi (fX7_error (2 : Int32) M6) (fun r27 M28 => some (r27, M28))))) else (zbi (fX7_error (1 : Int32) M2) (fun r30 M31 => some (r30, M31))))
set_option maxRecDepth 100000 in
set_option maxHeartbeats 4000000 in
theorem kX7_forces (l : Launch) (D : va_G) (cy : Nat → ClassId) (a : Nat → Nat) (p0 : Int32) (M : zM) (r0 : Int32) (M0 : zM) (h : fX7_forces p0 M = some (r0, M0)) : zCi l D cy a yX7_forces cX7_forces 3 (some .int) (zRm 2 42) [.ref (a 0), .int p0] M (fun r u => r = r0 ∧ u = M0) := by
  intro sz
  refine zent_i sz (by decide) (Nat.le_of_ble_eq_true rfl) rfl (fun p e s m args below meth c ls H locs X hw hl => ?_)
  obtain ⟨hx, hb, hr, hml, hown, hW, hlocks⟩ := id X
  have hE := hw.2.2.2.2.1
  have hcs : 0 ≤ ((zRm 2 42)).cells ∧ 0 ≤ ((zRm 2 42)).slots := ⟨Nat.zero_le _, Nat.zero_le _⟩
  rw [fX7_forces] at h
  refine lv_iload_n hx hb dX7_forces_0 rfl (lv_at hl 1 rfl) ?_
  obtain ⟨r1, M2, f3, h⟩ := zbi_e h
  refine z_qSi (As := [.int p0]) (rest := []) X hw (kX7_noSheet l D cy a p0 M r1 M2 f3) (cwX7_229 X.2.2.2.2.2.1 rfl rfl (zroomO (Nat.le_of_ble_eq_true rfl) (Nat.le_of_ble_eq_true rfl))) rfl rfl (Nat.le_of_ble_eq_true rfl) hl.1 hcs dX7_forces_1 (fun H locs hw => ?_)
  refine lv_if_eq (tgt := 13) hx hb dX7_forces_4 (by decide) (fun c4 => ?_) (fun c4 => ?_)
  · replace h := zif_t c4 h
    refine lv_aload_n hx hb dX7_forces_13 rfl (lv_at hl 0 rfl) ?_
    refine gtX7_49 X hw dX7_forces_14 ?_
    refine lv_iload_n hx hb dX7_forces_17 rfl (lv_at hl 1 rfl) ?_
    obtain ⟨r5, M6, f7, h⟩ := zbi_e h
    refine z_qVi (As := [.int p0]) (rest := []) X hw (kX4_isMissing l D cy a p0 M2 r5 M6 f7) (cwX7_235 X.2.2.2.2.2.1 rfl rfl (zroomO (Nat.le_of_ble_eq_true rfl) (Nat.le_of_ble_eq_true rfl))) (zX4_lt zX4_78) (zS4 zX4_78 cy a (M2 78)) rfl rfl rfl (Nat.le_of_ble_eq_true rfl) hl.1 hcs dX7_forces_18 (fun H locs hw => ?_)
    refine lv_if_eq (tgt := 30) hx hb dX7_forces_21 (by decide) (fun c8 => ?_) (fun c8 => ?_)
    · replace h := zif_t c8 h
      refine lv_iconst (v := 0) hx hb dX7_forces_30 (by decide) ?_
      refine lv_istore_n (lv' := [(2, .int (0 : Int32)), (0, .ref (a 0)), (1, .int p0)]) hx hb dX7_forces_31 rfl hl (by decide) rfl (fun ls hl => ?_)
      refine lX7_forces_32 X p0 _ zF (0 : Int32) M6 H locs _ hw (lv_sub hl [1, 2, 0] rfl) h (fun x25 M26 H locs ls hw hl h => ?_)
      refine lv_iload_n hx hb dX7_forces_97 rfl (lv_at hl 0 rfl) ?_
      exact z_ri X hw (zret h) dX7_forces_98
    · replace h := zif_f c8 h
      refine lv_aload_n hx hb dX7_forces_24 rfl (lv_at hl 0 rfl) ?_
      refine lv_iconst (v := 2) hx hb dX7_forces_25 (by decide) ?_
      obtain ⟨r27, M28, f29, h⟩ := zbi_e h
      refine z_qVi (As := [.int (2 : Int32)]) (rest := []) X hw (kX7_error l D cy a (2 : Int32) M6 r27 M28 f29) (cwX7_61 X.2.2.2.2.2.1 rfl rfl (zroomO (Nat.le_of_ble_eq_true rfl) (Nat.le_of_ble_eq_true rfl))) (zX7_lt (rfl : zX7 0)) (zS7 (rfl : zX7 0) cy a (M6 0)) rfl rfl rfl (Nat.le_of_ble_eq_true rfl) hl.1 hcs dX7_forces_26 (fun H locs hw => ?_)
      exact z_ri X hw (zret h) dX7_forces_29
  · replace h := zif_f c4 h
    refine lv_aload_n hx hb dX7_forces_7 rfl (lv_at hl 0 rfl) ?_
    refine lv_iconst (v := 1) hx hb dX7_forces_8 (by decide) ?_
    obtain ⟨r30, M31, f32, h⟩ := zbi_e h
    refine z_qVi (As := [.int (1 : Int32)]) (rest := []) X hw (kX7_error l D cy a (1 : Int32) M2 r30 M31 f32) (cwX7_61 X.2.2.2.2.2.1 rfl rfl (zroomO (Nat.le_of_ble_eq_true rfl) (Nat.le_of_ble_eq_true rfl))) (zX7_lt (rfl : zX7 0)) (zS7 (rfl : zX7 0) cy a (M2 0)) rfl rfl rfl (Nat.le_of_ble_eq_true rfl) hl.1 hcs dX7_forces_9 (fun H locs hw => ?_)
    exact z_ri X hw (zret h) dX7_forces_12
def fX7_judge_39 (y1 : Int32) (k : Int32 → zM → Option (Int32 × zM)) : Nat → Int32 → zM → Option (Int32 × zM)
  | 0, _, _ => none
  | n + 1, v2, M => zgd (y1 < 0 ∨ 4 ≤ y1.toNatClampNeg) (if M 81 (y1.toNatClampNeg) ≤ v2 then (k v2 M) else (if (12 : Int32) ≤ v2 then (k v2 M) else (zgd (y1 < 0 ∨ 4 ≤ y1.toNatClampNeg) (zlt (82 + y1.toNatClampNeg) (fun w16 => zgd (v2 < 0 ∨ 24 ≤ v2.toNatClampNeg) (zgd (v2 < 0 ∨ 12 ≤ v2.toNatClampNeg) (if M w16 (v2.toNatClampNeg) = M 8 (v2.toNatClampNeg) then (zlt (v2 + (1 : Int32)) (fun x20 => fX7_judge_39 y1 k n x20 M)) else (k v2 M))))))))
set_option maxRecDepth 100000 in
set_option maxHeartbeats 4000000 in
theorem lX7_judge_39 {p : Program} {l : Launch} {e : Env} {s : State} {m : MethodId} {args : Array Value} {below : List Frame} {meth : Method} {c : Code} {D : va_G} {cy : Nat → ClassId} {a : Nat → Nat} {r0 : Int32} {M0 : zM} (X : zCX p s m meth c args cX7_judge 3 (some .int) RX7) (y1 : Int32) (k : Int32 → zM → Option (Int32 × zM)) : ∀ (n : Nat) (v2 : Int32) (M : zM) (H : Heap) (locs : List Loc) (ls : Array Slot), zWD D cy a (zfr a s.heap.size) M H locs s → lv_has ls 3 [(0, .ref (a 0)), (1, .int y1), (2, .int v2)] → fX7_judge_39 y1 k n v2 M = some (r0, M0) →
    (∀ (u2 : Int32) (M' : zM) (H' : Heap) (locs' : List Loc) (ls' : Array Slot), zWD D cy a (zfr a s.heap.size) M' H' locs' s → lv_has ls' 3 [(2, .int u2)] → k u2 M' = some (r0, M0) → W p l e (zRm 5 115) s m args below meth c H' locs' 0 0 (zQi D cy a s args below r0 M0) (F0 m 87 ls' [])) →
    W p l e (zRm 5 115) s m args below meth c H locs 0 0 (zQi D cy a s args below r0 M0) (F0 m 39 ls []) := by
  obtain ⟨hx, hb, hr, hml, hown, hW, hlocks⟩ := id X
  have hcs : 0 ≤ ((zRm 5 115)).cells ∧ 0 ≤ ((zRm 5 115)).slots := ⟨Nat.zero_le _, Nat.zero_le _⟩
  intro n
  induction n with
  | zero =>
    intro v2 M H locs ls hw hl h hk
    cases h
  | succ n ih =>
    intro v2 M H locs ls hw hl h hk
    have hE := hw.2.2.2.2.1
    rw [fX7_judge_39] at h
    refine lv_iload_n hx hb dX7_judge_39 rfl (lv_at hl 2 rfl) ?_
    refine lv_aload_n hx hb dX7_judge_40 rfl (lv_at hl 0 rfl) ?_
    refine gtX7_49 X hw dX7_judge_41 ?_
    refine gtX7_238 X hw dX7_judge_44 ?_
    refine lv_iload_n hx hb dX7_judge_47 rfl (lv_at hl 1 rfl) ?_
    obtain ⟨g12, h⟩ := zgd_e h
    refine z_ald X hw (zI_4_3 zX4_78) g12 dX7_judge_48 ?_
    refine lv_icmp_ge (tgt := 87) hx hb dX7_judge_49 (by decide) (fun c13 => ?_) (fun c13 => ?_)
    · replace h := zif_t c13 h
      exact hk v2 M H locs _ hw (lv_sub hl [2] rfl) h
    · replace h := zif_f c13 h
      refine lv_iload_n hx hb dX7_judge_52 rfl (lv_at hl 2 rfl) ?_
      refine lv_bipush (v := 12) hx hb dX7_judge_53 (by decide) ?_
      refine lv_icmp_ge (tgt := 87) hx hb dX7_judge_55 (by decide) (fun c14 => ?_) (fun c14 => ?_)
      · replace h := zif_t c14 h
        exact hk v2 M H locs _ hw (lv_sub hl [2] rfl) h
      · replace h := zif_f c14 h
        refine lv_aload_n hx hb dX7_judge_58 rfl (lv_at hl 0 rfl) ?_
        refine gtX7_49 X hw dX7_judge_59 ?_
        refine gtX7_241 X hw dX7_judge_62 ?_
        refine lv_iload_n hx hb dX7_judge_65 rfl (lv_at hl 1 rfl) ?_
        obtain ⟨g15, h⟩ := zgd_e h
        refine z_aldI X hw (zRI_4_1 zX4_78) g15 dX7_judge_66 (fun w16 ew16 hw16 => ?_)
        replace h := zlt_s ew16 h
        refine lv_iload_n hx hb dX7_judge_67 rfl (lv_at hl 2 rfl) ?_
        obtain ⟨g17, h⟩ := zgd_e h
        refine z_ald X hw hw16 g17 dX7_judge_68 ?_
        refine lv_aload_n hx hb dX7_judge_69 rfl (lv_at hl 0 rfl) ?_
        refine gtX7_10 X hw dX7_judge_70 ?_
        refine gtX7_126 X hw zX0_1 dX7_judge_73 ?_
        refine lv_iload_n hx hb dX7_judge_76 rfl (lv_at hl 2 rfl) ?_
        obtain ⟨g18, h⟩ := zgd_e h
        refine z_ald X hw (zI_0_7 zX0_1) g18 dX7_judge_77 ?_
        refine lv_icmp_ne (tgt := 87) hx hb dX7_judge_78 (by decide) (fun c19 => ?_) (fun c19 => ?_)
        · replace h := zif_f c19 h
          exact hk v2 M H locs _ hw (lv_sub hl [2] rfl) h
        · replace h := zif_t c19 h
          obtain ⟨x20, ex20⟩ : ∃ y : Int32, y = v2 + (1 : Int32) := ⟨_, rfl⟩
          replace h := zlt_s ex20 h
          refine lv_iinc (v := x20) (lv' := [(2, .int x20), (0, .ref (a 0)), (1, .int y1)]) hx hb dX7_judge_81 hl (k := 2) rfl (by rw [ex20]; rfl) (by decide) rfl (fun ls hl => ?_)
          refine lv_goto (tgt := 39) hx hb dX7_judge_84 (by decide) ?_
          exact ih x20 M H locs _ hw (lv_sub hl [1, 2, 0] rfl) h hk
def fX7_judge (p0 : Int32) (M : zM) : Option (Int32 × zM) := zbi (fX7_noSheet p0 M) (fun r1 M2 => if r1 = 0 then (zbi (fX4_isMissing p0 M2) (fun r5 M6 => if r5 = 0 then (zbv (fX0_letFlow 1 M6) (fun M10 => fX7_judge_39 p0 (fun x21 M22 => some (x21, M22)) zF (0 : Int32) M10)) else (zbi (fX7_error (2 : Int32) M6) (fun r23 M24 => some (r23, M24))))) else (zbi (fX7_error (1 : Int32) M2) (fun r26 M27 => some (r26, M27))))
set_option maxRecDepth 100000 in
set_option maxHeartbeats 4000000 in
theorem kX7_judge (l : Launch) (D : va_G) (cy : Nat → ClassId) (a : Nat → Nat) (p0 : Int32) (M : zM) (r0 : Int32) (M0 : zM) (h : fX7_judge p0 M = some (r0, M0)) : zCi l D cy a yX7_judge cX7_judge 3 (some .int) (zRm 5 115) [.ref (a 0), .int p0] M (fun r u => r = r0 ∧ u = M0) := by
  intro sz
  refine zent_i sz (by decide) (Nat.le_of_ble_eq_true rfl) rfl (fun p e s m args below meth c ls H locs X hw hl => ?_)
  obtain ⟨hx, hb, hr, hml, hown, hW, hlocks⟩ := id X
  have hE := hw.2.2.2.2.1
  have hcs : 0 ≤ ((zRm 5 115)).cells ∧ 0 ≤ ((zRm 5 115)).slots := ⟨Nat.zero_le _, Nat.zero_le _⟩
  rw [fX7_judge] at h
  refine lv_iload_n hx hb dX7_judge_0 rfl (lv_at hl 1 rfl) ?_
  obtain ⟨r1, M2, f3, h⟩ := zbi_e h
  refine z_qSi (As := [.int p0]) (rest := []) X hw (kX7_noSheet l D cy a p0 M r1 M2 f3) (cwX7_229 X.2.2.2.2.2.1 rfl rfl (zroomO (Nat.le_of_ble_eq_true rfl) (Nat.le_of_ble_eq_true rfl))) rfl rfl (Nat.le_of_ble_eq_true rfl) hl.1 hcs dX7_judge_1 (fun H locs hw => ?_)
  refine lv_if_eq (tgt := 13) hx hb dX7_judge_4 (by decide) (fun c4 => ?_) (fun c4 => ?_)
  · replace h := zif_t c4 h
    refine lv_aload_n hx hb dX7_judge_13 rfl (lv_at hl 0 rfl) ?_
    refine gtX7_49 X hw dX7_judge_14 ?_
    refine lv_iload_n hx hb dX7_judge_17 rfl (lv_at hl 1 rfl) ?_
    obtain ⟨r5, M6, f7, h⟩ := zbi_e h
    refine z_qVi (As := [.int p0]) (rest := []) X hw (kX4_isMissing l D cy a p0 M2 r5 M6 f7) (cwX7_235 X.2.2.2.2.2.1 rfl rfl (zroomO (Nat.le_of_ble_eq_true rfl) (Nat.le_of_ble_eq_true rfl))) (zX4_lt zX4_78) (zS4 zX4_78 cy a (M2 78)) rfl rfl rfl (Nat.le_of_ble_eq_true rfl) hl.1 hcs dX7_judge_18 (fun H locs hw => ?_)
    refine lv_if_eq (tgt := 30) hx hb dX7_judge_21 (by decide) (fun c8 => ?_) (fun c8 => ?_)
    · replace h := zif_t c8 h
      refine lv_aload_n hx hb dX7_judge_30 rfl (lv_at hl 0 rfl) ?_
      refine gtX7_10 X hw dX7_judge_31 ?_
      obtain ⟨M10, f11, h⟩ := zbv_e h
      refine z_qVv (As := []) (rest := []) X hw (kX0_letFlow l D cy a 1 zX0_1 M6 M10 f11) (cwX7_123 X.2.2.2.2.2.1 rfl rfl (zroomO (Nat.le_of_ble_eq_true rfl) (Nat.le_of_ble_eq_true rfl))) (zX0_lt zX0_1) (zS0 zX0_1 cy a (M6 1)) rfl rfl rfl (Nat.le_of_ble_eq_true rfl) hl.1 hcs dX7_judge_34 (fun H locs hw => ?_)
      refine lv_iconst (v := 0) hx hb dX7_judge_37 (by decide) ?_
      refine lv_istore_n (lv' := [(2, .int (0 : Int32)), (0, .ref (a 0)), (1, .int p0)]) hx hb dX7_judge_38 rfl hl (by decide) rfl (fun ls hl => ?_)
      refine lX7_judge_39 X p0 _ zF (0 : Int32) M10 H locs _ hw (lv_sub hl [1, 2, 0] rfl) h (fun x21 M22 H locs ls hw hl h => ?_)
      refine lv_iload_n hx hb dX7_judge_87 rfl (lv_at hl 0 rfl) ?_
      exact z_ri X hw (zret h) dX7_judge_88
    · replace h := zif_f c8 h
      refine lv_aload_n hx hb dX7_judge_24 rfl (lv_at hl 0 rfl) ?_
      refine lv_iconst (v := 2) hx hb dX7_judge_25 (by decide) ?_
      obtain ⟨r23, M24, f25, h⟩ := zbi_e h
      refine z_qVi (As := [.int (2 : Int32)]) (rest := []) X hw (kX7_error l D cy a (2 : Int32) M6 r23 M24 f25) (cwX7_61 X.2.2.2.2.2.1 rfl rfl (zroomO (Nat.le_of_ble_eq_true rfl) (Nat.le_of_ble_eq_true rfl))) (zX7_lt (rfl : zX7 0)) (zS7 (rfl : zX7 0) cy a (M6 0)) rfl rfl rfl (Nat.le_of_ble_eq_true rfl) hl.1 hcs dX7_judge_26 (fun H locs hw => ?_)
      exact z_ri X hw (zret h) dX7_judge_29
  · replace h := zif_f c4 h
    refine lv_aload_n hx hb dX7_judge_7 rfl (lv_at hl 0 rfl) ?_
    refine lv_iconst (v := 1) hx hb dX7_judge_8 (by decide) ?_
    obtain ⟨r26, M27, f28, h⟩ := zbi_e h
    refine z_qVi (As := [.int (1 : Int32)]) (rest := []) X hw (kX7_error l D cy a (1 : Int32) M2 r26 M27 f28) (cwX7_61 X.2.2.2.2.2.1 rfl rfl (zroomO (Nat.le_of_ble_eq_true rfl) (Nat.le_of_ble_eq_true rfl))) (zX7_lt (rfl : zX7 0)) (zS7 (rfl : zX7 0) cy a (M2 0)) rfl rfl rfl (Nat.le_of_ble_eq_true rfl) hl.1 hcs dX7_judge_9 (fun H locs hw => ?_)
    exact z_ri X hw (zret h) dX7_judge_12
def fX7_image (M : zM) : Option (Int32 × zM) := zbv (fX0_copyFrom 23 1 M) (fun M2 => zbv (fX1_copyFrom 70 67 M2) (fun M5 => zlt (zst M5 0 9 ((M5 0 9) + (1 : Int32))) (fun M7 => some (M7 0 9, M7))))
set_option maxRecDepth 100000 in
set_option maxHeartbeats 4000000 in
theorem kX7_image (l : Launch) (D : va_G) (cy : Nat → ClassId) (a : Nat → Nat) (M : zM) (r0 : Int32) (M0 : zM) (h : fX7_image  M = some (r0, M0)) : zCi l D cy a yX7_image cX7_image 1 (some .int) (zRm 3 104) [.ref (a 0)] M (fun r u => r = r0 ∧ u = M0) := by
  intro sz
  refine zent_i sz (by decide) (Nat.le_of_ble_eq_true rfl) rfl (fun p e s m args below meth c ls H locs X hw hl => ?_)
  obtain ⟨hx, hb, hr, hml, hown, hW, hlocks⟩ := id X
  have hE := hw.2.2.2.2.1
  have hcs : 0 ≤ ((zRm 3 104)).cells ∧ 0 ≤ ((zRm 3 104)).slots := ⟨Nat.zero_le _, Nat.zero_le _⟩
  rw [fX7_image] at h
  refine lv_aload_n hx hb dX7_image_0 rfl (lv_at hl 0 rfl) ?_
  refine gtX7_16 X hw dX7_image_1 ?_
  refine lv_aload_n hx hb dX7_image_4 rfl (lv_at hl 0 rfl) ?_
  refine gtX7_10 X hw dX7_image_5 ?_
  obtain ⟨M2, f3, h⟩ := zbv_e h
  refine z_qVv (As := [.ref (a 1)]) (rest := []) X hw (kX0_copyFrom l D cy a 23 zX0_23 1 zX0_1 M M2 f3) (cwX7_187 X.2.2.2.2.2.1 rfl rfl (zroomO (Nat.le_of_ble_eq_true rfl) (Nat.le_of_ble_eq_true rfl))) (zX0_lt zX0_23) (zS0 zX0_23 cy a (M 23)) rfl rfl rfl (Nat.le_of_ble_eq_true rfl) hl.1 hcs dX7_image_8 (fun H locs hw => ?_)
  refine lv_aload_n hx hb dX7_image_11 rfl (lv_at hl 0 rfl) ?_
  refine gtX7_29 X hw dX7_image_12 ?_
  refine lv_aload_n hx hb dX7_image_15 rfl (lv_at hl 0 rfl) ?_
  refine gtX7_25 X hw dX7_image_16 ?_
  obtain ⟨M5, f6, h⟩ := zbv_e h
  refine z_qVv (As := [.ref (a 67)]) (rest := []) X hw (kX1_copyFrom l D cy a 70 zX1_70 67 zX1_67 M2 M5 f6) (cwX7_260 X.2.2.2.2.2.1 rfl rfl (zroomO (Nat.le_of_ble_eq_true rfl) (Nat.le_of_ble_eq_true rfl))) (zX1_lt zX1_70) (zS1 zX1_70 cy a (M2 70)) rfl rfl rfl (Nat.le_of_ble_eq_true rfl) hl.1 hcs dX7_image_19 (fun H locs hw => ?_)
  refine lv_aload_n hx hb dX7_image_22 rfl (lv_at hl 0 rfl) ?_
  refine lv_dup hx hb dX7_image_23 rfl ?_
  refine gtX7_263 X hw dX7_image_24 ?_
  refine lv_iconst (v := 1) hx hb dX7_image_27 (by decide) ?_
  refine lv_iadd hx hb dX7_image_28 ?_
  refine ptX7_263 X hw dX7_image_29 (fun M7 H locs eM7 hw => ?_)
  replace h := zlt_s eM7 h
  refine lv_aload_n hx hb dX7_image_32 rfl (lv_at hl 0 rfl) ?_
  refine gtX7_263 X hw dX7_image_33 ?_
  exact z_ri X hw (zret h) dX7_image_36
def fX7_restore (M : zM) : Option (Int32 × zM) := if M 0 9 = 0 then (zbi (fX7_error (2 : Int32) M) (fun r8 M9 => some (r8, M9))) else (zbv (fX0_copyFrom 1 23 M) (fun M3 => zbv (fX1_copyFrom 67 70 M3) (fun M6 => some (M6 1 10, M6))))
set_option maxRecDepth 100000 in
set_option maxHeartbeats 4000000 in
theorem kX7_restore (l : Launch) (D : va_G) (cy : Nat → ClassId) (a : Nat → Nat) (M : zM) (r0 : Int32) (M0 : zM) (h : fX7_restore  M = some (r0, M0)) : zCi l D cy a yX7_restore cX7_restore 1 (some .int) (zRm 3 104) [.ref (a 0)] M (fun r u => r = r0 ∧ u = M0) := by
  intro sz
  refine zent_i sz (by decide) (Nat.le_of_ble_eq_true rfl) rfl (fun p e s m args below meth c ls H locs X hw hl => ?_)
  obtain ⟨hx, hb, hr, hml, hown, hW, hlocks⟩ := id X
  have hE := hw.2.2.2.2.1
  have hcs : 0 ≤ ((zRm 3 104)).cells ∧ 0 ≤ ((zRm 3 104)).slots := ⟨Nat.zero_le _, Nat.zero_le _⟩
  rw [fX7_restore] at h
  refine lv_aload_n hx hb dX7_restore_0 rfl (lv_at hl 0 rfl) ?_
  refine gtX7_263 X hw dX7_restore_1 ?_
  refine lv_if_ne (tgt := 13) hx hb dX7_restore_4 (by decide) (fun c1 => ?_) (fun c1 => ?_)
  · replace h := zif_f c1 h
    refine lv_aload_n hx hb dX7_restore_13 rfl (lv_at hl 0 rfl) ?_
    refine gtX7_10 X hw dX7_restore_14 ?_
    refine lv_aload_n hx hb dX7_restore_17 rfl (lv_at hl 0 rfl) ?_
    refine gtX7_16 X hw dX7_restore_18 ?_
    obtain ⟨M3, f4, h⟩ := zbv_e h
    refine z_qVv (As := [.ref (a 23)]) (rest := []) X hw (kX0_copyFrom l D cy a 1 zX0_1 23 zX0_23 M M3 f4) (cwX7_187 X.2.2.2.2.2.1 rfl rfl (zroomO (Nat.le_of_ble_eq_true rfl) (Nat.le_of_ble_eq_true rfl))) (zX0_lt zX0_1) (zS0 zX0_1 cy a (M 1)) rfl rfl rfl (Nat.le_of_ble_eq_true rfl) hl.1 hcs dX7_restore_21 (fun H locs hw => ?_)
    refine lv_aload_n hx hb dX7_restore_24 rfl (lv_at hl 0 rfl) ?_
    refine gtX7_25 X hw dX7_restore_25 ?_
    refine lv_aload_n hx hb dX7_restore_28 rfl (lv_at hl 0 rfl) ?_
    refine gtX7_29 X hw dX7_restore_29 ?_
    obtain ⟨M6, f7, h⟩ := zbv_e h
    refine z_qVv (As := [.ref (a 70)]) (rest := []) X hw (kX1_copyFrom l D cy a 67 zX1_67 70 zX1_70 M3 M6 f7) (cwX7_260 X.2.2.2.2.2.1 rfl rfl (zroomO (Nat.le_of_ble_eq_true rfl) (Nat.le_of_ble_eq_true rfl))) (zX1_lt zX1_67) (zS1 zX1_67 cy a (M3 67)) rfl rfl rfl (Nat.le_of_ble_eq_true rfl) hl.1 hcs dX7_restore_32 (fun H locs hw => ?_)
    refine lv_aload_n hx hb dX7_restore_35 rfl (lv_at hl 0 rfl) ?_
    refine gtX7_10 X hw dX7_restore_36 ?_
    refine gtX7_159 X hw zX0_1 dX7_restore_39 ?_
    exact z_ri X hw (zret h) dX7_restore_42
  · replace h := zif_t c1 h
    refine lv_aload_n hx hb dX7_restore_7 rfl (lv_at hl 0 rfl) ?_
    refine lv_iconst (v := 2) hx hb dX7_restore_8 (by decide) ?_
    obtain ⟨r8, M9, f10, h⟩ := zbi_e h
    refine z_qVi (As := [.int (2 : Int32)]) (rest := []) X hw (kX7_error l D cy a (2 : Int32) M r8 M9 f10) (cwX7_61 X.2.2.2.2.2.1 rfl rfl (zroomO (Nat.le_of_ble_eq_true rfl) (Nat.le_of_ble_eq_true rfl))) (zX7_lt (rfl : zX7 0)) (zS7 (rfl : zX7 0) cy a (M 0)) rfl rfl rfl (Nat.le_of_ble_eq_true rfl) hl.1 hcs dX7_restore_9 (fun H locs hw => ?_)
    exact z_ri X hw (zret h) dX7_restore_12
def fX7_tell (p0 : Int32) (M : zM) : Option (Int32 × zM) := if M 67 3 < (24 : Int32) then (zgd (M 67 3 < 0 ∨ 24 ≤ (M 67 3).toNatClampNeg) (zlt (zst M 69 ((M 67 3).toNatClampNeg) p0) (fun M2 => zlt (zst M2 67 3 ((M2 67 3) + (1 : Int32))) (fun M4 => some (M4 67 3, M4))))) else (zbi (fX7_error (4 : Int32) M) (fun r5 M6 => some (r5, M6)))
set_option maxRecDepth 100000 in
set_option maxHeartbeats 4000000 in
theorem kX7_tell (l : Launch) (D : va_G) (cy : Nat → ClassId) (a : Nat → Nat) (p0 : Int32) (M : zM) (r0 : Int32) (M0 : zM) (h : fX7_tell p0 M = some (r0, M0)) : zCi l D cy a yX7_tell cX7_tell 2 (some .int) (zRm 1 21) [.ref (a 0), .int p0] M (fun r u => r = r0 ∧ u = M0) := by
  intro sz
  refine zent_i sz (by decide) (Nat.le_of_ble_eq_true rfl) rfl (fun p e s m args below meth c ls H locs X hw hl => ?_)
  obtain ⟨hx, hb, hr, hml, hown, hW, hlocks⟩ := id X
  have hE := hw.2.2.2.2.1
  have hcs : 0 ≤ ((zRm 1 21)).cells ∧ 0 ≤ ((zRm 1 21)).slots := ⟨Nat.zero_le _, Nat.zero_le _⟩
  rw [fX7_tell] at h
  refine lv_aload_n hx hb dX7_tell_0 rfl (lv_at hl 0 rfl) ?_
  refine gtX7_25 X hw dX7_tell_1 ?_
  refine gtX7_266 X hw zX1_67 dX7_tell_4 ?_
  refine lv_bipush (v := 24) hx hb dX7_tell_7 (by decide) ?_
  refine lv_icmp_lt (tgt := 18) hx hb dX7_tell_9 (by decide) (fun c1 => ?_) (fun c1 => ?_)
  · replace h := zif_t c1 h
    refine lv_aload_n hx hb dX7_tell_18 rfl (lv_at hl 0 rfl) ?_
    refine gtX7_25 X hw dX7_tell_19 ?_
    refine gtX7_269 X hw zX1_67 dX7_tell_22 ?_
    refine lv_aload_n hx hb dX7_tell_25 rfl (lv_at hl 0 rfl) ?_
    refine gtX7_25 X hw dX7_tell_26 ?_
    refine gtX7_266 X hw zX1_67 dX7_tell_29 ?_
    refine lv_iload_n hx hb dX7_tell_32 rfl (lv_at hl 1 rfl) ?_
    obtain ⟨g3, h⟩ := zgd_e h
    refine z_ast X hw (zI_1_2 zX1_67) g3 dX7_tell_33 (fun M2 H locs eM2 hw => ?_)
    replace h := zlt_s eM2 h
    refine lv_aload_n hx hb dX7_tell_34 rfl (lv_at hl 0 rfl) ?_
    refine gtX7_25 X hw dX7_tell_35 ?_
    refine lv_dup hx hb dX7_tell_38 rfl ?_
    refine gtX7_266 X hw zX1_67 dX7_tell_39 ?_
    refine lv_iconst (v := 1) hx hb dX7_tell_42 (by decide) ?_
    refine lv_iadd hx hb dX7_tell_43 ?_
    refine ptX7_266 X hw zX1_67 dX7_tell_44 (fun M4 H locs eM4 hw => ?_)
    replace h := zlt_s eM4 h
    refine lv_aload_n hx hb dX7_tell_47 rfl (lv_at hl 0 rfl) ?_
    refine gtX7_25 X hw dX7_tell_48 ?_
    refine gtX7_266 X hw zX1_67 dX7_tell_51 ?_
    exact z_ri X hw (zret h) dX7_tell_54
  · replace h := zif_f c1 h
    refine lv_aload_n hx hb dX7_tell_12 rfl (lv_at hl 0 rfl) ?_
    refine lv_iconst (v := 4) hx hb dX7_tell_13 (by decide) ?_
    obtain ⟨r5, M6, f7, h⟩ := zbi_e h
    refine z_qVi (As := [.int (4 : Int32)]) (rest := []) X hw (kX7_error l D cy a (4 : Int32) M r5 M6 f7) (cwX7_61 X.2.2.2.2.2.1 rfl rfl (zroomO (Nat.le_of_ble_eq_true rfl) (Nat.le_of_ble_eq_true rfl))) (zX7_lt (rfl : zX7 0)) (zS7 (rfl : zX7 0) cy a (M 0)) rfl rfl rfl (Nat.le_of_ble_eq_true rfl) hl.1 hcs dX7_tell_14 (fun H locs hw => ?_)
    exact z_ri X hw (zret h) dX7_tell_17
def fX7_check_43 (y1 : Int32) (y2 : Int32) (k : zM → Option (Int32 × zM)) : Nat → Int32 → zM → Option (Int32 × zM)
  | 0, _, _ => none
  | n + 1, v3, M => if y2 ≤ v3 then (k  M) else (zbi (fX0_passHour 45 M) (fun r11 M12 => zgd (y1 < 0 ∨ 8 ≤ y1.toNatClampNeg) (zlt (53 + y1.toNatClampNeg) (fun w15 => zgd (v3 < 0 ∨ 24 ≤ v3.toNatClampNeg) (if M12 w15 5 = M12 69 (v3.toNatClampNeg) then (zlt (v3 + (1 : Int32)) (fun x18 => fX7_check_43 y1 y2 k n x18 M12)) else (some ((1 : Int32) + v3, M12)))))))
set_option maxRecDepth 100000 in
set_option maxHeartbeats 4000000 in
theorem lX7_check_43 {p : Program} {l : Launch} {e : Env} {s : State} {m : MethodId} {args : Array Value} {below : List Frame} {meth : Method} {c : Code} {D : va_G} {cy : Nat → ClassId} {a : Nat → Nat} {r0 : Int32} {M0 : zM} (X : zCX p s m meth c args cX7_check 4 (some .int) RX7) (y1 : Int32) (y2 : Int32) (k : zM → Option (Int32 × zM)) : ∀ (n : Nat) (v3 : Int32) (M : zM) (H : Heap) (locs : List Loc) (ls : Array Slot), zWD D cy a (zfr a s.heap.size) M H locs s → lv_has ls 4 [(0, .ref (a 0)), (1, .int y1), (2, .int y2), (3, .int v3)] → fX7_check_43 y1 y2 k n v3 M = some (r0, M0) →
    (∀ (M' : zM) (H' : Heap) (locs' : List Loc) (ls' : Array Slot), zWD D cy a (zfr a s.heap.size) M' H' locs' s → lv_has ls' 4 [] → k M' = some (r0, M0) → W p l e (zRm 6 138) s m args below meth c H' locs' 0 0 (zQi D cy a s args below r0 M0) (F0 m 90 ls' [])) →
    W p l e (zRm 6 138) s m args below meth c H locs 0 0 (zQi D cy a s args below r0 M0) (F0 m 43 ls []) := by
  obtain ⟨hx, hb, hr, hml, hown, hW, hlocks⟩ := id X
  have hcs : 0 ≤ ((zRm 6 138)).cells ∧ 0 ≤ ((zRm 6 138)).slots := ⟨Nat.zero_le _, Nat.zero_le _⟩
  intro n
  induction n with
  | zero =>
    intro v3 M H locs ls hw hl h hk
    cases h
  | succ n ih =>
    intro v3 M H locs ls hw hl h hk
    have hE := hw.2.2.2.2.1
    rw [fX7_check_43] at h
    refine lv_iload_n hx hb dX7_check_43 rfl (lv_at hl 3 rfl) ?_
    refine lv_iload_n hx hb dX7_check_44 rfl (lv_at hl 2 rfl) ?_
    refine lv_icmp_ge (tgt := 90) hx hb dX7_check_45 (by decide) (fun c10 => ?_) (fun c10 => ?_)
    · replace h := zif_t c10 h
      exact hk  M H locs _ hw (lv_sub hl [] rfl) h
    · replace h := zif_f c10 h
      refine lv_aload_n hx hb dX7_check_48 rfl (lv_at hl 0 rfl) ?_
      refine gtX7_19 X hw dX7_check_49 ?_
      obtain ⟨r11, M12, f13, h⟩ := zbi_e h
      refine z_qVi (As := []) (rest := []) X hw (kX0_passHour l D cy a 45 zX0_45 M r11 M12 f13) (cwX7_172 X.2.2.2.2.2.1 rfl rfl (zroomO (Nat.le_of_ble_eq_true rfl) (Nat.le_of_ble_eq_true rfl))) (zX0_lt zX0_45) (zS0 zX0_45 cy a (M 45)) rfl rfl rfl (Nat.le_of_ble_eq_true rfl) hl.1 hcs dX7_check_52 (fun H locs hw => ?_)
      refine lv_pop hx hb dX7_check_55 rfl ?_
      refine lv_aload_n hx hb dX7_check_56 rfl (lv_at hl 0 rfl) ?_
      refine gtX7_19 X hw dX7_check_57 ?_
      refine gtX7_97 X hw zX0_45 dX7_check_60 ?_
      refine lv_iload_n hx hb dX7_check_63 rfl (lv_at hl 1 rfl) ?_
      obtain ⟨g14, h⟩ := zgd_e h
      refine z_aldW X hw (zRW_0_5 zX0_45) g14 dX7_check_64 (fun w15 ew15 hw15 => ?_)
      replace h := zlt_s ew15 h
      refine gtX7_110 X hw hw15 dX7_check_65 ?_
      refine lv_aload_n hx hb dX7_check_68 rfl (lv_at hl 0 rfl) ?_
      refine gtX7_25 X hw dX7_check_69 ?_
      refine gtX7_269 X hw zX1_67 dX7_check_72 ?_
      refine lv_iload_n hx hb dX7_check_75 rfl (lv_at hl 3 rfl) ?_
      obtain ⟨g16, h⟩ := zgd_e h
      refine z_ald X hw (zI_1_2 zX1_67) g16 dX7_check_76 ?_
      refine lv_icmp_eq (tgt := 84) hx hb dX7_check_77 (by decide) (fun c17 => ?_) (fun c17 => ?_)
      · replace h := zif_t c17 h
        obtain ⟨x18, ex18⟩ : ∃ y : Int32, y = v3 + (1 : Int32) := ⟨_, rfl⟩
        replace h := zlt_s ex18 h
        refine lv_iinc (v := x18) (lv' := [(3, .int x18), (0, .ref (a 0)), (1, .int y1), (2, .int y2)]) hx hb dX7_check_84 hl (k := 3) rfl (by rw [ex18]; rfl) (by decide) rfl (fun ls hl => ?_)
        refine lv_goto (tgt := 43) hx hb dX7_check_87 (by decide) ?_
        exact ih x18 M12 H locs _ hw (lv_sub hl [1, 2, 3, 0] rfl) h hk
      · replace h := zif_f c17 h
        refine lv_iconst (v := 1) hx hb dX7_check_80 (by decide) ?_
        refine lv_iload_n hx hb dX7_check_81 rfl (lv_at hl 3 rfl) ?_
        refine lv_iadd hx hb dX7_check_82 ?_
        exact z_ri X hw (zret h) dX7_check_83
def fX7_check (p0 : Int32) (M : zM) : Option (Int32 × zM) := zlt (M 67 3) (fun x1 => zlt (zst M 67 3 (0 : Int32)) (fun M2 => zbi (fX7_noWheel p0 M2) (fun r3 M4 => if r3 = 0 then (zbv (fX0_copyFrom 45 1 M4) (fun M8 => fX7_check_43 p0 x1 (fun  M19 => some ((0 : Int32), M19)) zF (0 : Int32) M8)) else (zbi (fX7_error (1 : Int32) M4) (fun r20 M21 => some (r20, M21))))))
set_option maxRecDepth 100000 in
set_option maxHeartbeats 4000000 in
theorem kX7_check (l : Launch) (D : va_G) (cy : Nat → ClassId) (a : Nat → Nat) (p0 : Int32) (M : zM) (r0 : Int32) (M0 : zM) (h : fX7_check p0 M = some (r0, M0)) : zCi l D cy a yX7_check cX7_check 4 (some .int) (zRm 6 138) [.ref (a 0), .int p0] M (fun r u => r = r0 ∧ u = M0) := by
  intro sz
  refine zent_i sz (by decide) (Nat.le_of_ble_eq_true rfl) rfl (fun p e s m args below meth c ls H locs X hw hl => ?_)
  obtain ⟨hx, hb, hr, hml, hown, hW, hlocks⟩ := id X
  have hE := hw.2.2.2.2.1
  have hcs : 0 ≤ ((zRm 6 138)).cells ∧ 0 ≤ ((zRm 6 138)).slots := ⟨Nat.zero_le _, Nat.zero_le _⟩
  rw [fX7_check] at h
  refine lv_aload_n hx hb dX7_check_0 rfl (lv_at hl 0 rfl) ?_
  refine gtX7_25 X hw dX7_check_1 ?_
  refine gtX7_266 X hw zX1_67 dX7_check_4 ?_
  refine lv_topi (fun x1 ex1 => ?_)
  replace h := zlt_s ex1 h
  refine lv_istore_n (lv' := [(2, .int x1), (0, .ref (a 0)), (1, .int p0)]) hx hb dX7_check_7 rfl hl (by decide) rfl (fun ls hl => ?_)
  refine lv_aload_n hx hb dX7_check_8 rfl (lv_at hl 1 rfl) ?_
  refine gtX7_25 X hw dX7_check_9 ?_
  refine lv_iconst (v := 0) hx hb dX7_check_12 (by decide) ?_
  refine ptX7_266 X hw zX1_67 dX7_check_13 (fun M2 H locs eM2 hw => ?_)
  replace h := zlt_s eM2 h
  refine lv_aload_n hx hb dX7_check_16 rfl (lv_at hl 1 rfl) ?_
  refine lv_iload_n hx hb dX7_check_17 rfl (lv_at hl 2 rfl) ?_
  obtain ⟨r3, M4, f5, h⟩ := zbi_e h
  refine z_qVi (As := [.int p0]) (rest := []) X hw (kX7_noWheel l D cy a p0 M2 r3 M4 f5) (cwX7_90 X.2.2.2.2.2.1 rfl rfl (zroomO (Nat.le_of_ble_eq_true rfl) (Nat.le_of_ble_eq_true rfl))) (zX7_lt (rfl : zX7 0)) (zS7 (rfl : zX7 0) cy a (M2 0)) rfl rfl rfl (Nat.le_of_ble_eq_true rfl) hl.1 hcs dX7_check_18 (fun H locs hw => ?_)
  refine lv_if_eq (tgt := 30) hx hb dX7_check_21 (by decide) (fun c6 => ?_) (fun c6 => ?_)
  · replace h := zif_t c6 h
    refine lv_aload_n hx hb dX7_check_30 rfl (lv_at hl 1 rfl) ?_
    refine gtX7_19 X hw dX7_check_31 ?_
    refine lv_aload_n hx hb dX7_check_34 rfl (lv_at hl 1 rfl) ?_
    refine gtX7_10 X hw dX7_check_35 ?_
    obtain ⟨M8, f9, h⟩ := zbv_e h
    refine z_qVv (As := [.ref (a 1)]) (rest := []) X hw (kX0_copyFrom l D cy a 45 zX0_45 1 zX0_1 M4 M8 f9) (cwX7_187 X.2.2.2.2.2.1 rfl rfl (zroomO (Nat.le_of_ble_eq_true rfl) (Nat.le_of_ble_eq_true rfl))) (zX0_lt zX0_45) (zS0 zX0_45 cy a (M4 45)) rfl rfl rfl (Nat.le_of_ble_eq_true rfl) hl.1 hcs dX7_check_38 (fun H locs hw => ?_)
    refine lv_iconst (v := 0) hx hb dX7_check_41 (by decide) ?_
    refine lv_istore_n (lv' := [(3, .int (0 : Int32)), (2, .int x1), (0, .ref (a 0)), (1, .int p0)]) hx hb dX7_check_42 rfl hl (by decide) rfl (fun ls hl => ?_)
    refine lX7_check_43 X p0 x1 _ zF (0 : Int32) M8 H locs _ hw (lv_sub hl [2, 3, 1, 0] rfl) h (fun  M19 H locs ls hw hl h => ?_)
    refine lv_iconst (v := 0) hx hb dX7_check_90 (by decide) ?_
    exact z_ri X hw (zret h) dX7_check_91
  · replace h := zif_f c6 h
    refine lv_aload_n hx hb dX7_check_24 rfl (lv_at hl 1 rfl) ?_
    refine lv_iconst (v := 1) hx hb dX7_check_25 (by decide) ?_
    obtain ⟨r20, M21, f22, h⟩ := zbi_e h
    refine z_qVi (As := [.int (1 : Int32)]) (rest := []) X hw (kX7_error l D cy a (1 : Int32) M4 r20 M21 f22) (cwX7_61 X.2.2.2.2.2.1 rfl rfl (zroomO (Nat.le_of_ble_eq_true rfl) (Nat.le_of_ble_eq_true rfl))) (zX7_lt (rfl : zX7 0)) (zS7 (rfl : zX7 0) cy a (M4 0)) rfl rfl rfl (Nat.le_of_ble_eq_true rfl) hl.1 hcs dX7_check_26 (fun H locs hw => ?_)
    exact z_ri X hw (zret h) dX7_check_29
def fX7_count (p0 : Int32) (M : zM) : Option (Int32 × zM) := zbi (fX7_outside p0 (0 : Int32) (22 : Int32) M) (fun r1 M2 => if r1 = 0 then (if p0 = (0 : Int32) then (some (M2 1 9, M2)) else (if p0 = (1 : Int32) then (some (M2 1 10, M2)) else (if p0 = (2 : Int32) then (zbi (fX0_forceNow 1 M2) (fun r8 M9 => some (r8, M9))) else (if p0 = (3 : Int32) then (zbv (fX0_letFlow 1 M2) (fun M13 => some (M13 1 13, M13))) else (if p0 = (4 : Int32) then (zbv (fX0_letFlow 1 M2) (fun M17 => some (M17 1 14, M17))) else (if p0 = (5 : Int32) then (some (M2 1 11, M2)) else (if p0 = (6 : Int32) then (zbi (fX0_prayedOfAll 1 M2) (fun r21 M22 => some (r21, M22))) else (if p0 = (7 : Int32) then (some (M2 67 2, M2)) else (if p0 = (8 : Int32) then (some (M2 67 3, M2)) else (if p0 = (9 : Int32) then (some (M2 76 1, M2)) else (if p0 = (10 : Int32) then (some (M2 1 12, M2)) else (zgd (p0 - (11 : Int32) < 0 ∨ 12 ≤ (p0 - (11 : Int32)).toNatClampNeg) (some (M2 3 ((p0 - (11 : Int32)).toNatClampNeg), M2)))))))))))))) else (zbi (fX7_error (1 : Int32) M2) (fun r29 M30 => some (r29, M30))))
set_option maxRecDepth 100000 in
set_option maxHeartbeats 4000000 in
theorem kX7_count (l : Launch) (D : va_G) (cy : Nat → ClassId) (a : Nat → Nat) (p0 : Int32) (M : zM) (r0 : Int32) (M0 : zM) (h : fX7_count p0 M = some (r0, M0)) : zCi l D cy a yX7_count cX7_count 2 (some .int) (zRm 5 115) [.ref (a 0), .int p0] M (fun r u => r = r0 ∧ u = M0) := by
  intro sz
  refine zent_i sz (by decide) (Nat.le_of_ble_eq_true rfl) rfl (fun p e s m args below meth c ls H locs X hw hl => ?_)
  obtain ⟨hx, hb, hr, hml, hown, hW, hlocks⟩ := id X
  have hE := hw.2.2.2.2.1
  have hcs : 0 ≤ ((zRm 5 115)).cells ∧ 0 ≤ ((zRm 5 115)).slots := ⟨Nat.zero_le _, Nat.zero_le _⟩
  rw [fX7_count] at h
  refine lv_iload_n hx hb dX7_count_0 rfl (lv_at hl 1 rfl) ?_
  refine lv_iconst (v := 0) hx hb dX7_count_1 (by decide) ?_
  refine lv_bipush (v := 22) hx hb dX7_count_2 (by decide) ?_
  obtain ⟨r1, M2, f3, h⟩ := zbi_e h
  refine z_qSi (As := [.int p0, .int (0 : Int32), .int (22 : Int32)]) (rest := []) X hw (kX7_outside l D cy a p0 (0 : Int32) (22 : Int32) M r1 M2 f3) (cwX7_57 X.2.2.2.2.2.1 rfl rfl (zroomO (Nat.le_of_ble_eq_true rfl) (Nat.le_of_ble_eq_true rfl))) rfl rfl (Nat.le_of_ble_eq_true rfl) hl.1 hcs dX7_count_4 (fun H locs hw => ?_)
  refine lv_if_eq (tgt := 16) hx hb dX7_count_7 (by decide) (fun c4 => ?_) (fun c4 => ?_)
  · replace h := zif_t c4 h
    refine lv_iload_n hx hb dX7_count_16 rfl (lv_at hl 1 rfl) ?_
    by_cases c5 : p0 = (0 : Int32)
    · replace h := zif_t c5 h
      refine lv_tableIn (off := 59) (tgt := 76) hx hb dX7_count_17 (by rw [c5]; decide) (by rw [c5]; decide) (by rw [c5]; rfl) (by decide) ?_
      refine lv_aload_n hx hb dX7_count_76 rfl (lv_at hl 0 rfl) ?_
      refine gtX7_10 X hw dX7_count_77 ?_
      refine gtX7_83 X hw zX0_1 dX7_count_80 ?_
      exact z_ri X hw (zret h) dX7_count_83
    replace h := zif_f c5 h
    by_cases c6 : p0 = (1 : Int32)
    · replace h := zif_t c6 h
      refine lv_tableIn (off := 67) (tgt := 84) hx hb dX7_count_17 (by rw [c6]; decide) (by rw [c6]; decide) (by rw [c6]; rfl) (by decide) ?_
      refine lv_aload_n hx hb dX7_count_84 rfl (lv_at hl 0 rfl) ?_
      refine gtX7_10 X hw dX7_count_85 ?_
      refine gtX7_159 X hw zX0_1 dX7_count_88 ?_
      exact z_ri X hw (zret h) dX7_count_91
    replace h := zif_f c6 h
    by_cases c7 : p0 = (2 : Int32)
    · replace h := zif_t c7 h
      refine lv_tableIn (off := 75) (tgt := 92) hx hb dX7_count_17 (by rw [c7]; decide) (by rw [c7]; decide) (by rw [c7]; rfl) (by decide) ?_
      refine lv_aload_n hx hb dX7_count_92 rfl (lv_at hl 0 rfl) ?_
      refine gtX7_10 X hw dX7_count_93 ?_
      obtain ⟨r8, M9, f10, h⟩ := zbi_e h
      refine z_qVi (As := []) (rest := []) X hw (kX0_forceNow l D cy a 1 zX0_1 M2 r8 M9 f10) (cwX7_272 X.2.2.2.2.2.1 rfl rfl (zroomO (Nat.le_of_ble_eq_true rfl) (Nat.le_of_ble_eq_true rfl))) (zX0_lt zX0_1) (zS0 zX0_1 cy a (M2 1)) rfl rfl rfl (Nat.le_of_ble_eq_true rfl) hl.1 hcs dX7_count_96 (fun H locs hw => ?_)
      exact z_ri X hw (zret h) dX7_count_99
    replace h := zif_f c7 h
    by_cases c11 : p0 = (3 : Int32)
    · replace h := zif_t c11 h
      refine lv_tableIn (off := 83) (tgt := 100) hx hb dX7_count_17 (by rw [c11]; decide) (by rw [c11]; decide) (by rw [c11]; rfl) (by decide) ?_
      refine lv_aload_n hx hb dX7_count_100 rfl (lv_at hl 0 rfl) ?_
      refine gtX7_10 X hw dX7_count_101 ?_
      obtain ⟨M13, f14, h⟩ := zbv_e h
      refine z_qVv (As := []) (rest := []) X hw (kX0_letFlow l D cy a 1 zX0_1 M2 M13 f14) (cwX7_123 X.2.2.2.2.2.1 rfl rfl (zroomO (Nat.le_of_ble_eq_true rfl) (Nat.le_of_ble_eq_true rfl))) (zX0_lt zX0_1) (zS0 zX0_1 cy a (M2 1)) rfl rfl rfl (Nat.le_of_ble_eq_true rfl) hl.1 hcs dX7_count_104 (fun H locs hw => ?_)
      refine lv_aload_n hx hb dX7_count_107 rfl (lv_at hl 0 rfl) ?_
      refine gtX7_10 X hw dX7_count_108 ?_
      refine gtX7_206 X hw zX0_1 dX7_count_111 ?_
      exact z_ri X hw (zret h) dX7_count_114
    replace h := zif_f c11 h
    by_cases c15 : p0 = (4 : Int32)
    · replace h := zif_t c15 h
      refine lv_tableIn (off := 98) (tgt := 115) hx hb dX7_count_17 (by rw [c15]; decide) (by rw [c15]; decide) (by rw [c15]; rfl) (by decide) ?_
      refine lv_aload_n hx hb dX7_count_115 rfl (lv_at hl 0 rfl) ?_
      refine gtX7_10 X hw dX7_count_116 ?_
      obtain ⟨M17, f18, h⟩ := zbv_e h
      refine z_qVv (As := []) (rest := []) X hw (kX0_letFlow l D cy a 1 zX0_1 M2 M17 f18) (cwX7_123 X.2.2.2.2.2.1 rfl rfl (zroomO (Nat.le_of_ble_eq_true rfl) (Nat.le_of_ble_eq_true rfl))) (zX0_lt zX0_1) (zS0 zX0_1 cy a (M2 1)) rfl rfl rfl (Nat.le_of_ble_eq_true rfl) hl.1 hcs dX7_count_119 (fun H locs hw => ?_)
      refine lv_aload_n hx hb dX7_count_122 rfl (lv_at hl 0 rfl) ?_
      refine gtX7_10 X hw dX7_count_123 ?_
      refine gtX7_275 X hw zX0_1 dX7_count_126 ?_
      exact z_ri X hw (zret h) dX7_count_129
    replace h := zif_f c15 h
    by_cases c19 : p0 = (5 : Int32)
    · replace h := zif_t c19 h
      refine lv_tableIn (off := 113) (tgt := 130) hx hb dX7_count_17 (by rw [c19]; decide) (by rw [c19]; decide) (by rw [c19]; rfl) (by decide) ?_
      refine lv_aload_n hx hb dX7_count_130 rfl (lv_at hl 0 rfl) ?_
      refine gtX7_10 X hw dX7_count_131 ?_
      refine gtX7_71 X hw zX0_1 dX7_count_134 ?_
      exact z_ri X hw (zret h) dX7_count_137
    replace h := zif_f c19 h
    by_cases c20 : p0 = (6 : Int32)
    · replace h := zif_t c20 h
      refine lv_tableIn (off := 121) (tgt := 138) hx hb dX7_count_17 (by rw [c20]; decide) (by rw [c20]; decide) (by rw [c20]; rfl) (by decide) ?_
      refine lv_aload_n hx hb dX7_count_138 rfl (lv_at hl 0 rfl) ?_
      refine gtX7_10 X hw dX7_count_139 ?_
      obtain ⟨r21, M22, f23, h⟩ := zbi_e h
      refine z_qVi (As := []) (rest := []) X hw (kX0_prayedOfAll l D cy a 1 zX0_1 M2 r21 M22 f23) (cwX7_165 X.2.2.2.2.2.1 rfl rfl (zroomO (Nat.le_of_ble_eq_true rfl) (Nat.le_of_ble_eq_true rfl))) (zX0_lt zX0_1) (zS0 zX0_1 cy a (M2 1)) rfl rfl rfl (Nat.le_of_ble_eq_true rfl) hl.1 hcs dX7_count_142 (fun H locs hw => ?_)
      exact z_ri X hw (zret h) dX7_count_145
    replace h := zif_f c20 h
    by_cases c24 : p0 = (7 : Int32)
    · replace h := zif_t c24 h
      refine lv_tableIn (off := 129) (tgt := 146) hx hb dX7_count_17 (by rw [c24]; decide) (by rw [c24]; decide) (by rw [c24]; rfl) (by decide) ?_
      refine lv_aload_n hx hb dX7_count_146 rfl (lv_at hl 0 rfl) ?_
      refine gtX7_25 X hw dX7_count_147 ?_
      refine gtX7_129 X hw zX1_67 dX7_count_150 ?_
      exact z_ri X hw (zret h) dX7_count_153
    replace h := zif_f c24 h
    by_cases c25 : p0 = (8 : Int32)
    · replace h := zif_t c25 h
      refine lv_tableIn (off := 137) (tgt := 154) hx hb dX7_count_17 (by rw [c25]; decide) (by rw [c25]; decide) (by rw [c25]; rfl) (by decide) ?_
      refine lv_aload_n hx hb dX7_count_154 rfl (lv_at hl 0 rfl) ?_
      refine gtX7_25 X hw dX7_count_155 ?_
      refine gtX7_266 X hw zX1_67 dX7_count_158 ?_
      exact z_ri X hw (zret h) dX7_count_161
    replace h := zif_f c25 h
    by_cases c26 : p0 = (9 : Int32)
    · replace h := zif_t c26 h
      refine lv_tableIn (off := 145) (tgt := 162) hx hb dX7_count_17 (by rw [c26]; decide) (by rw [c26]; decide) (by rw [c26]; rfl) (by decide) ?_
      refine lv_aload_n hx hb dX7_count_162 rfl (lv_at hl 0 rfl) ?_
      refine gtX7_42 X hw dX7_count_163 ?_
      refine gtX7_223 X hw dX7_count_166 ?_
      exact z_ri X hw (zret h) dX7_count_169
    replace h := zif_f c26 h
    by_cases c27 : p0 = (10 : Int32)
    · replace h := zif_t c27 h
      refine lv_tableIn (off := 153) (tgt := 170) hx hb dX7_count_17 (by rw [c27]; decide) (by rw [c27]; decide) (by rw [c27]; rfl) (by decide) ?_
      refine lv_aload_n hx hb dX7_count_170 rfl (lv_at hl 0 rfl) ?_
      refine gtX7_10 X hw dX7_count_171 ?_
      refine gtX7_175 X hw zX0_1 dX7_count_174 ?_
      exact z_ri X hw (zret h) dX7_count_177
    replace h := zif_f c27 h
    refine lv_tableOut (tgt := 178) hx hb dX7_count_17 (by have tc5 := lv_neT c5 (a := 0) rfl; have tc6 := lv_neT c6 (a := 1) rfl; have tc7 := lv_neT c7 (a := 2) rfl; have tc11 := lv_neT c11 (a := 3) rfl; have tc15 := lv_neT c15 (a := 4) rfl; have tc19 := lv_neT c19 (a := 5) rfl; have tc20 := lv_neT c20 (a := 6) rfl; have tc24 := lv_neT c24 (a := 7) rfl; have tc25 := lv_neT c25 (a := 8) rfl; have tc26 := lv_neT c26 (a := 9) rfl; have tc27 := lv_neT c27 (a := 10) rfl; omega) (by decide) ?_
    refine lv_aload_n hx hb dX7_count_178 rfl (lv_at hl 0 rfl) ?_
    refine gtX7_10 X hw dX7_count_179 ?_
    refine gtX7_68 X hw zX0_1 dX7_count_182 ?_
    refine lv_iload_n hx hb dX7_count_185 rfl (lv_at hl 1 rfl) ?_
    refine lv_bipush (v := 11) hx hb dX7_count_186 (by decide) ?_
    refine lv_isub hx hb dX7_count_188 ?_
    obtain ⟨g28, h⟩ := zgd_e h
    refine z_ald X hw (zI_0_2 zX0_1) g28 dX7_count_189 ?_
    exact z_ri X hw (zret h) dX7_count_190
  · replace h := zif_f c4 h
    refine lv_aload_n hx hb dX7_count_10 rfl (lv_at hl 0 rfl) ?_
    refine lv_iconst (v := 1) hx hb dX7_count_11 (by decide) ?_
    obtain ⟨r29, M30, f31, h⟩ := zbi_e h
    refine z_qVi (As := [.int (1 : Int32)]) (rest := []) X hw (kX7_error l D cy a (1 : Int32) M2 r29 M30 f31) (cwX7_61 X.2.2.2.2.2.1 rfl rfl (zroomO (Nat.le_of_ble_eq_true rfl) (Nat.le_of_ble_eq_true rfl))) (zX7_lt (rfl : zX7 0)) (zS7 (rfl : zX7 0) cy a (M2 0)) rfl rfl rfl (Nat.le_of_ble_eq_true rfl) hl.1 hcs dX7_count_12 (fun H locs hw => ?_)
    exact z_ri X hw (zret h) dX7_count_15
def fX7_told (p0 : Int32) (M : zM) : Option (Int32 × zM) := zbi (fX7_outside p0 (1 : Int32) (6 : Int32) M) (fun r1 M2 => if r1 = 0 then (zgd (p0 < 0 ∨ 7 ≤ p0.toNatClampNeg) (some (M2 86 (p0.toNatClampNeg), M2))) else (zbi (fX7_error (1 : Int32) M2) (fun r6 M7 => some (r6, M7))))
set_option maxRecDepth 100000 in
set_option maxHeartbeats 4000000 in
theorem kX7_told (l : Launch) (D : va_G) (cy : Nat → ClassId) (a : Nat → Nat) (p0 : Int32) (M : zM) (r0 : Int32) (M0 : zM) (h : fX7_told p0 M = some (r0, M0)) : zCi l D cy a yX7_told cX7_told 2 (some .int) (zRm 1 22) [.ref (a 0), .int p0] M (fun r u => r = r0 ∧ u = M0) := by
  intro sz
  refine zent_i sz (by decide) (Nat.le_of_ble_eq_true rfl) rfl (fun p e s m args below meth c ls H locs X hw hl => ?_)
  obtain ⟨hx, hb, hr, hml, hown, hW, hlocks⟩ := id X
  have hE := hw.2.2.2.2.1
  have hcs : 0 ≤ ((zRm 1 22)).cells ∧ 0 ≤ ((zRm 1 22)).slots := ⟨Nat.zero_le _, Nat.zero_le _⟩
  rw [fX7_told] at h
  refine lv_iload_n hx hb dX7_told_0 rfl (lv_at hl 1 rfl) ?_
  refine lv_iconst (v := 1) hx hb dX7_told_1 (by decide) ?_
  refine lv_bipush (v := 6) hx hb dX7_told_2 (by decide) ?_
  obtain ⟨r1, M2, f3, h⟩ := zbi_e h
  refine z_qSi (As := [.int p0, .int (1 : Int32), .int (6 : Int32)]) (rest := []) X hw (kX7_outside l D cy a p0 (1 : Int32) (6 : Int32) M r1 M2 f3) (cwX7_57 X.2.2.2.2.2.1 rfl rfl (zroomO (Nat.le_of_ble_eq_true rfl) (Nat.le_of_ble_eq_true rfl))) rfl rfl (Nat.le_of_ble_eq_true rfl) hl.1 hcs dX7_told_4 (fun H locs hw => ?_)
  refine lv_if_eq (tgt := 16) hx hb dX7_told_7 (by decide) (fun c4 => ?_) (fun c4 => ?_)
  · replace h := zif_t c4 h
    refine lv_aload_n hx hb dX7_told_16 rfl (lv_at hl 0 rfl) ?_
    refine gtX7_53 X hw dX7_told_17 ?_
    refine lv_iload_n hx hb dX7_told_20 rfl (lv_at hl 1 rfl) ?_
    obtain ⟨g5, h⟩ := zgd_e h
    refine z_ald X hw zI_86 g5 dX7_told_21 ?_
    exact z_ri X hw (zret h) dX7_told_22
  · replace h := zif_f c4 h
    refine lv_aload_n hx hb dX7_told_10 rfl (lv_at hl 0 rfl) ?_
    refine lv_iconst (v := 1) hx hb dX7_told_11 (by decide) ?_
    obtain ⟨r6, M7, f8, h⟩ := zbi_e h
    refine z_qVi (As := [.int (1 : Int32)]) (rest := []) X hw (kX7_error l D cy a (1 : Int32) M2 r6 M7 f8) (cwX7_61 X.2.2.2.2.2.1 rfl rfl (zroomO (Nat.le_of_ble_eq_true rfl) (Nat.le_of_ble_eq_true rfl))) (zX7_lt (rfl : zX7 0)) (zS7 (rfl : zX7 0) cy a (M2 0)) rfl rfl rfl (Nat.le_of_ble_eq_true rfl) hl.1 hcs dX7_told_12 (fun H locs hw => ?_)
    exact z_ri X hw (zret h) dX7_told_15
