def fX3_write (p0 : Int32) (M : zM) : Option (zM) := if (60 : Int32) ≤ M 73 2 then (some M) else (zgd (M 73 2 < 0 ∨ 60 ≤ (M 73 2).toNatClampNeg) (zlt (zst M 74 ((M 73 2).toNatClampNeg) p0) (fun M2 => zlt (zst M2 73 2 ((M2 73 2) + (1 : Int32))) (fun M4 => some M4))))
set_option maxRecDepth 100000 in
set_option maxHeartbeats 4000000 in
theorem kX3_write (l : Launch) (D : va_G) (cy : Nat → ClassId) (a : Nat → Nat) (p0 : Int32) (M : zM) (M0 : zM) (h : fX3_write p0 M = some M0) : zCv l D cy a yX3_write cX3_write 2 (zRm 0 0) [.ref (a 73), .int p0] M (fun u => u = M0) := by
  intro sz
  refine zent_v sz (by decide) (Nat.le_of_ble_eq_true rfl) rfl (fun p e s m args below meth c ls H locs X hw hl => ?_)
  obtain ⟨hx, hb, hr, hml, hown, hW, hlocks⟩ := id X
  have hE := hw.2.2.2.2.1
  have hcs : 0 ≤ ((zRm 0 0)).cells ∧ 0 ≤ ((zRm 0 0)).slots := ⟨Nat.zero_le _, Nat.zero_le _⟩
  rw [fX3_write] at h
  refine lv_aload_n hx hb dX3_write_0 rfl (lv_at hl 0 rfl) ?_
  refine gtX3_18 X hw dX3_write_1 ?_
  refine lv_bipush (v := 60) hx hb dX3_write_4 (by decide) ?_
  refine lv_icmp_ge (tgt := 29) hx hb dX3_write_6 (by decide) (fun c1 => ?_) (fun c1 => ?_)
  · replace h := zif_t c1 h
    exact z_rv X hw (zretv h) dX3_write_29
  · replace h := zif_f c1 h
    refine lv_aload_n hx hb dX3_write_9 rfl (lv_at hl 0 rfl) ?_
    refine gtX3_9 X hw dX3_write_10 ?_
    refine lv_aload_n hx hb dX3_write_13 rfl (lv_at hl 0 rfl) ?_
    refine gtX3_18 X hw dX3_write_14 ?_
    refine lv_iload_n hx hb dX3_write_17 rfl (lv_at hl 1 rfl) ?_
    obtain ⟨g3, h⟩ := zgd_e h
    refine z_ast X hw (zI_3_1 zX3_73) g3 dX3_write_18 (fun M2 H locs eM2 hw => ?_)
    replace h := zlt_s eM2 h
    refine lv_aload_n hx hb dX3_write_19 rfl (lv_at hl 0 rfl) ?_
    refine lv_dup hx hb dX3_write_20 rfl ?_
    refine gtX3_18 X hw dX3_write_21 ?_
    refine lv_iconst (v := 1) hx hb dX3_write_24 (by decide) ?_
    refine lv_iadd hx hb dX3_write_25 ?_
    refine ptX3_18 X hw dX3_write_26 (fun M4 H locs eM4 hw => ?_)
    replace h := zlt_s eM4 h
    exact z_rv X hw (zretv h) dX3_write_29
def fX3_digit (p0 : Int32) (M : zM) : Option (Int32 × zM) := if M 73 7 = 0 then (if M 73 6 = 0 then (some ((0 : Int32), M)) else (if (4 : Int32) ≤ M 73 6 then (some ((0 : Int32), M)) else (if M 73 2 = 0 then (some ((0 : Int32), M)) else (zgd ((M 73 2) - (1 : Int32) < 0 ∨ 60 ≤ ((M 73 2) - (1 : Int32)).toNatClampNeg) (zgd ((M 73 2) - (1 : Int32) < 0 ∨ 60 ≤ ((M 73 2) - (1 : Int32)).toNatClampNeg) (zlt (zst M 74 (((M 73 2) - (1 : Int32)).toNatClampNeg) (((M 74 (((M 73 2) - (1 : Int32)).toNatClampNeg)) * (10 : Int32)) + p0)) (fun M6 => zlt (zst M6 73 6 ((M6 73 6) + (1 : Int32))) (fun M8 => some ((1 : Int32), M8))))))))) else (zbv (fX3_write p0 M) (fun M10 => zlt (zst M10 73 7 (0 : Int32)) (fun M12 => zlt (zst M12 73 6 (1 : Int32)) (fun M13 => some ((1 : Int32), M13)))))
set_option maxRecDepth 100000 in
set_option maxHeartbeats 4000000 in
theorem kX3_digit (l : Launch) (D : va_G) (cy : Nat → ClassId) (a : Nat → Nat) (p0 : Int32) (M : zM) (r0 : Int32) (M0 : zM) (h : fX3_digit p0 M = some (r0, M0)) : zCi l D cy a yX3_digit cX3_digit 2 (some .boolean) (zRm 1 21) [.ref (a 73), .int p0] M (fun r u => r = r0 ∧ u = M0) := by
  intro sz
  refine zent_i sz (by decide) (Nat.le_of_ble_eq_true rfl) rfl (fun p e s m args below meth c ls H locs X hw hl => ?_)
  obtain ⟨hx, hb, hr, hml, hown, hW, hlocks⟩ := id X
  have hE := hw.2.2.2.2.1
  have hcs : 0 ≤ ((zRm 1 21)).cells ∧ 0 ≤ ((zRm 1 21)).slots := ⟨Nat.zero_le _, Nat.zero_le _⟩
  rw [fX3_digit] at h
  refine lv_aload_n hx hb dX3_digit_0 rfl (lv_at hl 0 rfl) ?_
  refine gtX3_34 X hw dX3_digit_1 ?_
  refine lv_if_eq (tgt := 24) hx hb dX3_digit_4 (by decide) (fun c1 => ?_) (fun c1 => ?_)
  · replace h := zif_t c1 h
    refine lv_aload_n hx hb dX3_digit_24 rfl (lv_at hl 0 rfl) ?_
    refine gtX3_31 X hw dX3_digit_25 ?_
    refine lv_if_eq (tgt := 46) hx hb dX3_digit_28 (by decide) (fun c2 => ?_) (fun c2 => ?_)
    · replace h := zif_t c2 h
      refine lv_iconst (v := 0) hx hb dX3_digit_46 (by decide) ?_
      exact z_rz X hw (Or.inl rfl) (zret h) dX3_digit_47
    · replace h := zif_f c2 h
      refine lv_aload_n hx hb dX3_digit_31 rfl (lv_at hl 0 rfl) ?_
      refine gtX3_31 X hw dX3_digit_32 ?_
      refine lv_iconst (v := 4) hx hb dX3_digit_35 (by decide) ?_
      refine lv_icmp_ge (tgt := 46) hx hb dX3_digit_36 (by decide) (fun c3 => ?_) (fun c3 => ?_)
      · replace h := zif_t c3 h
        refine lv_iconst (v := 0) hx hb dX3_digit_46 (by decide) ?_
        exact z_rz X hw (Or.inl rfl) (zret h) dX3_digit_47
      · replace h := zif_f c3 h
        refine lv_aload_n hx hb dX3_digit_39 rfl (lv_at hl 0 rfl) ?_
        refine gtX3_18 X hw dX3_digit_40 ?_
        refine lv_if_ne (tgt := 48) hx hb dX3_digit_43 (by decide) (fun c4 => ?_) (fun c4 => ?_)
        · replace h := zif_f c4 h
          refine lv_aload_n hx hb dX3_digit_48 rfl (lv_at hl 0 rfl) ?_
          refine gtX3_9 X hw dX3_digit_49 ?_
          refine lv_aload_n hx hb dX3_digit_52 rfl (lv_at hl 0 rfl) ?_
          refine gtX3_18 X hw dX3_digit_53 ?_
          refine lv_iconst (v := 1) hx hb dX3_digit_56 (by decide) ?_
          refine lv_isub hx hb dX3_digit_57 ?_
          refine lv_aload_n hx hb dX3_digit_58 rfl (lv_at hl 0 rfl) ?_
          refine gtX3_9 X hw dX3_digit_59 ?_
          refine lv_aload_n hx hb dX3_digit_62 rfl (lv_at hl 0 rfl) ?_
          refine gtX3_18 X hw dX3_digit_63 ?_
          refine lv_iconst (v := 1) hx hb dX3_digit_66 (by decide) ?_
          refine lv_isub hx hb dX3_digit_67 ?_
          obtain ⟨g5, h⟩ := zgd_e h
          refine z_ald X hw (zI_3_1 zX3_73) g5 dX3_digit_68 ?_
          refine lv_bipush (v := 10) hx hb dX3_digit_69 (by decide) ?_
          refine lv_imul hx hb dX3_digit_71 ?_
          refine lv_iload_n hx hb dX3_digit_72 rfl (lv_at hl 1 rfl) ?_
          refine lv_iadd hx hb dX3_digit_73 ?_
          obtain ⟨g7, h⟩ := zgd_e h
          refine z_ast X hw (zI_3_1 zX3_73) g7 dX3_digit_74 (fun M6 H locs eM6 hw => ?_)
          replace h := zlt_s eM6 h
          refine lv_aload_n hx hb dX3_digit_75 rfl (lv_at hl 0 rfl) ?_
          refine lv_dup hx hb dX3_digit_76 rfl ?_
          refine gtX3_31 X hw dX3_digit_77 ?_
          refine lv_iconst (v := 1) hx hb dX3_digit_80 (by decide) ?_
          refine lv_iadd hx hb dX3_digit_81 ?_
          refine ptX3_31 X hw dX3_digit_82 (fun M8 H locs eM8 hw => ?_)
          replace h := zlt_s eM8 h
          refine lv_iconst (v := 1) hx hb dX3_digit_85 (by decide) ?_
          exact z_rz X hw (Or.inr rfl) (zret h) dX3_digit_86
        · replace h := zif_t c4 h
          refine lv_iconst (v := 0) hx hb dX3_digit_46 (by decide) ?_
          exact z_rz X hw (Or.inl rfl) (zret h) dX3_digit_47
  · replace h := zif_f c1 h
    refine lv_aload_n hx hb dX3_digit_7 rfl (lv_at hl 0 rfl) ?_
    refine lv_iload_n hx hb dX3_digit_8 rfl (lv_at hl 1 rfl) ?_
    obtain ⟨M10, f11, h⟩ := zbv_e h
    refine z_qVv (As := [.int p0]) (rest := []) X hw (kX3_write l D cy a p0 M M10 f11) (cwX3_56 X.2.2.2.2.2.1 rfl rfl (zroomO (Nat.le_of_ble_eq_true rfl) (Nat.le_of_ble_eq_true rfl))) (zX3_lt zX3_73) (zS3 zX3_73 cy a (M 73)) rfl rfl rfl (Nat.le_of_ble_eq_true rfl) hl.1 hcs dX3_digit_9 (fun H locs hw => ?_)
    refine lv_aload_n hx hb dX3_digit_12 rfl (lv_at hl 0 rfl) ?_
    refine lv_iconst (v := 0) hx hb dX3_digit_13 (by decide) ?_
    refine ptX3_34 X hw (Or.inl rfl) dX3_digit_14 (fun M12 H locs eM12 hw => ?_)
    replace h := zlt_s eM12 h
    refine lv_aload_n hx hb dX3_digit_17 rfl (lv_at hl 0 rfl) ?_
    refine lv_iconst (v := 1) hx hb dX3_digit_18 (by decide) ?_
    refine ptX3_31 X hw dX3_digit_19 (fun M13 H locs eM13 hw => ?_)
    replace h := zlt_s eM13 h
    refine lv_iconst (v := 1) hx hb dX3_digit_22 (by decide) ?_
    exact z_rz X hw (Or.inr rfl) (zret h) dX3_digit_23
def fX3_hold (p0 : Int32) (M : zM) : Option (zM) := if (60 : Int32) ≤ M 73 3 then (some M) else (zgd (M 73 3 < 0 ∨ 60 ≤ (M 73 3).toNatClampNeg) (zlt (zst M 75 ((M 73 3).toNatClampNeg) p0) (fun M2 => zlt (zst M2 73 3 ((M2 73 3) + (1 : Int32))) (fun M4 => some M4))))
set_option maxRecDepth 100000 in
set_option maxHeartbeats 4000000 in
theorem kX3_hold (l : Launch) (D : va_G) (cy : Nat → ClassId) (a : Nat → Nat) (p0 : Int32) (M : zM) (M0 : zM) (h : fX3_hold p0 M = some M0) : zCv l D cy a yX3_hold cX3_hold 2 (zRm 0 0) [.ref (a 73), .int p0] M (fun u => u = M0) := by
  intro sz
  refine zent_v sz (by decide) (Nat.le_of_ble_eq_true rfl) rfl (fun p e s m args below meth c ls H locs X hw hl => ?_)
  obtain ⟨hx, hb, hr, hml, hown, hW, hlocks⟩ := id X
  have hE := hw.2.2.2.2.1
  have hcs : 0 ≤ ((zRm 0 0)).cells ∧ 0 ≤ ((zRm 0 0)).slots := ⟨Nat.zero_le _, Nat.zero_le _⟩
  rw [fX3_hold] at h
  refine lv_aload_n hx hb dX3_hold_0 rfl (lv_at hl 0 rfl) ?_
  refine gtX3_22 X hw dX3_hold_1 ?_
  refine lv_bipush (v := 60) hx hb dX3_hold_4 (by decide) ?_
  refine lv_icmp_ge (tgt := 29) hx hb dX3_hold_6 (by decide) (fun c1 => ?_) (fun c1 => ?_)
  · replace h := zif_t c1 h
    exact z_rv X hw (zretv h) dX3_hold_29
  · replace h := zif_f c1 h
    refine lv_aload_n hx hb dX3_hold_9 rfl (lv_at hl 0 rfl) ?_
    refine gtX3_15 X hw dX3_hold_10 ?_
    refine lv_aload_n hx hb dX3_hold_13 rfl (lv_at hl 0 rfl) ?_
    refine gtX3_22 X hw dX3_hold_14 ?_
    refine lv_iload_n hx hb dX3_hold_17 rfl (lv_at hl 1 rfl) ?_
    obtain ⟨g3, h⟩ := zgd_e h
    refine z_ast X hw (zI_3_2 zX3_73) g3 dX3_hold_18 (fun M2 H locs eM2 hw => ?_)
    replace h := zlt_s eM2 h
    refine lv_aload_n hx hb dX3_hold_19 rfl (lv_at hl 0 rfl) ?_
    refine lv_dup hx hb dX3_hold_20 rfl ?_
    refine gtX3_22 X hw dX3_hold_21 ?_
    refine lv_iconst (v := 1) hx hb dX3_hold_24 (by decide) ?_
    refine lv_iadd hx hb dX3_hold_25 ?_
    refine ptX3_22 X hw dX3_hold_26 (fun M4 H locs eM4 hw => ?_)
    replace h := zlt_s eM4 h
    exact z_rv X hw (zretv h) dX3_hold_29
def fX3_opens (p0 : Int32) (p1 : Int32) (M : zM) : Option (Int32 × zM) := if p0 = (33 : Int32) then (if M 73 4 < (5 : Int32) then (zlt (zst M 73 4 ((M 73 4) + (1 : Int32))) (fun M3 => if p0 = (40 : Int32) then (zlt (zst M3 73 5 ((M3 73 5) + (1 : Int32))) (fun M9 => zbv (fX3_hold p0 M9) (fun M11 => some ((1 : Int32), M11)))) else (zlt (zst M3 73 5 ((M3 73 5) + (0 : Int32))) (fun M5 => zbv (fX3_hold p0 M5) (fun M7 => some ((1 : Int32), M7)))))) else (some ((0 : Int32), M))) else (if p0 = (40 : Int32) then (if M 73 4 < (5 : Int32) then (zlt (zst M 73 4 ((M 73 4) + (1 : Int32))) (fun M30 => if p0 = (40 : Int32) then (zlt (zst M30 73 5 ((M30 73 5) + (1 : Int32))) (fun M36 => zbv (fX3_hold p0 M36) (fun M38 => some ((1 : Int32), M38)))) else (zlt (zst M30 73 5 ((M30 73 5) + (0 : Int32))) (fun M32 => zbv (fX3_hold p0 M32) (fun M34 => some ((1 : Int32), M34)))))) else (some ((0 : Int32), M))) else (if p1 = 0 then (zlt (zix 0 ((p0.toUInt32 % 65536).toInt32)) (fun x23 => if 0 ≤ x23 then (zbv (fX3_write ((10000 : Int32) + x23) M) (fun M26 => zlt (zst M26 73 7 (0 : Int32)) (fun M28 => some ((1 : Int32), M28)))) else (some ((0 : Int32), M)))) else (zlt (zix 1 ((p0.toUInt32 % 65536).toInt32)) (fun x16 => if 0 ≤ x16 then (zbv (fX3_write ((10000 : Int32) + x16) M) (fun M19 => zlt (zst M19 73 7 (0 : Int32)) (fun M21 => some ((1 : Int32), M21)))) else (some ((0 : Int32), M))))))
set_option maxRecDepth 100000 in
set_option maxHeartbeats 4000000 in
theorem kX3_opens (l : Launch) (D : va_G) (cy : Nat → ClassId) (a : Nat → Nat) (p0 : Int32) (p1 : Int32) (M : zM) (r0 : Int32) (M0 : zM) (h : fX3_opens p0 p1 M = some (r0, M0)) : zCi l D cy a yX3_opens cX3_opens 4 (some .boolean) (zRm 8 300) [.ref (a 73), .int p0, .int p1] M (fun r u => r = r0 ∧ u = M0) := by
  intro sz
  refine zent_i sz (by decide) (Nat.le_of_ble_eq_true rfl) rfl (fun p e s m args below meth c ls H locs X hw hl => ?_)
  obtain ⟨hx, hb, hr, hml, hown, hW, hlocks⟩ := id X
  have hE := hw.2.2.2.2.1
  have hcs : 0 ≤ ((zRm 8 300)).cells ∧ 0 ≤ ((zRm 8 300)).slots := ⟨Nat.zero_le _, Nat.zero_le _⟩
  rw [fX3_opens] at h
  obtain ⟨hZc, adK, adV, hVS, hS0, hS1⟩ := hE.2.2.2.2
  refine lv_iload_n hx hb dX3_opens_0 rfl (lv_at hl 1 rfl) ?_
  refine lv_bipush (v := 33) hx hb dX3_opens_1 (by decide) ?_
  refine lv_icmp_eq (tgt := 12) hx hb dX3_opens_3 (by decide) (fun c1 => ?_) (fun c1 => ?_)
  · replace h := zif_t c1 h
    refine lv_aload_n hx hb dX3_opens_12 rfl (lv_at hl 0 rfl) ?_
    refine gtX3_25 X hw dX3_opens_13 ?_
    refine lv_iconst (v := 5) hx hb dX3_opens_16 (by decide) ?_
    refine lv_icmp_lt (tgt := 22) hx hb dX3_opens_17 (by decide) (fun c2 => ?_) (fun c2 => ?_)
    · replace h := zif_t c2 h
      refine lv_aload_n hx hb dX3_opens_22 rfl (lv_at hl 0 rfl) ?_
      refine lv_dup hx hb dX3_opens_23 rfl ?_
      refine gtX3_25 X hw dX3_opens_24 ?_
      refine lv_iconst (v := 1) hx hb dX3_opens_27 (by decide) ?_
      refine lv_iadd hx hb dX3_opens_28 ?_
      refine ptX3_25 X hw dX3_opens_29 (fun M3 H locs eM3 hw => ?_)
      replace h := zlt_s eM3 h
      refine lv_aload_n hx hb dX3_opens_32 rfl (lv_at hl 0 rfl) ?_
      refine lv_dup hx hb dX3_opens_33 rfl ?_
      refine gtX3_28 X hw dX3_opens_34 ?_
      refine lv_iload_n hx hb dX3_opens_37 rfl (lv_at hl 1 rfl) ?_
      refine lv_bipush (v := 40) hx hb dX3_opens_38 (by decide) ?_
      refine lv_icmp_ne (tgt := 47) hx hb dX3_opens_40 (by decide) (fun c4 => ?_) (fun c4 => ?_)
      · replace h := zif_f c4 h
        refine lv_iconst (v := 0) hx hb dX3_opens_47 (by decide) ?_
        refine lv_iadd hx hb dX3_opens_48 ?_
        refine ptX3_28 X hw dX3_opens_49 (fun M5 H locs eM5 hw => ?_)
        replace h := zlt_s eM5 h
        refine lv_aload_n hx hb dX3_opens_52 rfl (lv_at hl 0 rfl) ?_
        refine lv_iload_n hx hb dX3_opens_53 rfl (lv_at hl 1 rfl) ?_
        obtain ⟨M7, f8, h⟩ := zbv_e h
        refine z_qVv (As := [.int p0]) (rest := []) X hw (kX3_hold l D cy a p0 M5 M7 f8) (cwX3_59 X.2.2.2.2.2.1 rfl rfl (zroomO (Nat.le_of_ble_eq_true rfl) (Nat.le_of_ble_eq_true rfl))) (zX3_lt zX3_73) (zS3 zX3_73 cy a (M5 73)) rfl rfl rfl (Nat.le_of_ble_eq_true rfl) hl.1 hcs dX3_opens_54 (fun H locs hw => ?_)
        refine lv_iconst (v := 1) hx hb dX3_opens_57 (by decide) ?_
        exact z_rz X hw (Or.inr rfl) (zret h) dX3_opens_58
      · replace h := zif_t c4 h
        refine lv_iconst (v := 1) hx hb dX3_opens_43 (by decide) ?_
        refine lv_goto (tgt := 48) hx hb dX3_opens_44 (by decide) ?_
        refine lv_iadd hx hb dX3_opens_48 ?_
        refine ptX3_28 X hw dX3_opens_49 (fun M9 H locs eM9 hw => ?_)
        replace h := zlt_s eM9 h
        refine lv_aload_n hx hb dX3_opens_52 rfl (lv_at hl 0 rfl) ?_
        refine lv_iload_n hx hb dX3_opens_53 rfl (lv_at hl 1 rfl) ?_
        obtain ⟨M11, f12, h⟩ := zbv_e h
        refine z_qVv (As := [.int p0]) (rest := []) X hw (kX3_hold l D cy a p0 M9 M11 f12) (cwX3_59 X.2.2.2.2.2.1 rfl rfl (zroomO (Nat.le_of_ble_eq_true rfl) (Nat.le_of_ble_eq_true rfl))) (zX3_lt zX3_73) (zS3 zX3_73 cy a (M9 73)) rfl rfl rfl (Nat.le_of_ble_eq_true rfl) hl.1 hcs dX3_opens_54 (fun H locs hw => ?_)
        refine lv_iconst (v := 1) hx hb dX3_opens_57 (by decide) ?_
        exact z_rz X hw (Or.inr rfl) (zret h) dX3_opens_58
    · replace h := zif_f c2 h
      refine lv_iconst (v := 0) hx hb dX3_opens_20 (by decide) ?_
      exact z_rz X hw (Or.inl rfl) (zret h) dX3_opens_21
  · replace h := zif_f c1 h
    refine lv_iload_n hx hb dX3_opens_6 rfl (lv_at hl 1 rfl) ?_
    refine lv_bipush (v := 40) hx hb dX3_opens_7 (by decide) ?_
    refine lv_icmp_ne (tgt := 59) hx hb dX3_opens_9 (by decide) (fun c13 => ?_) (fun c13 => ?_)
    · replace h := zif_f c13 h
      refine lv_iload_n hx hb dX3_opens_59 rfl (lv_at hl 2 rfl) ?_
      refine lv_if_ne (tgt := 68) hx hb dX3_opens_60 (by decide) (fun c14 => ?_) (fun c14 => ?_)
      · replace h := zif_f c14 h
        refine va_ldcS hx hb hown hS1 dX3_opens_68 ?_
        refine lv_iload_n hx hb dX3_opens_70 rfl (lv_at hl 1 rfl) ?_
        refine lv_i2c hx hb dX3_opens_71 rfl ?_
        refine z_indexOf (i := 1) (rest := []) (by decide) hZc hVS X hw hl.1 (Nat.le_of_ble_eq_true rfl) ⟨Nat.le_of_ble_eq_true rfl, Nat.le_of_ble_eq_true rfl⟩ hcs dX3_opens_72 ?_
        refine lv_topi (fun x16 ex16 => ?_)
        replace h := zlt_s ex16 h
        refine lv_istore_n (lv' := [(3, .int x16), (0, .ref (a 73)), (1, .int p0), (2, .int p1)]) hx hb dX3_opens_75 rfl hl (by decide) rfl (fun ls hl => ?_)
        refine lv_iload_n hx hb dX3_opens_76 rfl (lv_at hl 0 rfl) ?_
        refine lv_if_ge (tgt := 82) hx hb dX3_opens_77 (by decide) (fun c17 => ?_) (fun c17 => ?_)
        · replace h := zif_t c17 h
          refine lv_aload_n hx hb dX3_opens_82 rfl (lv_at hl 1 rfl) ?_
          refine lv_sipush (v := 10000) hx hb dX3_opens_83 (by decide) ?_
          refine lv_iload_n hx hb dX3_opens_86 rfl (lv_at hl 0 rfl) ?_
          refine lv_iadd hx hb dX3_opens_87 ?_
          obtain ⟨M19, f20, h⟩ := zbv_e h
          refine z_qVv (As := [.int ((10000 : Int32) + x16)]) (rest := []) X hw (kX3_write l D cy a ((10000 : Int32) + x16) M M19 f20) (cwX3_56 X.2.2.2.2.2.1 rfl rfl (zroomO (Nat.le_of_ble_eq_true rfl) (Nat.le_of_ble_eq_true rfl))) (zX3_lt zX3_73) (zS3 zX3_73 cy a (M 73)) rfl rfl rfl (Nat.le_of_ble_eq_true rfl) hl.1 hcs dX3_opens_88 (fun H locs hw => ?_)
          refine lv_aload_n hx hb dX3_opens_91 rfl (lv_at hl 1 rfl) ?_
          refine lv_iconst (v := 0) hx hb dX3_opens_92 (by decide) ?_
          refine ptX3_34 X hw (Or.inl rfl) dX3_opens_93 (fun M21 H locs eM21 hw => ?_)
          replace h := zlt_s eM21 h
          refine lv_iconst (v := 1) hx hb dX3_opens_96 (by decide) ?_
          exact z_rz X hw (Or.inr rfl) (zret h) dX3_opens_97
        · replace h := zif_f c17 h
          refine lv_iconst (v := 0) hx hb dX3_opens_80 (by decide) ?_
          exact z_rz X hw (Or.inl rfl) (zret h) dX3_opens_81
      · replace h := zif_t c14 h
        refine va_ldcS hx hb hown hS0 dX3_opens_63 ?_
        refine lv_goto (tgt := 70) hx hb dX3_opens_65 (by decide) ?_
        refine lv_iload_n hx hb dX3_opens_70 rfl (lv_at hl 1 rfl) ?_
        refine lv_i2c hx hb dX3_opens_71 rfl ?_
        refine z_indexOf (i := 0) (rest := []) (by decide) hZc hVS X hw hl.1 (Nat.le_of_ble_eq_true rfl) ⟨Nat.le_of_ble_eq_true rfl, Nat.le_of_ble_eq_true rfl⟩ hcs dX3_opens_72 ?_
        refine lv_topi (fun x23 ex23 => ?_)
        replace h := zlt_s ex23 h
        refine lv_istore_n (lv' := [(3, .int x23), (0, .ref (a 73)), (1, .int p0), (2, .int p1)]) hx hb dX3_opens_75 rfl hl (by decide) rfl (fun ls hl => ?_)
        refine lv_iload_n hx hb dX3_opens_76 rfl (lv_at hl 0 rfl) ?_
        refine lv_if_ge (tgt := 82) hx hb dX3_opens_77 (by decide) (fun c24 => ?_) (fun c24 => ?_)
        · replace h := zif_t c24 h
          refine lv_aload_n hx hb dX3_opens_82 rfl (lv_at hl 1 rfl) ?_
          refine lv_sipush (v := 10000) hx hb dX3_opens_83 (by decide) ?_
          refine lv_iload_n hx hb dX3_opens_86 rfl (lv_at hl 0 rfl) ?_
          refine lv_iadd hx hb dX3_opens_87 ?_
          obtain ⟨M26, f27, h⟩ := zbv_e h
          refine z_qVv (As := [.int ((10000 : Int32) + x23)]) (rest := []) X hw (kX3_write l D cy a ((10000 : Int32) + x23) M M26 f27) (cwX3_56 X.2.2.2.2.2.1 rfl rfl (zroomO (Nat.le_of_ble_eq_true rfl) (Nat.le_of_ble_eq_true rfl))) (zX3_lt zX3_73) (zS3 zX3_73 cy a (M 73)) rfl rfl rfl (Nat.le_of_ble_eq_true rfl) hl.1 hcs dX3_opens_88 (fun H locs hw => ?_)
          refine lv_aload_n hx hb dX3_opens_91 rfl (lv_at hl 1 rfl) ?_
          refine lv_iconst (v := 0) hx hb dX3_opens_92 (by decide) ?_
          refine ptX3_34 X hw (Or.inl rfl) dX3_opens_93 (fun M28 H locs eM28 hw => ?_)
          replace h := zlt_s eM28 h
          refine lv_iconst (v := 1) hx hb dX3_opens_96 (by decide) ?_
          exact z_rz X hw (Or.inr rfl) (zret h) dX3_opens_97
        · replace h := zif_f c24 h
          refine lv_iconst (v := 0) hx hb dX3_opens_80 (by decide) ?_
          exact z_rz X hw (Or.inl rfl) (zret h) dX3_opens_81
    · replace h := zif_t c13 h
      refine lv_aload_n hx hb dX3_opens_12 rfl (lv_at hl 0 rfl) ?_
      refine gtX3_25 X hw dX3_opens_13 ?_
      refine lv_iconst (v := 5) hx hb dX3_opens_16 (by decide) ?_
      refine lv_icmp_lt (tgt := 22) hx hb dX3_opens_17 (by decide) (fun c29 => ?_) (fun c29 => ?_)
      · replace h := zif_t c29 h
        refine lv_aload_n hx hb dX3_opens_22 rfl (lv_at hl 0 rfl) ?_
        refine lv_dup hx hb dX3_opens_23 rfl ?_
        refine gtX3_25 X hw dX3_opens_24 ?_
        refine lv_iconst (v := 1) hx hb dX3_opens_27 (by decide) ?_
        refine lv_iadd hx hb dX3_opens_28 ?_
        refine ptX3_25 X hw dX3_opens_29 (fun M30 H locs eM30 hw => ?_)
        replace h := zlt_s eM30 h
        refine lv_aload_n hx hb dX3_opens_32 rfl (lv_at hl 0 rfl) ?_
        refine lv_dup hx hb dX3_opens_33 rfl ?_
        refine gtX3_28 X hw dX3_opens_34 ?_
        refine lv_iload_n hx hb dX3_opens_37 rfl (lv_at hl 1 rfl) ?_
        refine lv_bipush (v := 40) hx hb dX3_opens_38 (by decide) ?_
        refine lv_icmp_ne (tgt := 47) hx hb dX3_opens_40 (by decide) (fun c31 => ?_) (fun c31 => ?_)
        · replace h := zif_f c31 h
          refine lv_iconst (v := 0) hx hb dX3_opens_47 (by decide) ?_
          refine lv_iadd hx hb dX3_opens_48 ?_
          refine ptX3_28 X hw dX3_opens_49 (fun M32 H locs eM32 hw => ?_)
          replace h := zlt_s eM32 h
          refine lv_aload_n hx hb dX3_opens_52 rfl (lv_at hl 0 rfl) ?_
          refine lv_iload_n hx hb dX3_opens_53 rfl (lv_at hl 1 rfl) ?_
          obtain ⟨M34, f35, h⟩ := zbv_e h
          refine z_qVv (As := [.int p0]) (rest := []) X hw (kX3_hold l D cy a p0 M32 M34 f35) (cwX3_59 X.2.2.2.2.2.1 rfl rfl (zroomO (Nat.le_of_ble_eq_true rfl) (Nat.le_of_ble_eq_true rfl))) (zX3_lt zX3_73) (zS3 zX3_73 cy a (M32 73)) rfl rfl rfl (Nat.le_of_ble_eq_true rfl) hl.1 hcs dX3_opens_54 (fun H locs hw => ?_)
          refine lv_iconst (v := 1) hx hb dX3_opens_57 (by decide) ?_
          exact z_rz X hw (Or.inr rfl) (zret h) dX3_opens_58
        · replace h := zif_t c31 h
          refine lv_iconst (v := 1) hx hb dX3_opens_43 (by decide) ?_
          refine lv_goto (tgt := 48) hx hb dX3_opens_44 (by decide) ?_
          refine lv_iadd hx hb dX3_opens_48 ?_
          refine ptX3_28 X hw dX3_opens_49 (fun M36 H locs eM36 hw => ?_)
          replace h := zlt_s eM36 h
          refine lv_aload_n hx hb dX3_opens_52 rfl (lv_at hl 0 rfl) ?_
          refine lv_iload_n hx hb dX3_opens_53 rfl (lv_at hl 1 rfl) ?_
          obtain ⟨M38, f39, h⟩ := zbv_e h
          refine z_qVv (As := [.int p0]) (rest := []) X hw (kX3_hold l D cy a p0 M36 M38 f39) (cwX3_59 X.2.2.2.2.2.1 rfl rfl (zroomO (Nat.le_of_ble_eq_true rfl) (Nat.le_of_ble_eq_true rfl))) (zX3_lt zX3_73) (zS3 zX3_73 cy a (M36 73)) rfl rfl rfl (Nat.le_of_ble_eq_true rfl) hl.1 hcs dX3_opens_54 (fun H locs hw => ?_)
          refine lv_iconst (v := 1) hx hb dX3_opens_57 (by decide) ?_
          exact z_rz X hw (Or.inr rfl) (zret h) dX3_opens_58
      · replace h := zif_f c29 h
        refine lv_iconst (v := 0) hx hb dX3_opens_20 (by decide) ?_
        exact z_rz X hw (Or.inl rfl) (zret h) dX3_opens_21
def fX3_rankOf (p0 : Int32) (M : zM) : Option (Int32 × zM) := if p0 = (37 : Int32) then (some ((5 : Int32), M)) else (if p0 = (38 : Int32) then (some ((2 : Int32), M)) else (if p0 = (42 : Int32) then (some ((5 : Int32), M)) else (if p0 = (43 : Int32) then (some ((4 : Int32), M)) else (if p0 = (45 : Int32) then (some ((4 : Int32), M)) else (if p0 = (47 : Int32) then (some ((5 : Int32), M)) else (if p0 = (60 : Int32) then (some ((3 : Int32), M)) else (if p0 = (61 : Int32) then (some ((3 : Int32), M)) else (if p0 = (62 : Int32) then (some ((3 : Int32), M)) else (if p0 = (124 : Int32) then (some ((1 : Int32), M)) else (some ((0 : Int32), M)))))))))))
set_option maxRecDepth 100000 in
set_option maxHeartbeats 4000000 in
theorem kX3_rankOf (l : Launch) (D : va_G) (cy : Nat → ClassId) (a : Nat → Nat) (p0 : Int32) (M : zM) (r0 : Int32) (M0 : zM) (h : fX3_rankOf p0 M = some (r0, M0)) : zCi l D cy a yX3_rankOf cX3_rankOf 1 (some .int) (zRm 0 0) [.int p0] M (fun r u => r = r0 ∧ u = M0) := by
  intro sz
  refine zent_i sz (by decide) (Nat.le_of_ble_eq_true rfl) rfl (fun p e s m args below meth c ls H locs X hw hl => ?_)
  obtain ⟨hx, hb, hr, hml, hown, hW, hlocks⟩ := id X
  have hE := hw.2.2.2.2.1
  have hcs : 0 ≤ ((zRm 0 0)).cells ∧ 0 ≤ ((zRm 0 0)).slots := ⟨Nat.zero_le _, Nat.zero_le _⟩
  rw [fX3_rankOf] at h
  refine lv_iload_n hx hb dX3_rankOf_0 rfl (lv_at hl 0 rfl) ?_
  by_cases c1 : p0 = (37 : Int32)
  · replace h := zif_t c1 h
    refine lv_lookup (off := 99) (tgt := 100) hx hb dX3_rankOf_1 (by decide) (by rw [c1]; rfl) (by decide) ?_
    refine lv_iconst (v := 5) hx hb dX3_rankOf_100 (by decide) ?_
    exact z_ri X hw (zret h) dX3_rankOf_101
  replace h := zif_f c1 h
  by_cases c2 : p0 = (38 : Int32)
  · replace h := zif_t c2 h
    refine lv_lookup (off := 93) (tgt := 94) hx hb dX3_rankOf_1 (by decide) (by rw [c2]; rfl) (by decide) ?_
    refine lv_iconst (v := 2) hx hb dX3_rankOf_94 (by decide) ?_
    exact z_ri X hw (zret h) dX3_rankOf_95
  replace h := zif_f c2 h
  by_cases c3 : p0 = (42 : Int32)
  · replace h := zif_t c3 h
    refine lv_lookup (off := 99) (tgt := 100) hx hb dX3_rankOf_1 (by decide) (by rw [c3]; rfl) (by decide) ?_
    refine lv_iconst (v := 5) hx hb dX3_rankOf_100 (by decide) ?_
    exact z_ri X hw (zret h) dX3_rankOf_101
  replace h := zif_f c3 h
  by_cases c4 : p0 = (43 : Int32)
  · replace h := zif_t c4 h
    refine lv_lookup (off := 97) (tgt := 98) hx hb dX3_rankOf_1 (by decide) (by rw [c4]; rfl) (by decide) ?_
    refine lv_iconst (v := 4) hx hb dX3_rankOf_98 (by decide) ?_
    exact z_ri X hw (zret h) dX3_rankOf_99
  replace h := zif_f c4 h
  by_cases c5 : p0 = (45 : Int32)
  · replace h := zif_t c5 h
    refine lv_lookup (off := 97) (tgt := 98) hx hb dX3_rankOf_1 (by decide) (by rw [c5]; rfl) (by decide) ?_
    refine lv_iconst (v := 4) hx hb dX3_rankOf_98 (by decide) ?_
    exact z_ri X hw (zret h) dX3_rankOf_99
  replace h := zif_f c5 h
  by_cases c6 : p0 = (47 : Int32)
  · replace h := zif_t c6 h
    refine lv_lookup (off := 99) (tgt := 100) hx hb dX3_rankOf_1 (by decide) (by rw [c6]; rfl) (by decide) ?_
    refine lv_iconst (v := 5) hx hb dX3_rankOf_100 (by decide) ?_
    exact z_ri X hw (zret h) dX3_rankOf_101
  replace h := zif_f c6 h
  by_cases c7 : p0 = (60 : Int32)
  · replace h := zif_t c7 h
    refine lv_lookup (off := 95) (tgt := 96) hx hb dX3_rankOf_1 (by decide) (by rw [c7]; rfl) (by decide) ?_
    refine lv_iconst (v := 3) hx hb dX3_rankOf_96 (by decide) ?_
    exact z_ri X hw (zret h) dX3_rankOf_97
  replace h := zif_f c7 h
  by_cases c8 : p0 = (61 : Int32)
  · replace h := zif_t c8 h
    refine lv_lookup (off := 95) (tgt := 96) hx hb dX3_rankOf_1 (by decide) (by rw [c8]; rfl) (by decide) ?_
    refine lv_iconst (v := 3) hx hb dX3_rankOf_96 (by decide) ?_
    exact z_ri X hw (zret h) dX3_rankOf_97
  replace h := zif_f c8 h
  by_cases c9 : p0 = (62 : Int32)
  · replace h := zif_t c9 h
    refine lv_lookup (off := 95) (tgt := 96) hx hb dX3_rankOf_1 (by decide) (by rw [c9]; rfl) (by decide) ?_
    refine lv_iconst (v := 3) hx hb dX3_rankOf_96 (by decide) ?_
    exact z_ri X hw (zret h) dX3_rankOf_97
  replace h := zif_f c9 h
  by_cases c10 : p0 = (124 : Int32)
  · replace h := zif_t c10 h
    refine lv_lookup (off := 91) (tgt := 92) hx hb dX3_rankOf_1 (by decide) (by rw [c10]; rfl) (by decide) ?_
    refine lv_iconst (v := 1) hx hb dX3_rankOf_92 (by decide) ?_
    exact z_ri X hw (zret h) dX3_rankOf_93
  replace h := zif_f c10 h
  refine lv_lookup (off := 101) (tgt := 102) hx hb dX3_rankOf_1 (by decide) ((lv_osw c1 rfl).trans ((lv_osw c2 rfl).trans ((lv_osw c3 rfl).trans ((lv_osw c4 rfl).trans ((lv_osw c5 rfl).trans ((lv_osw c6 rfl).trans ((lv_osw c7 rfl).trans ((lv_osw c8 rfl).trans ((lv_osw c9 rfl).trans ((lv_osw c10 rfl).trans (rfl))))))))))) (by decide) ?_
  refine lv_iconst (v := 0) hx hb dX3_rankOf_102 (by decide) ?_
  exact z_ri X hw (zret h) dX3_rankOf_103
def fX3_writeSigns_2 (y1 : Int32) (k : zM → Option (zM)) : Nat → Int32 → zM → Option (zM)
  | 0, _, _ => none
  | n + 1, v2, M => if (60 : Int32) ≤ v2 then (k  M) else (if M 73 3 ≤ 0 then (k  M) else (zgd ((M 73 3) - (1 : Int32) < 0 ∨ 60 ≤ ((M 73 3) - (1 : Int32)).toNatClampNeg) (zlt (M 75 (((M 73 3) - (1 : Int32)).toNatClampNeg)) (fun x4 => if x4 = (33 : Int32) then (if x4 = (33 : Int32) then (zlt (zst M 73 4 ((M 73 4) - (1 : Int32))) (fun M13 => zlt (zst M13 73 3 ((M13 73 3) - (1 : Int32))) (fun M14 => zbv (fX3_write (-x4) M14) (fun M16 => zlt (v2 + (1 : Int32)) (fun x18 => fX3_writeSigns_2 y1 k n x18 M16))))) else (zlt (zst M 73 4 ((M 73 4) - (0 : Int32))) (fun M7 => zlt (zst M7 73 3 ((M7 73 3) - (1 : Int32))) (fun M8 => zbv (fX3_write (-x4) M8) (fun M10 => zlt (v2 + (1 : Int32)) (fun x12 => fX3_writeSigns_2 y1 k n x12 M10)))))) else (zbi (fX3_rankOf x4 M) (fun r19 M20 => if y1 ≤ r19 then (if x4 = (33 : Int32) then (zlt (zst M20 73 4 ((M20 73 4) - (1 : Int32))) (fun M30 => zlt (zst M30 73 3 ((M30 73 3) - (1 : Int32))) (fun M31 => zbv (fX3_write (-x4) M31) (fun M33 => zlt (v2 + (1 : Int32)) (fun x35 => fX3_writeSigns_2 y1 k n x35 M33))))) else (zlt (zst M20 73 4 ((M20 73 4) - (0 : Int32))) (fun M24 => zlt (zst M24 73 3 ((M24 73 3) - (1 : Int32))) (fun M25 => zbv (fX3_write (-x4) M25) (fun M27 => zlt (v2 + (1 : Int32)) (fun x29 => fX3_writeSigns_2 y1 k n x29 M27)))))) else (some M20)))))))
set_option maxRecDepth 100000 in
set_option maxHeartbeats 4000000 in
theorem lX3_writeSigns_2 {p : Program} {l : Launch} {e : Env} {s : State} {m : MethodId} {args : Array Value} {below : List Frame} {meth : Method} {c : Code} {D : va_G} {cy : Nat → ClassId} {a : Nat → Nat} {M0 : zM} (X : zCX p s m meth c args cX3_writeSigns 4 none RX3) (y1 : Int32) (k : zM → Option (zM)) : ∀ (n : Nat) (v2 : Int32) (M : zM) (H : Heap) (locs : List Loc) (ls : Array Slot), zWD D cy a (zfr a s.heap.size) M H locs s → lv_has ls 4 [(0, .ref (a 73)), (1, .int y1), (2, .int v2)] → fX3_writeSigns_2 y1 k n v2 M = some M0 →
    (∀ (M' : zM) (H' : Heap) (locs' : List Loc) (ls' : Array Slot), zWD D cy a (zfr a s.heap.size) M' H' locs' s → lv_has ls' 4 [] → k M' = some M0 → W p l e (zRm 1 21) s m args below meth c H' locs' 0 0 (zQv D cy a s args below M0) (F0 m 84 ls' [])) →
    W p l e (zRm 1 21) s m args below meth c H locs 0 0 (zQv D cy a s args below M0) (F0 m 2 ls []) := by
  obtain ⟨hx, hb, hr, hml, hown, hW, hlocks⟩ := id X
  have hcs : 0 ≤ ((zRm 1 21)).cells ∧ 0 ≤ ((zRm 1 21)).slots := ⟨Nat.zero_le _, Nat.zero_le _⟩
  intro n
  induction n with
  | zero =>
    intro v2 M H locs ls hw hl h hk
    cases h
  | succ n ih =>
    intro v2 M H locs ls hw hl h hk
    have hE := hw.2.2.2.2.1
    rw [fX3_writeSigns_2] at h
    refine lv_iload_n hx hb dX3_writeSigns_2 rfl (lv_at hl 2 rfl) ?_
    refine lv_bipush (v := 60) hx hb dX3_writeSigns_3 (by decide) ?_
    refine lv_icmp_ge (tgt := 84) hx hb dX3_writeSigns_5 (by decide) (fun c1 => ?_) (fun c1 => ?_)
    · replace h := zif_t c1 h
      exact hk  M H locs _ hw (lv_sub hl [] rfl) h
    · replace h := zif_f c1 h
      refine lv_aload_n hx hb dX3_writeSigns_8 rfl (lv_at hl 0 rfl) ?_
      refine gtX3_22 X hw dX3_writeSigns_9 ?_
      refine lv_if_le (tgt := 84) hx hb dX3_writeSigns_12 (by decide) (fun c2 => ?_) (fun c2 => ?_)
      · replace h := zif_t c2 h
        exact hk  M H locs _ hw (lv_sub hl [] rfl) h
      · replace h := zif_f c2 h
        refine lv_aload_n hx hb dX3_writeSigns_15 rfl (lv_at hl 0 rfl) ?_
        refine gtX3_15 X hw dX3_writeSigns_16 ?_
        refine lv_aload_n hx hb dX3_writeSigns_19 rfl (lv_at hl 0 rfl) ?_
        refine gtX3_22 X hw dX3_writeSigns_20 ?_
        refine lv_iconst (v := 1) hx hb dX3_writeSigns_23 (by decide) ?_
        refine lv_isub hx hb dX3_writeSigns_24 ?_
        obtain ⟨g3, h⟩ := zgd_e h
        refine z_ald X hw (zI_3_2 zX3_73) g3 dX3_writeSigns_25 ?_
        refine lv_topi (fun x4 ex4 => ?_)
        replace h := zlt_s ex4 h
        refine lv_istore_n (lv' := [(3, .int x4), (0, .ref (a 73)), (1, .int y1), (2, .int v2)]) hx hb dX3_writeSigns_26 rfl hl (by decide) rfl (fun ls hl => ?_)
        refine lv_iload_n hx hb dX3_writeSigns_27 rfl (lv_at hl 0 rfl) ?_
        refine lv_bipush (v := 33) hx hb dX3_writeSigns_28 (by decide) ?_
        refine lv_icmp_eq (tgt := 42) hx hb dX3_writeSigns_30 (by decide) (fun c5 => ?_) (fun c5 => ?_)
        · replace h := zif_t c5 h
          refine lv_aload_n hx hb dX3_writeSigns_42 rfl (lv_at hl 1 rfl) ?_
          refine lv_dup hx hb dX3_writeSigns_43 rfl ?_
          refine gtX3_25 X hw dX3_writeSigns_44 ?_
          refine lv_iload_n hx hb dX3_writeSigns_47 rfl (lv_at hl 0 rfl) ?_
          refine lv_bipush (v := 33) hx hb dX3_writeSigns_48 (by decide) ?_
          refine lv_icmp_ne (tgt := 57) hx hb dX3_writeSigns_50 (by decide) (fun c6 => ?_) (fun c6 => ?_)
          · replace h := zif_f c6 h
            refine lv_iconst (v := 0) hx hb dX3_writeSigns_57 (by decide) ?_
            refine lv_isub hx hb dX3_writeSigns_58 ?_
            refine ptX3_25 X hw dX3_writeSigns_59 (fun M7 H locs eM7 hw => ?_)
            replace h := zlt_s eM7 h
            refine lv_aload_n hx hb dX3_writeSigns_62 rfl (lv_at hl 1 rfl) ?_
            refine lv_dup hx hb dX3_writeSigns_63 rfl ?_
            refine gtX3_22 X hw dX3_writeSigns_64 ?_
            refine lv_iconst (v := 1) hx hb dX3_writeSigns_67 (by decide) ?_
            refine lv_isub hx hb dX3_writeSigns_68 ?_
            refine ptX3_22 X hw dX3_writeSigns_69 (fun M8 H locs eM8 hw => ?_)
            replace h := zlt_s eM8 h
            refine lv_aload_n hx hb dX3_writeSigns_72 rfl (lv_at hl 1 rfl) ?_
            refine lv_iload_n hx hb dX3_writeSigns_73 rfl (lv_at hl 0 rfl) ?_
            refine lv_ineg hx hb dX3_writeSigns_74 ?_
            obtain ⟨M10, f11, h⟩ := zbv_e h
            refine z_qVv (As := [.int (-x4)]) (rest := []) X hw (kX3_write l D cy a (-x4) M8 M10 f11) (cwX3_56 X.2.2.2.2.2.1 rfl rfl (zroomO (Nat.le_of_ble_eq_true rfl) (Nat.le_of_ble_eq_true rfl))) (zX3_lt zX3_73) (zS3 zX3_73 cy a (M8 73)) rfl rfl rfl (Nat.le_of_ble_eq_true rfl) hl.1 hcs dX3_writeSigns_75 (fun H locs hw => ?_)
            obtain ⟨x12, ex12⟩ : ∃ y : Int32, y = v2 + (1 : Int32) := ⟨_, rfl⟩
            replace h := zlt_s ex12 h
            refine lv_iinc (v := x12) (lv' := [(2, .int x12), (3, .int x4), (0, .ref (a 73)), (1, .int y1)]) hx hb dX3_writeSigns_78 hl (k := 3) rfl (by rw [ex12]; rfl) (by decide) rfl (fun ls hl => ?_)
            refine lv_goto (tgt := 2) hx hb dX3_writeSigns_81 (by decide) ?_
            exact ih x12 M10 H locs _ hw (lv_sub hl [2, 3, 0] rfl) h hk
          · replace h := zif_t c6 h
            refine lv_iconst (v := 1) hx hb dX3_writeSigns_53 (by decide) ?_
            refine lv_goto (tgt := 58) hx hb dX3_writeSigns_54 (by decide) ?_
            refine lv_isub hx hb dX3_writeSigns_58 ?_
            refine ptX3_25 X hw dX3_writeSigns_59 (fun M13 H locs eM13 hw => ?_)
            replace h := zlt_s eM13 h
            refine lv_aload_n hx hb dX3_writeSigns_62 rfl (lv_at hl 1 rfl) ?_
            refine lv_dup hx hb dX3_writeSigns_63 rfl ?_
            refine gtX3_22 X hw dX3_writeSigns_64 ?_
            refine lv_iconst (v := 1) hx hb dX3_writeSigns_67 (by decide) ?_
            refine lv_isub hx hb dX3_writeSigns_68 ?_
            refine ptX3_22 X hw dX3_writeSigns_69 (fun M14 H locs eM14 hw => ?_)
            replace h := zlt_s eM14 h
            refine lv_aload_n hx hb dX3_writeSigns_72 rfl (lv_at hl 1 rfl) ?_
            refine lv_iload_n hx hb dX3_writeSigns_73 rfl (lv_at hl 0 rfl) ?_
            refine lv_ineg hx hb dX3_writeSigns_74 ?_
            obtain ⟨M16, f17, h⟩ := zbv_e h
            refine z_qVv (As := [.int (-x4)]) (rest := []) X hw (kX3_write l D cy a (-x4) M14 M16 f17) (cwX3_56 X.2.2.2.2.2.1 rfl rfl (zroomO (Nat.le_of_ble_eq_true rfl) (Nat.le_of_ble_eq_true rfl))) (zX3_lt zX3_73) (zS3 zX3_73 cy a (M14 73)) rfl rfl rfl (Nat.le_of_ble_eq_true rfl) hl.1 hcs dX3_writeSigns_75 (fun H locs hw => ?_)
            obtain ⟨x18, ex18⟩ : ∃ y : Int32, y = v2 + (1 : Int32) := ⟨_, rfl⟩
            replace h := zlt_s ex18 h
            refine lv_iinc (v := x18) (lv' := [(2, .int x18), (3, .int x4), (0, .ref (a 73)), (1, .int y1)]) hx hb dX3_writeSigns_78 hl (k := 3) rfl (by rw [ex18]; rfl) (by decide) rfl (fun ls hl => ?_)
            refine lv_goto (tgt := 2) hx hb dX3_writeSigns_81 (by decide) ?_
            exact ih x18 M16 H locs _ hw (lv_sub hl [2, 3, 0] rfl) h hk
        · replace h := zif_f c5 h
          refine lv_iload_n hx hb dX3_writeSigns_33 rfl (lv_at hl 0 rfl) ?_
          obtain ⟨r19, M20, f21, h⟩ := zbi_e h
          refine z_qSi (As := [.int x4]) (rest := []) X hw (kX3_rankOf l D cy a x4 M r19 M20 f21) (cwX3_78 X.2.2.2.2.2.1 rfl rfl (zroomO (Nat.le_of_ble_eq_true rfl) (Nat.le_of_ble_eq_true rfl))) rfl rfl (Nat.le_of_ble_eq_true rfl) hl.1 hcs dX3_writeSigns_34 (fun H locs hw => ?_)
          refine lv_iload_n hx hb dX3_writeSigns_37 rfl (lv_at hl 2 rfl) ?_
          refine lv_icmp_ge (tgt := 42) hx hb dX3_writeSigns_38 (by decide) (fun c22 => ?_) (fun c22 => ?_)
          · replace h := zif_t c22 h
            refine lv_aload_n hx hb dX3_writeSigns_42 rfl (lv_at hl 1 rfl) ?_
            refine lv_dup hx hb dX3_writeSigns_43 rfl ?_
            refine gtX3_25 X hw dX3_writeSigns_44 ?_
            refine lv_iload_n hx hb dX3_writeSigns_47 rfl (lv_at hl 0 rfl) ?_
            refine lv_bipush (v := 33) hx hb dX3_writeSigns_48 (by decide) ?_
            refine lv_icmp_ne (tgt := 57) hx hb dX3_writeSigns_50 (by decide) (fun c23 => ?_) (fun c23 => ?_)
            · replace h := zif_f c23 h
              refine lv_iconst (v := 0) hx hb dX3_writeSigns_57 (by decide) ?_
              refine lv_isub hx hb dX3_writeSigns_58 ?_
              refine ptX3_25 X hw dX3_writeSigns_59 (fun M24 H locs eM24 hw => ?_)
              replace h := zlt_s eM24 h
              refine lv_aload_n hx hb dX3_writeSigns_62 rfl (lv_at hl 1 rfl) ?_
              refine lv_dup hx hb dX3_writeSigns_63 rfl ?_
              refine gtX3_22 X hw dX3_writeSigns_64 ?_
              refine lv_iconst (v := 1) hx hb dX3_writeSigns_67 (by decide) ?_
              refine lv_isub hx hb dX3_writeSigns_68 ?_
              refine ptX3_22 X hw dX3_writeSigns_69 (fun M25 H locs eM25 hw => ?_)
              replace h := zlt_s eM25 h
              refine lv_aload_n hx hb dX3_writeSigns_72 rfl (lv_at hl 1 rfl) ?_
              refine lv_iload_n hx hb dX3_writeSigns_73 rfl (lv_at hl 0 rfl) ?_
              refine lv_ineg hx hb dX3_writeSigns_74 ?_
              obtain ⟨M27, f28, h⟩ := zbv_e h
              refine z_qVv (As := [.int (-x4)]) (rest := []) X hw (kX3_write l D cy a (-x4) M25 M27 f28) (cwX3_56 X.2.2.2.2.2.1 rfl rfl (zroomO (Nat.le_of_ble_eq_true rfl) (Nat.le_of_ble_eq_true rfl))) (zX3_lt zX3_73) (zS3 zX3_73 cy a (M25 73)) rfl rfl rfl (Nat.le_of_ble_eq_true rfl) hl.1 hcs dX3_writeSigns_75 (fun H locs hw => ?_)
              obtain ⟨x29, ex29⟩ : ∃ y : Int32, y = v2 + (1 : Int32) := ⟨_, rfl⟩
              replace h := zlt_s ex29 h
              refine lv_iinc (v := x29) (lv' := [(2, .int x29), (3, .int x4), (0, .ref (a 73)), (1, .int y1)]) hx hb dX3_writeSigns_78 hl (k := 3) rfl (by rw [ex29]; rfl) (by decide) rfl (fun ls hl => ?_)
              refine lv_goto (tgt := 2) hx hb dX3_writeSigns_81 (by decide) ?_
              exact ih x29 M27 H locs _ hw (lv_sub hl [2, 3, 0] rfl) h hk
            · replace h := zif_t c23 h
              refine lv_iconst (v := 1) hx hb dX3_writeSigns_53 (by decide) ?_
              refine lv_goto (tgt := 58) hx hb dX3_writeSigns_54 (by decide) ?_
              refine lv_isub hx hb dX3_writeSigns_58 ?_
              refine ptX3_25 X hw dX3_writeSigns_59 (fun M30 H locs eM30 hw => ?_)
              replace h := zlt_s eM30 h
              refine lv_aload_n hx hb dX3_writeSigns_62 rfl (lv_at hl 1 rfl) ?_
              refine lv_dup hx hb dX3_writeSigns_63 rfl ?_
              refine gtX3_22 X hw dX3_writeSigns_64 ?_
              refine lv_iconst (v := 1) hx hb dX3_writeSigns_67 (by decide) ?_
              refine lv_isub hx hb dX3_writeSigns_68 ?_
              refine ptX3_22 X hw dX3_writeSigns_69 (fun M31 H locs eM31 hw => ?_)
              replace h := zlt_s eM31 h
              refine lv_aload_n hx hb dX3_writeSigns_72 rfl (lv_at hl 1 rfl) ?_
              refine lv_iload_n hx hb dX3_writeSigns_73 rfl (lv_at hl 0 rfl) ?_
              refine lv_ineg hx hb dX3_writeSigns_74 ?_
              obtain ⟨M33, f34, h⟩ := zbv_e h
              refine z_qVv (As := [.int (-x4)]) (rest := []) X hw (kX3_write l D cy a (-x4) M31 M33 f34) (cwX3_56 X.2.2.2.2.2.1 rfl rfl (zroomO (Nat.le_of_ble_eq_true rfl) (Nat.le_of_ble_eq_true rfl))) (zX3_lt zX3_73) (zS3 zX3_73 cy a (M31 73)) rfl rfl rfl (Nat.le_of_ble_eq_true rfl) hl.1 hcs dX3_writeSigns_75 (fun H locs hw => ?_)
              obtain ⟨x35, ex35⟩ : ∃ y : Int32, y = v2 + (1 : Int32) := ⟨_, rfl⟩
              replace h := zlt_s ex35 h
              refine lv_iinc (v := x35) (lv' := [(2, .int x35), (3, .int x4), (0, .ref (a 73)), (1, .int y1)]) hx hb dX3_writeSigns_78 hl (k := 3) rfl (by rw [ex35]; rfl) (by decide) rfl (fun ls hl => ?_)
              refine lv_goto (tgt := 2) hx hb dX3_writeSigns_81 (by decide) ?_
              exact ih x35 M33 H locs _ hw (lv_sub hl [2, 3, 0] rfl) h hk
          · replace h := zif_f c22 h
            exact z_rv X hw (zretv h) dX3_writeSigns_41
def fX3_writeSigns (p0 : Int32) (M : zM) : Option (zM) := fX3_writeSigns_2 p0 (fun  M36 => some M36) zF (0 : Int32) M
set_option maxRecDepth 100000 in
set_option maxHeartbeats 4000000 in
theorem kX3_writeSigns (l : Launch) (D : va_G) (cy : Nat → ClassId) (a : Nat → Nat) (p0 : Int32) (M : zM) (M0 : zM) (h : fX3_writeSigns p0 M = some M0) : zCv l D cy a yX3_writeSigns cX3_writeSigns 4 (zRm 1 21) [.ref (a 73), .int p0] M (fun u => u = M0) := by
  intro sz
  refine zent_v sz (by decide) (Nat.le_of_ble_eq_true rfl) rfl (fun p e s m args below meth c ls H locs X hw hl => ?_)
  obtain ⟨hx, hb, hr, hml, hown, hW, hlocks⟩ := id X
  have hE := hw.2.2.2.2.1
  have hcs : 0 ≤ ((zRm 1 21)).cells ∧ 0 ≤ ((zRm 1 21)).slots := ⟨Nat.zero_le _, Nat.zero_le _⟩
  rw [fX3_writeSigns] at h
  refine lv_iconst (v := 0) hx hb dX3_writeSigns_0 (by decide) ?_
  refine lv_istore_n (lv' := [(2, .int (0 : Int32)), (0, .ref (a 73)), (1, .int p0)]) hx hb dX3_writeSigns_1 rfl hl (by decide) rfl (fun ls hl => ?_)
  refine lX3_writeSigns_2 X p0 _ zF (0 : Int32) M H locs _ hw (lv_sub hl [1, 2, 0] rfl) h (fun  M36 H locs ls hw hl h => ?_)
  exact z_rv X hw (zretv h) dX3_writeSigns_84
def fX3_closes (M : zM) : Option (Int32 × zM) := if M 73 5 = 0 then (some ((0 : Int32), M)) else (zbv (fX3_writeSigns (1 : Int32) M) (fun M3 => if M3 73 3 ≤ 0 then (zlt (zst M3 73 5 ((M3 73 5) - (1 : Int32))) (fun M6 => zlt (zst M6 73 4 ((M6 73 4) - (1 : Int32))) (fun M7 => some ((1 : Int32), M7)))) else (zlt (zst M3 73 3 ((M3 73 3) - (1 : Int32))) (fun M8 => zlt (zst M8 73 5 ((M8 73 5) - (1 : Int32))) (fun M9 => zlt (zst M9 73 4 ((M9 73 4) - (1 : Int32))) (fun M10 => some ((1 : Int32), M10)))))))
set_option maxRecDepth 100000 in
set_option maxHeartbeats 4000000 in
theorem kX3_closes (l : Launch) (D : va_G) (cy : Nat → ClassId) (a : Nat → Nat) (M : zM) (r0 : Int32) (M0 : zM) (h : fX3_closes  M = some (r0, M0)) : zCi l D cy a yX3_closes cX3_closes 1 (some .boolean) (zRm 2 44) [.ref (a 73)] M (fun r u => r = r0 ∧ u = M0) := by
  intro sz
  refine zent_i sz (by decide) (Nat.le_of_ble_eq_true rfl) rfl (fun p e s m args below meth c ls H locs X hw hl => ?_)
  obtain ⟨hx, hb, hr, hml, hown, hW, hlocks⟩ := id X
  have hE := hw.2.2.2.2.1
  have hcs : 0 ≤ ((zRm 2 44)).cells ∧ 0 ≤ ((zRm 2 44)).slots := ⟨Nat.zero_le _, Nat.zero_le _⟩
  rw [fX3_closes] at h
  refine lv_aload_n hx hb dX3_closes_0 rfl (lv_at hl 0 rfl) ?_
  refine gtX3_28 X hw dX3_closes_1 ?_
  refine lv_if_ne (tgt := 9) hx hb dX3_closes_4 (by decide) (fun c1 => ?_) (fun c1 => ?_)
  · replace h := zif_f c1 h
    refine lv_aload_n hx hb dX3_closes_9 rfl (lv_at hl 0 rfl) ?_
    refine lv_iconst (v := 1) hx hb dX3_closes_10 (by decide) ?_
    obtain ⟨M3, f4, h⟩ := zbv_e h
    refine z_qVv (As := [.int (1 : Int32)]) (rest := []) X hw (kX3_writeSigns l D cy a (1 : Int32) M M3 f4) (cwX3_42 X.2.2.2.2.2.1 rfl rfl (zroomO (Nat.le_of_ble_eq_true rfl) (Nat.le_of_ble_eq_true rfl))) (zX3_lt zX3_73) (zS3 zX3_73 cy a (M 73)) rfl rfl rfl (Nat.le_of_ble_eq_true rfl) hl.1 hcs dX3_closes_11 (fun H locs hw => ?_)
    refine lv_aload_n hx hb dX3_closes_14 rfl (lv_at hl 0 rfl) ?_
    refine gtX3_22 X hw dX3_closes_15 ?_
    refine lv_if_le (tgt := 31) hx hb dX3_closes_18 (by decide) (fun c5 => ?_) (fun c5 => ?_)
    · replace h := zif_t c5 h
      refine lv_aload_n hx hb dX3_closes_31 rfl (lv_at hl 0 rfl) ?_
      refine lv_dup hx hb dX3_closes_32 rfl ?_
      refine gtX3_28 X hw dX3_closes_33 ?_
      refine lv_iconst (v := 1) hx hb dX3_closes_36 (by decide) ?_
      refine lv_isub hx hb dX3_closes_37 ?_
      refine ptX3_28 X hw dX3_closes_38 (fun M6 H locs eM6 hw => ?_)
      replace h := zlt_s eM6 h
      refine lv_aload_n hx hb dX3_closes_41 rfl (lv_at hl 0 rfl) ?_
      refine lv_dup hx hb dX3_closes_42 rfl ?_
      refine gtX3_25 X hw dX3_closes_43 ?_
      refine lv_iconst (v := 1) hx hb dX3_closes_46 (by decide) ?_
      refine lv_isub hx hb dX3_closes_47 ?_
      refine ptX3_25 X hw dX3_closes_48 (fun M7 H locs eM7 hw => ?_)
      replace h := zlt_s eM7 h
      refine lv_iconst (v := 1) hx hb dX3_closes_51 (by decide) ?_
      exact z_rz X hw (Or.inr rfl) (zret h) dX3_closes_52
    · replace h := zif_f c5 h
      refine lv_aload_n hx hb dX3_closes_21 rfl (lv_at hl 0 rfl) ?_
      refine lv_dup hx hb dX3_closes_22 rfl ?_
      refine gtX3_22 X hw dX3_closes_23 ?_
      refine lv_iconst (v := 1) hx hb dX3_closes_26 (by decide) ?_
      refine lv_isub hx hb dX3_closes_27 ?_
      refine ptX3_22 X hw dX3_closes_28 (fun M8 H locs eM8 hw => ?_)
      replace h := zlt_s eM8 h
      refine lv_aload_n hx hb dX3_closes_31 rfl (lv_at hl 0 rfl) ?_
      refine lv_dup hx hb dX3_closes_32 rfl ?_
      refine gtX3_28 X hw dX3_closes_33 ?_
      refine lv_iconst (v := 1) hx hb dX3_closes_36 (by decide) ?_
      refine lv_isub hx hb dX3_closes_37 ?_
      refine ptX3_28 X hw dX3_closes_38 (fun M9 H locs eM9 hw => ?_)
      replace h := zlt_s eM9 h
      refine lv_aload_n hx hb dX3_closes_41 rfl (lv_at hl 0 rfl) ?_
      refine lv_dup hx hb dX3_closes_42 rfl ?_
      refine gtX3_25 X hw dX3_closes_43 ?_
      refine lv_iconst (v := 1) hx hb dX3_closes_46 (by decide) ?_
      refine lv_isub hx hb dX3_closes_47 ?_
      refine ptX3_25 X hw dX3_closes_48 (fun M10 H locs eM10 hw => ?_)
      replace h := zlt_s eM10 h
      refine lv_iconst (v := 1) hx hb dX3_closes_51 (by decide) ?_
      exact z_rz X hw (Or.inr rfl) (zret h) dX3_closes_52
  · replace h := zif_t c1 h
    refine lv_iconst (v := 0) hx hb dX3_closes_7 (by decide) ?_
    exact z_rz X hw (Or.inl rfl) (zret h) dX3_closes_8
def fX3_follows (p0 : Int32) (M : zM) : Option (Int32 × zM) := if p0 = (41 : Int32) then (zbi (fX3_closes M) (fun r51 M52 => zgd (¬ (r51 = 0 ∨ r51 = 1)) (some (r51, M52)))) else (zbi (fX3_rankOf p0 M) (fun r2 M3 => if r2 = 0 then (some ((0 : Int32), M3)) else (if r2 = (3 : Int32) then (zbv (fX3_writeSigns (r2 + (1 : Int32)) M3) (fun M30 => if r2 = (3 : Int32) then (if M30 73 3 ≤ 0 then (zbv (fX3_hold p0 M30) (fun M39 => zlt (zst M39 73 7 (1 : Int32)) (fun M41 => some ((1 : Int32), M41)))) else (zgd ((M30 73 3) - (1 : Int32) < 0 ∨ 60 ≤ ((M30 73 3) - (1 : Int32)).toNatClampNeg) (zbi (fX3_rankOf (M30 75 (((M30 73 3) - (1 : Int32)).toNatClampNeg)) M30) (fun r43 M44 => if r43 = (3 : Int32) then (some ((0 : Int32), M44)) else (zbv (fX3_hold p0 M44) (fun M48 => zlt (zst M48 73 7 (1 : Int32)) (fun M50 => some ((1 : Int32), M50)))))))) else (zbv (fX3_hold p0 M30) (fun M34 => zlt (zst M34 73 7 (1 : Int32)) (fun M36 => some ((1 : Int32), M36)))))) else (zbv (fX3_writeSigns r2 M3) (fun M8 => if r2 = (3 : Int32) then (if M8 73 3 ≤ 0 then (zbv (fX3_hold p0 M8) (fun M17 => zlt (zst M17 73 7 (1 : Int32)) (fun M19 => some ((1 : Int32), M19)))) else (zgd ((M8 73 3) - (1 : Int32) < 0 ∨ 60 ≤ ((M8 73 3) - (1 : Int32)).toNatClampNeg) (zbi (fX3_rankOf (M8 75 (((M8 73 3) - (1 : Int32)).toNatClampNeg)) M8) (fun r21 M22 => if r21 = (3 : Int32) then (some ((0 : Int32), M22)) else (zbv (fX3_hold p0 M22) (fun M26 => zlt (zst M26 73 7 (1 : Int32)) (fun M28 => some ((1 : Int32), M28)))))))) else (zbv (fX3_hold p0 M8) (fun M12 => zlt (zst M12 73 7 (1 : Int32)) (fun M14 => some ((1 : Int32), M14)))))))))
set_option maxRecDepth 100000 in
set_option maxHeartbeats 4000000 in
theorem kX3_follows (l : Launch) (D : va_G) (cy : Nat → ClassId) (a : Nat → Nat) (p0 : Int32) (M : zM) (r0 : Int32) (M0 : zM) (h : fX3_follows p0 M = some (r0, M0)) : zCi l D cy a yX3_follows cX3_follows 3 (some .boolean) (zRm 3 64) [.ref (a 73), .int p0] M (fun r u => r = r0 ∧ u = M0) := by
  intro sz
  refine zent_i sz (by decide) (Nat.le_of_ble_eq_true rfl) rfl (fun p e s m args below meth c ls H locs X hw hl => ?_)
  obtain ⟨hx, hb, hr, hml, hown, hW, hlocks⟩ := id X
  have hE := hw.2.2.2.2.1
  have hcs : 0 ≤ ((zRm 3 64)).cells ∧ 0 ≤ ((zRm 3 64)).slots := ⟨Nat.zero_le _, Nat.zero_le _⟩
  rw [fX3_follows] at h
  refine lv_iload_n hx hb dX3_follows_0 rfl (lv_at hl 1 rfl) ?_
  refine lv_bipush (v := 41) hx hb dX3_follows_1 (by decide) ?_
  refine lv_icmp_ne (tgt := 11) hx hb dX3_follows_3 (by decide) (fun c1 => ?_) (fun c1 => ?_)
  · replace h := zif_f c1 h
    refine lv_iload_n hx hb dX3_follows_11 rfl (lv_at hl 1 rfl) ?_
    obtain ⟨r2, M3, f4, h⟩ := zbi_e h
    refine z_qSi (As := [.int p0]) (rest := []) X hw (kX3_rankOf l D cy a p0 M r2 M3 f4) (cwX3_78 X.2.2.2.2.2.1 rfl rfl (zroomO (Nat.le_of_ble_eq_true rfl) (Nat.le_of_ble_eq_true rfl))) rfl rfl (Nat.le_of_ble_eq_true rfl) hl.1 hcs dX3_follows_12 (fun H locs hw => ?_)
    refine lv_istore_n (lv' := [(2, .int r2), (0, .ref (a 73)), (1, .int p0)]) hx hb dX3_follows_15 rfl hl (by decide) rfl (fun ls hl => ?_)
    refine lv_iload_n hx hb dX3_follows_16 rfl (lv_at hl 0 rfl) ?_
    refine lv_if_ne (tgt := 22) hx hb dX3_follows_17 (by decide) (fun c5 => ?_) (fun c5 => ?_)
    · replace h := zif_f c5 h
      refine lv_aload_n hx hb dX3_follows_22 rfl (lv_at hl 1 rfl) ?_
      refine lv_iload_n hx hb dX3_follows_23 rfl (lv_at hl 0 rfl) ?_
      refine lv_iconst (v := 3) hx hb dX3_follows_24 (by decide) ?_
      refine lv_icmp_ne (tgt := 34) hx hb dX3_follows_25 (by decide) (fun c6 => ?_) (fun c6 => ?_)
      · replace h := zif_f c6 h
        refine lv_iload_n hx hb dX3_follows_34 rfl (lv_at hl 0 rfl) ?_
        obtain ⟨M8, f9, h⟩ := zbv_e h
        refine z_qVv (As := [.int r2]) (rest := []) X hw (kX3_writeSigns l D cy a r2 M3 M8 f9) (cwX3_42 X.2.2.2.2.2.1 rfl rfl (zroomO (Nat.le_of_ble_eq_true rfl) (Nat.le_of_ble_eq_true rfl))) (zX3_lt zX3_73) (zS3 zX3_73 cy a (M3 73)) rfl rfl rfl (Nat.le_of_ble_eq_true rfl) hl.1 hcs dX3_follows_35 (fun H locs hw => ?_)
        refine lv_iload_n hx hb dX3_follows_38 rfl (lv_at hl 0 rfl) ?_
        refine lv_iconst (v := 3) hx hb dX3_follows_39 (by decide) ?_
        refine lv_icmp_ne (tgt := 70) hx hb dX3_follows_40 (by decide) (fun c10 => ?_) (fun c10 => ?_)
        · replace h := zif_f c10 h
          refine lv_aload_n hx hb dX3_follows_70 rfl (lv_at hl 1 rfl) ?_
          refine lv_iload_n hx hb dX3_follows_71 rfl (lv_at hl 2 rfl) ?_
          obtain ⟨M12, f13, h⟩ := zbv_e h
          refine z_qVv (As := [.int p0]) (rest := []) X hw (kX3_hold l D cy a p0 M8 M12 f13) (cwX3_59 X.2.2.2.2.2.1 rfl rfl (zroomO (Nat.le_of_ble_eq_true rfl) (Nat.le_of_ble_eq_true rfl))) (zX3_lt zX3_73) (zS3 zX3_73 cy a (M8 73)) rfl rfl rfl (Nat.le_of_ble_eq_true rfl) hl.1 hcs dX3_follows_72 (fun H locs hw => ?_)
          refine lv_aload_n hx hb dX3_follows_75 rfl (lv_at hl 1 rfl) ?_
          refine lv_iconst (v := 1) hx hb dX3_follows_76 (by decide) ?_
          refine ptX3_34 X hw (Or.inr rfl) dX3_follows_77 (fun M14 H locs eM14 hw => ?_)
          replace h := zlt_s eM14 h
          refine lv_iconst (v := 1) hx hb dX3_follows_80 (by decide) ?_
          exact z_rz X hw (Or.inr rfl) (zret h) dX3_follows_81
        · replace h := zif_t c10 h
          refine lv_aload_n hx hb dX3_follows_43 rfl (lv_at hl 1 rfl) ?_
          refine gtX3_22 X hw dX3_follows_44 ?_
          refine lv_if_le (tgt := 70) hx hb dX3_follows_47 (by decide) (fun c15 => ?_) (fun c15 => ?_)
          · replace h := zif_t c15 h
            refine lv_aload_n hx hb dX3_follows_70 rfl (lv_at hl 1 rfl) ?_
            refine lv_iload_n hx hb dX3_follows_71 rfl (lv_at hl 2 rfl) ?_
            obtain ⟨M17, f18, h⟩ := zbv_e h
            refine z_qVv (As := [.int p0]) (rest := []) X hw (kX3_hold l D cy a p0 M8 M17 f18) (cwX3_59 X.2.2.2.2.2.1 rfl rfl (zroomO (Nat.le_of_ble_eq_true rfl) (Nat.le_of_ble_eq_true rfl))) (zX3_lt zX3_73) (zS3 zX3_73 cy a (M8 73)) rfl rfl rfl (Nat.le_of_ble_eq_true rfl) hl.1 hcs dX3_follows_72 (fun H locs hw => ?_)
            refine lv_aload_n hx hb dX3_follows_75 rfl (lv_at hl 1 rfl) ?_
            refine lv_iconst (v := 1) hx hb dX3_follows_76 (by decide) ?_
            refine ptX3_34 X hw (Or.inr rfl) dX3_follows_77 (fun M19 H locs eM19 hw => ?_)
            replace h := zlt_s eM19 h
            refine lv_iconst (v := 1) hx hb dX3_follows_80 (by decide) ?_
            exact z_rz X hw (Or.inr rfl) (zret h) dX3_follows_81
          · replace h := zif_f c15 h
            refine lv_aload_n hx hb dX3_follows_50 rfl (lv_at hl 1 rfl) ?_
            refine gtX3_15 X hw dX3_follows_51 ?_
            refine lv_aload_n hx hb dX3_follows_54 rfl (lv_at hl 1 rfl) ?_
            refine gtX3_22 X hw dX3_follows_55 ?_
            refine lv_iconst (v := 1) hx hb dX3_follows_58 (by decide) ?_
            refine lv_isub hx hb dX3_follows_59 ?_
            obtain ⟨g20, h⟩ := zgd_e h
            refine z_ald X hw (zI_3_2 zX3_73) g20 dX3_follows_60 ?_
            obtain ⟨r21, M22, f23, h⟩ := zbi_e h
            refine z_qSi (As := [.int (M8 75 (((M8 73 3) - (1 : Int32)).toNatClampNeg))]) (rest := []) X hw (kX3_rankOf l D cy a (M8 75 (((M8 73 3) - (1 : Int32)).toNatClampNeg)) M8 r21 M22 f23) (cwX3_78 X.2.2.2.2.2.1 rfl rfl (zroomO (Nat.le_of_ble_eq_true rfl) (Nat.le_of_ble_eq_true rfl))) rfl rfl (Nat.le_of_ble_eq_true rfl) hl.1 hcs dX3_follows_61 (fun H locs hw => ?_)
            refine lv_iconst (v := 3) hx hb dX3_follows_64 (by decide) ?_
            refine lv_icmp_ne (tgt := 70) hx hb dX3_follows_65 (by decide) (fun c24 => ?_) (fun c24 => ?_)
            · replace h := zif_f c24 h
              refine lv_aload_n hx hb dX3_follows_70 rfl (lv_at hl 1 rfl) ?_
              refine lv_iload_n hx hb dX3_follows_71 rfl (lv_at hl 2 rfl) ?_
              obtain ⟨M26, f27, h⟩ := zbv_e h
              refine z_qVv (As := [.int p0]) (rest := []) X hw (kX3_hold l D cy a p0 M22 M26 f27) (cwX3_59 X.2.2.2.2.2.1 rfl rfl (zroomO (Nat.le_of_ble_eq_true rfl) (Nat.le_of_ble_eq_true rfl))) (zX3_lt zX3_73) (zS3 zX3_73 cy a (M22 73)) rfl rfl rfl (Nat.le_of_ble_eq_true rfl) hl.1 hcs dX3_follows_72 (fun H locs hw => ?_)
              refine lv_aload_n hx hb dX3_follows_75 rfl (lv_at hl 1 rfl) ?_
              refine lv_iconst (v := 1) hx hb dX3_follows_76 (by decide) ?_
              refine ptX3_34 X hw (Or.inr rfl) dX3_follows_77 (fun M28 H locs eM28 hw => ?_)
              replace h := zlt_s eM28 h
              refine lv_iconst (v := 1) hx hb dX3_follows_80 (by decide) ?_
              exact z_rz X hw (Or.inr rfl) (zret h) dX3_follows_81
            · replace h := zif_t c24 h
              refine lv_iconst (v := 0) hx hb dX3_follows_68 (by decide) ?_
              exact z_rz X hw (Or.inl rfl) (zret h) dX3_follows_69
      · replace h := zif_t c6 h
        refine lv_iload_n hx hb dX3_follows_28 rfl (lv_at hl 0 rfl) ?_
        refine lv_iconst (v := 1) hx hb dX3_follows_29 (by decide) ?_
        refine lv_iadd hx hb dX3_follows_30 ?_
        refine lv_goto (tgt := 35) hx hb dX3_follows_31 (by decide) ?_
        obtain ⟨M30, f31, h⟩ := zbv_e h
        refine z_qVv (As := [.int (r2 + (1 : Int32))]) (rest := []) X hw (kX3_writeSigns l D cy a (r2 + (1 : Int32)) M3 M30 f31) (cwX3_42 X.2.2.2.2.2.1 rfl rfl (zroomO (Nat.le_of_ble_eq_true rfl) (Nat.le_of_ble_eq_true rfl))) (zX3_lt zX3_73) (zS3 zX3_73 cy a (M3 73)) rfl rfl rfl (Nat.le_of_ble_eq_true rfl) hl.1 hcs dX3_follows_35 (fun H locs hw => ?_)
        refine lv_iload_n hx hb dX3_follows_38 rfl (lv_at hl 0 rfl) ?_
        refine lv_iconst (v := 3) hx hb dX3_follows_39 (by decide) ?_
        refine lv_icmp_ne (tgt := 70) hx hb dX3_follows_40 (by decide) (fun c32 => ?_) (fun c32 => ?_)
        · replace h := zif_f c32 h
          refine lv_aload_n hx hb dX3_follows_70 rfl (lv_at hl 1 rfl) ?_
          refine lv_iload_n hx hb dX3_follows_71 rfl (lv_at hl 2 rfl) ?_
          obtain ⟨M34, f35, h⟩ := zbv_e h
          refine z_qVv (As := [.int p0]) (rest := []) X hw (kX3_hold l D cy a p0 M30 M34 f35) (cwX3_59 X.2.2.2.2.2.1 rfl rfl (zroomO (Nat.le_of_ble_eq_true rfl) (Nat.le_of_ble_eq_true rfl))) (zX3_lt zX3_73) (zS3 zX3_73 cy a (M30 73)) rfl rfl rfl (Nat.le_of_ble_eq_true rfl) hl.1 hcs dX3_follows_72 (fun H locs hw => ?_)
          refine lv_aload_n hx hb dX3_follows_75 rfl (lv_at hl 1 rfl) ?_
          refine lv_iconst (v := 1) hx hb dX3_follows_76 (by decide) ?_
          refine ptX3_34 X hw (Or.inr rfl) dX3_follows_77 (fun M36 H locs eM36 hw => ?_)
          replace h := zlt_s eM36 h
          refine lv_iconst (v := 1) hx hb dX3_follows_80 (by decide) ?_
          exact z_rz X hw (Or.inr rfl) (zret h) dX3_follows_81
        · replace h := zif_t c32 h
          refine lv_aload_n hx hb dX3_follows_43 rfl (lv_at hl 1 rfl) ?_
          refine gtX3_22 X hw dX3_follows_44 ?_
          refine lv_if_le (tgt := 70) hx hb dX3_follows_47 (by decide) (fun c37 => ?_) (fun c37 => ?_)
          · replace h := zif_t c37 h
            refine lv_aload_n hx hb dX3_follows_70 rfl (lv_at hl 1 rfl) ?_
            refine lv_iload_n hx hb dX3_follows_71 rfl (lv_at hl 2 rfl) ?_
            obtain ⟨M39, f40, h⟩ := zbv_e h
            refine z_qVv (As := [.int p0]) (rest := []) X hw (kX3_hold l D cy a p0 M30 M39 f40) (cwX3_59 X.2.2.2.2.2.1 rfl rfl (zroomO (Nat.le_of_ble_eq_true rfl) (Nat.le_of_ble_eq_true rfl))) (zX3_lt zX3_73) (zS3 zX3_73 cy a (M30 73)) rfl rfl rfl (Nat.le_of_ble_eq_true rfl) hl.1 hcs dX3_follows_72 (fun H locs hw => ?_)
            refine lv_aload_n hx hb dX3_follows_75 rfl (lv_at hl 1 rfl) ?_
            refine lv_iconst (v := 1) hx hb dX3_follows_76 (by decide) ?_
            refine ptX3_34 X hw (Or.inr rfl) dX3_follows_77 (fun M41 H locs eM41 hw => ?_)
            replace h := zlt_s eM41 h
            refine lv_iconst (v := 1) hx hb dX3_follows_80 (by decide) ?_
            exact z_rz X hw (Or.inr rfl) (zret h) dX3_follows_81
          · replace h := zif_f c37 h
            refine lv_aload_n hx hb dX3_follows_50 rfl (lv_at hl 1 rfl) ?_
            refine gtX3_15 X hw dX3_follows_51 ?_
            refine lv_aload_n hx hb dX3_follows_54 rfl (lv_at hl 1 rfl) ?_
            refine gtX3_22 X hw dX3_follows_55 ?_
            refine lv_iconst (v := 1) hx hb dX3_follows_58 (by decide) ?_
            refine lv_isub hx hb dX3_follows_59 ?_
            obtain ⟨g42, h⟩ := zgd_e h
            refine z_ald X hw (zI_3_2 zX3_73) g42 dX3_follows_60 ?_
            obtain ⟨r43, M44, f45, h⟩ := zbi_e h
            refine z_qSi (As := [.int (M30 75 (((M30 73 3) - (1 : Int32)).toNatClampNeg))]) (rest := []) X hw (kX3_rankOf l D cy a (M30 75 (((M30 73 3) - (1 : Int32)).toNatClampNeg)) M30 r43 M44 f45) (cwX3_78 X.2.2.2.2.2.1 rfl rfl (zroomO (Nat.le_of_ble_eq_true rfl) (Nat.le_of_ble_eq_true rfl))) rfl rfl (Nat.le_of_ble_eq_true rfl) hl.1 hcs dX3_follows_61 (fun H locs hw => ?_)
            refine lv_iconst (v := 3) hx hb dX3_follows_64 (by decide) ?_
            refine lv_icmp_ne (tgt := 70) hx hb dX3_follows_65 (by decide) (fun c46 => ?_) (fun c46 => ?_)
            · replace h := zif_f c46 h
              refine lv_aload_n hx hb dX3_follows_70 rfl (lv_at hl 1 rfl) ?_
              refine lv_iload_n hx hb dX3_follows_71 rfl (lv_at hl 2 rfl) ?_
              obtain ⟨M48, f49, h⟩ := zbv_e h
              refine z_qVv (As := [.int p0]) (rest := []) X hw (kX3_hold l D cy a p0 M44 M48 f49) (cwX3_59 X.2.2.2.2.2.1 rfl rfl (zroomO (Nat.le_of_ble_eq_true rfl) (Nat.le_of_ble_eq_true rfl))) (zX3_lt zX3_73) (zS3 zX3_73 cy a (M44 73)) rfl rfl rfl (Nat.le_of_ble_eq_true rfl) hl.1 hcs dX3_follows_72 (fun H locs hw => ?_)
              refine lv_aload_n hx hb dX3_follows_75 rfl (lv_at hl 1 rfl) ?_
              refine lv_iconst (v := 1) hx hb dX3_follows_76 (by decide) ?_
              refine ptX3_34 X hw (Or.inr rfl) dX3_follows_77 (fun M50 H locs eM50 hw => ?_)
              replace h := zlt_s eM50 h
              refine lv_iconst (v := 1) hx hb dX3_follows_80 (by decide) ?_
              exact z_rz X hw (Or.inr rfl) (zret h) dX3_follows_81
            · replace h := zif_t c46 h
              refine lv_iconst (v := 0) hx hb dX3_follows_68 (by decide) ?_
              exact z_rz X hw (Or.inl rfl) (zret h) dX3_follows_69
    · replace h := zif_t c5 h
      refine lv_iconst (v := 0) hx hb dX3_follows_20 (by decide) ?_
      exact z_rz X hw (Or.inl rfl) (zret h) dX3_follows_21
  · replace h := zif_t c1 h
    refine lv_aload_n hx hb dX3_follows_6 rfl (lv_at hl 0 rfl) ?_
    obtain ⟨r51, M52, f53, h⟩ := zbi_e h
    refine z_qVi (As := []) (rest := []) X hw (kX3_closes l D cy a M r51 M52 f53) (cwX3_74 X.2.2.2.2.2.1 rfl rfl (zroomO (Nat.le_of_ble_eq_true rfl) (Nat.le_of_ble_eq_true rfl))) (zX3_lt zX3_73) (zS3 zX3_73 cy a (M 73)) rfl rfl rfl (Nat.le_of_ble_eq_true rfl) hl.1 hcs dX3_follows_7 (fun H locs hw => ?_)
    obtain ⟨g54, h⟩ := zgd_e h
    exact z_rz X hw (Decidable.not_not.mp g54) (zret h) dX3_follows_10
def fX3_goesOn (p0 : Int32) (p1 : Int32) (M : zM) : Option (Int32 × zM) := if p0 < (48 : Int32) then (zlt (zst M 73 6 (0 : Int32)) (fun M2 => if M2 73 7 = 0 then (zbi (fX3_follows p0 M2) (fun r4 M5 => zgd (¬ (r4 = 0 ∨ r4 = 1)) (some (r4, M5)))) else (zbi (fX3_opens p0 p1 M2) (fun r8 M9 => zgd (¬ (r8 = 0 ∨ r8 = 1)) (some (r8, M9)))))) else (if (57 : Int32) < p0 then (zlt (zst M 73 6 (0 : Int32)) (fun M13 => if M13 73 7 = 0 then (zbi (fX3_follows p0 M13) (fun r15 M16 => zgd (¬ (r15 = 0 ∨ r15 = 1)) (some (r15, M16)))) else (zbi (fX3_opens p0 p1 M13) (fun r19 M20 => zgd (¬ (r19 = 0 ∨ r19 = 1)) (some (r19, M20)))))) else (zbi (fX3_digit (p0 - (48 : Int32)) M) (fun r23 M24 => zgd (¬ (r23 = 0 ∨ r23 = 1)) (some (r23, M24)))))
set_option maxRecDepth 100000 in
set_option maxHeartbeats 4000000 in
theorem kX3_goesOn (l : Launch) (D : va_G) (cy : Nat → ClassId) (a : Nat → Nat) (p0 : Int32) (p1 : Int32) (M : zM) (r0 : Int32) (M0 : zM) (h : fX3_goesOn p0 p1 M = some (r0, M0)) : zCi l D cy a yX3_goesOn cX3_goesOn 3 (some .boolean) (zRm 9 323) [.ref (a 73), .int p0, .int p1] M (fun r u => r = r0 ∧ u = M0) := by
  intro sz
  refine zent_i sz (by decide) (Nat.le_of_ble_eq_true rfl) rfl (fun p e s m args below meth c ls H locs X hw hl => ?_)
  obtain ⟨hx, hb, hr, hml, hown, hW, hlocks⟩ := id X
  have hE := hw.2.2.2.2.1
  have hcs : 0 ≤ ((zRm 9 323)).cells ∧ 0 ≤ ((zRm 9 323)).slots := ⟨Nat.zero_le _, Nat.zero_le _⟩
  rw [fX3_goesOn] at h
  refine lv_iload_n hx hb dX3_goesOn_0 rfl (lv_at hl 1 rfl) ?_
  refine lv_bipush (v := 48) hx hb dX3_goesOn_1 (by decide) ?_
  refine lv_icmp_lt (tgt := 21) hx hb dX3_goesOn_3 (by decide) (fun c1 => ?_) (fun c1 => ?_)
  · replace h := zif_t c1 h
    refine lv_aload_n hx hb dX3_goesOn_21 rfl (lv_at hl 0 rfl) ?_
    refine lv_iconst (v := 0) hx hb dX3_goesOn_22 (by decide) ?_
    refine ptX3_31 X hw dX3_goesOn_23 (fun M2 H locs eM2 hw => ?_)
    replace h := zlt_s eM2 h
    refine lv_aload_n hx hb dX3_goesOn_26 rfl (lv_at hl 0 rfl) ?_
    refine gtX3_34 X hw dX3_goesOn_27 ?_
    refine lv_if_eq (tgt := 42) hx hb dX3_goesOn_30 (by decide) (fun c3 => ?_) (fun c3 => ?_)
    · replace h := zif_t c3 h
      refine lv_aload_n hx hb dX3_goesOn_42 rfl (lv_at hl 0 rfl) ?_
      refine lv_iload_n hx hb dX3_goesOn_43 rfl (lv_at hl 1 rfl) ?_
      obtain ⟨r4, M5, f6, h⟩ := zbi_e h
      refine z_qVi (As := [.int p0]) (rest := []) X hw (kX3_follows l D cy a p0 M2 r4 M5 f6) (cwX3_53 X.2.2.2.2.2.1 rfl rfl (zroomO (Nat.le_of_ble_eq_true rfl) (Nat.le_of_ble_eq_true rfl))) (zX3_lt zX3_73) (zS3 zX3_73 cy a (M2 73)) rfl rfl rfl (Nat.le_of_ble_eq_true rfl) hl.1 hcs dX3_goesOn_44 (fun H locs hw => ?_)
      obtain ⟨g7, h⟩ := zgd_e h
      exact z_rz X hw (Decidable.not_not.mp g7) (zret h) dX3_goesOn_47
    · replace h := zif_f c3 h
      refine lv_aload_n hx hb dX3_goesOn_33 rfl (lv_at hl 0 rfl) ?_
      refine lv_iload_n hx hb dX3_goesOn_34 rfl (lv_at hl 1 rfl) ?_
      refine lv_iload_n hx hb dX3_goesOn_35 rfl (lv_at hl 2 rfl) ?_
      obtain ⟨r8, M9, f10, h⟩ := zbi_e h
      refine z_qVi (As := [.int p0, .int p1]) (rest := []) X hw (kX3_opens l D cy a p0 p1 M2 r8 M9 f10) (cwX3_50 X.2.2.2.2.2.1 rfl rfl (zroomO (Nat.le_of_ble_eq_true rfl) (Nat.le_of_ble_eq_true rfl))) (zX3_lt zX3_73) (zS3 zX3_73 cy a (M2 73)) rfl rfl rfl (Nat.le_of_ble_eq_true rfl) hl.1 hcs dX3_goesOn_36 (fun H locs hw => ?_)
      refine lv_goto (tgt := 47) hx hb dX3_goesOn_39 (by decide) ?_
      obtain ⟨g11, h⟩ := zgd_e h
      exact z_rz X hw (Decidable.not_not.mp g11) (zret h) dX3_goesOn_47
  · replace h := zif_f c1 h
    refine lv_iload_n hx hb dX3_goesOn_6 rfl (lv_at hl 1 rfl) ?_
    refine lv_bipush (v := 57) hx hb dX3_goesOn_7 (by decide) ?_
    refine lv_icmp_gt (tgt := 21) hx hb dX3_goesOn_9 (by decide) (fun c12 => ?_) (fun c12 => ?_)
    · replace h := zif_t c12 h
      refine lv_aload_n hx hb dX3_goesOn_21 rfl (lv_at hl 0 rfl) ?_
      refine lv_iconst (v := 0) hx hb dX3_goesOn_22 (by decide) ?_
      refine ptX3_31 X hw dX3_goesOn_23 (fun M13 H locs eM13 hw => ?_)
      replace h := zlt_s eM13 h
      refine lv_aload_n hx hb dX3_goesOn_26 rfl (lv_at hl 0 rfl) ?_
      refine gtX3_34 X hw dX3_goesOn_27 ?_
      refine lv_if_eq (tgt := 42) hx hb dX3_goesOn_30 (by decide) (fun c14 => ?_) (fun c14 => ?_)
      · replace h := zif_t c14 h
        refine lv_aload_n hx hb dX3_goesOn_42 rfl (lv_at hl 0 rfl) ?_
        refine lv_iload_n hx hb dX3_goesOn_43 rfl (lv_at hl 1 rfl) ?_
        obtain ⟨r15, M16, f17, h⟩ := zbi_e h
        refine z_qVi (As := [.int p0]) (rest := []) X hw (kX3_follows l D cy a p0 M13 r15 M16 f17) (cwX3_53 X.2.2.2.2.2.1 rfl rfl (zroomO (Nat.le_of_ble_eq_true rfl) (Nat.le_of_ble_eq_true rfl))) (zX3_lt zX3_73) (zS3 zX3_73 cy a (M13 73)) rfl rfl rfl (Nat.le_of_ble_eq_true rfl) hl.1 hcs dX3_goesOn_44 (fun H locs hw => ?_)
        obtain ⟨g18, h⟩ := zgd_e h
        exact z_rz X hw (Decidable.not_not.mp g18) (zret h) dX3_goesOn_47
      · replace h := zif_f c14 h
        refine lv_aload_n hx hb dX3_goesOn_33 rfl (lv_at hl 0 rfl) ?_
        refine lv_iload_n hx hb dX3_goesOn_34 rfl (lv_at hl 1 rfl) ?_
        refine lv_iload_n hx hb dX3_goesOn_35 rfl (lv_at hl 2 rfl) ?_
        obtain ⟨r19, M20, f21, h⟩ := zbi_e h
        refine z_qVi (As := [.int p0, .int p1]) (rest := []) X hw (kX3_opens l D cy a p0 p1 M13 r19 M20 f21) (cwX3_50 X.2.2.2.2.2.1 rfl rfl (zroomO (Nat.le_of_ble_eq_true rfl) (Nat.le_of_ble_eq_true rfl))) (zX3_lt zX3_73) (zS3 zX3_73 cy a (M13 73)) rfl rfl rfl (Nat.le_of_ble_eq_true rfl) hl.1 hcs dX3_goesOn_36 (fun H locs hw => ?_)
        refine lv_goto (tgt := 47) hx hb dX3_goesOn_39 (by decide) ?_
        obtain ⟨g22, h⟩ := zgd_e h
        exact z_rz X hw (Decidable.not_not.mp g22) (zret h) dX3_goesOn_47
    · replace h := zif_f c12 h
      refine lv_aload_n hx hb dX3_goesOn_12 rfl (lv_at hl 0 rfl) ?_
      refine lv_iload_n hx hb dX3_goesOn_13 rfl (lv_at hl 1 rfl) ?_
      refine lv_bipush (v := 48) hx hb dX3_goesOn_14 (by decide) ?_
      refine lv_isub hx hb dX3_goesOn_16 ?_
      obtain ⟨r23, M24, f25, h⟩ := zbi_e h
      refine z_qVi (As := [.int (p0 - (48 : Int32))]) (rest := []) X hw (kX3_digit l D cy a (p0 - (48 : Int32)) M r23 M24 f25) (cwX3_46 X.2.2.2.2.2.1 rfl rfl (zroomO (Nat.le_of_ble_eq_true rfl) (Nat.le_of_ble_eq_true rfl))) (zX3_lt zX3_73) (zS3 zX3_73 cy a (M 73)) rfl rfl rfl (Nat.le_of_ble_eq_true rfl) hl.1 hcs dX3_goesOn_17 (fun H locs hw => ?_)
      obtain ⟨g26, h⟩ := zgd_e h
      exact z_rz X hw (Decidable.not_not.mp g26) (zret h) dX3_goesOn_20
def fX3_read_33 (w1 : Nat) (y2 : Int32) (y3 : Int32) (k : zM → Option (Int32 × zM)) : Nat → Int32 → zM → Option (Int32 × zM)
  | 0, _, _ => none
  | n + 1, v4, M => if y2 ≤ v4 then (k  M) else (if (60 : Int32) ≤ v4 then (k  M) else (zgd (v4 < 0 ∨ 60 ≤ v4.toNatClampNeg) (zbi (fX3_goesOn ((M w1 (v4.toNatClampNeg)) &&& (255 : Int32)) y3 M) (fun r10 M11 => if r10 = 0 then (some (v4, M11)) else (zlt (v4 + (1 : Int32)) (fun x14 => fX3_read_33 w1 y2 y3 k n x14 M11))))))
set_option maxRecDepth 100000 in
set_option maxHeartbeats 4000000 in
theorem lX3_read_33 {p : Program} {l : Launch} {e : Env} {s : State} {m : MethodId} {args : Array Value} {below : List Frame} {meth : Method} {c : Code} {D : va_G} {cy : Nat → ClassId} {a : Nat → Nat} {r0 : Int32} {M0 : zM} (X : zCX p s m meth c args cX3_read 5 (some .int) RX3) (w1 : Nat) (y2 : Int32) (y3 : Int32) (hw1 : zB w1 60) (k : zM → Option (Int32 × zM)) : ∀ (n : Nat) (v4 : Int32) (M : zM) (H : Heap) (locs : List Loc) (ls : Array Slot), zWD D cy a (zfr a s.heap.size) M H locs s → lv_has ls 5 [(0, .ref (a 73)), (1, .ref (a w1)), (2, .int y2), (3, .int y3), (4, .int v4)] → fX3_read_33 w1 y2 y3 k n v4 M = some (r0, M0) →
    (∀ (M' : zM) (H' : Heap) (locs' : List Loc) (ls' : Array Slot), zWD D cy a (zfr a s.heap.size) M' H' locs' s → lv_has ls' 5 [(0, .ref (a 73)), (2, .int y2)] → k M' = some (r0, M0) → W p l e (zRm 10 345) s m args below meth c H' locs' 0 0 (zQi D cy a s args below r0 M0) (F0 m 71 ls' [])) →
    W p l e (zRm 10 345) s m args below meth c H locs 0 0 (zQi D cy a s args below r0 M0) (F0 m 33 ls []) := by
  obtain ⟨hx, hb, hr, hml, hown, hW, hlocks⟩ := id X
  have hcs : 0 ≤ ((zRm 10 345)).cells ∧ 0 ≤ ((zRm 10 345)).slots := ⟨Nat.zero_le _, Nat.zero_le _⟩
  intro n
  induction n with
  | zero =>
    intro v4 M H locs ls hw hl h hk
    cases h
  | succ n ih =>
    intro v4 M H locs ls hw hl h hk
    have hE := hw.2.2.2.2.1
    rw [fX3_read_33] at h
    refine lv_iload hx hb dX3_read_33 (lv_at hl 4 rfl) ?_
    refine lv_iload_n hx hb dX3_read_35 rfl (lv_at hl 2 rfl) ?_
    refine lv_icmp_ge (tgt := 71) hx hb dX3_read_36 (by decide) (fun c7 => ?_) (fun c7 => ?_)
    · replace h := zif_t c7 h
      exact hk  M H locs _ hw (lv_sub hl [0, 2] rfl) h
    · replace h := zif_f c7 h
      refine lv_iload hx hb dX3_read_39 (lv_at hl 4 rfl) ?_
      refine lv_aload_n hx hb dX3_read_41 rfl (lv_at hl 1 rfl) ?_
      refine z_alenB (v := 60) X hw hw1 rfl dX3_read_42 ?_
      refine lv_icmp_ge (tgt := 71) hx hb dX3_read_43 (by decide) (fun c8 => ?_) (fun c8 => ?_)
      · replace h := zif_t c8 h
        exact hk  M H locs _ hw (lv_sub hl [0, 2] rfl) h
      · replace h := zif_f c8 h
        refine lv_aload_n hx hb dX3_read_46 rfl (lv_at hl 0 rfl) ?_
        refine lv_aload_n hx hb dX3_read_47 rfl (lv_at hl 1 rfl) ?_
        refine lv_iload hx hb dX3_read_48 (lv_at hl 4 rfl) ?_
        obtain ⟨g9, h⟩ := zgd_e h
        refine z_bald X hw hw1 g9 dX3_read_50 ?_
        refine lv_sipush (v := 255) hx hb dX3_read_51 (by decide) ?_
        refine lv_iand hx hb dX3_read_54 ?_
        refine lv_iload_n hx hb dX3_read_55 rfl (lv_at hl 3 rfl) ?_
        obtain ⟨r10, M11, f12, h⟩ := zbi_e h
        refine z_qVi (As := [.int ((M w1 (v4.toNatClampNeg)) &&& (255 : Int32)), .int y3]) (rest := []) X hw (kX3_goesOn l D cy a ((M w1 (v4.toNatClampNeg)) &&& (255 : Int32)) y3 M r10 M11 f12) (cwX3_38 X.2.2.2.2.2.1 rfl rfl (zroomO (Nat.le_of_ble_eq_true rfl) (Nat.le_of_ble_eq_true rfl))) (zX3_lt zX3_73) (zS3 zX3_73 cy a (M 73)) rfl rfl rfl (Nat.le_of_ble_eq_true rfl) hl.1 hcs dX3_read_56 (fun H locs hw => ?_)
        refine lv_if_ne (tgt := 65) hx hb dX3_read_59 (by decide) (fun c13 => ?_) (fun c13 => ?_)
        · replace h := zif_f c13 h
          obtain ⟨x14, ex14⟩ : ∃ y : Int32, y = v4 + (1 : Int32) := ⟨_, rfl⟩
          replace h := zlt_s ex14 h
          refine lv_iinc (v := x14) (lv' := [(4, .int x14), (0, .ref (a 73)), (1, .ref (a w1)), (2, .int y2), (3, .int y3)]) hx hb dX3_read_65 hl (k := 4) rfl (by rw [ex14]; rfl) (by decide) rfl (fun ls hl => ?_)
          refine lv_goto (tgt := 33) hx hb dX3_read_68 (by decide) ?_
          exact ih x14 M11 H locs _ hw (lv_sub hl [1, 2, 3, 4, 0] rfl) h hk
        · replace h := zif_t c13 h
          refine lv_iload hx hb dX3_read_62 (lv_at hl 4 rfl) ?_
          exact z_ri X hw (zret h) dX3_read_64
def fX3_read (q0 : Nat) (p1 : Int32) (p2 : Int32) (M : zM) : Option (Int32 × zM) := zlt (zst M 73 2 (0 : Int32)) (fun M1 => zlt (zst M1 73 3 (0 : Int32)) (fun M2 => zlt (zst M2 73 4 (0 : Int32)) (fun M3 => zlt (zst M3 73 5 (0 : Int32)) (fun M4 => zlt (zst M4 73 6 (0 : Int32)) (fun M5 => zlt (zst M5 73 7 (1 : Int32)) (fun M6 => fX3_read_33 q0 p1 p2 (fun  M15 => if M15 73 7 = 0 then (if M15 73 5 ≤ 0 then (zbv (fX3_writeSigns (1 : Int32) M15) (fun M19 => some ((-1 : Int32), M19))) else (some (p1, M15))) else (some (p1, M15))) zF (0 : Int32) M6))))))
set_option maxRecDepth 100000 in
set_option maxHeartbeats 4000000 in
theorem kX3_read (l : Launch) (D : va_G) (cy : Nat → ClassId) (a : Nat → Nat) (q0 : Nat) (hq0 : zB q0 60) (p1 : Int32) (p2 : Int32) (M : zM) (r0 : Int32) (M0 : zM) (h : fX3_read q0 p1 p2 M = some (r0, M0)) : zCi l D cy a yX3_read cX3_read 5 (some .int) (zRm 10 345) [.ref (a 73), .ref (a q0), .int p1, .int p2] M (fun r u => r = r0 ∧ u = M0) := by
  intro sz
  refine zent_i sz (by decide) (Nat.le_of_ble_eq_true rfl) rfl (fun p e s m args below meth c ls H locs X hw hl => ?_)
  obtain ⟨hx, hb, hr, hml, hown, hW, hlocks⟩ := id X
  have hE := hw.2.2.2.2.1
  have hcs : 0 ≤ ((zRm 10 345)).cells ∧ 0 ≤ ((zRm 10 345)).slots := ⟨Nat.zero_le _, Nat.zero_le _⟩
  rw [fX3_read] at h
  refine lv_aload_n hx hb dX3_read_0 rfl (lv_at hl 0 rfl) ?_
  refine lv_iconst (v := 0) hx hb dX3_read_1 (by decide) ?_
  refine ptX3_18 X hw dX3_read_2 (fun M1 H locs eM1 hw => ?_)
  replace h := zlt_s eM1 h
  refine lv_aload_n hx hb dX3_read_5 rfl (lv_at hl 0 rfl) ?_
  refine lv_iconst (v := 0) hx hb dX3_read_6 (by decide) ?_
  refine ptX3_22 X hw dX3_read_7 (fun M2 H locs eM2 hw => ?_)
  replace h := zlt_s eM2 h
  refine lv_aload_n hx hb dX3_read_10 rfl (lv_at hl 0 rfl) ?_
  refine lv_iconst (v := 0) hx hb dX3_read_11 (by decide) ?_
  refine ptX3_25 X hw dX3_read_12 (fun M3 H locs eM3 hw => ?_)
  replace h := zlt_s eM3 h
  refine lv_aload_n hx hb dX3_read_15 rfl (lv_at hl 0 rfl) ?_
  refine lv_iconst (v := 0) hx hb dX3_read_16 (by decide) ?_
  refine ptX3_28 X hw dX3_read_17 (fun M4 H locs eM4 hw => ?_)
  replace h := zlt_s eM4 h
  refine lv_aload_n hx hb dX3_read_20 rfl (lv_at hl 0 rfl) ?_
  refine lv_iconst (v := 0) hx hb dX3_read_21 (by decide) ?_
  refine ptX3_31 X hw dX3_read_22 (fun M5 H locs eM5 hw => ?_)
  replace h := zlt_s eM5 h
  refine lv_aload_n hx hb dX3_read_25 rfl (lv_at hl 0 rfl) ?_
  refine lv_iconst (v := 1) hx hb dX3_read_26 (by decide) ?_
  refine ptX3_34 X hw (Or.inr rfl) dX3_read_27 (fun M6 H locs eM6 hw => ?_)
  replace h := zlt_s eM6 h
  refine lv_iconst (v := 0) hx hb dX3_read_30 (by decide) ?_
  refine lv_istore (lv' := [(4, .int (0 : Int32)), (0, .ref (a 73)), (1, .ref (a q0)), (2, .int p1), (3, .int p2)]) hx hb dX3_read_31 hl (by decide) rfl (fun ls hl => ?_)
  refine lX3_read_33 X q0 p1 p2 hq0 _ zF (0 : Int32) M6 H locs _ hw (lv_sub hl [1, 2, 3, 4, 0] rfl) h (fun  M15 H locs ls hw hl h => ?_)
  refine lv_aload_n hx hb dX3_read_71 rfl (lv_at hl 0 rfl) ?_
  refine gtX3_34 X hw dX3_read_72 ?_
  refine lv_if_ne (tgt := 85) hx hb dX3_read_75 (by decide) (fun c16 => ?_) (fun c16 => ?_)
  · replace h := zif_f c16 h
    refine lv_iload_n hx hb dX3_read_85 rfl (lv_at hl 1 rfl) ?_
    exact z_ri X hw (zret h) dX3_read_86
  · replace h := zif_t c16 h
    refine lv_aload_n hx hb dX3_read_78 rfl (lv_at hl 0 rfl) ?_
    refine gtX3_28 X hw dX3_read_79 ?_
    refine lv_if_le (tgt := 87) hx hb dX3_read_82 (by decide) (fun c17 => ?_) (fun c17 => ?_)
    · replace h := zif_t c17 h
      refine lv_aload_n hx hb dX3_read_87 rfl (lv_at hl 0 rfl) ?_
      refine lv_iconst (v := 1) hx hb dX3_read_88 (by decide) ?_
      obtain ⟨M19, f20, h⟩ := zbv_e h
      refine z_qVv (As := [.int (1 : Int32)]) (rest := []) X hw (kX3_writeSigns l D cy a (1 : Int32) M15 M19 f20) (cwX3_42 X.2.2.2.2.2.1 rfl rfl (zroomO (Nat.le_of_ble_eq_true rfl) (Nat.le_of_ble_eq_true rfl))) (zX3_lt zX3_73) (zS3 zX3_73 cy a (M15 73)) rfl rfl rfl (Nat.le_of_ble_eq_true rfl) hl.1 hcs dX3_read_89 (fun H locs hw => ?_)
      refine lv_iconst (v := (-1)) hx hb dX3_read_92 (by decide) ?_
      exact z_ri X hw (zret h) dX3_read_93
    · replace h := zif_f c17 h
      refine lv_iload_n hx hb dX3_read_85 rfl (lv_at hl 1 rfl) ?_
      exact z_ri X hw (zret h) dX3_read_86
