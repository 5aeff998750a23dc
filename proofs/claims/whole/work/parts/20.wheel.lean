def fX6_copyFrom (q : Nat) (q0 : Nat) (M : zM) : Option (zM) := zlt (zst M q 0 (M q0 0)) (fun M1 => zlt (zst M1 q 1 (M1 q0 1)) (fun M2 => zlt (zst M2 q 2 (M2 q0 2)) (fun M3 => zlt (zst M3 q 3 (M3 q0 3)) (fun M4 => zlt (zst M4 q 4 (M4 q0 4)) (fun M5 => zlt (zst M5 q 5 (M5 q0 5)) (fun M6 => zlt (zst M6 q 6 (M6 q0 6)) (fun M7 => some M7)))))))
set_option maxRecDepth 100000 in
set_option maxHeartbeats 4000000 in
theorem kX6_copyFrom (l : Launch) (D : va_G) (cy : Nat → ClassId) (a : Nat → Nat) (q : Nat) (hq : zX6 q) (q0 : Nat) (hq0 : zX6 q0) (M : zM) (M0 : zM) (h : fX6_copyFrom q q0 M = some M0) : zCv l D cy a yX6_copyFrom cX6_copyFrom 2 (zRm 0 0) [.ref (a q), .ref (a q0)] M (fun u => u = M0) := by
  intro sz
  refine zent_v sz (by decide) (Nat.le_of_ble_eq_true rfl) rfl (fun p e s m args below meth c ls H locs X hw hl => ?_)
  obtain ⟨hx, hb, hr, hml, hown, hW, hlocks⟩ := id X
  have hE := hw.2.2.2.2.1
  have hcs : 0 ≤ ((zRm 0 0)).cells ∧ 0 ≤ ((zRm 0 0)).slots := ⟨Nat.zero_le _, Nat.zero_le _⟩
  rw [fX6_copyFrom] at h
  refine lv_aload_n hx hb dX6_copyFrom_0 rfl (lv_at hl 0 rfl) ?_
  refine lv_aload_n hx hb dX6_copyFrom_1 rfl (lv_at hl 1 rfl) ?_
  refine gtX6_7 X hw hq0 dX6_copyFrom_2 ?_
  refine ptX6_7 X hw hq dX6_copyFrom_5 (fun M1 H locs eM1 hw => ?_)
  replace h := zlt_s eM1 h
  refine lv_aload_n hx hb dX6_copyFrom_8 rfl (lv_at hl 0 rfl) ?_
  refine lv_aload_n hx hb dX6_copyFrom_9 rfl (lv_at hl 1 rfl) ?_
  refine gtX6_13 X hw hq0 dX6_copyFrom_10 ?_
  refine ptX6_13 X hw hq dX6_copyFrom_13 (fun M2 H locs eM2 hw => ?_)
  replace h := zlt_s eM2 h
  refine lv_aload_n hx hb dX6_copyFrom_16 rfl (lv_at hl 0 rfl) ?_
  refine lv_aload_n hx hb dX6_copyFrom_17 rfl (lv_at hl 1 rfl) ?_
  refine gtX6_16 X hw hq0 dX6_copyFrom_18 ?_
  refine ptX6_16 X hw hq dX6_copyFrom_21 (fun M3 H locs eM3 hw => ?_)
  replace h := zlt_s eM3 h
  refine lv_aload_n hx hb dX6_copyFrom_24 rfl (lv_at hl 0 rfl) ?_
  refine lv_aload_n hx hb dX6_copyFrom_25 rfl (lv_at hl 1 rfl) ?_
  refine gtX6_19 X hw hq0 dX6_copyFrom_26 ?_
  refine ptX6_19 X hw hq dX6_copyFrom_29 (fun M4 H locs eM4 hw => ?_)
  replace h := zlt_s eM4 h
  refine lv_aload_n hx hb dX6_copyFrom_32 rfl (lv_at hl 0 rfl) ?_
  refine lv_aload_n hx hb dX6_copyFrom_33 rfl (lv_at hl 1 rfl) ?_
  refine gtX6_22 X hw hq0 dX6_copyFrom_34 ?_
  refine ptX6_22 X hw hq dX6_copyFrom_37 (fun M5 H locs eM5 hw => ?_)
  replace h := zlt_s eM5 h
  refine lv_aload_n hx hb dX6_copyFrom_40 rfl (lv_at hl 0 rfl) ?_
  refine lv_aload_n hx hb dX6_copyFrom_41 rfl (lv_at hl 1 rfl) ?_
  refine gtX6_25 X hw hq0 dX6_copyFrom_42 ?_
  refine ptX6_25 X hw hq dX6_copyFrom_45 (fun M6 H locs eM6 hw => ?_)
  replace h := zlt_s eM6 h
  refine lv_aload_n hx hb dX6_copyFrom_48 rfl (lv_at hl 0 rfl) ?_
  refine lv_aload_n hx hb dX6_copyFrom_49 rfl (lv_at hl 1 rfl) ?_
  refine gtX6_28 X hw hq0 dX6_copyFrom_50 ?_
  refine ptX6_28 X hw hq dX6_copyFrom_53 (fun M7 H locs eM7 hw => ?_)
  replace h := zlt_s eM7 h
  exact z_rv X hw (zretv h) dX6_copyFrom_56
def fX2_learn (q : Nat) (q0 : Nat) (p1 : Int32) (M : zM) : Option (zM) := if p1 < 0 then (some M) else (if (60 : Int32) < p1 then (some M) else (if (60 : Int32) < p1 then (some M) else (zgd ((0 : Int32) < 0 ∨ (0 : Int32) < 0 ∨ p1 < 0 ∨ 60 < (0 : Int32).toNatClampNeg + p1.toNatClampNeg ∨ 60 < (0 : Int32).toNatClampNeg + p1.toNatClampNeg) (zlt (zcp M q0 (q + 1) (0 : Int32) (0 : Int32) p1) (fun M4 => zlt (zst M4 q 2 p1) (fun M6 => some M6))))))
set_option maxRecDepth 100000 in
set_option maxHeartbeats 4000000 in
theorem kX2_learn (l : Launch) (D : va_G) (cy : Nat → ClassId) (a : Nat → Nat) (q : Nat) (hq : zX2 q) (q0 : Nat) (hq0 : zI q0 60) (p1 : Int32) (M : zM) (M0 : zM) (h : fX2_learn q q0 p1 M = some M0) : zCv l D cy a yX2_learn cX2_learn 3 (zRm 1 60) [.ref (a q), .ref (a q0), .int p1] M (fun u => u = M0) := by
  intro sz
  refine zent_v sz (by decide) (Nat.le_of_ble_eq_true rfl) rfl (fun p e s m args below meth c ls H locs X hw hl => ?_)
  obtain ⟨hx, hb, hr, hml, hown, hW, hlocks⟩ := id X
  have hE := hw.2.2.2.2.1
  have hcs : 0 ≤ ((zRm 1 60)).cells ∧ 0 ≤ ((zRm 1 60)).slots := ⟨Nat.zero_le _, Nat.zero_le _⟩
  rw [fX2_learn] at h
  refine lv_iload_n hx hb dX2_learn_0 rfl (lv_at hl 2 rfl) ?_
  refine lv_if_lt (tgt := 32) hx hb dX2_learn_1 (by decide) (fun c1 => ?_) (fun c1 => ?_)
  · replace h := zif_t c1 h
    exact z_rv X hw (zretv h) dX2_learn_32
  · replace h := zif_f c1 h
    refine lv_iload_n hx hb dX2_learn_4 rfl (lv_at hl 2 rfl) ?_
    refine lv_bipush (v := 60) hx hb dX2_learn_5 (by decide) ?_
    refine lv_icmp_gt (tgt := 32) hx hb dX2_learn_7 (by decide) (fun c2 => ?_) (fun c2 => ?_)
    · replace h := zif_t c2 h
      exact z_rv X hw (zretv h) dX2_learn_32
    · replace h := zif_f c2 h
      refine lv_iload_n hx hb dX2_learn_10 rfl (lv_at hl 2 rfl) ?_
      refine lv_aload_n hx hb dX2_learn_11 rfl (lv_at hl 1 rfl) ?_
      refine z_alenI (v := 60) X hw hq0 rfl dX2_learn_12 ?_
      refine lv_icmp_gt (tgt := 32) hx hb dX2_learn_13 (by decide) (fun c3 => ?_) (fun c3 => ?_)
      · replace h := zif_t c3 h
        exact z_rv X hw (zretv h) dX2_learn_32
      · replace h := zif_f c3 h
        refine lv_aload_n hx hb dX2_learn_16 rfl (lv_at hl 1 rfl) ?_
        refine lv_iconst (v := 0) hx hb dX2_learn_17 (by decide) ?_
        refine lv_aload_n hx hb dX2_learn_18 rfl (lv_at hl 0 rfl) ?_
        refine gtX2_9 X hw hq dX2_learn_19 ?_
        refine lv_iconst (v := 0) hx hb dX2_learn_22 (by decide) ?_
        refine lv_iload_n hx hb dX2_learn_23 rfl (lv_at hl 2 rfl) ?_
        obtain ⟨g5, h⟩ := zgd_e h
        refine z_cpI (rest := []) X hw hq0 (zI_2_1 hq) g5 zm_25_6 zm_25_7 zm_25_8 zm_25_9 hl.1 (Nat.le_of_ble_eq_true rfl) (Nat.le_of_ble_eq_true rfl) dX2_learn_24 (fun M4 H locs eM4 hw => ?_)
        replace h := zlt_s eM4 h
        refine lv_aload_n hx hb dX2_learn_27 rfl (lv_at hl 0 rfl) ?_
        refine lv_iload_n hx hb dX2_learn_28 rfl (lv_at hl 2 rfl) ?_
        refine ptX2_24 X hw hq dX2_learn_29 (fun M6 H locs eM6 hw => ?_)
        replace h := zlt_s eM6 h
        exact z_rv X hw (zretv h) dX2_learn_32
def fX2_nameOf (q0 : Nat) (p1 : Int32) (M : zM) : Option (Int32 × zM) := if p1 < 0 then (some ((0 : Int32), M)) else (if (4 : Int32) ≤ p1 then (some ((0 : Int32), M)) else (zgd (p1 < 0 ∨ 4 ≤ p1.toNatClampNeg) (some (M q0 (p1.toNatClampNeg), M))))
set_option maxRecDepth 100000 in
set_option maxHeartbeats 4000000 in
theorem kX2_nameOf (l : Launch) (D : va_G) (cy : Nat → ClassId) (a : Nat → Nat) (q0 : Nat) (hq0 : zI q0 4) (p1 : Int32) (M : zM) (r0 : Int32) (M0 : zM) (h : fX2_nameOf q0 p1 M = some (r0, M0)) : zCi l D cy a yX2_nameOf cX2_nameOf 2 (some .int) (zRm 0 0) [.ref (a q0), .int p1] M (fun r u => r = r0 ∧ u = M0) := by
  intro sz
  refine zent_i sz (by decide) (Nat.le_of_ble_eq_true rfl) rfl (fun p e s m args below meth c ls H locs X hw hl => ?_)
  obtain ⟨hx, hb, hr, hml, hown, hW, hlocks⟩ := id X
  have hE := hw.2.2.2.2.1
  have hcs : 0 ≤ ((zRm 0 0)).cells ∧ 0 ≤ ((zRm 0 0)).slots := ⟨Nat.zero_le _, Nat.zero_le _⟩
  rw [fX2_nameOf] at h
  refine lv_iload_n hx hb dX2_nameOf_0 rfl (lv_at hl 1 rfl) ?_
  refine lv_if_lt (tgt := 16) hx hb dX2_nameOf_1 (by decide) (fun c1 => ?_) (fun c1 => ?_)
  · replace h := zif_t c1 h
    refine lv_iconst (v := 0) hx hb dX2_nameOf_16 (by decide) ?_
    exact z_ri X hw (zret h) dX2_nameOf_17
  · replace h := zif_f c1 h
    refine lv_iload_n hx hb dX2_nameOf_4 rfl (lv_at hl 1 rfl) ?_
    refine lv_aload_n hx hb dX2_nameOf_5 rfl (lv_at hl 0 rfl) ?_
    refine z_alenI (v := 4) X hw hq0 rfl dX2_nameOf_6 ?_
    refine lv_icmp_ge (tgt := 16) hx hb dX2_nameOf_7 (by decide) (fun c2 => ?_) (fun c2 => ?_)
    · replace h := zif_t c2 h
      refine lv_iconst (v := 0) hx hb dX2_nameOf_16 (by decide) ?_
      exact z_ri X hw (zret h) dX2_nameOf_17
    · replace h := zif_f c2 h
      refine lv_aload_n hx hb dX2_nameOf_10 rfl (lv_at hl 0 rfl) ?_
      refine lv_iload_n hx hb dX2_nameOf_11 rfl (lv_at hl 1 rfl) ?_
      obtain ⟨g3, h⟩ := zgd_e h
      refine z_ald X hw hq0 g3 dX2_nameOf_12 ?_
      refine lv_goto (tgt := 17) hx hb dX2_nameOf_13 (by decide) ?_
      exact z_ri X hw (zret h) dX2_nameOf_17
def fX2_joined (p0 : Int32) (p1 : Int32) (p2 : Int32) (M : zM) : Option (Int32 × zM) := if p0 = (38 : Int32) then (if p1 = 0 then (some ((0 : Int32), M)) else (if p2 = 0 then (some ((0 : Int32), M)) else (some ((1 : Int32), M)))) else (if p0 = (42 : Int32) then (some (p1 * p2, M)) else (if p0 = (43 : Int32) then (some (p1 + p2, M)) else (if p0 = (45 : Int32) then (some (p1 - p2, M)) else (if p0 = (47 : Int32) then (if p2 = 0 then (some ((0 : Int32), M)) else (zgd (p2 = 0) (some (p1 / p2, M)))) else (if p0 = (60 : Int32) then (if p2 ≤ p1 then (some ((0 : Int32), M)) else (some ((1 : Int32), M))) else (if p0 = (61 : Int32) then (if p1 = p2 then (some ((1 : Int32), M)) else (some ((0 : Int32), M))) else (if p0 = (62 : Int32) then (if p1 ≤ p2 then (some ((0 : Int32), M)) else (some ((1 : Int32), M))) else (if p0 = (124 : Int32) then (if p1 = 0 then (if p2 = 0 then (some ((0 : Int32), M)) else (some ((1 : Int32), M))) else (some ((1 : Int32), M))) else (if p2 = 0 then (some ((0 : Int32), M)) else (zgd (p2 = 0) (zlt (zrem p1 p2) (fun x21 => some (x21, M)))))))))))))
set_option maxRecDepth 100000 in
set_option maxHeartbeats 4000000 in
theorem kX2_joined (l : Launch) (D : va_G) (cy : Nat → ClassId) (a : Nat → Nat) (p0 : Int32) (p1 : Int32) (p2 : Int32) (M : zM) (r0 : Int32) (M0 : zM) (h : fX2_joined p0 p1 p2 M = some (r0, M0)) : zCi l D cy a yX2_joined cX2_joined 3 (some .int) (zRm 0 0) [.int p0, .int p1, .int p2] M (fun r u => r = r0 ∧ u = M0) := by
  intro sz
  refine zent_i sz (by decide) (Nat.le_of_ble_eq_true rfl) rfl (fun p e s m args below meth c ls H locs X hw hl => ?_)
  obtain ⟨hx, hb, hr, hml, hown, hW, hlocks⟩ := id X
  have hE := hw.2.2.2.2.1
  have hcs : 0 ≤ ((zRm 0 0)).cells ∧ 0 ≤ ((zRm 0 0)).slots := ⟨Nat.zero_le _, Nat.zero_le _⟩
  rw [fX2_joined] at h
  refine lv_iload_n hx hb dX2_joined_0 rfl (lv_at hl 0 rfl) ?_
  by_cases c1 : p0 = (38 : Int32)
  · replace h := zif_t c1 h
    refine lv_lookup (off := 97) (tgt := 98) hx hb dX2_joined_1 (by decide) (by rw [c1]; rfl) (by decide) ?_
    refine lv_iload_n hx hb dX2_joined_98 rfl (lv_at hl 1 rfl) ?_
    refine lv_if_eq (tgt := 110) hx hb dX2_joined_99 (by decide) (fun c2 => ?_) (fun c2 => ?_)
    · replace h := zif_t c2 h
      refine lv_iconst (v := 0) hx hb dX2_joined_110 (by decide) ?_
      exact z_ri X hw (zret h) dX2_joined_111
    · replace h := zif_f c2 h
      refine lv_iload_n hx hb dX2_joined_102 rfl (lv_at hl 2 rfl) ?_
      refine lv_if_eq (tgt := 110) hx hb dX2_joined_103 (by decide) (fun c3 => ?_) (fun c3 => ?_)
      · replace h := zif_t c3 h
        refine lv_iconst (v := 0) hx hb dX2_joined_110 (by decide) ?_
        exact z_ri X hw (zret h) dX2_joined_111
      · replace h := zif_f c3 h
        refine lv_iconst (v := 1) hx hb dX2_joined_106 (by decide) ?_
        refine lv_goto (tgt := 111) hx hb dX2_joined_107 (by decide) ?_
        exact z_ri X hw (zret h) dX2_joined_111
  replace h := zif_f c1 h
  by_cases c4 : p0 = (42 : Int32)
  · replace h := zif_t c4 h
    refine lv_lookup (off := 152) (tgt := 153) hx hb dX2_joined_1 (by decide) (by rw [c4]; rfl) (by decide) ?_
    refine lv_iload_n hx hb dX2_joined_153 rfl (lv_at hl 1 rfl) ?_
    refine lv_iload_n hx hb dX2_joined_154 rfl (lv_at hl 2 rfl) ?_
    refine lv_imul hx hb dX2_joined_155 ?_
    exact z_ri X hw (zret h) dX2_joined_156
  replace h := zif_f c4 h
  by_cases c5 : p0 = (43 : Int32)
  · replace h := zif_t c5 h
    refine lv_lookup (off := 144) (tgt := 145) hx hb dX2_joined_1 (by decide) (by rw [c5]; rfl) (by decide) ?_
    refine lv_iload_n hx hb dX2_joined_145 rfl (lv_at hl 1 rfl) ?_
    refine lv_iload_n hx hb dX2_joined_146 rfl (lv_at hl 2 rfl) ?_
    refine lv_iadd hx hb dX2_joined_147 ?_
    exact z_ri X hw (zret h) dX2_joined_148
  replace h := zif_f c5 h
  by_cases c6 : p0 = (45 : Int32)
  · replace h := zif_t c6 h
    refine lv_lookup (off := 148) (tgt := 149) hx hb dX2_joined_1 (by decide) (by rw [c6]; rfl) (by decide) ?_
    refine lv_iload_n hx hb dX2_joined_149 rfl (lv_at hl 1 rfl) ?_
    refine lv_iload_n hx hb dX2_joined_150 rfl (lv_at hl 2 rfl) ?_
    refine lv_isub hx hb dX2_joined_151 ?_
    exact z_ri X hw (zret h) dX2_joined_152
  replace h := zif_f c6 h
  by_cases c7 : p0 = (47 : Int32)
  · replace h := zif_t c7 h
    refine lv_lookup (off := 156) (tgt := 157) hx hb dX2_joined_1 (by decide) (by rw [c7]; rfl) (by decide) ?_
    refine lv_iload_n hx hb dX2_joined_157 rfl (lv_at hl 2 rfl) ?_
    refine lv_if_ne (tgt := 165) hx hb dX2_joined_158 (by decide) (fun c8 => ?_) (fun c8 => ?_)
    · replace h := zif_f c8 h
      refine lv_iload_n hx hb dX2_joined_165 rfl (lv_at hl 1 rfl) ?_
      refine lv_iload_n hx hb dX2_joined_166 rfl (lv_at hl 2 rfl) ?_
      obtain ⟨g9, h⟩ := zgd_e h
      refine lv_idiv hx hb dX2_joined_167 g9 ?_
      exact z_ri X hw (zret h) dX2_joined_168
    · replace h := zif_t c8 h
      refine lv_iconst (v := 0) hx hb dX2_joined_161 (by decide) ?_
      refine lv_goto (tgt := 168) hx hb dX2_joined_162 (by decide) ?_
      exact z_ri X hw (zret h) dX2_joined_168
  replace h := zif_f c7 h
  by_cases c10 : p0 = (60 : Int32)
  · replace h := zif_t c10 h
    refine lv_lookup (off := 111) (tgt := 112) hx hb dX2_joined_1 (by decide) (by rw [c10]; rfl) (by decide) ?_
    refine lv_iload_n hx hb dX2_joined_112 rfl (lv_at hl 1 rfl) ?_
    refine lv_iload_n hx hb dX2_joined_113 rfl (lv_at hl 2 rfl) ?_
    refine lv_icmp_ge (tgt := 121) hx hb dX2_joined_114 (by decide) (fun c11 => ?_) (fun c11 => ?_)
    · replace h := zif_t c11 h
      refine lv_iconst (v := 0) hx hb dX2_joined_121 (by decide) ?_
      exact z_ri X hw (zret h) dX2_joined_122
    · replace h := zif_f c11 h
      refine lv_iconst (v := 1) hx hb dX2_joined_117 (by decide) ?_
      refine lv_goto (tgt := 122) hx hb dX2_joined_118 (by decide) ?_
      exact z_ri X hw (zret h) dX2_joined_122
  replace h := zif_f c10 h
  by_cases c12 : p0 = (61 : Int32)
  · replace h := zif_t c12 h
    refine lv_lookup (off := 122) (tgt := 123) hx hb dX2_joined_1 (by decide) (by rw [c12]; rfl) (by decide) ?_
    refine lv_iload_n hx hb dX2_joined_123 rfl (lv_at hl 1 rfl) ?_
    refine lv_iload_n hx hb dX2_joined_124 rfl (lv_at hl 2 rfl) ?_
    refine lv_icmp_ne (tgt := 132) hx hb dX2_joined_125 (by decide) (fun c13 => ?_) (fun c13 => ?_)
    · replace h := zif_f c13 h
      refine lv_iconst (v := 0) hx hb dX2_joined_132 (by decide) ?_
      exact z_ri X hw (zret h) dX2_joined_133
    · replace h := zif_t c13 h
      refine lv_iconst (v := 1) hx hb dX2_joined_128 (by decide) ?_
      refine lv_goto (tgt := 133) hx hb dX2_joined_129 (by decide) ?_
      exact z_ri X hw (zret h) dX2_joined_133
  replace h := zif_f c12 h
  by_cases c14 : p0 = (62 : Int32)
  · replace h := zif_t c14 h
    refine lv_lookup (off := 133) (tgt := 134) hx hb dX2_joined_1 (by decide) (by rw [c14]; rfl) (by decide) ?_
    refine lv_iload_n hx hb dX2_joined_134 rfl (lv_at hl 1 rfl) ?_
    refine lv_iload_n hx hb dX2_joined_135 rfl (lv_at hl 2 rfl) ?_
    refine lv_icmp_le (tgt := 143) hx hb dX2_joined_136 (by decide) (fun c15 => ?_) (fun c15 => ?_)
    · replace h := zif_t c15 h
      refine lv_iconst (v := 0) hx hb dX2_joined_143 (by decide) ?_
      exact z_ri X hw (zret h) dX2_joined_144
    · replace h := zif_f c15 h
      refine lv_iconst (v := 1) hx hb dX2_joined_139 (by decide) ?_
      refine lv_goto (tgt := 144) hx hb dX2_joined_140 (by decide) ?_
      exact z_ri X hw (zret h) dX2_joined_144
  replace h := zif_f c14 h
  by_cases c16 : p0 = (124 : Int32)
  · replace h := zif_t c16 h
    refine lv_lookup (off := 83) (tgt := 84) hx hb dX2_joined_1 (by decide) (by rw [c16]; rfl) (by decide) ?_
    refine lv_iload_n hx hb dX2_joined_84 rfl (lv_at hl 1 rfl) ?_
    refine lv_if_ne (tgt := 92) hx hb dX2_joined_85 (by decide) (fun c17 => ?_) (fun c17 => ?_)
    · replace h := zif_f c17 h
      refine lv_iconst (v := 1) hx hb dX2_joined_92 (by decide) ?_
      refine lv_goto (tgt := 97) hx hb dX2_joined_93 (by decide) ?_
      exact z_ri X hw (zret h) dX2_joined_97
    · replace h := zif_t c17 h
      refine lv_iload_n hx hb dX2_joined_88 rfl (lv_at hl 2 rfl) ?_
      refine lv_if_eq (tgt := 96) hx hb dX2_joined_89 (by decide) (fun c18 => ?_) (fun c18 => ?_)
      · replace h := zif_t c18 h
        refine lv_iconst (v := 0) hx hb dX2_joined_96 (by decide) ?_
        exact z_ri X hw (zret h) dX2_joined_97
      · replace h := zif_f c18 h
        refine lv_iconst (v := 1) hx hb dX2_joined_92 (by decide) ?_
        refine lv_goto (tgt := 97) hx hb dX2_joined_93 (by decide) ?_
        exact z_ri X hw (zret h) dX2_joined_97
  replace h := zif_f c16 h
  refine lv_lookup (off := 168) (tgt := 169) hx hb dX2_joined_1 (by decide) ((lv_osw c1 rfl).trans ((lv_osw c4 rfl).trans ((lv_osw c5 rfl).trans ((lv_osw c6 rfl).trans ((lv_osw c7 rfl).trans ((lv_osw c10 rfl).trans ((lv_osw c12 rfl).trans ((lv_osw c14 rfl).trans ((lv_osw c16 rfl).trans (rfl)))))))))) (by decide) ?_
  refine lv_iload_n hx hb dX2_joined_169 rfl (lv_at hl 2 rfl) ?_
  refine lv_if_ne (tgt := 177) hx hb dX2_joined_170 (by decide) (fun c19 => ?_) (fun c19 => ?_)
  · replace h := zif_f c19 h
    refine lv_iload_n hx hb dX2_joined_177 rfl (lv_at hl 1 rfl) ?_
    refine lv_iload_n hx hb dX2_joined_178 rfl (lv_at hl 2 rfl) ?_
    obtain ⟨g20, h⟩ := zgd_e h
    refine lv_irem hx hb dX2_joined_179 g20 ?_
    refine lv_topi (fun x21 ex21 => ?_)
    replace h := zlt_s ex21 h
    exact z_ri X hw (zret h) dX2_joined_180
  · replace h := zif_t c19 h
    refine lv_iconst (v := 0) hx hb dX2_joined_173 (by decide) ?_
    refine lv_goto (tgt := 180) hx hb dX2_joined_174 (by decide) ?_
    exact z_ri X hw (zret h) dX2_joined_180
def fX2_value_4 (w0 : Nat) (w1 : Nat) (k : Int32 → zM → Option (Int32 × zM)) : Nat → Int32 → Int32 → zM → Option (Int32 × zM)
  | 0, _, _, _ => none
  | n + 1, v2, v3, M => if M w0 2 ≤ v3 then (k v2 M) else (if (60 : Int32) ≤ v3 then (k v2 M) else (zgd (v3 < 0 ∨ 60 ≤ v3.toNatClampNeg) (zlt (M (w0 + 1) (v3.toNatClampNeg)) (fun x4 => if x4 < 0 then (if x4 = (-33 : Int32) then (if v2 < (1 : Int32) then (zlt (v3 + (1 : Int32)) (fun x19 => fX2_value_4 w0 w1 k n v2 x19 M)) else (zgd (v2 - (1 : Int32) < 0 ∨ 60 ≤ (v2 - (1 : Int32)).toNatClampNeg) (if M (w0 + 2) ((v2 - (1 : Int32)).toNatClampNeg) = 0 then (zgd (v2 - (1 : Int32) < 0 ∨ 60 ≤ (v2 - (1 : Int32)).toNatClampNeg) (zlt (zst M (w0 + 2) ((v2 - (1 : Int32)).toNatClampNeg) (1 : Int32)) (fun M25 => zlt (v3 + (1 : Int32)) (fun x27 => fX2_value_4 w0 w1 k n v2 x27 M25)))) else (zgd (v2 - (1 : Int32) < 0 ∨ 60 ≤ (v2 - (1 : Int32)).toNatClampNeg) (zlt (zst M (w0 + 2) ((v2 - (1 : Int32)).toNatClampNeg) (0 : Int32)) (fun M22 => zlt (v3 + (1 : Int32)) (fun x24 => fX2_value_4 w0 w1 k n v2 x24 M22))))))) else (if v2 < (2 : Int32) then (zlt (v3 + (1 : Int32)) (fun x8 => fX2_value_4 w0 w1 k n v2 x8 M)) else (zlt (v2 + (-1 : Int32)) (fun x9 => zgd (x9 - (1 : Int32) < 0 ∨ 60 ≤ (x9 - (1 : Int32)).toNatClampNeg) (zgd (x9 < 0 ∨ 60 ≤ x9.toNatClampNeg) (zbi (fX2_joined (-x4) (M (w0 + 2) ((x9 - (1 : Int32)).toNatClampNeg)) (M (w0 + 2) (x9.toNatClampNeg)) M) (fun r12 M13 => zgd (x9 - (1 : Int32) < 0 ∨ 60 ≤ (x9 - (1 : Int32)).toNatClampNeg) (zlt (zst M13 (w0 + 2) ((x9 - (1 : Int32)).toNatClampNeg) r12) (fun M15 => zlt (v3 + (1 : Int32)) (fun x17 => fX2_value_4 w0 w1 k n x9 x17 M15)))))))))) else (if (60 : Int32) ≤ v2 then (zlt (v3 + (1 : Int32)) (fun x29 => fX2_value_4 w0 w1 k n v2 x29 M)) else (if (10000 : Int32) ≤ x4 then (zbi (fX2_nameOf w1 (x4 - (10000 : Int32)) M) (fun r31 M32 => zgd (v2 < 0 ∨ 60 ≤ v2.toNatClampNeg) (zlt (zst M32 (w0 + 2) (v2.toNatClampNeg) r31) (fun M34 => zlt (v2 + (1 : Int32)) (fun x36 => zlt (v3 + (1 : Int32)) (fun x37 => fX2_value_4 w0 w1 k n x36 x37 M34)))))) else (zgd (v2 < 0 ∨ 60 ≤ v2.toNatClampNeg) (zlt (zst M (w0 + 2) (v2.toNatClampNeg) x4) (fun M38 => zlt (v2 + (1 : Int32)) (fun x40 => zlt (v3 + (1 : Int32)) (fun x41 => fX2_value_4 w0 w1 k n x40 x41 M38)))))))))))
set_option maxRecDepth 100000 in
set_option maxHeartbeats 4000000 in
theorem lX2_value_4 {p : Program} {l : Launch} {e : Env} {s : State} {m : MethodId} {args : Array Value} {below : List Frame} {meth : Method} {c : Code} {D : va_G} {cy : Nat → ClassId} {a : Nat → Nat} {r0 : Int32} {M0 : zM} (X : zCX p s m meth c args cX2_value 5 (some .int) RX2) (w0 : Nat) (w1 : Nat) (hw0 : zX2 w0) (hw1 : zI w1 4) (k : Int32 → zM → Option (Int32 × zM)) : ∀ (n : Nat) (v2 : Int32) (v3 : Int32) (M : zM) (H : Heap) (locs : List Loc) (ls : Array Slot), zWD D cy a (zfr a s.heap.size) M H locs s → lv_has ls 5 [(0, .ref (a w0)), (1, .ref (a w1)), (2, .int v2), (3, .int v3)] → fX2_value_4 w0 w1 k n v2 v3 M = some (r0, M0) →
    (∀ (u2 : Int32) (M' : zM) (H' : Heap) (locs' : List Loc) (ls' : Array Slot), zWD D cy a (zfr a s.heap.size) M' H' locs' s → lv_has ls' 5 [(0, .ref (a w0)), (2, .int u2)] → k u2 M' = some (r0, M0) → W p l e (zRm 1 22) s m args below meth c H' locs' 0 0 (zQi D cy a s args below r0 M0) (F0 m 153 ls' [])) →
    W p l e (zRm 1 22) s m args below meth c H locs 0 0 (zQi D cy a s args below r0 M0) (F0 m 4 ls []) := by
  obtain ⟨hx, hb, hr, hml, hown, hW, hlocks⟩ := id X
  have hcs : 0 ≤ ((zRm 1 22)).cells ∧ 0 ≤ ((zRm 1 22)).slots := ⟨Nat.zero_le _, Nat.zero_le _⟩
  intro n
  induction n with
  | zero =>
    intro v2 v3 M H locs ls hw hl h hk
    cases h
  | succ n ih =>
    intro v2 v3 M H locs ls hw hl h hk
    have hE := hw.2.2.2.2.1
    rw [fX2_value_4] at h
    refine lv_iload_n hx hb dX2_value_4 rfl (lv_at hl 3 rfl) ?_
    refine lv_aload_n hx hb dX2_value_5 rfl (lv_at hl 0 rfl) ?_
    refine gtX2_24 X hw hw0 dX2_value_6 ?_
    refine lv_icmp_ge (tgt := 153) hx hb dX2_value_9 (by decide) (fun c1 => ?_) (fun c1 => ?_)
    · replace h := zif_t c1 h
      exact hk v2 M H locs _ hw (lv_sub hl [0, 2] rfl) h
    · replace h := zif_f c1 h
      refine lv_iload_n hx hb dX2_value_12 rfl (lv_at hl 3 rfl) ?_
      refine lv_bipush (v := 60) hx hb dX2_value_13 (by decide) ?_
      refine lv_icmp_ge (tgt := 153) hx hb dX2_value_15 (by decide) (fun c2 => ?_) (fun c2 => ?_)
      · replace h := zif_t c2 h
        exact hk v2 M H locs _ hw (lv_sub hl [0, 2] rfl) h
      · replace h := zif_f c2 h
        refine lv_aload_n hx hb dX2_value_18 rfl (lv_at hl 0 rfl) ?_
        refine gtX2_9 X hw hw0 dX2_value_19 ?_
        refine lv_iload_n hx hb dX2_value_22 rfl (lv_at hl 3 rfl) ?_
        obtain ⟨g3, h⟩ := zgd_e h
        refine z_ald X hw (zI_2_1 hw0) g3 dX2_value_23 ?_
        refine lv_topi (fun x4 ex4 => ?_)
        replace h := zlt_s ex4 h
        refine lv_istore (lv' := [(4, .int x4), (0, .ref (a w0)), (1, .ref (a w1)), (2, .int v2), (3, .int v3)]) hx hb dX2_value_24 hl (by decide) rfl (fun ls hl => ?_)
        refine lv_iload hx hb dX2_value_26 (lv_at hl 0 rfl) ?_
        refine lv_if_lt (tgt := 72) hx hb dX2_value_28 (by decide) (fun c5 => ?_) (fun c5 => ?_)
        · replace h := zif_t c5 h
          refine lv_iload hx hb dX2_value_72 (lv_at hl 0 rfl) ?_
          refine lv_bipush (v := (-33)) hx hb dX2_value_74 (by decide) ?_
          refine lv_icmp_ne (tgt := 111) hx hb dX2_value_76 (by decide) (fun c6 => ?_) (fun c6 => ?_)
          · replace h := zif_f c6 h
            refine lv_iload_n hx hb dX2_value_111 rfl (lv_at hl 3 rfl) ?_
            refine lv_iconst (v := 2) hx hb dX2_value_112 (by decide) ?_
            refine lv_icmp_lt (tgt := 147) hx hb dX2_value_113 (by decide) (fun c7 => ?_) (fun c7 => ?_)
            · replace h := zif_t c7 h
              obtain ⟨x8, ex8⟩ : ∃ y : Int32, y = v3 + (1 : Int32) := ⟨_, rfl⟩
              replace h := zlt_s ex8 h
              refine lv_iinc (v := x8) (lv' := [(3, .int x8), (4, .int x4), (0, .ref (a w0)), (1, .ref (a w1)), (2, .int v2)]) hx hb dX2_value_147 hl (k := 4) rfl (by rw [ex8]; rfl) (by decide) rfl (fun ls hl => ?_)
              refine lv_goto (tgt := 4) hx hb dX2_value_150 (by decide) ?_
              exact ih v2 x8 M H locs _ hw (lv_sub hl [2, 3, 4, 0] rfl) h hk
            · replace h := zif_f c7 h
              obtain ⟨x9, ex9⟩ : ∃ y : Int32, y = v2 + (-1 : Int32) := ⟨_, rfl⟩
              replace h := zlt_s ex9 h
              refine lv_iinc (v := x9) (lv' := [(2, .int x9), (4, .int x4), (0, .ref (a w0)), (1, .ref (a w1)), (3, .int v3)]) hx hb dX2_value_116 hl (k := 3) rfl (by rw [ex9]; rfl) (by decide) rfl (fun ls hl => ?_)
              refine lv_aload_n hx hb dX2_value_119 rfl (lv_at hl 2 rfl) ?_
              refine gtX2_15 X hw hw0 dX2_value_120 ?_
              refine lv_iload_n hx hb dX2_value_123 rfl (lv_at hl 0 rfl) ?_
              refine lv_iconst (v := 1) hx hb dX2_value_124 (by decide) ?_
              refine lv_isub hx hb dX2_value_125 ?_
              refine lv_iload hx hb dX2_value_126 (lv_at hl 1 rfl) ?_
              refine lv_ineg hx hb dX2_value_128 ?_
              refine lv_aload_n hx hb dX2_value_129 rfl (lv_at hl 2 rfl) ?_
              refine gtX2_15 X hw hw0 dX2_value_130 ?_
              refine lv_iload_n hx hb dX2_value_133 rfl (lv_at hl 0 rfl) ?_
              refine lv_iconst (v := 1) hx hb dX2_value_134 (by decide) ?_
              refine lv_isub hx hb dX2_value_135 ?_
              obtain ⟨g10, h⟩ := zgd_e h
              refine z_ald X hw (zI_2_2 hw0) g10 dX2_value_136 ?_
              refine lv_aload_n hx hb dX2_value_137 rfl (lv_at hl 2 rfl) ?_
              refine gtX2_15 X hw hw0 dX2_value_138 ?_
              refine lv_iload_n hx hb dX2_value_141 rfl (lv_at hl 0 rfl) ?_
              obtain ⟨g11, h⟩ := zgd_e h
              refine z_ald X hw (zI_2_2 hw0) g11 dX2_value_142 ?_
              obtain ⟨r12, M13, f14, h⟩ := zbi_e h
              refine z_qSi (As := [.int (-x4), .int (M (w0 + 2) ((x9 - (1 : Int32)).toNatClampNeg)), .int (M (w0 + 2) (x9.toNatClampNeg))]) (rest := [.int (x9 - (1 : Int32)), .ref (a (w0 + 2))]) X hw (kX2_joined l D cy a (-x4) (M (w0 + 2) ((x9 - (1 : Int32)).toNatClampNeg)) (M (w0 + 2) (x9.toNatClampNeg)) M r12 M13 f14) (cwX2_32 X.2.2.2.2.2.1 rfl rfl (zroomO (Nat.le_of_ble_eq_true rfl) (Nat.le_of_ble_eq_true rfl))) rfl rfl (Nat.le_of_ble_eq_true rfl) hl.1 hcs dX2_value_143 (fun H locs hw => ?_)
              obtain ⟨g16, h⟩ := zgd_e h
              refine z_ast X hw (zI_2_2 hw0) g16 dX2_value_146 (fun M15 H locs eM15 hw => ?_)
              replace h := zlt_s eM15 h
              obtain ⟨x17, ex17⟩ : ∃ y : Int32, y = v3 + (1 : Int32) := ⟨_, rfl⟩
              replace h := zlt_s ex17 h
              refine lv_iinc (v := x17) (lv' := [(3, .int x17), (2, .int x9), (4, .int x4), (0, .ref (a w0)), (1, .ref (a w1))]) hx hb dX2_value_147 hl (k := 4) rfl (by rw [ex17]; rfl) (by decide) rfl (fun ls hl => ?_)
              refine lv_goto (tgt := 4) hx hb dX2_value_150 (by decide) ?_
              exact ih x9 x17 M15 H locs _ hw (lv_sub hl [3, 4, 1, 0] rfl) h hk
          · replace h := zif_t c6 h
            refine lv_iload_n hx hb dX2_value_79 rfl (lv_at hl 3 rfl) ?_
            refine lv_iconst (v := 1) hx hb dX2_value_80 (by decide) ?_
            refine lv_icmp_lt (tgt := 147) hx hb dX2_value_81 (by decide) (fun c18 => ?_) (fun c18 => ?_)
            · replace h := zif_t c18 h
              obtain ⟨x19, ex19⟩ : ∃ y : Int32, y = v3 + (1 : Int32) := ⟨_, rfl⟩
              replace h := zlt_s ex19 h
              refine lv_iinc (v := x19) (lv' := [(3, .int x19), (4, .int x4), (0, .ref (a w0)), (1, .ref (a w1)), (2, .int v2)]) hx hb dX2_value_147 hl (k := 4) rfl (by rw [ex19]; rfl) (by decide) rfl (fun ls hl => ?_)
              refine lv_goto (tgt := 4) hx hb dX2_value_150 (by decide) ?_
              exact ih v2 x19 M H locs _ hw (lv_sub hl [2, 3, 4, 0] rfl) h hk
            · replace h := zif_f c18 h
              refine lv_aload_n hx hb dX2_value_84 rfl (lv_at hl 1 rfl) ?_
              refine gtX2_15 X hw hw0 dX2_value_85 ?_
              refine lv_iload_n hx hb dX2_value_88 rfl (lv_at hl 3 rfl) ?_
              refine lv_iconst (v := 1) hx hb dX2_value_89 (by decide) ?_
              refine lv_isub hx hb dX2_value_90 ?_
              refine lv_aload_n hx hb dX2_value_91 rfl (lv_at hl 1 rfl) ?_
              refine gtX2_15 X hw hw0 dX2_value_92 ?_
              refine lv_iload_n hx hb dX2_value_95 rfl (lv_at hl 3 rfl) ?_
              refine lv_iconst (v := 1) hx hb dX2_value_96 (by decide) ?_
              refine lv_isub hx hb dX2_value_97 ?_
              obtain ⟨g20, h⟩ := zgd_e h
              refine z_ald X hw (zI_2_2 hw0) g20 dX2_value_98 ?_
              refine lv_if_ne (tgt := 106) hx hb dX2_value_99 (by decide) (fun c21 => ?_) (fun c21 => ?_)
              · replace h := zif_f c21 h
                refine lv_iconst (v := 0) hx hb dX2_value_106 (by decide) ?_
                obtain ⟨g23, h⟩ := zgd_e h
                refine z_ast X hw (zI_2_2 hw0) g23 dX2_value_107 (fun M22 H locs eM22 hw => ?_)
                replace h := zlt_s eM22 h
                refine lv_goto (tgt := 147) hx hb dX2_value_108 (by decide) ?_
                obtain ⟨x24, ex24⟩ : ∃ y : Int32, y = v3 + (1 : Int32) := ⟨_, rfl⟩
                replace h := zlt_s ex24 h
                refine lv_iinc (v := x24) (lv' := [(3, .int x24), (4, .int x4), (0, .ref (a w0)), (1, .ref (a w1)), (2, .int v2)]) hx hb dX2_value_147 hl (k := 4) rfl (by rw [ex24]; rfl) (by decide) rfl (fun ls hl => ?_)
                refine lv_goto (tgt := 4) hx hb dX2_value_150 (by decide) ?_
                exact ih v2 x24 M22 H locs _ hw (lv_sub hl [2, 3, 4, 0] rfl) h hk
              · replace h := zif_t c21 h
                refine lv_iconst (v := 1) hx hb dX2_value_102 (by decide) ?_
                refine lv_goto (tgt := 107) hx hb dX2_value_103 (by decide) ?_
                obtain ⟨g26, h⟩ := zgd_e h
                refine z_ast X hw (zI_2_2 hw0) g26 dX2_value_107 (fun M25 H locs eM25 hw => ?_)
                replace h := zlt_s eM25 h
                refine lv_goto (tgt := 147) hx hb dX2_value_108 (by decide) ?_
                obtain ⟨x27, ex27⟩ : ∃ y : Int32, y = v3 + (1 : Int32) := ⟨_, rfl⟩
                replace h := zlt_s ex27 h
                refine lv_iinc (v := x27) (lv' := [(3, .int x27), (4, .int x4), (0, .ref (a w0)), (1, .ref (a w1)), (2, .int v2)]) hx hb dX2_value_147 hl (k := 4) rfl (by rw [ex27]; rfl) (by decide) rfl (fun ls hl => ?_)
                refine lv_goto (tgt := 4) hx hb dX2_value_150 (by decide) ?_
                exact ih v2 x27 M25 H locs _ hw (lv_sub hl [2, 3, 4, 0] rfl) h hk
        · replace h := zif_f c5 h
          refine lv_iload_n hx hb dX2_value_31 rfl (lv_at hl 3 rfl) ?_
          refine lv_bipush (v := 60) hx hb dX2_value_32 (by decide) ?_
          refine lv_icmp_ge (tgt := 147) hx hb dX2_value_34 (by decide) (fun c28 => ?_) (fun c28 => ?_)
          · replace h := zif_t c28 h
            obtain ⟨x29, ex29⟩ : ∃ y : Int32, y = v3 + (1 : Int32) := ⟨_, rfl⟩
            replace h := zlt_s ex29 h
            refine lv_iinc (v := x29) (lv' := [(3, .int x29), (4, .int x4), (0, .ref (a w0)), (1, .ref (a w1)), (2, .int v2)]) hx hb dX2_value_147 hl (k := 4) rfl (by rw [ex29]; rfl) (by decide) rfl (fun ls hl => ?_)
            refine lv_goto (tgt := 4) hx hb dX2_value_150 (by decide) ?_
            exact ih v2 x29 M H locs _ hw (lv_sub hl [2, 3, 4, 0] rfl) h hk
          · replace h := zif_f c28 h
            refine lv_aload_n hx hb dX2_value_37 rfl (lv_at hl 1 rfl) ?_
            refine gtX2_15 X hw hw0 dX2_value_38 ?_
            refine lv_iload_n hx hb dX2_value_41 rfl (lv_at hl 3 rfl) ?_
            refine lv_iload hx hb dX2_value_42 (lv_at hl 0 rfl) ?_
            refine lv_sipush (v := 10000) hx hb dX2_value_44 (by decide) ?_
            refine lv_icmp_ge (tgt := 55) hx hb dX2_value_47 (by decide) (fun c30 => ?_) (fun c30 => ?_)
            · replace h := zif_t c30 h
              refine lv_aload_n hx hb dX2_value_55 rfl (lv_at hl 2 rfl) ?_
              refine lv_iload hx hb dX2_value_56 (lv_at hl 0 rfl) ?_
              refine lv_sipush (v := 10000) hx hb dX2_value_58 (by decide) ?_
              refine lv_isub hx hb dX2_value_61 ?_
              obtain ⟨r31, M32, f33, h⟩ := zbi_e h
              refine z_qSi (As := [.ref (a w1), .int (x4 - (10000 : Int32))]) (rest := [.int v2, .ref (a (w0 + 2))]) X hw (kX2_nameOf l D cy a w1 hw1 (x4 - (10000 : Int32)) M r31 M32 f33) (cwX2_28 X.2.2.2.2.2.1 rfl rfl (zroomO (Nat.le_of_ble_eq_true rfl) (Nat.le_of_ble_eq_true rfl))) rfl rfl (Nat.le_of_ble_eq_true rfl) hl.1 hcs dX2_value_62 (fun H locs hw => ?_)
              obtain ⟨g35, h⟩ := zgd_e h
              refine z_ast X hw (zI_2_2 hw0) g35 dX2_value_65 (fun M34 H locs eM34 hw => ?_)
              replace h := zlt_s eM34 h
              obtain ⟨x36, ex36⟩ : ∃ y : Int32, y = v2 + (1 : Int32) := ⟨_, rfl⟩
              replace h := zlt_s ex36 h
              refine lv_iinc (v := x36) (lv' := [(2, .int x36), (4, .int x4), (0, .ref (a w0)), (1, .ref (a w1)), (3, .int v3)]) hx hb dX2_value_66 hl (k := 3) rfl (by rw [ex36]; rfl) (by decide) rfl (fun ls hl => ?_)
              refine lv_goto (tgt := 147) hx hb dX2_value_69 (by decide) ?_
              obtain ⟨x37, ex37⟩ : ∃ y : Int32, y = v3 + (1 : Int32) := ⟨_, rfl⟩
              replace h := zlt_s ex37 h
              refine lv_iinc (v := x37) (lv' := [(3, .int x37), (2, .int x36), (4, .int x4), (0, .ref (a w0)), (1, .ref (a w1))]) hx hb dX2_value_147 hl (k := 4) rfl (by rw [ex37]; rfl) (by decide) rfl (fun ls hl => ?_)
              refine lv_goto (tgt := 4) hx hb dX2_value_150 (by decide) ?_
              exact ih x36 x37 M34 H locs _ hw (lv_sub hl [3, 4, 1, 0] rfl) h hk
            · replace h := zif_f c30 h
              refine lv_iload hx hb dX2_value_50 (lv_at hl 0 rfl) ?_
              refine lv_goto (tgt := 65) hx hb dX2_value_52 (by decide) ?_
              obtain ⟨g39, h⟩ := zgd_e h
              refine z_ast X hw (zI_2_2 hw0) g39 dX2_value_65 (fun M38 H locs eM38 hw => ?_)
              replace h := zlt_s eM38 h
              obtain ⟨x40, ex40⟩ : ∃ y : Int32, y = v2 + (1 : Int32) := ⟨_, rfl⟩
              replace h := zlt_s ex40 h
              refine lv_iinc (v := x40) (lv' := [(2, .int x40), (4, .int x4), (0, .ref (a w0)), (1, .ref (a w1)), (3, .int v3)]) hx hb dX2_value_66 hl (k := 3) rfl (by rw [ex40]; rfl) (by decide) rfl (fun ls hl => ?_)
              refine lv_goto (tgt := 147) hx hb dX2_value_69 (by decide) ?_
              obtain ⟨x41, ex41⟩ : ∃ y : Int32, y = v3 + (1 : Int32) := ⟨_, rfl⟩
              replace h := zlt_s ex41 h
              refine lv_iinc (v := x41) (lv' := [(3, .int x41), (2, .int x40), (4, .int x4), (0, .ref (a w0)), (1, .ref (a w1))]) hx hb dX2_value_147 hl (k := 4) rfl (by rw [ex41]; rfl) (by decide) rfl (fun ls hl => ?_)
              refine lv_goto (tgt := 4) hx hb dX2_value_150 (by decide) ?_
              exact ih x40 x41 M38 H locs _ hw (lv_sub hl [3, 4, 1, 0] rfl) h hk
def fX2_value (q : Nat) (q0 : Nat) (M : zM) : Option (Int32 × zM) := fX2_value_4 q q0 (fun x42 M43 => if x42 = (1 : Int32) then (some (M43 (q + 2) (0), M43)) else (some ((0 : Int32), M43))) zF (0 : Int32) (0 : Int32) M
set_option maxRecDepth 100000 in
set_option maxHeartbeats 4000000 in
theorem kX2_value (l : Launch) (D : va_G) (cy : Nat → ClassId) (a : Nat → Nat) (q : Nat) (hq : zX2 q) (q0 : Nat) (hq0 : zI q0 4) (M : zM) (r0 : Int32) (M0 : zM) (h : fX2_value q q0 M = some (r0, M0)) : zCi l D cy a yX2_value cX2_value 5 (some .int) (zRm 1 22) [.ref (a q), .ref (a q0)] M (fun r u => r = r0 ∧ u = M0) := by
  intro sz
  refine zent_i sz (by decide) (Nat.le_of_ble_eq_true rfl) rfl (fun p e s m args below meth c ls H locs X hw hl => ?_)
  obtain ⟨hx, hb, hr, hml, hown, hW, hlocks⟩ := id X
  have hE := hw.2.2.2.2.1
  have hcs : 0 ≤ ((zRm 1 22)).cells ∧ 0 ≤ ((zRm 1 22)).slots := ⟨Nat.zero_le _, Nat.zero_le _⟩
  rw [fX2_value] at h
  refine lv_iconst (v := 0) hx hb dX2_value_0 (by decide) ?_
  refine lv_istore_n (lv' := [(2, .int (0 : Int32)), (0, .ref (a q)), (1, .ref (a q0))]) hx hb dX2_value_1 rfl hl (by decide) rfl (fun ls hl => ?_)
  refine lv_iconst (v := 0) hx hb dX2_value_2 (by decide) ?_
  refine lv_istore_n (lv' := [(3, .int (0 : Int32)), (2, .int (0 : Int32)), (0, .ref (a q)), (1, .ref (a q0))]) hx hb dX2_value_3 rfl hl (by decide) rfl (fun ls hl => ?_)
  refine lX2_value_4 X q q0 hq hq0 _ zF (0 : Int32) (0 : Int32) M H locs _ hw (lv_sub hl [2, 3, 1, 0] rfl) h (fun x42 M43 H locs ls hw hl h => ?_)
  refine lv_iload_n hx hb dX2_value_153 rfl (lv_at hl 1 rfl) ?_
  refine lv_iconst (v := 1) hx hb dX2_value_154 (by decide) ?_
  refine lv_icmp_ne (tgt := 167) hx hb dX2_value_155 (by decide) (fun c44 => ?_) (fun c44 => ?_)
  · replace h := zif_f c44 h
    refine lv_iconst (v := 0) hx hb dX2_value_167 (by decide) ?_
    exact z_ri X hw (zret h) dX2_value_168
  · replace h := zif_t c44 h
    refine lv_aload_n hx hb dX2_value_158 rfl (lv_at hl 0 rfl) ?_
    refine gtX2_15 X hw hq dX2_value_159 ?_
    refine lv_iconst (v := 0) hx hb dX2_value_162 (by decide) ?_
    refine z_aldK (k := 0) X hw (zI_2_2 hq) (by decide) (by decide) (by decide) dX2_value_163 ?_
    refine lv_goto (tgt := 168) hx hb dX2_value_164 (by decide) ?_
    exact z_ri X hw (zret h) dX2_value_168
def fX6_part (q : Nat) (p0 : Int32) (M : zM) : Option (Int32 × zM) := if p0 = (0 : Int32) then (some (M q 0, M)) else (if p0 = (1 : Int32) then (some (M q 1, M)) else (if p0 = (2 : Int32) then (some (M q 2, M)) else (if p0 = (3 : Int32) then (some (M q 3, M)) else (if p0 = (4 : Int32) then (some (M q 4, M)) else (if p0 = (5 : Int32) then (some (M q 5, M)) else (some (M q 6, M)))))))
set_option maxRecDepth 100000 in
set_option maxHeartbeats 4000000 in
theorem kX6_part (l : Launch) (D : va_G) (cy : Nat → ClassId) (a : Nat → Nat) (q : Nat) (hq : zX6 q) (p0 : Int32) (M : zM) (r0 : Int32) (M0 : zM) (h : fX6_part q p0 M = some (r0, M0)) : zCi l D cy a yX6_part cX6_part 2 (some .int) (zRm 0 0) [.ref (a q), .int p0] M (fun r u => r = r0 ∧ u = M0) := by
  intro sz
  refine zent_i sz (by decide) (Nat.le_of_ble_eq_true rfl) rfl (fun p e s m args below meth c ls H locs X hw hl => ?_)
  obtain ⟨hx, hb, hr, hml, hown, hW, hlocks⟩ := id X
  have hE := hw.2.2.2.2.1
  have hcs : 0 ≤ ((zRm 0 0)).cells ∧ 0 ≤ ((zRm 0 0)).slots := ⟨Nat.zero_le _, Nat.zero_le _⟩
  rw [fX6_part] at h
  refine lv_iload_n hx hb dX6_part_0 rfl (lv_at hl 1 rfl) ?_
  by_cases c1 : p0 = (0 : Int32)
  · replace h := zif_t c1 h
    refine lv_tableIn (off := 39) (tgt := 40) hx hb dX6_part_1 (by rw [c1]; decide) (by rw [c1]; decide) (by rw [c1]; rfl) (by decide) ?_
    refine lv_aload_n hx hb dX6_part_40 rfl (lv_at hl 0 rfl) ?_
    refine gtX6_7 X hw hq dX6_part_41 ?_
    exact z_ri X hw (zret h) dX6_part_44
  replace h := zif_f c1 h
  by_cases c2 : p0 = (1 : Int32)
  · replace h := zif_t c2 h
    refine lv_tableIn (off := 44) (tgt := 45) hx hb dX6_part_1 (by rw [c2]; decide) (by rw [c2]; decide) (by rw [c2]; rfl) (by decide) ?_
    refine lv_aload_n hx hb dX6_part_45 rfl (lv_at hl 0 rfl) ?_
    refine gtX6_13 X hw hq dX6_part_46 ?_
    exact z_ri X hw (zret h) dX6_part_49
  replace h := zif_f c2 h
  by_cases c3 : p0 = (2 : Int32)
  · replace h := zif_t c3 h
    refine lv_tableIn (off := 49) (tgt := 50) hx hb dX6_part_1 (by rw [c3]; decide) (by rw [c3]; decide) (by rw [c3]; rfl) (by decide) ?_
    refine lv_aload_n hx hb dX6_part_50 rfl (lv_at hl 0 rfl) ?_
    refine gtX6_16 X hw hq dX6_part_51 ?_
    exact z_ri X hw (zret h) dX6_part_54
  replace h := zif_f c3 h
  by_cases c4 : p0 = (3 : Int32)
  · replace h := zif_t c4 h
    refine lv_tableIn (off := 54) (tgt := 55) hx hb dX6_part_1 (by rw [c4]; decide) (by rw [c4]; decide) (by rw [c4]; rfl) (by decide) ?_
    refine lv_aload_n hx hb dX6_part_55 rfl (lv_at hl 0 rfl) ?_
    refine gtX6_19 X hw hq dX6_part_56 ?_
    exact z_ri X hw (zret h) dX6_part_59
  replace h := zif_f c4 h
  by_cases c5 : p0 = (4 : Int32)
  · replace h := zif_t c5 h
    refine lv_tableIn (off := 59) (tgt := 60) hx hb dX6_part_1 (by rw [c5]; decide) (by rw [c5]; decide) (by rw [c5]; rfl) (by decide) ?_
    refine lv_aload_n hx hb dX6_part_60 rfl (lv_at hl 0 rfl) ?_
    refine gtX6_22 X hw hq dX6_part_61 ?_
    exact z_ri X hw (zret h) dX6_part_64
  replace h := zif_f c5 h
  by_cases c6 : p0 = (5 : Int32)
  · replace h := zif_t c6 h
    refine lv_tableIn (off := 64) (tgt := 65) hx hb dX6_part_1 (by rw [c6]; decide) (by rw [c6]; decide) (by rw [c6]; rfl) (by decide) ?_
    refine lv_aload_n hx hb dX6_part_65 rfl (lv_at hl 0 rfl) ?_
    refine gtX6_25 X hw hq dX6_part_66 ?_
    exact z_ri X hw (zret h) dX6_part_69
  replace h := zif_f c6 h
  refine lv_tableOut (tgt := 70) hx hb dX6_part_1 (by have tc1 := lv_neT c1 (a := 0) rfl; have tc2 := lv_neT c2 (a := 1) rfl; have tc3 := lv_neT c3 (a := 2) rfl; have tc4 := lv_neT c4 (a := 3) rfl; have tc5 := lv_neT c5 (a := 4) rfl; have tc6 := lv_neT c6 (a := 5) rfl; omega) (by decide) ?_
  refine lv_aload_n hx hb dX6_part_70 rfl (lv_at hl 0 rfl) ?_
  refine gtX6_28 X hw hq dX6_part_71 ?_
  exact z_ri X hw (zret h) dX6_part_74
def fX6_change (q : Nat) (p0 : Int32) (p1 : Int32) (M : zM) : Option (zM) := if p0 = (0 : Int32) then (zlt (zst M q 0 p1) (fun M2 => some M2)) else (if p0 = (1 : Int32) then (zlt (zst M q 1 p1) (fun M4 => some M4)) else (if p0 = (2 : Int32) then (zlt (zst M q 2 p1) (fun M6 => some M6)) else (if p0 = (3 : Int32) then (zlt (zst M q 3 p1) (fun M8 => some M8)) else (if p0 = (4 : Int32) then (zlt (zst M q 4 p1) (fun M10 => some M10)) else (if p0 = (5 : Int32) then (zlt (zst M q 5 p1) (fun M12 => some M12)) else (zlt (zst M q 6 p1) (fun M13 => some M13)))))))
set_option maxRecDepth 100000 in
set_option maxHeartbeats 4000000 in
theorem kX6_change (l : Launch) (D : va_G) (cy : Nat → ClassId) (a : Nat → Nat) (q : Nat) (hq : zX6 q) (p0 : Int32) (p1 : Int32) (M : zM) (M0 : zM) (h : fX6_change q p0 p1 M = some M0) : zCv l D cy a yX6_change cX6_change 3 (zRm 0 0) [.ref (a q), .int p0, .int p1] M (fun u => u = M0) := by
  intro sz
  refine zent_v sz (by decide) (Nat.le_of_ble_eq_true rfl) rfl (fun p e s m args below meth c ls H locs X hw hl => ?_)
  obtain ⟨hx, hb, hr, hml, hown, hW, hlocks⟩ := id X
  have hE := hw.2.2.2.2.1
  have hcs : 0 ≤ ((zRm 0 0)).cells ∧ 0 ≤ ((zRm 0 0)).slots := ⟨Nat.zero_le _, Nat.zero_le _⟩
  rw [fX6_change] at h
  refine lv_iload_n hx hb dX6_change_0 rfl (lv_at hl 1 rfl) ?_
  by_cases c1 : p0 = (0 : Int32)
  · replace h := zif_t c1 h
    refine lv_tableIn (off := 39) (tgt := 40) hx hb dX6_change_1 (by rw [c1]; decide) (by rw [c1]; decide) (by rw [c1]; rfl) (by decide) ?_
    refine lv_aload_n hx hb dX6_change_40 rfl (lv_at hl 0 rfl) ?_
    refine lv_iload_n hx hb dX6_change_41 rfl (lv_at hl 2 rfl) ?_
    refine ptX6_7 X hw hq dX6_change_42 (fun M2 H locs eM2 hw => ?_)
    replace h := zlt_s eM2 h
    refine lv_goto (tgt := 93) hx hb dX6_change_45 (by decide) ?_
    exact z_rv X hw (zretv h) dX6_change_93
  replace h := zif_f c1 h
  by_cases c3 : p0 = (1 : Int32)
  · replace h := zif_t c3 h
    refine lv_tableIn (off := 47) (tgt := 48) hx hb dX6_change_1 (by rw [c3]; decide) (by rw [c3]; decide) (by rw [c3]; rfl) (by decide) ?_
    refine lv_aload_n hx hb dX6_change_48 rfl (lv_at hl 0 rfl) ?_
    refine lv_iload_n hx hb dX6_change_49 rfl (lv_at hl 2 rfl) ?_
    refine ptX6_13 X hw hq dX6_change_50 (fun M4 H locs eM4 hw => ?_)
    replace h := zlt_s eM4 h
    refine lv_goto (tgt := 93) hx hb dX6_change_53 (by decide) ?_
    exact z_rv X hw (zretv h) dX6_change_93
  replace h := zif_f c3 h
  by_cases c5 : p0 = (2 : Int32)
  · replace h := zif_t c5 h
    refine lv_tableIn (off := 55) (tgt := 56) hx hb dX6_change_1 (by rw [c5]; decide) (by rw [c5]; decide) (by rw [c5]; rfl) (by decide) ?_
    refine lv_aload_n hx hb dX6_change_56 rfl (lv_at hl 0 rfl) ?_
    refine lv_iload_n hx hb dX6_change_57 rfl (lv_at hl 2 rfl) ?_
    refine ptX6_16 X hw hq dX6_change_58 (fun M6 H locs eM6 hw => ?_)
    replace h := zlt_s eM6 h
    refine lv_goto (tgt := 93) hx hb dX6_change_61 (by decide) ?_
    exact z_rv X hw (zretv h) dX6_change_93
  replace h := zif_f c5 h
  by_cases c7 : p0 = (3 : Int32)
  · replace h := zif_t c7 h
    refine lv_tableIn (off := 63) (tgt := 64) hx hb dX6_change_1 (by rw [c7]; decide) (by rw [c7]; decide) (by rw [c7]; rfl) (by decide) ?_
    refine lv_aload_n hx hb dX6_change_64 rfl (lv_at hl 0 rfl) ?_
    refine lv_iload_n hx hb dX6_change_65 rfl (lv_at hl 2 rfl) ?_
    refine ptX6_19 X hw hq dX6_change_66 (fun M8 H locs eM8 hw => ?_)
    replace h := zlt_s eM8 h
    refine lv_goto (tgt := 93) hx hb dX6_change_69 (by decide) ?_
    exact z_rv X hw (zretv h) dX6_change_93
  replace h := zif_f c7 h
  by_cases c9 : p0 = (4 : Int32)
  · replace h := zif_t c9 h
    refine lv_tableIn (off := 71) (tgt := 72) hx hb dX6_change_1 (by rw [c9]; decide) (by rw [c9]; decide) (by rw [c9]; rfl) (by decide) ?_
    refine lv_aload_n hx hb dX6_change_72 rfl (lv_at hl 0 rfl) ?_
    refine lv_iload_n hx hb dX6_change_73 rfl (lv_at hl 2 rfl) ?_
    refine ptX6_22 X hw hq dX6_change_74 (fun M10 H locs eM10 hw => ?_)
    replace h := zlt_s eM10 h
    refine lv_goto (tgt := 93) hx hb dX6_change_77 (by decide) ?_
    exact z_rv X hw (zretv h) dX6_change_93
  replace h := zif_f c9 h
  by_cases c11 : p0 = (5 : Int32)
  · replace h := zif_t c11 h
    refine lv_tableIn (off := 79) (tgt := 80) hx hb dX6_change_1 (by rw [c11]; decide) (by rw [c11]; decide) (by rw [c11]; rfl) (by decide) ?_
    refine lv_aload_n hx hb dX6_change_80 rfl (lv_at hl 0 rfl) ?_
    refine lv_iload_n hx hb dX6_change_81 rfl (lv_at hl 2 rfl) ?_
    refine ptX6_25 X hw hq dX6_change_82 (fun M12 H locs eM12 hw => ?_)
    replace h := zlt_s eM12 h
    refine lv_goto (tgt := 93) hx hb dX6_change_85 (by decide) ?_
    exact z_rv X hw (zretv h) dX6_change_93
  replace h := zif_f c11 h
  refine lv_tableOut (tgt := 88) hx hb dX6_change_1 (by have tc1 := lv_neT c1 (a := 0) rfl; have tc3 := lv_neT c3 (a := 1) rfl; have tc5 := lv_neT c5 (a := 2) rfl; have tc7 := lv_neT c7 (a := 3) rfl; have tc9 := lv_neT c9 (a := 4) rfl; have tc11 := lv_neT c11 (a := 5) rfl; omega) (by decide) ?_
  refine lv_aload_n hx hb dX6_change_88 rfl (lv_at hl 0 rfl) ?_
  refine lv_iload_n hx hb dX6_change_89 rfl (lv_at hl 2 rfl) ?_
  refine ptX6_28 X hw hq dX6_change_90 (fun M13 H locs eM13 hw => ?_)
  replace h := zlt_s eM13 h
  exact z_rv X hw (zretv h) dX6_change_93
