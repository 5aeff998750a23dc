def fX0_copyFrom_60 (w0 : Nat) (w1 : Nat) (k : zM → Option (zM)) : Nat → Int32 → zM → Option (zM)
  | 0, _, _ => none
  | n + 1, v2, M => if M w1 9 ≤ v2 then (k  M) else (zgd (v2 < 0 ∨ 8 ≤ v2.toNatClampNeg) (zlt ((w0 + 8) + v2.toNatClampNeg) (fun w11 => zgd (v2 < 0 ∨ 8 ≤ v2.toNatClampNeg) (zlt ((w1 + 8) + v2.toNatClampNeg) (fun w13 => zbv (fX6_copyFrom w11 w13 M) (fun M15 => zlt (v2 + (1 : Int32)) (fun x17 => fX0_copyFrom_60 w0 w1 k n x17 M15)))))))
set_option maxRecDepth 100000 in
set_option maxHeartbeats 4000000 in
theorem lX0_copyFrom_60 {p : Program} {l : Launch} {e : Env} {s : State} {m : MethodId} {args : Array Value} {below : List Frame} {meth : Method} {c : Code} {D : va_G} {cy : Nat → ClassId} {a : Nat → Nat} {M0 : zM} (X : zCX p s m meth c args cX0_copyFrom 3 none RX0) (w0 : Nat) (w1 : Nat) (hw0 : zX0 w0) (hw1 : zX0 w1) (k : zM → Option (zM)) : ∀ (n : Nat) (v2 : Int32) (M : zM) (H : Heap) (locs : List Loc) (ls : Array Slot), zWD D cy a (zfr a s.heap.size) M H locs s → lv_has ls 3 [(0, .ref (a w0)), (1, .ref (a w1)), (2, .int v2)] → fX0_copyFrom_60 w0 w1 k n v2 M = some M0 →
    (∀ (M' : zM) (H' : Heap) (locs' : List Loc) (ls' : Array Slot), zWD D cy a (zfr a s.heap.size) M' H' locs' s → lv_has ls' 3 [(0, .ref (a w0)), (1, .ref (a w1))] → k M' = some M0 → W p l e (zRm 2 82) s m args below meth c H' locs' 0 0 (zQv D cy a s args below M0) (F0 m 89 ls' [])) →
    W p l e (zRm 2 82) s m args below meth c H locs 0 0 (zQv D cy a s args below M0) (F0 m 60 ls []) := by
  obtain ⟨hx, hb, hr, hml, hown, hW, hlocks⟩ := id X
  have hcs : 0 ≤ ((zRm 2 82)).cells ∧ 0 ≤ ((zRm 2 82)).slots := ⟨Nat.zero_le _, Nat.zero_le _⟩
  intro n
  induction n with
  | zero =>
    intro v2 M H locs ls hw hl h hk
    cases h
  | succ n ih =>
    intro v2 M H locs ls hw hl h hk
    have hE := hw.2.2.2.2.1
    rw [fX0_copyFrom_60] at h
    refine lv_iload_n hx hb dX0_copyFrom_60 rfl (lv_at hl 2 rfl) ?_
    refine lv_aload_n hx hb dX0_copyFrom_61 rfl (lv_at hl 1 rfl) ?_
    refine gtX0_57 X hw hw1 dX0_copyFrom_62 ?_
    refine lv_icmp_ge (tgt := 89) hx hb dX0_copyFrom_65 (by decide) (fun c9 => ?_) (fun c9 => ?_)
    · replace h := zif_t c9 h
      exact hk  M H locs _ hw (lv_sub hl [0, 1] rfl) h
    · replace h := zif_f c9 h
      refine lv_aload_n hx hb dX0_copyFrom_68 rfl (lv_at hl 0 rfl) ?_
      refine gtX0_26 X hw hw0 dX0_copyFrom_69 ?_
      refine lv_iload_n hx hb dX0_copyFrom_72 rfl (lv_at hl 2 rfl) ?_
      obtain ⟨g10, h⟩ := zgd_e h
      refine z_aldW X hw (zRW_0_5 hw0) g10 dX0_copyFrom_73 (fun w11 ew11 hw11 => ?_)
      replace h := zlt_s ew11 h
      refine lv_aload_n hx hb dX0_copyFrom_74 rfl (lv_at hl 1 rfl) ?_
      refine gtX0_26 X hw hw1 dX0_copyFrom_75 ?_
      refine lv_iload_n hx hb dX0_copyFrom_78 rfl (lv_at hl 2 rfl) ?_
      obtain ⟨g12, h⟩ := zgd_e h
      refine z_aldW X hw (zRW_0_5 hw1) g12 dX0_copyFrom_79 (fun w13 ew13 hw13 => ?_)
      replace h := zlt_s ew13 h
      obtain ⟨M15, f16, h⟩ := zbv_e h
      refine z_qVv (As := [.ref (a w13)]) (rest := []) X hw (kX6_copyFrom l D cy a w11 hw11 w13 hw13 M M15 f16) (cwX0_60 X.2.2.2.2.2.1 rfl rfl (zroomO (Nat.le_of_ble_eq_true rfl) (Nat.le_of_ble_eq_true rfl))) (zX6_lt hw11) (zS6 hw11 cy a (M w11)) rfl rfl rfl (Nat.le_of_ble_eq_true rfl) hl.1 hcs dX0_copyFrom_80 (fun H locs hw => ?_)
      obtain ⟨x17, ex17⟩ : ∃ y : Int32, y = v2 + (1 : Int32) := ⟨_, rfl⟩
      replace h := zlt_s ex17 h
      refine lv_iinc (v := x17) (lv' := [(2, .int x17), (0, .ref (a w0)), (1, .ref (a w1))]) hx hb dX0_copyFrom_83 hl (k := 2) rfl (by rw [ex17]; rfl) (by decide) rfl (fun ls hl => ?_)
      refine lv_goto (tgt := 60) hx hb dX0_copyFrom_86 (by decide) ?_
      exact ih x17 M15 H locs _ hw (lv_sub hl [1, 2, 0] rfl) h hk
def fX0_copyFrom (q : Nat) (q0 : Nat) (M : zM) : Option (zM) := zgd ((0 : Int32) < 0 ∨ (0 : Int32) < 0 ∨ (24 : Int32) < 0 ∨ 24 < (0 : Int32).toNatClampNeg + (24 : Int32).toNatClampNeg ∨ 24 < (0 : Int32).toNatClampNeg + (24 : Int32).toNatClampNeg) (zlt (zcp M (q0 + 1) (q + 1) (0 : Int32) (0 : Int32) (24 : Int32)) (fun M1 => zgd ((0 : Int32) < 0 ∨ (0 : Int32) < 0 ∨ (12 : Int32) < 0 ∨ 12 < (0 : Int32).toNatClampNeg + (12 : Int32).toNatClampNeg ∨ 12 < (0 : Int32).toNatClampNeg + (12 : Int32).toNatClampNeg) (zlt (zcp M1 (q0 + 2) (q + 2) (0 : Int32) (0 : Int32) (12 : Int32)) (fun M3 => zgd ((0 : Int32) < 0 ∨ (0 : Int32) < 0 ∨ (5 : Int32) < 0 ∨ 5 < (0 : Int32).toNatClampNeg + (5 : Int32).toNatClampNeg ∨ 5 < (0 : Int32).toNatClampNeg + (5 : Int32).toNatClampNeg) (zlt (zcp M3 (q0 + 3) (q + 3) (0 : Int32) (0 : Int32) (5 : Int32)) (fun M5 => zgd ((0 : Int32) < 0 ∨ (0 : Int32) < 0 ∨ (5 : Int32) < 0 ∨ 5 < (0 : Int32).toNatClampNeg + (5 : Int32).toNatClampNeg ∨ 5 < (0 : Int32).toNatClampNeg + (5 : Int32).toNatClampNeg) (zlt (zcp M5 (q0 + 4) (q + 4) (0 : Int32) (0 : Int32) (5 : Int32)) (fun M7 => fX0_copyFrom_60 q q0 (fun  M18 => zbv (fX2_learn (q + 16) ((q0 + 16) + 1) (M18 (q0 + 16) 2) M18) (fun M20 => zbv (fX2_learn (q + 19) ((q0 + 19) + 1) (M20 (q0 + 19) 2) M20) (fun M23 => zlt (zst M23 q 9 (M23 q0 9)) (fun M25 => zlt (zst M25 q 10 (M25 q0 10)) (fun M26 => zlt (zst M26 q 11 (M26 q0 11)) (fun M27 => zlt (zst M27 q 12 (M27 q0 12)) (fun M28 => some M28))))))) zF (0 : Int32) M7))))))))
set_option maxRecDepth 100000 in
set_option maxHeartbeats 4000000 in
theorem kX0_copyFrom (l : Launch) (D : va_G) (cy : Nat → ClassId) (a : Nat → Nat) (q : Nat) (hq : zX0 q) (q0 : Nat) (hq0 : zX0 q0) (M : zM) (M0 : zM) (h : fX0_copyFrom q q0 M = some M0) : zCv l D cy a yX0_copyFrom cX0_copyFrom 3 (zRm 2 82) [.ref (a q), .ref (a q0)] M (fun u => u = M0) := by
  intro sz
  refine zent_v sz (by decide) (Nat.le_of_ble_eq_true rfl) rfl (fun p e s m args below meth c ls H locs X hw hl => ?_)
  obtain ⟨hx, hb, hr, hml, hown, hW, hlocks⟩ := id X
  have hE := hw.2.2.2.2.1
  have hcs : 0 ≤ ((zRm 2 82)).cells ∧ 0 ≤ ((zRm 2 82)).slots := ⟨Nat.zero_le _, Nat.zero_le _⟩
  rw [fX0_copyFrom] at h
  refine lv_aload_n hx hb dX0_copyFrom_0 rfl (lv_at hl 1 rfl) ?_
  refine gtX0_9 X hw hq0 dX0_copyFrom_1 ?_
  refine lv_iconst (v := 0) hx hb dX0_copyFrom_4 (by decide) ?_
  refine lv_aload_n hx hb dX0_copyFrom_5 rfl (lv_at hl 0 rfl) ?_
  refine gtX0_9 X hw hq dX0_copyFrom_6 ?_
  refine lv_iconst (v := 0) hx hb dX0_copyFrom_9 (by decide) ?_
  refine lv_bipush (v := 24) hx hb dX0_copyFrom_10 (by decide) ?_
  obtain ⟨g2, h⟩ := zgd_e h
  refine z_cpI (rest := []) X hw (zI_0_1 hq0) (zI_0_1 hq) g2 zm_32_5 zm_25_7 zm_25_8 zm_25_9 hl.1 (Nat.le_of_ble_eq_true rfl) (Nat.le_of_ble_eq_true rfl) dX0_copyFrom_12 (fun M1 H locs eM1 hw => ?_)
  replace h := zlt_s eM1 h
  refine lv_aload_n hx hb dX0_copyFrom_15 rfl (lv_at hl 1 rfl) ?_
  refine gtX0_15 X hw hq0 dX0_copyFrom_16 ?_
  refine lv_iconst (v := 0) hx hb dX0_copyFrom_19 (by decide) ?_
  refine lv_aload_n hx hb dX0_copyFrom_20 rfl (lv_at hl 0 rfl) ?_
  refine gtX0_15 X hw hq dX0_copyFrom_21 ?_
  refine lv_iconst (v := 0) hx hb dX0_copyFrom_24 (by decide) ?_
  refine lv_bipush (v := 12) hx hb dX0_copyFrom_25 (by decide) ?_
  obtain ⟨g4, h⟩ := zgd_e h
  refine z_cpI (rest := []) X hw (zI_0_2 hq0) (zI_0_2 hq) g4 zm_32_5 zm_25_7 zm_25_8 zm_25_9 hl.1 (Nat.le_of_ble_eq_true rfl) (Nat.le_of_ble_eq_true rfl) dX0_copyFrom_27 (fun M3 H locs eM3 hw => ?_)
  replace h := zlt_s eM3 h
  refine lv_aload_n hx hb dX0_copyFrom_30 rfl (lv_at hl 1 rfl) ?_
  refine gtX0_18 X hw hq0 dX0_copyFrom_31 ?_
  refine lv_iconst (v := 0) hx hb dX0_copyFrom_34 (by decide) ?_
  refine lv_aload_n hx hb dX0_copyFrom_35 rfl (lv_at hl 0 rfl) ?_
  refine gtX0_18 X hw hq dX0_copyFrom_36 ?_
  refine lv_iconst (v := 0) hx hb dX0_copyFrom_39 (by decide) ?_
  refine lv_iconst (v := 5) hx hb dX0_copyFrom_40 (by decide) ?_
  obtain ⟨g6, h⟩ := zgd_e h
  refine z_cpI (rest := []) X hw (zI_0_3 hq0) (zI_0_3 hq) g6 zm_32_5 zm_25_7 zm_25_8 zm_25_9 hl.1 (Nat.le_of_ble_eq_true rfl) (Nat.le_of_ble_eq_true rfl) dX0_copyFrom_41 (fun M5 H locs eM5 hw => ?_)
  replace h := zlt_s eM5 h
  refine lv_aload_n hx hb dX0_copyFrom_44 rfl (lv_at hl 1 rfl) ?_
  refine gtX0_21 X hw hq0 dX0_copyFrom_45 ?_
  refine lv_iconst (v := 0) hx hb dX0_copyFrom_48 (by decide) ?_
  refine lv_aload_n hx hb dX0_copyFrom_49 rfl (lv_at hl 0 rfl) ?_
  refine gtX0_21 X hw hq dX0_copyFrom_50 ?_
  refine lv_iconst (v := 0) hx hb dX0_copyFrom_53 (by decide) ?_
  refine lv_iconst (v := 5) hx hb dX0_copyFrom_54 (by decide) ?_
  obtain ⟨g8, h⟩ := zgd_e h
  refine z_cpI (rest := []) X hw (zI_0_4 hq0) (zI_0_4 hq) g8 zm_32_5 zm_25_7 zm_25_8 zm_25_9 hl.1 (Nat.le_of_ble_eq_true rfl) (Nat.le_of_ble_eq_true rfl) dX0_copyFrom_55 (fun M7 H locs eM7 hw => ?_)
  replace h := zlt_s eM7 h
  refine lv_iconst (v := 0) hx hb dX0_copyFrom_58 (by decide) ?_
  refine lv_istore_n (lv' := [(2, .int (0 : Int32)), (0, .ref (a q)), (1, .ref (a q0))]) hx hb dX0_copyFrom_59 rfl hl (by decide) rfl (fun ls hl => ?_)
  refine lX0_copyFrom_60 X q q0 hq hq0 _ zF (0 : Int32) M7 H locs _ hw (lv_sub hl [1, 2, 0] rfl) h (fun  M18 H locs ls hw hl h => ?_)
  refine lv_aload_n hx hb dX0_copyFrom_89 rfl (lv_at hl 0 rfl) ?_
  refine gtX0_33 X hw hq dX0_copyFrom_90 ?_
  refine lv_aload_n hx hb dX0_copyFrom_93 rfl (lv_at hl 1 rfl) ?_
  refine gtX0_33 X hw hq0 dX0_copyFrom_94 ?_
  refine gtX0_64 X hw (zX2_0_16 hq0) dX0_copyFrom_97 ?_
  refine lv_aload_n hx hb dX0_copyFrom_100 rfl (lv_at hl 1 rfl) ?_
  refine gtX0_33 X hw hq0 dX0_copyFrom_101 ?_
  refine gtX0_67 X hw (zX2_0_16 hq0) dX0_copyFrom_104 ?_
  obtain ⟨M20, f21, h⟩ := zbv_e h
  refine z_qVv (As := [.ref (a ((q0 + 16) + 1)), .int (M18 (q0 + 16) 2)]) (rest := []) X hw (kX2_learn l D cy a (q + 16) (zX2_0_16 hq) ((q0 + 16) + 1) (zI_2_1 (zX2_0_16 hq0)) (M18 (q0 + 16) 2) M18 M20 f21) (cwX0_68 X.2.2.2.2.2.1 rfl rfl (zroomO (Nat.le_of_ble_eq_true rfl) (Nat.le_of_ble_eq_true rfl))) (zX2_lt (zX2_0_16 hq)) (zS2 (zX2_0_16 hq) cy a (M18 (q + 16))) rfl rfl rfl (Nat.le_of_ble_eq_true rfl) hl.1 hcs dX0_copyFrom_107 (fun H locs hw => ?_)
  refine lv_aload_n hx hb dX0_copyFrom_110 rfl (lv_at hl 0 rfl) ?_
  refine gtX0_37 X hw hq dX0_copyFrom_111 ?_
  refine lv_aload_n hx hb dX0_copyFrom_114 rfl (lv_at hl 1 rfl) ?_
  refine gtX0_37 X hw hq0 dX0_copyFrom_115 ?_
  refine gtX0_64 X hw (zX2_0_19 hq0) dX0_copyFrom_118 ?_
  refine lv_aload_n hx hb dX0_copyFrom_121 rfl (lv_at hl 1 rfl) ?_
  refine gtX0_37 X hw hq0 dX0_copyFrom_122 ?_
  refine gtX0_67 X hw (zX2_0_19 hq0) dX0_copyFrom_125 ?_
  obtain ⟨M23, f24, h⟩ := zbv_e h
  refine z_qVv (As := [.ref (a ((q0 + 19) + 1)), .int (M20 (q0 + 19) 2)]) (rest := []) X hw (kX2_learn l D cy a (q + 19) (zX2_0_19 hq) ((q0 + 19) + 1) (zI_2_1 (zX2_0_19 hq0)) (M20 (q0 + 19) 2) M20 M23 f24) (cwX0_68 X.2.2.2.2.2.1 rfl rfl (zroomO (Nat.le_of_ble_eq_true rfl) (Nat.le_of_ble_eq_true rfl))) (zX2_lt (zX2_0_19 hq)) (zS2 (zX2_0_19 hq) cy a (M20 (q + 19))) rfl rfl rfl (Nat.le_of_ble_eq_true rfl) hl.1 hcs dX0_copyFrom_128 (fun H locs hw => ?_)
  refine lv_aload_n hx hb dX0_copyFrom_131 rfl (lv_at hl 0 rfl) ?_
  refine lv_aload_n hx hb dX0_copyFrom_132 rfl (lv_at hl 1 rfl) ?_
  refine gtX0_57 X hw hq0 dX0_copyFrom_133 ?_
  refine ptX0_57 X hw hq dX0_copyFrom_136 (fun M25 H locs eM25 hw => ?_)
  replace h := zlt_s eM25 h
  refine lv_aload_n hx hb dX0_copyFrom_139 rfl (lv_at hl 0 rfl) ?_
  refine lv_aload_n hx hb dX0_copyFrom_140 rfl (lv_at hl 1 rfl) ?_
  refine gtX0_72 X hw hq0 dX0_copyFrom_141 ?_
  refine ptX0_72 X hw hq dX0_copyFrom_144 (fun M26 H locs eM26 hw => ?_)
  replace h := zlt_s eM26 h
  refine lv_aload_n hx hb dX0_copyFrom_147 rfl (lv_at hl 0 rfl) ?_
  refine lv_aload_n hx hb dX0_copyFrom_148 rfl (lv_at hl 1 rfl) ?_
  refine gtX0_75 X hw hq0 dX0_copyFrom_149 ?_
  refine ptX0_75 X hw hq dX0_copyFrom_152 (fun M27 H locs eM27 hw => ?_)
  replace h := zlt_s eM27 h
  refine lv_aload_n hx hb dX0_copyFrom_155 rfl (lv_at hl 0 rfl) ?_
  refine lv_aload_n hx hb dX0_copyFrom_156 rfl (lv_at hl 1 rfl) ?_
  refine gtX0_46 X hw hq0 dX0_copyFrom_157 ?_
  refine ptX0_46 X hw hq dX0_copyFrom_160 (fun M28 H locs eM28 hw => ?_)
  replace h := zlt_s eM28 h
  exact z_rv X hw (zretv h) dX0_copyFrom_163
def fX0_law (q : Nat) (p0 : Int32) (M : zM) : Option (Nat × zM) := if p0 = 0 then (some ((q + 16), M)) else (some ((q + 19), M))
set_option maxRecDepth 100000 in
set_option maxHeartbeats 4000000 in
theorem kX0_law (l : Launch) (D : va_G) (cy : Nat → ClassId) (a : Nat → Nat) (q : Nat) (hq : zX0 q) (p0 : Int32) (M : zM) (r0 : Nat) (M0 : zM) (h : fX0_law q p0 M = some (r0, M0)) : zCr l D cy a yX0_law cX0_law 2 (some (.object "WheelBrook$Law")) (zRm 0 0) [.ref (a q), .int p0] M (fun u => u = (r0, M0)) := by
  intro sz
  refine zent_r sz (by decide) (Nat.le_of_ble_eq_true rfl) rfl (fun p e s m args below meth c ls H locs X hw hl => ?_)
  obtain ⟨hx, hb, hr, hml, hown, hW, hlocks⟩ := id X
  have hE := hw.2.2.2.2.1
  have hcs : 0 ≤ ((zRm 0 0)).cells ∧ 0 ≤ ((zRm 0 0)).slots := ⟨Nat.zero_le _, Nat.zero_le _⟩
  rw [fX0_law] at h
  refine lv_iload_n hx hb dX0_law_0 rfl (lv_at hl 1 rfl) ?_
  refine lv_if_ne (tgt := 11) hx hb dX0_law_1 (by decide) (fun c1 => ?_) (fun c1 => ?_)
  · replace h := zif_f c1 h
    refine lv_aload_n hx hb dX0_law_11 rfl (lv_at hl 0 rfl) ?_
    refine gtX0_37 X hw hq dX0_law_12 ?_
    exact z_rr X (Or.inl ⟨_, rfl⟩) hw (zret h) dX0_law_15
  · replace h := zif_t c1 h
    refine lv_aload_n hx hb dX0_law_4 rfl (lv_at hl 0 rfl) ?_
    refine gtX0_33 X hw hq dX0_law_5 ?_
    refine lv_goto (tgt := 15) hx hb dX0_law_8 (by decide) ?_
    exact z_rr X (Or.inl ⟨_, rfl⟩) hw (zret h) dX0_law_15
def fX0_addWheel (q : Nat) (p0 : Int32) (p1 : Int32) (p2 : Int32) (M : zM) : Option (zM) := if (8 : Int32) ≤ M q 9 then (some M) else (zgd (M q 9 < 0 ∨ 8 ≤ (M q 9).toNatClampNeg) (zlt ((q + 8) + (M q 9).toNatClampNeg) (fun w3 => zlt (zst M w3 0 (p0 / (10 : Int32))) (fun M4 => zlt (zrem p0 (10 : Int32)) (fun x5 => zlt (zst M4 w3 1 x5) (fun M6 => zlt (zst M6 w3 2 p1) (fun M7 => zlt (zst M7 w3 3 p2) (fun M8 => zlt (zst M8 w3 4 (1 : Int32)) (fun M9 => zlt (zst M9 w3 5 (0 : Int32)) (fun M10 => zlt (zst M10 w3 6 (0 : Int32)) (fun M11 => zlt (zst M11 q 9 ((M11 q 9) + (1 : Int32))) (fun M12 => some M12))))))))))))
set_option maxRecDepth 100000 in
set_option maxHeartbeats 4000000 in
theorem kX0_addWheel (l : Launch) (D : va_G) (cy : Nat → ClassId) (a : Nat → Nat) (q : Nat) (hq : zX0 q) (p0 : Int32) (p1 : Int32) (p2 : Int32) (M : zM) (M0 : zM) (h : fX0_addWheel q p0 p1 p2 M = some M0) : zCv l D cy a yX0_addWheel cX0_addWheel 5 (zRm 0 0) [.ref (a q), .int p0, .int p1, .int p2] M (fun u => u = M0) := by
  intro sz
  refine zent_v sz (by decide) (Nat.le_of_ble_eq_true rfl) rfl (fun p e s m args below meth c ls H locs X hw hl => ?_)
  obtain ⟨hx, hb, hr, hml, hown, hW, hlocks⟩ := id X
  have hE := hw.2.2.2.2.1
  have hcs : 0 ≤ ((zRm 0 0)).cells ∧ 0 ≤ ((zRm 0 0)).slots := ⟨Nat.zero_le _, Nat.zero_le _⟩
  rw [fX0_addWheel] at h
  refine lv_aload_n hx hb dX0_addWheel_0 rfl (lv_at hl 0 rfl) ?_
  refine gtX0_57 X hw hq dX0_addWheel_1 ?_
  refine lv_bipush (v := 8) hx hb dX0_addWheel_4 (by decide) ?_
  refine lv_icmp_ge (tgt := 78) hx hb dX0_addWheel_6 (by decide) (fun c1 => ?_) (fun c1 => ?_)
  · replace h := zif_t c1 h
    exact z_rv X hw (zretv h) dX0_addWheel_78
  · replace h := zif_f c1 h
    refine lv_aload_n hx hb dX0_addWheel_9 rfl (lv_at hl 0 rfl) ?_
    refine gtX0_26 X hw hq dX0_addWheel_10 ?_
    refine lv_aload_n hx hb dX0_addWheel_13 rfl (lv_at hl 0 rfl) ?_
    refine gtX0_57 X hw hq dX0_addWheel_14 ?_
    obtain ⟨g2, h⟩ := zgd_e h
    refine z_aldW X hw (zRW_0_5 hq) g2 dX0_addWheel_17 (fun w3 ew3 hw3 => ?_)
    replace h := zlt_s ew3 h
    refine lv_astore (lv' := [(4, .ref (a w3)), (0, .ref (a q)), (1, .int p0), (2, .int p1), (3, .int p2)]) hx hb dX0_addWheel_18 hl (by decide) rfl (fun ls hl => ?_)
    refine lv_aload hx hb dX0_addWheel_20 (lv_at hl 0 rfl) ?_
    refine lv_iload_n hx hb dX0_addWheel_22 rfl (lv_at hl 2 rfl) ?_
    refine lv_bipush (v := 10) hx hb dX0_addWheel_23 (by decide) ?_
    refine lv_idiv hx hb dX0_addWheel_25 (by decide) ?_
    refine ptX0_78 X hw hw3 dX0_addWheel_26 (fun M4 H locs eM4 hw => ?_)
    replace h := zlt_s eM4 h
    refine lv_aload hx hb dX0_addWheel_29 (lv_at hl 0 rfl) ?_
    refine lv_iload_n hx hb dX0_addWheel_31 rfl (lv_at hl 2 rfl) ?_
    refine lv_bipush (v := 10) hx hb dX0_addWheel_32 (by decide) ?_
    refine lv_irem hx hb dX0_addWheel_34 (by decide) ?_
    refine lv_topi (fun x5 ex5 => ?_)
    replace h := zlt_s ex5 h
    refine ptX0_81 X hw hw3 dX0_addWheel_35 (fun M6 H locs eM6 hw => ?_)
    replace h := zlt_s eM6 h
    refine lv_aload hx hb dX0_addWheel_38 (lv_at hl 0 rfl) ?_
    refine lv_iload_n hx hb dX0_addWheel_40 rfl (lv_at hl 3 rfl) ?_
    refine ptX0_84 X hw hw3 dX0_addWheel_41 (fun M7 H locs eM7 hw => ?_)
    replace h := zlt_s eM7 h
    refine lv_aload hx hb dX0_addWheel_44 (lv_at hl 0 rfl) ?_
    refine lv_iload_n hx hb dX0_addWheel_46 rfl (lv_at hl 4 rfl) ?_
    refine ptX0_87 X hw hw3 dX0_addWheel_47 (fun M8 H locs eM8 hw => ?_)
    replace h := zlt_s eM8 h
    refine lv_aload hx hb dX0_addWheel_50 (lv_at hl 0 rfl) ?_
    refine lv_iconst (v := 1) hx hb dX0_addWheel_52 (by decide) ?_
    refine ptX0_90 X hw hw3 dX0_addWheel_53 (fun M9 H locs eM9 hw => ?_)
    replace h := zlt_s eM9 h
    refine lv_aload hx hb dX0_addWheel_56 (lv_at hl 0 rfl) ?_
    refine lv_iconst (v := 0) hx hb dX0_addWheel_58 (by decide) ?_
    refine ptX0_93 X hw hw3 dX0_addWheel_59 (fun M10 H locs eM10 hw => ?_)
    replace h := zlt_s eM10 h
    refine lv_aload hx hb dX0_addWheel_62 (lv_at hl 0 rfl) ?_
    refine lv_iconst (v := 0) hx hb dX0_addWheel_64 (by decide) ?_
    refine ptX0_96 X hw hw3 dX0_addWheel_65 (fun M11 H locs eM11 hw => ?_)
    replace h := zlt_s eM11 h
    refine lv_aload_n hx hb dX0_addWheel_68 rfl (lv_at hl 1 rfl) ?_
    refine lv_dup hx hb dX0_addWheel_69 rfl ?_
    refine gtX0_57 X hw hq dX0_addWheel_70 ?_
    refine lv_iconst (v := 1) hx hb dX0_addWheel_73 (by decide) ?_
    refine lv_iadd hx hb dX0_addWheel_74 ?_
    refine ptX0_57 X hw hq dX0_addWheel_75 (fun M12 H locs eM12 hw => ?_)
    replace h := zlt_s eM12 h
    exact z_rv X hw (zretv h) dX0_addWheel_78
def fX0_openOnly_2 (w0 : Nat) (y1 : Int32) (k : zM → Option (zM)) : Nat → Int32 → zM → Option (zM)
  | 0, _, _ => none
  | n + 1, v2, M => if M w0 9 ≤ v2 then (k  M) else (zgd (v2 < 0 ∨ 8 ≤ v2.toNatClampNeg) (zlt ((w0 + 8) + v2.toNatClampNeg) (fun w3 => zlt (y1 >>> (v2 &&& 31)) (fun x4 => zlt (zst M w3 4 (x4 &&& (1 : Int32))) (fun M5 => zlt (v2 + (1 : Int32)) (fun x6 => fX0_openOnly_2 w0 y1 k n x6 M5))))))
set_option maxRecDepth 100000 in
set_option maxHeartbeats 4000000 in
theorem lX0_openOnly_2 {p : Program} {l : Launch} {e : Env} {s : State} {m : MethodId} {args : Array Value} {below : List Frame} {meth : Method} {c : Code} {D : va_G} {cy : Nat → ClassId} {a : Nat → Nat} {M0 : zM} (X : zCX p s m meth c args cX0_openOnly 3 none RX0) (w0 : Nat) (y1 : Int32) (hw0 : zX0 w0) (k : zM → Option (zM)) : ∀ (n : Nat) (v2 : Int32) (M : zM) (H : Heap) (locs : List Loc) (ls : Array Slot), zWD D cy a (zfr a s.heap.size) M H locs s → lv_has ls 3 [(0, .ref (a w0)), (1, .int y1), (2, .int v2)] → fX0_openOnly_2 w0 y1 k n v2 M = some M0 →
    (∀ (M' : zM) (H' : Heap) (locs' : List Loc) (ls' : Array Slot), zWD D cy a (zfr a s.heap.size) M' H' locs' s → lv_has ls' 3 [] → k M' = some M0 → W p l e (zRm 0 0) s m args below meth c H' locs' 0 0 (zQv D cy a s args below M0) (F0 m 30 ls' [])) →
    W p l e (zRm 0 0) s m args below meth c H locs 0 0 (zQv D cy a s args below M0) (F0 m 2 ls []) := by
  obtain ⟨hx, hb, hr, hml, hown, hW, hlocks⟩ := id X
  have hcs : 0 ≤ ((zRm 0 0)).cells ∧ 0 ≤ ((zRm 0 0)).slots := ⟨Nat.zero_le _, Nat.zero_le _⟩
  intro n
  induction n with
  | zero =>
    intro v2 M H locs ls hw hl h hk
    cases h
  | succ n ih =>
    intro v2 M H locs ls hw hl h hk
    have hE := hw.2.2.2.2.1
    rw [fX0_openOnly_2] at h
    refine lv_iload_n hx hb dX0_openOnly_2 rfl (lv_at hl 2 rfl) ?_
    refine lv_aload_n hx hb dX0_openOnly_3 rfl (lv_at hl 0 rfl) ?_
    refine gtX0_57 X hw hw0 dX0_openOnly_4 ?_
    refine lv_icmp_ge (tgt := 30) hx hb dX0_openOnly_7 (by decide) (fun c1 => ?_) (fun c1 => ?_)
    · replace h := zif_t c1 h
      exact hk  M H locs _ hw (lv_sub hl [] rfl) h
    · replace h := zif_f c1 h
      refine lv_aload_n hx hb dX0_openOnly_10 rfl (lv_at hl 0 rfl) ?_
      refine gtX0_26 X hw hw0 dX0_openOnly_11 ?_
      refine lv_iload_n hx hb dX0_openOnly_14 rfl (lv_at hl 2 rfl) ?_
      obtain ⟨g2, h⟩ := zgd_e h
      refine z_aldW X hw (zRW_0_5 hw0) g2 dX0_openOnly_15 (fun w3 ew3 hw3 => ?_)
      replace h := zlt_s ew3 h
      refine lv_iload_n hx hb dX0_openOnly_16 rfl (lv_at hl 1 rfl) ?_
      refine lv_iload_n hx hb dX0_openOnly_17 rfl (lv_at hl 2 rfl) ?_
      refine lv_ishr hx hb dX0_openOnly_18 ?_
      refine lv_topi (fun x4 ex4 => ?_)
      replace h := zlt_s ex4 h
      refine lv_iconst (v := 1) hx hb dX0_openOnly_19 (by decide) ?_
      refine lv_iand hx hb dX0_openOnly_20 ?_
      refine ptX0_90 X hw hw3 dX0_openOnly_21 (fun M5 H locs eM5 hw => ?_)
      replace h := zlt_s eM5 h
      obtain ⟨x6, ex6⟩ : ∃ y : Int32, y = v2 + (1 : Int32) := ⟨_, rfl⟩
      replace h := zlt_s ex6 h
      refine lv_iinc (v := x6) (lv' := [(2, .int x6), (0, .ref (a w0)), (1, .int y1)]) hx hb dX0_openOnly_24 hl (k := 2) rfl (by rw [ex6]; rfl) (by decide) rfl (fun ls hl => ?_)
      refine lv_goto (tgt := 2) hx hb dX0_openOnly_27 (by decide) ?_
      exact ih x6 M5 H locs _ hw (lv_sub hl [1, 2, 0] rfl) h hk
def fX0_openOnly (q : Nat) (p0 : Int32) (M : zM) : Option (zM) := fX0_openOnly_2 q p0 (fun  M7 => some M7) zF (0 : Int32) M
set_option maxRecDepth 100000 in
set_option maxHeartbeats 4000000 in
theorem kX0_openOnly (l : Launch) (D : va_G) (cy : Nat → ClassId) (a : Nat → Nat) (q : Nat) (hq : zX0 q) (p0 : Int32) (M : zM) (M0 : zM) (h : fX0_openOnly q p0 M = some M0) : zCv l D cy a yX0_openOnly cX0_openOnly 3 (zRm 0 0) [.ref (a q), .int p0] M (fun u => u = M0) := by
  intro sz
  refine zent_v sz (by decide) (Nat.le_of_ble_eq_true rfl) rfl (fun p e s m args below meth c ls H locs X hw hl => ?_)
  obtain ⟨hx, hb, hr, hml, hown, hW, hlocks⟩ := id X
  have hE := hw.2.2.2.2.1
  have hcs : 0 ≤ ((zRm 0 0)).cells ∧ 0 ≤ ((zRm 0 0)).slots := ⟨Nat.zero_le _, Nat.zero_le _⟩
  rw [fX0_openOnly] at h
  refine lv_iconst (v := 0) hx hb dX0_openOnly_0 (by decide) ?_
  refine lv_istore_n (lv' := [(2, .int (0 : Int32)), (0, .ref (a q)), (1, .int p0)]) hx hb dX0_openOnly_1 rfl hl (by decide) rfl (fun ls hl => ?_)
  refine lX0_openOnly_2 X q p0 hq _ zF (0 : Int32) M H locs _ hw (lv_sub hl [1, 2, 0] rfl) h (fun  M7 H locs ls hw hl h => ?_)
  exact z_rv X hw (zretv h) dX0_openOnly_30
def fX0_forceNow (q : Nat) (M : zM) : Option (Int32 × zM) := zlt (zrem (M q 10) (24 : Int32)) (fun x1 => zgd (x1 < 0 ∨ 24 ≤ x1.toNatClampNeg) (some (M (q + 1) (x1.toNatClampNeg), M)))
set_option maxRecDepth 100000 in
set_option maxHeartbeats 4000000 in
theorem kX0_forceNow (l : Launch) (D : va_G) (cy : Nat → ClassId) (a : Nat → Nat) (q : Nat) (hq : zX0 q) (M : zM) (r0 : Int32) (M0 : zM) (h : fX0_forceNow q M = some (r0, M0)) : zCi l D cy a yX0_forceNow cX0_forceNow 1 (some .int) (zRm 0 0) [.ref (a q)] M (fun r u => r = r0 ∧ u = M0) := by
  intro sz
  refine zent_i sz (by decide) (Nat.le_of_ble_eq_true rfl) rfl (fun p e s m args below meth c ls H locs X hw hl => ?_)
  obtain ⟨hx, hb, hr, hml, hown, hW, hlocks⟩ := id X
  have hE := hw.2.2.2.2.1
  have hcs : 0 ≤ ((zRm 0 0)).cells ∧ 0 ≤ ((zRm 0 0)).slots := ⟨Nat.zero_le _, Nat.zero_le _⟩
  rw [fX0_forceNow] at h
  refine lv_aload_n hx hb dX0_forceNow_0 rfl (lv_at hl 0 rfl) ?_
  refine gtX0_9 X hw hq dX0_forceNow_1 ?_
  refine lv_aload_n hx hb dX0_forceNow_4 rfl (lv_at hl 0 rfl) ?_
  refine gtX0_72 X hw hq dX0_forceNow_5 ?_
  refine lv_bipush (v := 24) hx hb dX0_forceNow_8 (by decide) ?_
  refine lv_irem hx hb dX0_forceNow_10 (by decide) ?_
  refine lv_topi (fun x1 ex1 => ?_)
  replace h := zlt_s ex1 h
  obtain ⟨g2, h⟩ := zgd_e h
  refine z_ald X hw (zI_0_1 hq) g2 dX0_forceNow_11 ?_
  exact z_ri X hw (zret h) dX0_forceNow_12
def fX7_held (p0 : Int32) (p1 : Int32) (p2 : Int32) (M : zM) : Option (Int32 × zM) := zlt (zmin p0 p2) (fun x1 => zlt (zmax p1 x1) (fun x2 => some (x2, M)))
set_option maxRecDepth 100000 in
set_option maxHeartbeats 4000000 in
theorem kX7_held (l : Launch) (D : va_G) (cy : Nat → ClassId) (a : Nat → Nat) (p0 : Int32) (p1 : Int32) (p2 : Int32) (M : zM) (r0 : Int32) (M0 : zM) (h : fX7_held p0 p1 p2 M = some (r0, M0)) : zCi l D cy a yX7_held cX7_held 3 (some .int) (zRm 1 21) [.int p0, .int p1, .int p2] M (fun r u => r = r0 ∧ u = M0) := by
  intro sz
  refine zent_i sz (by decide) (Nat.le_of_ble_eq_true rfl) rfl (fun p e s m args below meth c ls H locs X hw hl => ?_)
  obtain ⟨hx, hb, hr, hml, hown, hW, hlocks⟩ := id X
  have hE := hw.2.2.2.2.1
  have hcs : 0 ≤ ((zRm 1 21)).cells ∧ 0 ≤ ((zRm 1 21)).slots := ⟨Nat.zero_le _, Nat.zero_le _⟩
  rw [fX7_held] at h
  refine lv_iload_n hx hb dX7_held_0 rfl (lv_at hl 1 rfl) ?_
  refine lv_iload_n hx hb dX7_held_1 rfl (lv_at hl 0 rfl) ?_
  refine lv_iload_n hx hb dX7_held_2 rfl (lv_at hl 2 rfl) ?_
  refine z_min (rest := [.int p1]) X zm_12_22 zm_12_6 zm_12_7 zm_12_8 hl.1 (Nat.le_of_ble_eq_true rfl) (Nat.le_of_ble_eq_true rfl) hcs dX7_held_3 ?_
  refine lv_topi (fun x1 ex1 => ?_)
  replace h := zlt_s ex1 h
  refine z_max (rest := []) X zm_12_23 zm_13_0 zm_12_7 zm_13_1 hl.1 (Nat.le_of_ble_eq_true rfl) (Nat.le_of_ble_eq_true rfl) hcs dX7_held_6 ?_
  refine lv_topi (fun x2 ex2 => ?_)
  replace h := zlt_s ex2 h
  exact z_ri X hw (zret h) dX7_held_9
def fX0_toldTakes (q : Nat) (q0 : Nat) (p1 : Int32) (M : zM) : Option (Int32 × zM) := if M (q + 16) 2 = 0 then (some (p1 / (2 : Int32), M)) else (zlt (zst M (q + 6) (0) p1) (fun M2 => zlt (zst M2 (q + 6) (1) (M2 q0 2)) (fun M3 => zlt (zrem (M3 q 10) (24 : Int32)) (fun x4 => zlt (zst M3 (q + 6) (2) x4) (fun M5 => zlt (zst M5 (q + 6) (3) (M5 q0 1)) (fun M6 => zbi (fX2_value (q + 16) (q + 6) M6) (fun r7 M8 => some (r7, M8))))))))
set_option maxRecDepth 100000 in
set_option maxHeartbeats 4000000 in
theorem kX0_toldTakes (l : Launch) (D : va_G) (cy : Nat → ClassId) (a : Nat → Nat) (q : Nat) (hq : zX0 q) (q0 : Nat) (hq0 : zX6 q0) (p1 : Int32) (M : zM) (r0 : Int32) (M0 : zM) (h : fX0_toldTakes q q0 p1 M = some (r0, M0)) : zCi l D cy a yX0_toldTakes cX0_toldTakes 3 (some .int) (zRm 2 46) [.ref (a q), .ref (a q0), .int p1] M (fun r u => r = r0 ∧ u = M0) := by
  intro sz
  refine zent_i sz (by decide) (Nat.le_of_ble_eq_true rfl) rfl (fun p e s m args below meth c ls H locs X hw hl => ?_)
  obtain ⟨hx, hb, hr, hml, hown, hW, hlocks⟩ := id X
  have hE := hw.2.2.2.2.1
  have hcs : 0 ≤ ((zRm 2 46)).cells ∧ 0 ≤ ((zRm 2 46)).slots := ⟨Nat.zero_le _, Nat.zero_le _⟩
  rw [fX0_toldTakes] at h
  refine lv_aload_n hx hb dX0_toldTakes_0 rfl (lv_at hl 0 rfl) ?_
  refine gtX0_33 X hw hq dX0_toldTakes_1 ?_
  refine gtX0_67 X hw (zX2_0_16 hq) dX0_toldTakes_4 ?_
  refine lv_if_ne (tgt := 14) hx hb dX0_toldTakes_7 (by decide) (fun c1 => ?_) (fun c1 => ?_)
  · replace h := zif_f c1 h
    refine lv_aload_n hx hb dX0_toldTakes_14 rfl (lv_at hl 0 rfl) ?_
    refine gtX0_40 X hw hq dX0_toldTakes_15 ?_
    refine lv_iconst (v := 0) hx hb dX0_toldTakes_18 (by decide) ?_
    refine lv_iload_n hx hb dX0_toldTakes_19 rfl (lv_at hl 2 rfl) ?_
    refine z_astK (k := 0) X hw (zI_0_6 hq) (by decide) (by decide) (by decide) dX0_toldTakes_20 (fun M2 H locs eM2 hw => ?_)
    replace h := zlt_s eM2 h
    refine lv_aload_n hx hb dX0_toldTakes_21 rfl (lv_at hl 0 rfl) ?_
    refine gtX0_40 X hw hq dX0_toldTakes_22 ?_
    refine lv_iconst (v := 1) hx hb dX0_toldTakes_25 (by decide) ?_
    refine lv_aload_n hx hb dX0_toldTakes_26 rfl (lv_at hl 1 rfl) ?_
    refine gtX0_84 X hw hq0 dX0_toldTakes_27 ?_
    refine z_astK (k := 1) X hw (zI_0_6 hq) (by decide) (by decide) (by decide) dX0_toldTakes_30 (fun M3 H locs eM3 hw => ?_)
    replace h := zlt_s eM3 h
    refine lv_aload_n hx hb dX0_toldTakes_31 rfl (lv_at hl 0 rfl) ?_
    refine gtX0_40 X hw hq dX0_toldTakes_32 ?_
    refine lv_iconst (v := 2) hx hb dX0_toldTakes_35 (by decide) ?_
    refine lv_aload_n hx hb dX0_toldTakes_36 rfl (lv_at hl 0 rfl) ?_
    refine gtX0_72 X hw hq dX0_toldTakes_37 ?_
    refine lv_bipush (v := 24) hx hb dX0_toldTakes_40 (by decide) ?_
    refine lv_irem hx hb dX0_toldTakes_42 (by decide) ?_
    refine lv_topi (fun x4 ex4 => ?_)
    replace h := zlt_s ex4 h
    refine z_astK (k := 2) X hw (zI_0_6 hq) (by decide) (by decide) (by decide) dX0_toldTakes_43 (fun M5 H locs eM5 hw => ?_)
    replace h := zlt_s eM5 h
    refine lv_aload_n hx hb dX0_toldTakes_44 rfl (lv_at hl 0 rfl) ?_
    refine gtX0_40 X hw hq dX0_toldTakes_45 ?_
    refine lv_iconst (v := 3) hx hb dX0_toldTakes_48 (by decide) ?_
    refine lv_aload_n hx hb dX0_toldTakes_49 rfl (lv_at hl 1 rfl) ?_
    refine gtX0_81 X hw hq0 dX0_toldTakes_50 ?_
    refine z_astK (k := 3) X hw (zI_0_6 hq) (by decide) (by decide) (by decide) dX0_toldTakes_53 (fun M6 H locs eM6 hw => ?_)
    replace h := zlt_s eM6 h
    refine lv_aload_n hx hb dX0_toldTakes_54 rfl (lv_at hl 0 rfl) ?_
    refine gtX0_33 X hw hq dX0_toldTakes_55 ?_
    refine lv_aload_n hx hb dX0_toldTakes_58 rfl (lv_at hl 0 rfl) ?_
    refine gtX0_40 X hw hq dX0_toldTakes_59 ?_
    obtain ⟨r7, M8, f9, h⟩ := zbi_e h
    refine z_qVi (As := [.ref (a (q + 6))]) (rest := []) X hw (kX2_value l D cy a (q + 16) (zX2_0_16 hq) (q + 6) (zI_0_6 hq) M6 r7 M8 f9) (cwX0_129 X.2.2.2.2.2.1 rfl rfl (zroomO (Nat.le_of_ble_eq_true rfl) (Nat.le_of_ble_eq_true rfl))) (zX2_lt (zX2_0_16 hq)) (zS2 (zX2_0_16 hq) cy a (M6 (q + 16))) rfl rfl rfl (Nat.le_of_ble_eq_true rfl) hl.1 hcs dX0_toldTakes_62 (fun H locs hw => ?_)
    exact z_ri X hw (zret h) dX0_toldTakes_65
  · replace h := zif_t c1 h
    refine lv_iload_n hx hb dX0_toldTakes_10 rfl (lv_at hl 2 rfl) ?_
    refine lv_iconst (v := 2) hx hb dX0_toldTakes_11 (by decide) ?_
    refine lv_idiv hx hb dX0_toldTakes_12 (by decide) ?_
    exact z_ri X hw (zret h) dX0_toldTakes_13
def fX0_wants (q : Nat) (q0 : Nat) (p1 : Int32) (M : zM) : Option (Int32 × zM) := if M q0 4 = 0 then (some ((0 : Int32), M)) else (if M q 11 ≤ M q0 1 then (zlt (M q0 0) (fun x3 => if x3 = (1 : Int32) then (zbi (fX7_held ((p1 / (3 : Int32)) + (M q0 1)) (0 : Int32) p1 M) (fun r5 M6 => some (r5, M6))) else (if x3 = (2 : Int32) then (zbi (fX7_held (M q0 1) (0 : Int32) p1 M) (fun r9 M10 => some (r9, M10))) else (if x3 = (3 : Int32) then (zbi (fX7_held ((p1 / (3 : Int32)) * (2 : Int32)) (0 : Int32) p1 M) (fun r13 M14 => some (r13, M14))) else (if x3 = (4 : Int32) then (zbi (fX7_held ((p1 / (3 : Int32)) + (M q0 1)) (0 : Int32) p1 M) (fun r17 M18 => some (r17, M18))) else (if x3 = (5 : Int32) then (zbi (fX7_held ((p1 / (3 : Int32)) * (2 : Int32)) (0 : Int32) p1 M) (fun r21 M22 => some (r21, M22))) else (if x3 = (6 : Int32) then (zbi (fX0_toldTakes q q0 p1 M) (fun r25 M26 => zbi (fX7_held r25 (0 : Int32) p1 M26) (fun r28 M29 => some (r28, M29)))) else (zbi (fX7_held (p1 / (3 : Int32)) (0 : Int32) p1 M) (fun r31 M32 => some (r31, M32)))))))))) else (some ((0 : Int32), M)))
set_option maxRecDepth 100000 in
set_option maxHeartbeats 4000000 in
theorem kX0_wants (l : Launch) (D : va_G) (cy : Nat → ClassId) (a : Nat → Nat) (q : Nat) (hq : zX0 q) (q0 : Nat) (hq0 : zX6 q0) (p1 : Int32) (M : zM) (r0 : Int32) (M0 : zM) (h : fX0_wants q q0 p1 M = some (r0, M0)) : zCi l D cy a yX0_wants cX0_wants 3 (some .int) (zRm 3 68) [.ref (a q), .ref (a q0), .int p1] M (fun r u => r = r0 ∧ u = M0) := by
  intro sz
  refine zent_i sz (by decide) (Nat.le_of_ble_eq_true rfl) rfl (fun p e s m args below meth c ls H locs X hw hl => ?_)
  obtain ⟨hx, hb, hr, hml, hown, hW, hlocks⟩ := id X
  have hE := hw.2.2.2.2.1
  have hcs : 0 ≤ ((zRm 3 68)).cells ∧ 0 ≤ ((zRm 3 68)).slots := ⟨Nat.zero_le _, Nat.zero_le _⟩
  rw [fX0_wants] at h
  refine lv_aload_n hx hb dX0_wants_0 rfl (lv_at hl 1 rfl) ?_
  refine gtX0_90 X hw hq0 dX0_wants_1 ?_
  refine lv_if_eq (tgt := 18) hx hb dX0_wants_4 (by decide) (fun c1 => ?_) (fun c1 => ?_)
  · replace h := zif_t c1 h
    refine lv_iconst (v := 0) hx hb dX0_wants_18 (by decide) ?_
    exact z_ri X hw (zret h) dX0_wants_19
  · replace h := zif_f c1 h
    refine lv_aload_n hx hb dX0_wants_7 rfl (lv_at hl 1 rfl) ?_
    refine gtX0_81 X hw hq0 dX0_wants_8 ?_
    refine lv_aload_n hx hb dX0_wants_11 rfl (lv_at hl 0 rfl) ?_
    refine gtX0_75 X hw hq dX0_wants_12 ?_
    refine lv_icmp_ge (tgt := 20) hx hb dX0_wants_15 (by decide) (fun c2 => ?_) (fun c2 => ?_)
    · replace h := zif_t c2 h
      refine lv_aload_n hx hb dX0_wants_20 rfl (lv_at hl 1 rfl) ?_
      refine gtX0_78 X hw hq0 dX0_wants_21 ?_
      refine lv_topi (fun x3 ex3 => ?_)
      replace h := zlt_s ex3 h
      by_cases c4 : x3 = (1 : Int32)
      · replace h := zif_t c4 h
        refine lv_tableIn (off := 40) (tgt := 64) hx hb dX0_wants_24 (by rw [c4]; decide) (by rw [c4]; decide) (by rw [c4]; rfl) (by decide) ?_
        refine lv_iload_n hx hb dX0_wants_64 rfl (lv_at hl 2 rfl) ?_
        refine lv_iconst (v := 3) hx hb dX0_wants_65 (by decide) ?_
        refine lv_idiv hx hb dX0_wants_66 (by decide) ?_
        refine lv_aload_n hx hb dX0_wants_67 rfl (lv_at hl 1 rfl) ?_
        refine gtX0_81 X hw hq0 dX0_wants_68 ?_
        refine lv_iadd hx hb dX0_wants_71 ?_
        refine lv_iconst (v := 0) hx hb dX0_wants_72 (by decide) ?_
        refine lv_iload_n hx hb dX0_wants_73 rfl (lv_at hl 2 rfl) ?_
        obtain ⟨r5, M6, f7, h⟩ := zbi_e h
        refine z_qSNi (As := [.int ((p1 / (3 : Int32)) + (M q0 1)), .int (0 : Int32), .int p1]) (rest := []) X hw (kX7_held l D cy a ((p1 / (3 : Int32)) + (M q0 1)) (0 : Int32) p1 M r5 M6 f7) (cwX0_122 X.2.2.2.2.2.1 hE.1.1 rfl rfl (zroomO (Nat.le_of_ble_eq_true rfl) (Nat.le_of_ble_eq_true rfl))) rfl rfl (Nat.le_of_ble_eq_true rfl) hl.1 hcs dX0_wants_74 (fun H locs hw => ?_)
        exact z_ri X hw (zret h) dX0_wants_77
      replace h := zif_f c4 h
      by_cases c8 : x3 = (2 : Int32)
      · replace h := zif_t c8 h
        refine lv_tableIn (off := 54) (tgt := 78) hx hb dX0_wants_24 (by rw [c8]; decide) (by rw [c8]; decide) (by rw [c8]; rfl) (by decide) ?_
        refine lv_aload_n hx hb dX0_wants_78 rfl (lv_at hl 1 rfl) ?_
        refine gtX0_81 X hw hq0 dX0_wants_79 ?_
        refine lv_iconst (v := 0) hx hb dX0_wants_82 (by decide) ?_
        refine lv_iload_n hx hb dX0_wants_83 rfl (lv_at hl 2 rfl) ?_
        obtain ⟨r9, M10, f11, h⟩ := zbi_e h
        refine z_qSNi (As := [.int (M q0 1), .int (0 : Int32), .int p1]) (rest := []) X hw (kX7_held l D cy a (M q0 1) (0 : Int32) p1 M r9 M10 f11) (cwX0_122 X.2.2.2.2.2.1 hE.1.1 rfl rfl (zroomO (Nat.le_of_ble_eq_true rfl) (Nat.le_of_ble_eq_true rfl))) rfl rfl (Nat.le_of_ble_eq_true rfl) hl.1 hcs dX0_wants_84 (fun H locs hw => ?_)
        exact z_ri X hw (zret h) dX0_wants_87
      replace h := zif_f c8 h
      by_cases c12 : x3 = (3 : Int32)
      · replace h := zif_t c12 h
        refine lv_tableIn (off := 64) (tgt := 88) hx hb dX0_wants_24 (by rw [c12]; decide) (by rw [c12]; decide) (by rw [c12]; rfl) (by decide) ?_
        refine lv_iload_n hx hb dX0_wants_88 rfl (lv_at hl 2 rfl) ?_
        refine lv_iconst (v := 3) hx hb dX0_wants_89 (by decide) ?_
        refine lv_idiv hx hb dX0_wants_90 (by decide) ?_
        refine lv_iconst (v := 2) hx hb dX0_wants_91 (by decide) ?_
        refine lv_imul hx hb dX0_wants_92 ?_
        refine lv_iconst (v := 0) hx hb dX0_wants_93 (by decide) ?_
        refine lv_iload_n hx hb dX0_wants_94 rfl (lv_at hl 2 rfl) ?_
        obtain ⟨r13, M14, f15, h⟩ := zbi_e h
        refine z_qSNi (As := [.int ((p1 / (3 : Int32)) * (2 : Int32)), .int (0 : Int32), .int p1]) (rest := []) X hw (kX7_held l D cy a ((p1 / (3 : Int32)) * (2 : Int32)) (0 : Int32) p1 M r13 M14 f15) (cwX0_122 X.2.2.2.2.2.1 hE.1.1 rfl rfl (zroomO (Nat.le_of_ble_eq_true rfl) (Nat.le_of_ble_eq_true rfl))) rfl rfl (Nat.le_of_ble_eq_true rfl) hl.1 hcs dX0_wants_95 (fun H locs hw => ?_)
        exact z_ri X hw (zret h) dX0_wants_98
      replace h := zif_f c12 h
      by_cases c16 : x3 = (4 : Int32)
      · replace h := zif_t c16 h
        refine lv_tableIn (off := 40) (tgt := 64) hx hb dX0_wants_24 (by rw [c16]; decide) (by rw [c16]; decide) (by rw [c16]; rfl) (by decide) ?_
        refine lv_iload_n hx hb dX0_wants_64 rfl (lv_at hl 2 rfl) ?_
        refine lv_iconst (v := 3) hx hb dX0_wants_65 (by decide) ?_
        refine lv_idiv hx hb dX0_wants_66 (by decide) ?_
        refine lv_aload_n hx hb dX0_wants_67 rfl (lv_at hl 1 rfl) ?_
        refine gtX0_81 X hw hq0 dX0_wants_68 ?_
        refine lv_iadd hx hb dX0_wants_71 ?_
        refine lv_iconst (v := 0) hx hb dX0_wants_72 (by decide) ?_
        refine lv_iload_n hx hb dX0_wants_73 rfl (lv_at hl 2 rfl) ?_
        obtain ⟨r17, M18, f19, h⟩ := zbi_e h
        refine z_qSNi (As := [.int ((p1 / (3 : Int32)) + (M q0 1)), .int (0 : Int32), .int p1]) (rest := []) X hw (kX7_held l D cy a ((p1 / (3 : Int32)) + (M q0 1)) (0 : Int32) p1 M r17 M18 f19) (cwX0_122 X.2.2.2.2.2.1 hE.1.1 rfl rfl (zroomO (Nat.le_of_ble_eq_true rfl) (Nat.le_of_ble_eq_true rfl))) rfl rfl (Nat.le_of_ble_eq_true rfl) hl.1 hcs dX0_wants_74 (fun H locs hw => ?_)
        exact z_ri X hw (zret h) dX0_wants_77
      replace h := zif_f c16 h
      by_cases c20 : x3 = (5 : Int32)
      · replace h := zif_t c20 h
        refine lv_tableIn (off := 64) (tgt := 88) hx hb dX0_wants_24 (by rw [c20]; decide) (by rw [c20]; decide) (by rw [c20]; rfl) (by decide) ?_
        refine lv_iload_n hx hb dX0_wants_88 rfl (lv_at hl 2 rfl) ?_
        refine lv_iconst (v := 3) hx hb dX0_wants_89 (by decide) ?_
        refine lv_idiv hx hb dX0_wants_90 (by decide) ?_
        refine lv_iconst (v := 2) hx hb dX0_wants_91 (by decide) ?_
        refine lv_imul hx hb dX0_wants_92 ?_
        refine lv_iconst (v := 0) hx hb dX0_wants_93 (by decide) ?_
        refine lv_iload_n hx hb dX0_wants_94 rfl (lv_at hl 2 rfl) ?_
        obtain ⟨r21, M22, f23, h⟩ := zbi_e h
        refine z_qSNi (As := [.int ((p1 / (3 : Int32)) * (2 : Int32)), .int (0 : Int32), .int p1]) (rest := []) X hw (kX7_held l D cy a ((p1 / (3 : Int32)) * (2 : Int32)) (0 : Int32) p1 M r21 M22 f23) (cwX0_122 X.2.2.2.2.2.1 hE.1.1 rfl rfl (zroomO (Nat.le_of_ble_eq_true rfl) (Nat.le_of_ble_eq_true rfl))) rfl rfl (Nat.le_of_ble_eq_true rfl) hl.1 hcs dX0_wants_95 (fun H locs hw => ?_)
        exact z_ri X hw (zret h) dX0_wants_98
      replace h := zif_f c20 h
      by_cases c24 : x3 = (6 : Int32)
      · replace h := zif_t c24 h
        refine lv_tableIn (off := 75) (tgt := 99) hx hb dX0_wants_24 (by rw [c24]; decide) (by rw [c24]; decide) (by rw [c24]; rfl) (by decide) ?_
        refine lv_aload_n hx hb dX0_wants_99 rfl (lv_at hl 0 rfl) ?_
        refine lv_aload_n hx hb dX0_wants_100 rfl (lv_at hl 1 rfl) ?_
        refine lv_iload_n hx hb dX0_wants_101 rfl (lv_at hl 2 rfl) ?_
        obtain ⟨r25, M26, f27, h⟩ := zbi_e h
        refine z_qVi (As := [.ref (a q0), .int p1]) (rest := []) X hw (kX0_toldTakes l D cy a q hq q0 hq0 p1 M r25 M26 f27) (cwX0_126 X.2.2.2.2.2.1 rfl rfl (zroomO (Nat.le_of_ble_eq_true rfl) (Nat.le_of_ble_eq_true rfl))) (zX0_lt hq) (zS0 hq cy a (M q)) rfl rfl rfl (Nat.le_of_ble_eq_true rfl) hl.1 hcs dX0_wants_102 (fun H locs hw => ?_)
        refine lv_iconst (v := 0) hx hb dX0_wants_105 (by decide) ?_
        refine lv_iload_n hx hb dX0_wants_106 rfl (lv_at hl 2 rfl) ?_
        obtain ⟨r28, M29, f30, h⟩ := zbi_e h
        refine z_qSNi (As := [.int r25, .int (0 : Int32), .int p1]) (rest := []) X hw (kX7_held l D cy a r25 (0 : Int32) p1 M26 r28 M29 f30) (cwX0_122 X.2.2.2.2.2.1 hE.1.1 rfl rfl (zroomO (Nat.le_of_ble_eq_true rfl) (Nat.le_of_ble_eq_true rfl))) rfl rfl (Nat.le_of_ble_eq_true rfl) hl.1 hcs dX0_wants_107 (fun H locs hw => ?_)
        exact z_ri X hw (zret h) dX0_wants_110
      replace h := zif_f c24 h
      refine lv_tableOut (tgt := 111) hx hb dX0_wants_24 (by have tc4 := lv_neT c4 (a := 1) rfl; have tc8 := lv_neT c8 (a := 2) rfl; have tc12 := lv_neT c12 (a := 3) rfl; have tc16 := lv_neT c16 (a := 4) rfl; have tc20 := lv_neT c20 (a := 5) rfl; have tc24 := lv_neT c24 (a := 6) rfl; omega) (by decide) ?_
      refine lv_iload_n hx hb dX0_wants_111 rfl (lv_at hl 2 rfl) ?_
      refine lv_iconst (v := 3) hx hb dX0_wants_112 (by decide) ?_
      refine lv_idiv hx hb dX0_wants_113 (by decide) ?_
      refine lv_iconst (v := 0) hx hb dX0_wants_114 (by decide) ?_
      refine lv_iload_n hx hb dX0_wants_115 rfl (lv_at hl 2 rfl) ?_
      obtain ⟨r31, M32, f33, h⟩ := zbi_e h
      refine z_qSNi (As := [.int (p1 / (3 : Int32)), .int (0 : Int32), .int p1]) (rest := []) X hw (kX7_held l D cy a (p1 / (3 : Int32)) (0 : Int32) p1 M r31 M32 f33) (cwX0_122 X.2.2.2.2.2.1 hE.1.1 rfl rfl (zroomO (Nat.le_of_ble_eq_true rfl) (Nat.le_of_ble_eq_true rfl))) rfl rfl (Nat.le_of_ble_eq_true rfl) hl.1 hcs dX0_wants_116 (fun H locs hw => ?_)
      exact z_ri X hw (zret h) dX0_wants_119
    · replace h := zif_f c2 h
      refine lv_iconst (v := 0) hx hb dX0_wants_18 (by decide) ?_
      exact z_ri X hw (zret h) dX0_wants_19
def fX0_letFlow_53 (w0 : Nat) (y2 : Int32) (k : Int32 → zM → Option (zM)) : Nat → Int32 → Int32 → zM → Option (zM)
  | 0, _, _, _ => none
  | n + 1, v1, v4, M => if M w0 9 ≤ v4 then (k v1 M) else (zgd (v4 < 0 ∨ 8 ≤ v4.toNatClampNeg) (zlt ((w0 + 8) + v4.toNatClampNeg) (fun w14 => if M w14 2 = y2 then (zbi (fX0_wants w0 w14 v1 M) (fun r17 M18 => zlt (zst M18 w14 7 r17) (fun M20 => zlt (v1 - (M20 w14 7)) (fun x21 => zlt (v4 + (1 : Int32)) (fun x22 => fX0_letFlow_53 w0 y2 k n x21 x22 M20))))) else (zlt (v4 + (1 : Int32)) (fun x16 => fX0_letFlow_53 w0 y2 k n v1 x16 M)))))
set_option maxRecDepth 100000 in
set_option maxHeartbeats 4000000 in
theorem lX0_letFlow_53 {p : Program} {l : Launch} {e : Env} {s : State} {m : MethodId} {args : Array Value} {below : List Frame} {meth : Method} {c : Code} {D : va_G} {cy : Nat → ClassId} {a : Nat → Nat} {M0 : zM} (X : zCX p s m meth c args cX0_letFlow 6 none RX0) (w0 : Nat) (y2 : Int32) (hw0 : zX0 w0) (k : Int32 → zM → Option (zM)) : ∀ (n : Nat) (v1 : Int32) (v4 : Int32) (M : zM) (H : Heap) (locs : List Loc) (ls : Array Slot), zWD D cy a (zfr a s.heap.size) M H locs s → lv_has ls 6 [(0, .ref (a w0)), (1, .int v1), (2, .int y2), (4, .int v4)] → fX0_letFlow_53 w0 y2 k n v1 v4 M = some M0 →
    (∀ (u1 : Int32) (M' : zM) (H' : Heap) (locs' : List Loc) (ls' : Array Slot), zWD D cy a (zfr a s.heap.size) M' H' locs' s → lv_has ls' 6 [(0, .ref (a w0)), (1, .int u1), (2, .int y2)] → k u1 M' = some M0 → W p l e (zRm 4 90) s m args below meth c H' locs' 0 0 (zQv D cy a s args below M0) (F0 m 106 ls' [])) →
    W p l e (zRm 4 90) s m args below meth c H locs 0 0 (zQv D cy a s args below M0) (F0 m 53 ls []) := by
  obtain ⟨hx, hb, hr, hml, hown, hW, hlocks⟩ := id X
  have hcs : 0 ≤ ((zRm 4 90)).cells ∧ 0 ≤ ((zRm 4 90)).slots := ⟨Nat.zero_le _, Nat.zero_le _⟩
  intro n
  induction n with
  | zero =>
    intro v1 v4 M H locs ls hw hl h hk
    cases h
  | succ n ih =>
    intro v1 v4 M H locs ls hw hl h hk
    have hE := hw.2.2.2.2.1
    rw [fX0_letFlow_53] at h
    refine lv_iload hx hb dX0_letFlow_53 (lv_at hl 3 rfl) ?_
    refine lv_aload_n hx hb dX0_letFlow_55 rfl (lv_at hl 0 rfl) ?_
    refine gtX0_57 X hw hw0 dX0_letFlow_56 ?_
    refine lv_icmp_ge (tgt := 106) hx hb dX0_letFlow_59 (by decide) (fun c12 => ?_) (fun c12 => ?_)
    · replace h := zif_t c12 h
      exact hk v1 M H locs _ hw (lv_sub hl [0, 1, 2] rfl) h
    · replace h := zif_f c12 h
      refine lv_aload_n hx hb dX0_letFlow_62 rfl (lv_at hl 0 rfl) ?_
      refine gtX0_26 X hw hw0 dX0_letFlow_63 ?_
      refine lv_iload hx hb dX0_letFlow_66 (lv_at hl 3 rfl) ?_
      obtain ⟨g13, h⟩ := zgd_e h
      refine z_aldW X hw (zRW_0_5 hw0) g13 dX0_letFlow_68 (fun w14 ew14 hw14 => ?_)
      replace h := zlt_s ew14 h
      refine lv_astore (lv' := [(5, .ref (a w14)), (0, .ref (a w0)), (1, .int v1), (2, .int y2), (4, .int v4)]) hx hb dX0_letFlow_69 hl (by decide) rfl (fun ls hl => ?_)
      refine lv_aload hx hb dX0_letFlow_71 (lv_at hl 0 rfl) ?_
      refine gtX0_84 X hw hw14 dX0_letFlow_73 ?_
      refine lv_iload_n hx hb dX0_letFlow_76 rfl (lv_at hl 3 rfl) ?_
      refine lv_icmp_ne (tgt := 100) hx hb dX0_letFlow_77 (by decide) (fun c15 => ?_) (fun c15 => ?_)
      · replace h := zif_f c15 h
        obtain ⟨x16, ex16⟩ : ∃ y : Int32, y = v4 + (1 : Int32) := ⟨_, rfl⟩
        replace h := zlt_s ex16 h
        refine lv_iinc (v := x16) (lv' := [(4, .int x16), (5, .ref (a w14)), (0, .ref (a w0)), (1, .int v1), (2, .int y2)]) hx hb dX0_letFlow_100 hl (k := 4) rfl (by rw [ex16]; rfl) (by decide) rfl (fun ls hl => ?_)
        refine lv_goto (tgt := 53) hx hb dX0_letFlow_103 (by decide) ?_
        exact ih v1 x16 M H locs _ hw (lv_sub hl [2, 3, 4, 0] rfl) h hk
      · replace h := zif_t c15 h
        refine lv_aload hx hb dX0_letFlow_80 (lv_at hl 0 rfl) ?_
        refine lv_aload_n hx hb dX0_letFlow_82 rfl (lv_at hl 1 rfl) ?_
        refine lv_aload hx hb dX0_letFlow_83 (lv_at hl 0 rfl) ?_
        refine lv_iload_n hx hb dX0_letFlow_85 rfl (lv_at hl 2 rfl) ?_
        obtain ⟨r17, M18, f19, h⟩ := zbi_e h
        refine z_qVi (As := [.ref (a w14), .int v1]) (rest := [.ref (a w14)]) X hw (kX0_wants l D cy a w0 hw0 w14 hw14 v1 M r17 M18 f19) (cwX0_112 X.2.2.2.2.2.1 rfl rfl (zroomO (Nat.le_of_ble_eq_true rfl) (Nat.le_of_ble_eq_true rfl))) (zX0_lt hw0) (zS0 hw0 cy a (M w0)) rfl rfl rfl (Nat.le_of_ble_eq_true rfl) hl.1 hcs dX0_letFlow_86 (fun H locs hw => ?_)
        refine ptX0_116 X hw hw14 dX0_letFlow_89 (fun M20 H locs eM20 hw => ?_)
        replace h := zlt_s eM20 h
        refine lv_iload_n hx hb dX0_letFlow_92 rfl (lv_at hl 2 rfl) ?_
        refine lv_aload hx hb dX0_letFlow_93 (lv_at hl 0 rfl) ?_
        refine gtX0_116 X hw hw14 dX0_letFlow_95 ?_
        refine lv_isub hx hb dX0_letFlow_98 ?_
        refine lv_topi (fun x21 ex21 => ?_)
        replace h := zlt_s ex21 h
        refine lv_istore_n (lv' := [(1, .int x21), (5, .ref (a w14)), (0, .ref (a w0)), (2, .int y2), (4, .int v4)]) hx hb dX0_letFlow_99 rfl hl (by decide) rfl (fun ls hl => ?_)
        obtain ⟨x22, ex22⟩ : ∃ y : Int32, y = v4 + (1 : Int32) := ⟨_, rfl⟩
        replace h := zlt_s ex22 h
        refine lv_iinc (v := x22) (lv' := [(4, .int x22), (1, .int x21), (5, .ref (a w14)), (0, .ref (a w0)), (2, .int y2)]) hx hb dX0_letFlow_100 hl (k := 4) rfl (by rw [ex22]; rfl) (by decide) rfl (fun ls hl => ?_)
        refine lv_goto (tgt := 53) hx hb dX0_letFlow_103 (by decide) ?_
        exact ih x21 x22 M20 H locs _ hw (lv_sub hl [3, 1, 4, 0] rfl) h hk
def fX0_letFlow_12 (w0 : Nat) (k : Int32 → zM → Option (zM)) : Nat → Int32 → Int32 → zM → Option (zM)
  | 0, _, _, _ => none
  | n + 1, v1, v2, M => if (12 : Int32) ≤ v2 then (k v1 M) else (zgd (v2 < 0 ∨ 12 ≤ v2.toNatClampNeg) (zlt (zst M (w0 + 7) (v2.toNatClampNeg) v1) (fun M6 => zgd (v2 < 0 ∨ 12 ≤ v2.toNatClampNeg) (zlt (zmin v1 (M6 (w0 + 2) (v2.toNatClampNeg))) (fun x9 => zlt (zst M6 w0 14 ((M6 w0 14) + x9)) (fun M10 => zlt (v1 - x9) (fun x11 => fX0_letFlow_53 w0 v2 (fun x23 M24 => zlt (v2 + (1 : Int32)) (fun x25 => fX0_letFlow_12 w0 k n x23 x25 M24)) zF x11 (0 : Int32) M10)))))))
set_option maxRecDepth 100000 in
set_option maxHeartbeats 4000000 in
theorem lX0_letFlow_12 {p : Program} {l : Launch} {e : Env} {s : State} {m : MethodId} {args : Array Value} {below : List Frame} {meth : Method} {c : Code} {D : va_G} {cy : Nat → ClassId} {a : Nat → Nat} {M0 : zM} (X : zCX p s m meth c args cX0_letFlow 6 none RX0) (w0 : Nat) (hw0 : zX0 w0) (k : Int32 → zM → Option (zM)) : ∀ (n : Nat) (v1 : Int32) (v2 : Int32) (M : zM) (H : Heap) (locs : List Loc) (ls : Array Slot), zWD D cy a (zfr a s.heap.size) M H locs s → lv_has ls 6 [(0, .ref (a w0)), (1, .int v1), (2, .int v2)] → fX0_letFlow_12 w0 k n v1 v2 M = some M0 →
    (∀ (u1 : Int32) (M' : zM) (H' : Heap) (locs' : List Loc) (ls' : Array Slot), zWD D cy a (zfr a s.heap.size) M' H' locs' s → lv_has ls' 6 [(0, .ref (a w0)), (1, .int u1)] → k u1 M' = some M0 → W p l e (zRm 4 90) s m args below meth c H' locs' 0 0 (zQv D cy a s args below M0) (F0 m 112 ls' [])) →
    W p l e (zRm 4 90) s m args below meth c H locs 0 0 (zQv D cy a s args below M0) (F0 m 12 ls []) := by
  obtain ⟨hx, hb, hr, hml, hown, hW, hlocks⟩ := id X
  have hcs : 0 ≤ ((zRm 4 90)).cells ∧ 0 ≤ ((zRm 4 90)).slots := ⟨Nat.zero_le _, Nat.zero_le _⟩
  intro n
  induction n with
  | zero =>
    intro v1 v2 M H locs ls hw hl h hk
    cases h
  | succ n ih =>
    intro v1 v2 M H locs ls hw hl h hk
    have hE := hw.2.2.2.2.1
    rw [fX0_letFlow_12] at h
    refine lv_iload_n hx hb dX0_letFlow_12 rfl (lv_at hl 2 rfl) ?_
    refine lv_bipush (v := 12) hx hb dX0_letFlow_13 (by decide) ?_
    refine lv_icmp_ge (tgt := 112) hx hb dX0_letFlow_15 (by decide) (fun c5 => ?_) (fun c5 => ?_)
    · replace h := zif_t c5 h
      exact hk v1 M H locs _ hw (lv_sub hl [0, 1] rfl) h
    · replace h := zif_f c5 h
      refine lv_aload_n hx hb dX0_letFlow_18 rfl (lv_at hl 0 rfl) ?_
      refine gtX0_43 X hw hw0 dX0_letFlow_19 ?_
      refine lv_iload_n hx hb dX0_letFlow_22 rfl (lv_at hl 2 rfl) ?_
      refine lv_iload_n hx hb dX0_letFlow_23 rfl (lv_at hl 1 rfl) ?_
      obtain ⟨g7, h⟩ := zgd_e h
      refine z_ast X hw (zI_0_7 hw0) g7 dX0_letFlow_24 (fun M6 H locs eM6 hw => ?_)
      replace h := zlt_s eM6 h
      refine lv_iload_n hx hb dX0_letFlow_25 rfl (lv_at hl 1 rfl) ?_
      refine lv_aload_n hx hb dX0_letFlow_26 rfl (lv_at hl 0 rfl) ?_
      refine gtX0_15 X hw hw0 dX0_letFlow_27 ?_
      refine lv_iload_n hx hb dX0_letFlow_30 rfl (lv_at hl 2 rfl) ?_
      obtain ⟨g8, h⟩ := zgd_e h
      refine z_ald X hw (zI_0_2 hw0) g8 dX0_letFlow_31 ?_
      refine z_min (rest := []) X zm_12_5 zm_12_6 zm_12_7 zm_12_8 hl.1 (Nat.le_of_ble_eq_true rfl) (Nat.le_of_ble_eq_true rfl) hcs dX0_letFlow_32 ?_
      refine lv_topi (fun x9 ex9 => ?_)
      replace h := zlt_s ex9 h
      refine lv_istore_n (lv' := [(3, .int x9), (0, .ref (a w0)), (1, .int v1), (2, .int v2)]) hx hb dX0_letFlow_35 rfl hl (by decide) rfl (fun ls hl => ?_)
      refine lv_aload_n hx hb dX0_letFlow_36 rfl (lv_at hl 1 rfl) ?_
      refine lv_dup hx hb dX0_letFlow_37 rfl ?_
      refine gtX0_103 X hw hw0 dX0_letFlow_38 ?_
      refine lv_iload_n hx hb dX0_letFlow_41 rfl (lv_at hl 0 rfl) ?_
      refine lv_iadd hx hb dX0_letFlow_42 ?_
      refine ptX0_103 X hw hw0 dX0_letFlow_43 (fun M10 H locs eM10 hw => ?_)
      replace h := zlt_s eM10 h
      refine lv_iload_n hx hb dX0_letFlow_46 rfl (lv_at hl 2 rfl) ?_
      refine lv_iload_n hx hb dX0_letFlow_47 rfl (lv_at hl 0 rfl) ?_
      refine lv_isub hx hb dX0_letFlow_48 ?_
      refine lv_topi (fun x11 ex11 => ?_)
      replace h := zlt_s ex11 h
      refine lv_istore_n (lv' := [(1, .int x11), (3, .int x9), (0, .ref (a w0)), (2, .int v2)]) hx hb dX0_letFlow_49 rfl hl (by decide) rfl (fun ls hl => ?_)
      refine lv_iconst (v := 0) hx hb dX0_letFlow_50 (by decide) ?_
      refine lv_istore (lv' := [(4, .int (0 : Int32)), (1, .int x11), (3, .int x9), (0, .ref (a w0)), (2, .int v2)]) hx hb dX0_letFlow_51 hl (by decide) rfl (fun ls hl => ?_)
      refine lX0_letFlow_53 X w0 v2 hw0 _ zF x11 (0 : Int32) M10 H locs _ hw (lv_sub hl [3, 1, 4, 0] rfl) h (fun x23 M24 H locs ls hw hl h => ?_)
      obtain ⟨x25, ex25⟩ : ∃ y : Int32, y = v2 + (1 : Int32) := ⟨_, rfl⟩
      replace h := zlt_s ex25 h
      refine lv_iinc (v := x25) (lv' := [(2, .int x25), (0, .ref (a w0)), (1, .int x23)]) hx hb dX0_letFlow_106 hl (k := 2) rfl (by rw [ex25]; rfl) (by decide) rfl (fun ls hl => ?_)
      refine lv_goto (tgt := 12) hx hb dX0_letFlow_109 (by decide) ?_
      exact ih x23 x25 M24 H locs _ hw (lv_sub hl [1, 2, 0] rfl) h hk
def fX0_letFlow (q : Nat) (M : zM) : Option (zM) := zbi (fX0_forceNow q M) (fun r1 M2 => zlt (zst M2 q 14 (0 : Int32)) (fun M4 => fX0_letFlow_12 q (fun x26 M27 => zlt (zst M27 q 13 x26) (fun M28 => some M28)) zF r1 (0 : Int32) M4))
set_option maxRecDepth 100000 in
set_option maxHeartbeats 4000000 in
theorem kX0_letFlow (l : Launch) (D : va_G) (cy : Nat → ClassId) (a : Nat → Nat) (q : Nat) (hq : zX0 q) (M : zM) (M0 : zM) (h : fX0_letFlow q M = some M0) : zCv l D cy a yX0_letFlow cX0_letFlow 6 (zRm 4 90) [.ref (a q)] M (fun u => u = M0) := by
  intro sz
  refine zent_v sz (by decide) (Nat.le_of_ble_eq_true rfl) rfl (fun p e s m args below meth c ls H locs X hw hl => ?_)
  obtain ⟨hx, hb, hr, hml, hown, hW, hlocks⟩ := id X
  have hE := hw.2.2.2.2.1
  have hcs : 0 ≤ ((zRm 4 90)).cells ∧ 0 ≤ ((zRm 4 90)).slots := ⟨Nat.zero_le _, Nat.zero_le _⟩
  rw [fX0_letFlow] at h
  refine lv_aload_n hx hb dX0_letFlow_0 rfl (lv_at hl 0 rfl) ?_
  obtain ⟨r1, M2, f3, h⟩ := zbi_e h
  refine z_qVi (As := []) (rest := []) X hw (kX0_forceNow l D cy a q hq M r1 M2 f3) (cwX0_99 X.2.2.2.2.2.1 rfl rfl (zroomO (Nat.le_of_ble_eq_true rfl) (Nat.le_of_ble_eq_true rfl))) (zX0_lt hq) (zS0 hq cy a (M q)) rfl rfl rfl (Nat.le_of_ble_eq_true rfl) hl.1 hcs dX0_letFlow_1 (fun H locs hw => ?_)
  refine lv_istore_n (lv' := [(1, .int r1), (0, .ref (a q))]) hx hb dX0_letFlow_4 rfl hl (by decide) rfl (fun ls hl => ?_)
  refine lv_aload_n hx hb dX0_letFlow_5 rfl (lv_at hl 1 rfl) ?_
  refine lv_iconst (v := 0) hx hb dX0_letFlow_6 (by decide) ?_
  refine ptX0_103 X hw hq dX0_letFlow_7 (fun M4 H locs eM4 hw => ?_)
  replace h := zlt_s eM4 h
  refine lv_iconst (v := 0) hx hb dX0_letFlow_10 (by decide) ?_
  refine lv_istore_n (lv' := [(2, .int (0 : Int32)), (1, .int r1), (0, .ref (a q))]) hx hb dX0_letFlow_11 rfl hl (by decide) rfl (fun ls hl => ?_)
  refine lX0_letFlow_12 X q hq _ zF r1 (0 : Int32) M4 H locs _ hw (lv_sub hl [2, 1, 0] rfl) h (fun x26 M27 H locs ls hw hl h => ?_)
  refine lv_aload_n hx hb dX0_letFlow_112 rfl (lv_at hl 0 rfl) ?_
  refine lv_iload_n hx hb dX0_letFlow_113 rfl (lv_at hl 1 rfl) ?_
  refine ptX0_119 X hw hq dX0_letFlow_114 (fun M28 H locs eM28 hw => ?_)
  replace h := zlt_s eM28 h
  exact z_rv X hw (zretv h) dX0_letFlow_117
def fX0_toldTurns (q : Nat) (q0 : Nat) (p1 : Int32) (M : zM) : Option (Int32 × zM) := if M (q + 19) 2 = 0 then (some (p1, M)) else (zlt (zst M (q + 6) (0) p1) (fun M2 => zlt (zst M2 (q + 6) (1) (M2 q0 5)) (fun M3 => zlt (zst M3 (q + 6) (2) (M3 q0 1)) (fun M4 => zlt (zst M4 (q + 6) (3) (0 : Int32)) (fun M5 => zbi (fX2_value (q + 19) (q + 6) M5) (fun r6 M7 => some (r6, M7)))))))
set_option maxRecDepth 100000 in
set_option maxHeartbeats 4000000 in
theorem kX0_toldTurns (l : Launch) (D : va_G) (cy : Nat → ClassId) (a : Nat → Nat) (q : Nat) (hq : zX0 q) (q0 : Nat) (hq0 : zX6 q0) (p1 : Int32) (M : zM) (r0 : Int32) (M0 : zM) (h : fX0_toldTurns q q0 p1 M = some (r0, M0)) : zCi l D cy a yX0_toldTurns cX0_toldTurns 3 (some .int) (zRm 2 46) [.ref (a q), .ref (a q0), .int p1] M (fun r u => r = r0 ∧ u = M0) := by
  intro sz
  refine zent_i sz (by decide) (Nat.le_of_ble_eq_true rfl) rfl (fun p e s m args below meth c ls H locs X hw hl => ?_)
  obtain ⟨hx, hb, hr, hml, hown, hW, hlocks⟩ := id X
  have hE := hw.2.2.2.2.1
  have hcs : 0 ≤ ((zRm 2 46)).cells ∧ 0 ≤ ((zRm 2 46)).slots := ⟨Nat.zero_le _, Nat.zero_le _⟩
  rw [fX0_toldTurns] at h
  refine lv_aload_n hx hb dX0_toldTurns_0 rfl (lv_at hl 0 rfl) ?_
  refine gtX0_37 X hw hq dX0_toldTurns_1 ?_
  refine gtX0_67 X hw (zX2_0_19 hq) dX0_toldTurns_4 ?_
  refine lv_if_ne (tgt := 12) hx hb dX0_toldTurns_7 (by decide) (fun c1 => ?_) (fun c1 => ?_)
  · replace h := zif_f c1 h
    refine lv_aload_n hx hb dX0_toldTurns_12 rfl (lv_at hl 0 rfl) ?_
    refine gtX0_40 X hw hq dX0_toldTurns_13 ?_
    refine lv_iconst (v := 0) hx hb dX0_toldTurns_16 (by decide) ?_
    refine lv_iload_n hx hb dX0_toldTurns_17 rfl (lv_at hl 2 rfl) ?_
    refine z_astK (k := 0) X hw (zI_0_6 hq) (by decide) (by decide) (by decide) dX0_toldTurns_18 (fun M2 H locs eM2 hw => ?_)
    replace h := zlt_s eM2 h
    refine lv_aload_n hx hb dX0_toldTurns_19 rfl (lv_at hl 0 rfl) ?_
    refine gtX0_40 X hw hq dX0_toldTurns_20 ?_
    refine lv_iconst (v := 1) hx hb dX0_toldTurns_23 (by decide) ?_
    refine lv_aload_n hx hb dX0_toldTurns_24 rfl (lv_at hl 1 rfl) ?_
    refine gtX0_93 X hw hq0 dX0_toldTurns_25 ?_
    refine z_astK (k := 1) X hw (zI_0_6 hq) (by decide) (by decide) (by decide) dX0_toldTurns_28 (fun M3 H locs eM3 hw => ?_)
    replace h := zlt_s eM3 h
    refine lv_aload_n hx hb dX0_toldTurns_29 rfl (lv_at hl 0 rfl) ?_
    refine gtX0_40 X hw hq dX0_toldTurns_30 ?_
    refine lv_iconst (v := 2) hx hb dX0_toldTurns_33 (by decide) ?_
    refine lv_aload_n hx hb dX0_toldTurns_34 rfl (lv_at hl 1 rfl) ?_
    refine gtX0_81 X hw hq0 dX0_toldTurns_35 ?_
    refine z_astK (k := 2) X hw (zI_0_6 hq) (by decide) (by decide) (by decide) dX0_toldTurns_38 (fun M4 H locs eM4 hw => ?_)
    replace h := zlt_s eM4 h
    refine lv_aload_n hx hb dX0_toldTurns_39 rfl (lv_at hl 0 rfl) ?_
    refine gtX0_40 X hw hq dX0_toldTurns_40 ?_
    refine lv_iconst (v := 3) hx hb dX0_toldTurns_43 (by decide) ?_
    refine lv_iconst (v := 0) hx hb dX0_toldTurns_44 (by decide) ?_
    refine z_astK (k := 3) X hw (zI_0_6 hq) (by decide) (by decide) (by decide) dX0_toldTurns_45 (fun M5 H locs eM5 hw => ?_)
    replace h := zlt_s eM5 h
    refine lv_aload_n hx hb dX0_toldTurns_46 rfl (lv_at hl 0 rfl) ?_
    refine gtX0_37 X hw hq dX0_toldTurns_47 ?_
    refine lv_aload_n hx hb dX0_toldTurns_50 rfl (lv_at hl 0 rfl) ?_
    refine gtX0_40 X hw hq dX0_toldTurns_51 ?_
    obtain ⟨r6, M7, f8, h⟩ := zbi_e h
    refine z_qVi (As := [.ref (a (q + 6))]) (rest := []) X hw (kX2_value l D cy a (q + 19) (zX2_0_19 hq) (q + 6) (zI_0_6 hq) M5 r6 M7 f8) (cwX0_129 X.2.2.2.2.2.1 rfl rfl (zroomO (Nat.le_of_ble_eq_true rfl) (Nat.le_of_ble_eq_true rfl))) (zX2_lt (zX2_0_19 hq)) (zS2 (zX2_0_19 hq) cy a (M5 (q + 19))) rfl rfl rfl (Nat.le_of_ble_eq_true rfl) hl.1 hcs dX0_toldTurns_54 (fun H locs hw => ?_)
    exact z_ri X hw (zret h) dX0_toldTurns_57
  · replace h := zif_t c1 h
    refine lv_iload_n hx hb dX0_toldTurns_10 rfl (lv_at hl 2 rfl) ?_
    exact z_ri X hw (zret h) dX0_toldTurns_11
def fX0_turnsBy (q : Nat) (q0 : Nat) (p1 : Int32) (M : zM) : Option (Int32 × zM) := zlt (M q0 0) (fun x1 => if x1 = (1 : Int32) then (zbi (fX7_held (p1 / (2 : Int32)) (0 : Int32) (9999 : Int32) M) (fun r3 M4 => some (r3, M4))) else (if x1 = (3 : Int32) then (zbi (fX7_held ((2 : Int32) * p1) (0 : Int32) (9999 : Int32) M) (fun r7 M8 => some (r7, M8))) else (if x1 = (4 : Int32) then (if p1 / (2 : Int32) ≤ 0 then (zbi (fX7_held (0 : Int32) (0 : Int32) (9999 : Int32) M) (fun r12 M13 => some (r12, M13))) else (zbi (fX7_held ((p1 / (2 : Int32)) + (1 : Int32)) (0 : Int32) (9999 : Int32) M) (fun r15 M16 => some (r15, M16)))) else (if x1 = (5 : Int32) then (some ((0 : Int32), M)) else (if x1 = (6 : Int32) then (zbi (fX0_toldTurns q q0 p1 M) (fun r20 M21 => zbi (fX7_held r20 (0 : Int32) (9999 : Int32) M21) (fun r23 M24 => some (r23, M24)))) else (zbi (fX7_held p1 (0 : Int32) (9999 : Int32) M) (fun r26 M27 => some (r26, M27))))))))
set_option maxRecDepth 100000 in
set_option maxHeartbeats 4000000 in
theorem kX0_turnsBy (l : Launch) (D : va_G) (cy : Nat → ClassId) (a : Nat → Nat) (q : Nat) (hq : zX0 q) (q0 : Nat) (hq0 : zX6 q0) (p1 : Int32) (M : zM) (r0 : Int32) (M0 : zM) (h : fX0_turnsBy q q0 p1 M = some (r0, M0)) : zCi l D cy a yX0_turnsBy cX0_turnsBy 3 (some .int) (zRm 3 68) [.ref (a q), .ref (a q0), .int p1] M (fun r u => r = r0 ∧ u = M0) := by
  intro sz
  refine zent_i sz (by decide) (Nat.le_of_ble_eq_true rfl) rfl (fun p e s m args below meth c ls H locs X hw hl => ?_)
  obtain ⟨hx, hb, hr, hml, hown, hW, hlocks⟩ := id X
  have hE := hw.2.2.2.2.1
  have hcs : 0 ≤ ((zRm 3 68)).cells ∧ 0 ≤ ((zRm 3 68)).slots := ⟨Nat.zero_le _, Nat.zero_le _⟩
  rw [fX0_turnsBy] at h
  refine lv_aload_n hx hb dX0_turnsBy_0 rfl (lv_at hl 1 rfl) ?_
  refine gtX0_78 X hw hq0 dX0_turnsBy_1 ?_
  refine lv_topi (fun x1 ex1 => ?_)
  replace h := zlt_s ex1 h
  by_cases c2 : x1 = (1 : Int32)
  · replace h := zif_t c2 h
    refine lv_tableIn (off := 40) (tgt := 44) hx hb dX0_turnsBy_4 (by rw [c2]; decide) (by rw [c2]; decide) (by rw [c2]; rfl) (by decide) ?_
    refine lv_iload_n hx hb dX0_turnsBy_44 rfl (lv_at hl 2 rfl) ?_
    refine lv_iconst (v := 2) hx hb dX0_turnsBy_45 (by decide) ?_
    refine lv_idiv hx hb dX0_turnsBy_46 (by decide) ?_
    refine lv_iconst (v := 0) hx hb dX0_turnsBy_47 (by decide) ?_
    refine lv_sipush (v := 9999) hx hb dX0_turnsBy_48 (by decide) ?_
    obtain ⟨r3, M4, f5, h⟩ := zbi_e h
    refine z_qSNi (As := [.int (p1 / (2 : Int32)), .int (0 : Int32), .int (9999 : Int32)]) (rest := []) X hw (kX7_held l D cy a (p1 / (2 : Int32)) (0 : Int32) (9999 : Int32) M r3 M4 f5) (cwX0_122 X.2.2.2.2.2.1 hE.1.1 rfl rfl (zroomO (Nat.le_of_ble_eq_true rfl) (Nat.le_of_ble_eq_true rfl))) rfl rfl (Nat.le_of_ble_eq_true rfl) hl.1 hcs dX0_turnsBy_51 (fun H locs hw => ?_)
    exact z_ri X hw (zret h) dX0_turnsBy_54
  replace h := zif_f c2 h
  by_cases c6 : x1 = (3 : Int32)
  · replace h := zif_t c6 h
    refine lv_tableIn (off := 74) (tgt := 78) hx hb dX0_turnsBy_4 (by rw [c6]; decide) (by rw [c6]; decide) (by rw [c6]; rfl) (by decide) ?_
    refine lv_iconst (v := 2) hx hb dX0_turnsBy_78 (by decide) ?_
    refine lv_iload_n hx hb dX0_turnsBy_79 rfl (lv_at hl 2 rfl) ?_
    refine lv_imul hx hb dX0_turnsBy_80 ?_
    refine lv_iconst (v := 0) hx hb dX0_turnsBy_81 (by decide) ?_
    refine lv_sipush (v := 9999) hx hb dX0_turnsBy_82 (by decide) ?_
    obtain ⟨r7, M8, f9, h⟩ := zbi_e h
    refine z_qSNi (As := [.int ((2 : Int32) * p1), .int (0 : Int32), .int (9999 : Int32)]) (rest := []) X hw (kX7_held l D cy a ((2 : Int32) * p1) (0 : Int32) (9999 : Int32) M r7 M8 f9) (cwX0_122 X.2.2.2.2.2.1 hE.1.1 rfl rfl (zroomO (Nat.le_of_ble_eq_true rfl) (Nat.le_of_ble_eq_true rfl))) rfl rfl (Nat.le_of_ble_eq_true rfl) hl.1 hcs dX0_turnsBy_85 (fun H locs hw => ?_)
    exact z_ri X hw (zret h) dX0_turnsBy_88
  replace h := zif_f c6 h
  by_cases c10 : x1 = (4 : Int32)
  · replace h := zif_t c10 h
    refine lv_tableIn (off := 51) (tgt := 55) hx hb dX0_turnsBy_4 (by rw [c10]; decide) (by rw [c10]; decide) (by rw [c10]; rfl) (by decide) ?_
    refine lv_iload_n hx hb dX0_turnsBy_55 rfl (lv_at hl 2 rfl) ?_
    refine lv_iconst (v := 2) hx hb dX0_turnsBy_56 (by decide) ?_
    refine lv_idiv hx hb dX0_turnsBy_57 (by decide) ?_
    refine lv_if_le (tgt := 69) hx hb dX0_turnsBy_58 (by decide) (fun c11 => ?_) (fun c11 => ?_)
    · replace h := zif_t c11 h
      refine lv_iconst (v := 0) hx hb dX0_turnsBy_69 (by decide) ?_
      refine lv_iconst (v := 0) hx hb dX0_turnsBy_70 (by decide) ?_
      refine lv_sipush (v := 9999) hx hb dX0_turnsBy_71 (by decide) ?_
      obtain ⟨r12, M13, f14, h⟩ := zbi_e h
      refine z_qSNi (As := [.int (0 : Int32), .int (0 : Int32), .int (9999 : Int32)]) (rest := []) X hw (kX7_held l D cy a (0 : Int32) (0 : Int32) (9999 : Int32) M r12 M13 f14) (cwX0_122 X.2.2.2.2.2.1 hE.1.1 rfl rfl (zroomO (Nat.le_of_ble_eq_true rfl) (Nat.le_of_ble_eq_true rfl))) rfl rfl (Nat.le_of_ble_eq_true rfl) hl.1 hcs dX0_turnsBy_74 (fun H locs hw => ?_)
      exact z_ri X hw (zret h) dX0_turnsBy_77
    · replace h := zif_f c11 h
      refine lv_iload_n hx hb dX0_turnsBy_61 rfl (lv_at hl 2 rfl) ?_
      refine lv_iconst (v := 2) hx hb dX0_turnsBy_62 (by decide) ?_
      refine lv_idiv hx hb dX0_turnsBy_63 (by decide) ?_
      refine lv_iconst (v := 1) hx hb dX0_turnsBy_64 (by decide) ?_
      refine lv_iadd hx hb dX0_turnsBy_65 ?_
      refine lv_goto (tgt := 70) hx hb dX0_turnsBy_66 (by decide) ?_
      refine lv_iconst (v := 0) hx hb dX0_turnsBy_70 (by decide) ?_
      refine lv_sipush (v := 9999) hx hb dX0_turnsBy_71 (by decide) ?_
      obtain ⟨r15, M16, f17, h⟩ := zbi_e h
      refine z_qSNi (As := [.int ((p1 / (2 : Int32)) + (1 : Int32)), .int (0 : Int32), .int (9999 : Int32)]) (rest := []) X hw (kX7_held l D cy a ((p1 / (2 : Int32)) + (1 : Int32)) (0 : Int32) (9999 : Int32) M r15 M16 f17) (cwX0_122 X.2.2.2.2.2.1 hE.1.1 rfl rfl (zroomO (Nat.le_of_ble_eq_true rfl) (Nat.le_of_ble_eq_true rfl))) rfl rfl (Nat.le_of_ble_eq_true rfl) hl.1 hcs dX0_turnsBy_74 (fun H locs hw => ?_)
      exact z_ri X hw (zret h) dX0_turnsBy_77
  replace h := zif_f c10 h
  by_cases c18 : x1 = (5 : Int32)
  · replace h := zif_t c18 h
    refine lv_tableIn (off := 85) (tgt := 89) hx hb dX0_turnsBy_4 (by rw [c18]; decide) (by rw [c18]; decide) (by rw [c18]; rfl) (by decide) ?_
    refine lv_iconst (v := 0) hx hb dX0_turnsBy_89 (by decide) ?_
    exact z_ri X hw (zret h) dX0_turnsBy_90
  replace h := zif_f c18 h
  by_cases c19 : x1 = (6 : Int32)
  · replace h := zif_t c19 h
    refine lv_tableIn (off := 87) (tgt := 91) hx hb dX0_turnsBy_4 (by rw [c19]; decide) (by rw [c19]; decide) (by rw [c19]; rfl) (by decide) ?_
    refine lv_aload_n hx hb dX0_turnsBy_91 rfl (lv_at hl 0 rfl) ?_
    refine lv_aload_n hx hb dX0_turnsBy_92 rfl (lv_at hl 1 rfl) ?_
    refine lv_iload_n hx hb dX0_turnsBy_93 rfl (lv_at hl 2 rfl) ?_
    obtain ⟨r20, M21, f22, h⟩ := zbi_e h
    refine z_qVi (As := [.ref (a q0), .int p1]) (rest := []) X hw (kX0_toldTurns l D cy a q hq q0 hq0 p1 M r20 M21 f22) (cwX0_133 X.2.2.2.2.2.1 rfl rfl (zroomO (Nat.le_of_ble_eq_true rfl) (Nat.le_of_ble_eq_true rfl))) (zX0_lt hq) (zS0 hq cy a (M q)) rfl rfl rfl (Nat.le_of_ble_eq_true rfl) hl.1 hcs dX0_turnsBy_94 (fun H locs hw => ?_)
    refine lv_iconst (v := 0) hx hb dX0_turnsBy_97 (by decide) ?_
    refine lv_sipush (v := 9999) hx hb dX0_turnsBy_98 (by decide) ?_
    obtain ⟨r23, M24, f25, h⟩ := zbi_e h
    refine z_qSNi (As := [.int r20, .int (0 : Int32), .int (9999 : Int32)]) (rest := []) X hw (kX7_held l D cy a r20 (0 : Int32) (9999 : Int32) M21 r23 M24 f25) (cwX0_122 X.2.2.2.2.2.1 hE.1.1 rfl rfl (zroomO (Nat.le_of_ble_eq_true rfl) (Nat.le_of_ble_eq_true rfl))) rfl rfl (Nat.le_of_ble_eq_true rfl) hl.1 hcs dX0_turnsBy_101 (fun H locs hw => ?_)
    exact z_ri X hw (zret h) dX0_turnsBy_104
  replace h := zif_f c19 h
  have K : W p l e (zRm 3 68) s m args below meth c H locs 0 0 (zQi D cy a s args below r0 M0) (F0 m 105 ls []) := by
    refine lv_iload_n hx hb dX0_turnsBy_105 rfl (lv_at hl 2 rfl) ?_
    refine lv_iconst (v := 0) hx hb dX0_turnsBy_106 (by decide) ?_
    refine lv_sipush (v := 9999) hx hb dX0_turnsBy_107 (by decide) ?_
    obtain ⟨r26, M27, f28, h⟩ := zbi_e h
    refine z_qSNi (As := [.int p1, .int (0 : Int32), .int (9999 : Int32)]) (rest := []) X hw (kX7_held l D cy a p1 (0 : Int32) (9999 : Int32) M r26 M27 f28) (cwX0_122 X.2.2.2.2.2.1 hE.1.1 rfl rfl (zroomO (Nat.le_of_ble_eq_true rfl) (Nat.le_of_ble_eq_true rfl))) rfl rfl (Nat.le_of_ble_eq_true rfl) hl.1 hcs dX0_turnsBy_110 (fun H locs hw => ?_)
    exact z_ri X hw (zret h) dX0_turnsBy_113
  have tc2 := lv_neT c2 (a := 1) rfl
  have tc6 := lv_neT c6 (a := 3) rfl
  have tc10 := lv_neT c10 (a := 4) rfl
  have tc18 := lv_neT c18 (a := 5) rfl
  have tc19 := lv_neT c19 (a := 6) rfl
  by_cases tz : x1.toInt < 1 ∨ 6 < x1.toInt
  · exact lv_tableOut (tgt := 105) hx hb dX0_turnsBy_4 tz (by decide) K
  have tw : x1.toInt = 2 := by omega
  exact lv_tableIn (off := 101) (tgt := 105) hx hb dX0_turnsBy_4 (by omega) (by omega) (by rw [tw]; rfl) (by decide) K
def fX0_showsBy (q0 : Nat) (p1 : Int32) (p2 : Int32) (M : zM) : Option (Int32 × zM) := zlt (M q0 0) (fun x1 => if x1 = (2 : Int32) then (some (p2 / (2 : Int32), M)) else (if x1 = (4 : Int32) then (some ((0 : Int32), M)) else (if x1 = (5 : Int32) then (zbi (fX7_held ((2 : Int32) * p1) (0 : Int32) (9999 : Int32) M) (fun r5 M6 => some (r5, M6))) else (some (p2, M)))))
set_option maxRecDepth 100000 in
set_option maxHeartbeats 4000000 in
theorem kX0_showsBy (l : Launch) (D : va_G) (cy : Nat → ClassId) (a : Nat → Nat) (q0 : Nat) (hq0 : zX6 q0) (p1 : Int32) (p2 : Int32) (M : zM) (r0 : Int32) (M0 : zM) (h : fX0_showsBy q0 p1 p2 M = some (r0, M0)) : zCi l D cy a yX0_showsBy cX0_showsBy 3 (some .int) (zRm 2 43) [.ref (a q0), .int p1, .int p2] M (fun r u => r = r0 ∧ u = M0) := by
  intro sz
  refine zent_i sz (by decide) (Nat.le_of_ble_eq_true rfl) rfl (fun p e s m args below meth c ls H locs X hw hl => ?_)
  obtain ⟨hx, hb, hr, hml, hown, hW, hlocks⟩ := id X
  have hE := hw.2.2.2.2.1
  have hcs : 0 ≤ ((zRm 2 43)).cells ∧ 0 ≤ ((zRm 2 43)).slots := ⟨Nat.zero_le _, Nat.zero_le _⟩
  rw [fX0_showsBy] at h
  refine lv_aload_n hx hb dX0_showsBy_0 rfl (lv_at hl 0 rfl) ?_
  refine gtX0_78 X hw hq0 dX0_showsBy_1 ?_
  refine lv_topi (fun x1 ex1 => ?_)
  replace h := zlt_s ex1 h
  by_cases c2 : x1 = (2 : Int32)
  · replace h := zif_t c2 h
    refine lv_tableIn (off := 45) (tgt := 49) hx hb dX0_showsBy_4 (by rw [c2]; decide) (by rw [c2]; decide) (by rw [c2]; rfl) (by decide) ?_
    refine lv_iload_n hx hb dX0_showsBy_49 rfl (lv_at hl 2 rfl) ?_
    refine lv_iconst (v := 2) hx hb dX0_showsBy_50 (by decide) ?_
    refine lv_idiv hx hb dX0_showsBy_51 (by decide) ?_
    exact z_ri X hw (zret h) dX0_showsBy_52
  replace h := zif_f c2 h
  by_cases c3 : x1 = (4 : Int32)
  · replace h := zif_t c3 h
    refine lv_tableIn (off := 32) (tgt := 36) hx hb dX0_showsBy_4 (by rw [c3]; decide) (by rw [c3]; decide) (by rw [c3]; rfl) (by decide) ?_
    refine lv_iconst (v := 0) hx hb dX0_showsBy_36 (by decide) ?_
    exact z_ri X hw (zret h) dX0_showsBy_37
  replace h := zif_f c3 h
  by_cases c4 : x1 = (5 : Int32)
  · replace h := zif_t c4 h
    refine lv_tableIn (off := 34) (tgt := 38) hx hb dX0_showsBy_4 (by rw [c4]; decide) (by rw [c4]; decide) (by rw [c4]; rfl) (by decide) ?_
    refine lv_iconst (v := 2) hx hb dX0_showsBy_38 (by decide) ?_
    refine lv_iload_n hx hb dX0_showsBy_39 rfl (lv_at hl 1 rfl) ?_
    refine lv_imul hx hb dX0_showsBy_40 ?_
    refine lv_iconst (v := 0) hx hb dX0_showsBy_41 (by decide) ?_
    refine lv_sipush (v := 9999) hx hb dX0_showsBy_42 (by decide) ?_
    obtain ⟨r5, M6, f7, h⟩ := zbi_e h
    refine z_qSNi (As := [.int ((2 : Int32) * p1), .int (0 : Int32), .int (9999 : Int32)]) (rest := []) X hw (kX7_held l D cy a ((2 : Int32) * p1) (0 : Int32) (9999 : Int32) M r5 M6 f7) (cwX0_122 X.2.2.2.2.2.1 hE.1.1 rfl rfl (zroomO (Nat.le_of_ble_eq_true rfl) (Nat.le_of_ble_eq_true rfl))) rfl rfl (Nat.le_of_ble_eq_true rfl) hl.1 hcs dX0_showsBy_45 (fun H locs hw => ?_)
    exact z_ri X hw (zret h) dX0_showsBy_48
  replace h := zif_f c4 h
  have K : W p l e (zRm 2 43) s m args below meth c H locs 0 0 (zQi D cy a s args below r0 M0) (F0 m 53 ls []) := by
    refine lv_iload_n hx hb dX0_showsBy_53 rfl (lv_at hl 2 rfl) ?_
    exact z_ri X hw (zret h) dX0_showsBy_54
  have tc2 := lv_neT c2 (a := 2) rfl
  have tc3 := lv_neT c3 (a := 4) rfl
  have tc4 := lv_neT c4 (a := 5) rfl
  by_cases tz : x1.toInt < 2 ∨ 5 < x1.toInt
  · exact lv_tableOut (tgt := 53) hx hb dX0_showsBy_4 tz (by decide) K
  have tw : x1.toInt = 3 := by omega
  exact lv_tableIn (off := 49) (tgt := 53) hx hb dX0_showsBy_4 (by omega) (by omega) (by rw [tw]; rfl) (by decide) K
def fX0_turnMore (q : Nat) (q0 : Nat) (p1 : Int32) (M : zM) : Option (zM) := zlt (zmin ((M q0 6) + p1) (999999 : Int32)) (fun x1 => zlt (zst M q0 6 x1) (fun M2 => zgd (M2 q0 3 < 0 ∨ 5 ≤ (M2 q0 3).toNatClampNeg) (zlt (zmin ((M2 (q + 4) ((M2 q0 3).toNatClampNeg)) + p1) (999999 : Int32)) (fun x4 => zgd (M2 q0 3 < 0 ∨ 5 ≤ (M2 q0 3).toNatClampNeg) (zlt (zst M2 (q + 4) ((M2 q0 3).toNatClampNeg) x4) (fun M5 => some M5))))))
set_option maxRecDepth 100000 in
set_option maxHeartbeats 4000000 in
theorem kX0_turnMore (l : Launch) (D : va_G) (cy : Nat → ClassId) (a : Nat → Nat) (q : Nat) (hq : zX0 q) (q0 : Nat) (hq0 : zX6 q0) (p1 : Int32) (M : zM) (M0 : zM) (h : fX0_turnMore q q0 p1 M = some M0) : zCv l D cy a yX0_turnMore cX0_turnMore 3 (zRm 1 21) [.ref (a q), .ref (a q0), .int p1] M (fun u => u = M0) := by
  intro sz
  refine zent_v sz (by decide) (Nat.le_of_ble_eq_true rfl) rfl (fun p e s m args below meth c ls H locs X hw hl => ?_)
  obtain ⟨hx, hb, hr, hml, hown, hW, hlocks⟩ := id X
  have hE := hw.2.2.2.2.1
  have hcs : 0 ≤ ((zRm 1 21)).cells ∧ 0 ≤ ((zRm 1 21)).slots := ⟨Nat.zero_le _, Nat.zero_le _⟩
  rw [fX0_turnMore] at h
  refine lv_aload_n hx hb dX0_turnMore_0 rfl (lv_at hl 1 rfl) ?_
  refine lv_aload_n hx hb dX0_turnMore_1 rfl (lv_at hl 1 rfl) ?_
  refine gtX0_96 X hw hq0 dX0_turnMore_2 ?_
  refine lv_iload_n hx hb dX0_turnMore_5 rfl (lv_at hl 2 rfl) ?_
  refine lv_iadd hx hb dX0_turnMore_6 ?_
  refine z_ldc (v := 999999) X zm_28_9 dX0_turnMore_7 ?_
  refine z_min (rest := [.ref (a q0)]) X zm_12_5 zm_12_6 zm_12_7 zm_12_8 hl.1 (Nat.le_of_ble_eq_true rfl) (Nat.le_of_ble_eq_true rfl) hcs dX0_turnMore_9 ?_
  refine lv_topi (fun x1 ex1 => ?_)
  replace h := zlt_s ex1 h
  refine ptX0_96 X hw hq0 dX0_turnMore_12 (fun M2 H locs eM2 hw => ?_)
  replace h := zlt_s eM2 h
  refine lv_aload_n hx hb dX0_turnMore_15 rfl (lv_at hl 0 rfl) ?_
  refine gtX0_21 X hw hq dX0_turnMore_16 ?_
  refine lv_aload_n hx hb dX0_turnMore_19 rfl (lv_at hl 1 rfl) ?_
  refine gtX0_87 X hw hq0 dX0_turnMore_20 ?_
  refine lv_aload_n hx hb dX0_turnMore_23 rfl (lv_at hl 0 rfl) ?_
  refine gtX0_21 X hw hq dX0_turnMore_24 ?_
  refine lv_aload_n hx hb dX0_turnMore_27 rfl (lv_at hl 1 rfl) ?_
  refine gtX0_87 X hw hq0 dX0_turnMore_28 ?_
  obtain ⟨g3, h⟩ := zgd_e h
  refine z_ald X hw (zI_0_4 hq) g3 dX0_turnMore_31 ?_
  refine lv_iload_n hx hb dX0_turnMore_32 rfl (lv_at hl 2 rfl) ?_
  refine lv_iadd hx hb dX0_turnMore_33 ?_
  refine z_ldc (v := 999999) X zm_28_9 dX0_turnMore_34 ?_
  refine z_min (rest := [.int (M2 q0 3), .ref (a (q + 4))]) X zm_12_5 zm_12_6 zm_12_7 zm_12_8 hl.1 (Nat.le_of_ble_eq_true rfl) (Nat.le_of_ble_eq_true rfl) hcs dX0_turnMore_36 ?_
  refine lv_topi (fun x4 ex4 => ?_)
  replace h := zlt_s ex4 h
  obtain ⟨g6, h⟩ := zgd_e h
  refine z_ast X hw (zI_0_4 hq) g6 dX0_turnMore_39 (fun M5 H locs eM5 hw => ?_)
  replace h := zlt_s eM5 h
  exact z_rv X hw (zretv h) dX0_turnMore_40
def fX0_passHour_8 (w0 : Nat) (k : Int32 → zM → Option (Int32 × zM)) : Nat → Int32 → Int32 → zM → Option (Int32 × zM)
  | 0, _, _, _ => none
  | n + 1, v1, v2, M => if M w0 9 ≤ v2 then (k v1 M) else (zgd (v2 < 0 ∨ 8 ≤ v2.toNatClampNeg) (zlt ((w0 + 8) + v2.toNatClampNeg) (fun w6 => zlt (v1 + (M w6 7)) (fun x7 => zbi (fX0_turnsBy w0 w6 (M w6 7) M) (fun r8 M9 => zlt (zst M9 w6 8 r8) (fun M11 => zbv (fX0_turnMore w0 w6 (M11 w6 8) M11) (fun M13 => zbi (fX0_showsBy w6 (M13 w6 7) (M13 w6 8) M13) (fun r15 M16 => zlt (zmin ((M13 w6 5) + r15) (999999 : Int32)) (fun x18 => zlt (zst M16 w6 5 x18) (fun M19 => zlt (v2 + (1 : Int32)) (fun x20 => fX0_passHour_8 w0 k n x7 x20 M19)))))))))))
set_option maxRecDepth 100000 in
set_option maxHeartbeats 4000000 in
theorem lX0_passHour_8 {p : Program} {l : Launch} {e : Env} {s : State} {m : MethodId} {args : Array Value} {below : List Frame} {meth : Method} {c : Code} {D : va_G} {cy : Nat → ClassId} {a : Nat → Nat} {r0 : Int32} {M0 : zM} (X : zCX p s m meth c args cX0_passHour 4 (some .int) RX0) (w0 : Nat) (hw0 : zX0 w0) (k : Int32 → zM → Option (Int32 × zM)) : ∀ (n : Nat) (v1 : Int32) (v2 : Int32) (M : zM) (H : Heap) (locs : List Loc) (ls : Array Slot), zWD D cy a (zfr a s.heap.size) M H locs s → lv_has ls 4 [(0, .ref (a w0)), (1, .int v1), (2, .int v2)] → fX0_passHour_8 w0 k n v1 v2 M = some (r0, M0) →
    (∀ (u1 : Int32) (M' : zM) (H' : Heap) (locs' : List Loc) (ls' : Array Slot), zWD D cy a (zfr a s.heap.size) M' H' locs' s → lv_has ls' 4 [(0, .ref (a w0)), (1, .int u1)] → k u1 M' = some (r0, M0) → W p l e (zRm 5 115) s m args below meth c H' locs' 0 0 (zQi D cy a s args below r0 M0) (F0 m 84 ls' [])) →
    W p l e (zRm 5 115) s m args below meth c H locs 0 0 (zQi D cy a s args below r0 M0) (F0 m 8 ls []) := by
  obtain ⟨hx, hb, hr, hml, hown, hW, hlocks⟩ := id X
  have hcs : 0 ≤ ((zRm 5 115)).cells ∧ 0 ≤ ((zRm 5 115)).slots := ⟨Nat.zero_le _, Nat.zero_le _⟩
  intro n
  induction n with
  | zero =>
    intro v1 v2 M H locs ls hw hl h hk
    cases h
  | succ n ih =>
    intro v1 v2 M H locs ls hw hl h hk
    have hE := hw.2.2.2.2.1
    rw [fX0_passHour_8] at h
    refine lv_iload_n hx hb dX0_passHour_8 rfl (lv_at hl 2 rfl) ?_
    refine lv_aload_n hx hb dX0_passHour_9 rfl (lv_at hl 0 rfl) ?_
    refine gtX0_57 X hw hw0 dX0_passHour_10 ?_
    refine lv_icmp_ge (tgt := 84) hx hb dX0_passHour_13 (by decide) (fun c4 => ?_) (fun c4 => ?_)
    · replace h := zif_t c4 h
      exact hk v1 M H locs _ hw (lv_sub hl [0, 1] rfl) h
    · replace h := zif_f c4 h
      refine lv_aload_n hx hb dX0_passHour_16 rfl (lv_at hl 0 rfl) ?_
      refine gtX0_26 X hw hw0 dX0_passHour_17 ?_
      refine lv_iload_n hx hb dX0_passHour_20 rfl (lv_at hl 2 rfl) ?_
      obtain ⟨g5, h⟩ := zgd_e h
      refine z_aldW X hw (zRW_0_5 hw0) g5 dX0_passHour_21 (fun w6 ew6 hw6 => ?_)
      replace h := zlt_s ew6 h
      refine lv_astore_n (lv' := [(3, .ref (a w6)), (0, .ref (a w0)), (1, .int v1), (2, .int v2)]) hx hb dX0_passHour_22 rfl hl (by decide) rfl (fun ls hl => ?_)
      refine lv_iload_n hx hb dX0_passHour_23 rfl (lv_at hl 2 rfl) ?_
      refine lv_aload_n hx hb dX0_passHour_24 rfl (lv_at hl 0 rfl) ?_
      refine gtX0_116 X hw hw6 dX0_passHour_25 ?_
      refine lv_iadd hx hb dX0_passHour_28 ?_
      refine lv_topi (fun x7 ex7 => ?_)
      replace h := zlt_s ex7 h
      refine lv_istore_n (lv' := [(1, .int x7), (3, .ref (a w6)), (0, .ref (a w0)), (2, .int v2)]) hx hb dX0_passHour_29 rfl hl (by decide) rfl (fun ls hl => ?_)
      refine lv_aload_n hx hb dX0_passHour_30 rfl (lv_at hl 1 rfl) ?_
      refine lv_aload_n hx hb dX0_passHour_31 rfl (lv_at hl 2 rfl) ?_
      refine lv_aload_n hx hb dX0_passHour_32 rfl (lv_at hl 1 rfl) ?_
      refine lv_aload_n hx hb dX0_passHour_33 rfl (lv_at hl 1 rfl) ?_
      refine gtX0_116 X hw hw6 dX0_passHour_34 ?_
      obtain ⟨r8, M9, f10, h⟩ := zbi_e h
      refine z_qVi (As := [.ref (a w6), .int (M w6 7)]) (rest := [.ref (a w6)]) X hw (kX0_turnsBy l D cy a w0 hw0 w6 hw6 (M w6 7) M r8 M9 f10) (cwX0_139 X.2.2.2.2.2.1 rfl rfl (zroomO (Nat.le_of_ble_eq_true rfl) (Nat.le_of_ble_eq_true rfl))) (zX0_lt hw0) (zS0 hw0 cy a (M w0)) rfl rfl rfl (Nat.le_of_ble_eq_true rfl) hl.1 hcs dX0_passHour_37 (fun H locs hw => ?_)
      refine ptX0_142 X hw hw6 dX0_passHour_40 (fun M11 H locs eM11 hw => ?_)
      replace h := zlt_s eM11 h
      refine lv_aload_n hx hb dX0_passHour_43 rfl (lv_at hl 2 rfl) ?_
      refine lv_aload_n hx hb dX0_passHour_44 rfl (lv_at hl 1 rfl) ?_
      refine lv_aload_n hx hb dX0_passHour_45 rfl (lv_at hl 1 rfl) ?_
      refine gtX0_142 X hw hw6 dX0_passHour_46 ?_
      obtain ⟨M13, f14, h⟩ := zbv_e h
      refine z_qVv (As := [.ref (a w6), .int (M11 w6 8)]) (rest := []) X hw (kX0_turnMore l D cy a w0 hw0 w6 hw6 (M11 w6 8) M11 M13 f14) (cwX0_144 X.2.2.2.2.2.1 rfl rfl (zroomO (Nat.le_of_ble_eq_true rfl) (Nat.le_of_ble_eq_true rfl))) (zX0_lt hw0) (zS0 hw0 cy a (M11 w0)) rfl rfl rfl (Nat.le_of_ble_eq_true rfl) hl.1 hcs dX0_passHour_49 (fun H locs hw => ?_)
      refine lv_aload_n hx hb dX0_passHour_52 rfl (lv_at hl 1 rfl) ?_
      refine lv_aload_n hx hb dX0_passHour_53 rfl (lv_at hl 1 rfl) ?_
      refine gtX0_93 X hw hw6 dX0_passHour_54 ?_
      refine lv_aload_n hx hb dX0_passHour_57 rfl (lv_at hl 1 rfl) ?_
      refine lv_aload_n hx hb dX0_passHour_58 rfl (lv_at hl 1 rfl) ?_
      refine gtX0_116 X hw hw6 dX0_passHour_59 ?_
      refine lv_aload_n hx hb dX0_passHour_62 rfl (lv_at hl 1 rfl) ?_
      refine gtX0_142 X hw hw6 dX0_passHour_63 ?_
      obtain ⟨r15, M16, f17, h⟩ := zbi_e h
      refine z_qSi (As := [.ref (a w6), .int (M13 w6 7), .int (M13 w6 8)]) (rest := [.int (M13 w6 5), .ref (a w6)]) X hw (kX0_showsBy l D cy a w6 hw6 (M13 w6 7) (M13 w6 8) M13 r15 M16 f17) (cwX0_148 X.2.2.2.2.2.1 rfl rfl (zroomO (Nat.le_of_ble_eq_true rfl) (Nat.le_of_ble_eq_true rfl))) rfl rfl (Nat.le_of_ble_eq_true rfl) hl.1 hcs dX0_passHour_66 (fun H locs hw => ?_)
      refine lv_iadd hx hb dX0_passHour_69 ?_
      refine z_ldc (v := 999999) X zm_28_9 dX0_passHour_70 ?_
      refine z_min (rest := [.ref (a w6)]) X zm_12_5 zm_12_6 zm_12_7 zm_12_8 hl.1 (Nat.le_of_ble_eq_true rfl) (Nat.le_of_ble_eq_true rfl) hcs dX0_passHour_72 ?_
      refine lv_topi (fun x18 ex18 => ?_)
      replace h := zlt_s ex18 h
      refine ptX0_93 X hw hw6 dX0_passHour_75 (fun M19 H locs eM19 hw => ?_)
      replace h := zlt_s eM19 h
      obtain ⟨x20, ex20⟩ : ∃ y : Int32, y = v2 + (1 : Int32) := ⟨_, rfl⟩
      replace h := zlt_s ex20 h
      refine lv_iinc (v := x20) (lv' := [(2, .int x20), (1, .int x7), (3, .ref (a w6)), (0, .ref (a w0))]) hx hb dX0_passHour_78 hl (k := 3) rfl (by rw [ex20]; rfl) (by decide) rfl (fun ls hl => ?_)
      refine lv_goto (tgt := 8) hx hb dX0_passHour_81 (by decide) ?_
      exact ih x7 x20 M19 H locs _ hw (lv_sub hl [3, 1, 0] rfl) h hk
def fX0_passHour (q : Nat) (M : zM) : Option (Int32 × zM) := zbv (fX0_letFlow q M) (fun M2 => fX0_passHour_8 q (fun x21 M22 => zlt (zst M22 q 10 ((M22 q 10) + (1 : Int32))) (fun M23 => some (x21, M23))) zF (0 : Int32) (0 : Int32) M2)
set_option maxRecDepth 100000 in
set_option maxHeartbeats 4000000 in
theorem kX0_passHour (l : Launch) (D : va_G) (cy : Nat → ClassId) (a : Nat → Nat) (q : Nat) (hq : zX0 q) (M : zM) (r0 : Int32) (M0 : zM) (h : fX0_passHour q M = some (r0, M0)) : zCi l D cy a yX0_passHour cX0_passHour 4 (some .int) (zRm 5 115) [.ref (a q)] M (fun r u => r = r0 ∧ u = M0) := by
  intro sz
  refine zent_i sz (by decide) (Nat.le_of_ble_eq_true rfl) rfl (fun p e s m args below meth c ls H locs X hw hl => ?_)
  obtain ⟨hx, hb, hr, hml, hown, hW, hlocks⟩ := id X
  have hE := hw.2.2.2.2.1
  have hcs : 0 ≤ ((zRm 5 115)).cells ∧ 0 ≤ ((zRm 5 115)).slots := ⟨Nat.zero_le _, Nat.zero_le _⟩
  rw [fX0_passHour] at h
  refine lv_iconst (v := 0) hx hb dX0_passHour_0 (by decide) ?_
  refine lv_istore_n (lv' := [(1, .int (0 : Int32)), (0, .ref (a q))]) hx hb dX0_passHour_1 rfl hl (by decide) rfl (fun ls hl => ?_)
  refine lv_aload_n hx hb dX0_passHour_2 rfl (lv_at hl 1 rfl) ?_
  obtain ⟨M2, f3, h⟩ := zbv_e h
  refine z_qVv (As := []) (rest := []) X hw (kX0_letFlow l D cy a q hq M M2 f3) (cwX0_136 X.2.2.2.2.2.1 rfl rfl (zroomO (Nat.le_of_ble_eq_true rfl) (Nat.le_of_ble_eq_true rfl))) (zX0_lt hq) (zS0 hq cy a (M q)) rfl rfl rfl (Nat.le_of_ble_eq_true rfl) hl.1 hcs dX0_passHour_3 (fun H locs hw => ?_)
  refine lv_iconst (v := 0) hx hb dX0_passHour_6 (by decide) ?_
  refine lv_istore_n (lv' := [(2, .int (0 : Int32)), (1, .int (0 : Int32)), (0, .ref (a q))]) hx hb dX0_passHour_7 rfl hl (by decide) rfl (fun ls hl => ?_)
  refine lX0_passHour_8 X q hq _ zF (0 : Int32) (0 : Int32) M2 H locs _ hw (lv_sub hl [2, 1, 0] rfl) h (fun x21 M22 H locs ls hw hl h => ?_)
  refine lv_aload_n hx hb dX0_passHour_84 rfl (lv_at hl 0 rfl) ?_
  refine lv_dup hx hb dX0_passHour_85 rfl ?_
  refine gtX0_72 X hw hq dX0_passHour_86 ?_
  refine lv_iconst (v := 1) hx hb dX0_passHour_89 (by decide) ?_
  refine lv_iadd hx hb dX0_passHour_90 ?_
  refine ptX0_72 X hw hq dX0_passHour_91 (fun M23 H locs eM23 hw => ?_)
  replace h := zlt_s eM23 h
  refine lv_iload_n hx hb dX0_passHour_94 rfl (lv_at hl 1 rfl) ?_
  exact z_ri X hw (zret h) dX0_passHour_95
def fX0_passHours_4 (w0 : Nat) (y1 : Int32) (k : Int32 → zM → Option (Int32 × zM)) : Nat → Int32 → Int32 → zM → Option (Int32 × zM)
  | 0, _, _, _ => none
  | n + 1, v2, v3, M => if y1 ≤ v3 then (k v2 M) else (zbi (fX0_passHour w0 M) (fun r2 M3 => zlt (v2 + r2) (fun x5 => zlt (v3 + (1 : Int32)) (fun x6 => fX0_passHours_4 w0 y1 k n x5 x6 M3))))
set_option maxRecDepth 100000 in
set_option maxHeartbeats 4000000 in
theorem lX0_passHours_4 {p : Program} {l : Launch} {e : Env} {s : State} {m : MethodId} {args : Array Value} {below : List Frame} {meth : Method} {c : Code} {D : va_G} {cy : Nat → ClassId} {a : Nat → Nat} {r0 : Int32} {M0 : zM} (X : zCX p s m meth c args cX0_passHours 4 (some .int) RX0) (w0 : Nat) (y1 : Int32) (hw0 : zX0 w0) (k : Int32 → zM → Option (Int32 × zM)) : ∀ (n : Nat) (v2 : Int32) (v3 : Int32) (M : zM) (H : Heap) (locs : List Loc) (ls : Array Slot), zWD D cy a (zfr a s.heap.size) M H locs s → lv_has ls 4 [(0, .ref (a w0)), (1, .int y1), (2, .int v2), (3, .int v3)] → fX0_passHours_4 w0 y1 k n v2 v3 M = some (r0, M0) →
    (∀ (u2 : Int32) (M' : zM) (H' : Heap) (locs' : List Loc) (ls' : Array Slot), zWD D cy a (zfr a s.heap.size) M' H' locs' s → lv_has ls' 4 [(2, .int u2)] → k u2 M' = some (r0, M0) → W p l e (zRm 6 138) s m args below meth c H' locs' 0 0 (zQi D cy a s args below r0 M0) (F0 m 22 ls' [])) →
    W p l e (zRm 6 138) s m args below meth c H locs 0 0 (zQi D cy a s args below r0 M0) (F0 m 4 ls []) := by
  obtain ⟨hx, hb, hr, hml, hown, hW, hlocks⟩ := id X
  have hcs : 0 ≤ ((zRm 6 138)).cells ∧ 0 ≤ ((zRm 6 138)).slots := ⟨Nat.zero_le _, Nat.zero_le _⟩
  intro n
  induction n with
  | zero =>
    intro v2 v3 M H locs ls hw hl h hk
    cases h
  | succ n ih =>
    intro v2 v3 M H locs ls hw hl h hk
    have hE := hw.2.2.2.2.1
    rw [fX0_passHours_4] at h
    refine lv_iload_n hx hb dX0_passHours_4 rfl (lv_at hl 3 rfl) ?_
    refine lv_iload_n hx hb dX0_passHours_5 rfl (lv_at hl 1 rfl) ?_
    refine lv_icmp_ge (tgt := 22) hx hb dX0_passHours_6 (by decide) (fun c1 => ?_) (fun c1 => ?_)
    · replace h := zif_t c1 h
      exact hk v2 M H locs _ hw (lv_sub hl [2] rfl) h
    · replace h := zif_f c1 h
      refine lv_iload_n hx hb dX0_passHours_9 rfl (lv_at hl 2 rfl) ?_
      refine lv_aload_n hx hb dX0_passHours_10 rfl (lv_at hl 0 rfl) ?_
      obtain ⟨r2, M3, f4, h⟩ := zbi_e h
      refine z_qVi (As := []) (rest := [.int v2]) X hw (kX0_passHour l D cy a w0 hw0 M r2 M3 f4) (cwX0_153 X.2.2.2.2.2.1 rfl rfl (zroomO (Nat.le_of_ble_eq_true rfl) (Nat.le_of_ble_eq_true rfl))) (zX0_lt hw0) (zS0 hw0 cy a (M w0)) rfl rfl rfl (Nat.le_of_ble_eq_true rfl) hl.1 hcs dX0_passHours_11 (fun H locs hw => ?_)
      refine lv_iadd hx hb dX0_passHours_14 ?_
      refine lv_topi (fun x5 ex5 => ?_)
      replace h := zlt_s ex5 h
      refine lv_istore_n (lv' := [(2, .int x5), (0, .ref (a w0)), (1, .int y1), (3, .int v3)]) hx hb dX0_passHours_15 rfl hl (by decide) rfl (fun ls hl => ?_)
      obtain ⟨x6, ex6⟩ : ∃ y : Int32, y = v3 + (1 : Int32) := ⟨_, rfl⟩
      replace h := zlt_s ex6 h
      refine lv_iinc (v := x6) (lv' := [(3, .int x6), (2, .int x5), (0, .ref (a w0)), (1, .int y1)]) hx hb dX0_passHours_16 hl (k := 3) rfl (by rw [ex6]; rfl) (by decide) rfl (fun ls hl => ?_)
      refine lv_goto (tgt := 4) hx hb dX0_passHours_19 (by decide) ?_
      exact ih x5 x6 M3 H locs _ hw (lv_sub hl [2, 3, 1, 0] rfl) h hk
def fX0_passHours (q : Nat) (p0 : Int32) (M : zM) : Option (Int32 × zM) := fX0_passHours_4 q p0 (fun x7 M8 => some (x7, M8)) zF (0 : Int32) (0 : Int32) M
set_option maxRecDepth 100000 in
set_option maxHeartbeats 4000000 in
theorem kX0_passHours (l : Launch) (D : va_G) (cy : Nat → ClassId) (a : Nat → Nat) (q : Nat) (hq : zX0 q) (p0 : Int32) (M : zM) (r0 : Int32) (M0 : zM) (h : fX0_passHours q p0 M = some (r0, M0)) : zCi l D cy a yX0_passHours cX0_passHours 4 (some .int) (zRm 6 138) [.ref (a q), .int p0] M (fun r u => r = r0 ∧ u = M0) := by
  intro sz
  refine zent_i sz (by decide) (Nat.le_of_ble_eq_true rfl) rfl (fun p e s m args below meth c ls H locs X hw hl => ?_)
  obtain ⟨hx, hb, hr, hml, hown, hW, hlocks⟩ := id X
  have hE := hw.2.2.2.2.1
  have hcs : 0 ≤ ((zRm 6 138)).cells ∧ 0 ≤ ((zRm 6 138)).slots := ⟨Nat.zero_le _, Nat.zero_le _⟩
  rw [fX0_passHours] at h
  refine lv_iconst (v := 0) hx hb dX0_passHours_0 (by decide) ?_
  refine lv_istore_n (lv' := [(2, .int (0 : Int32)), (0, .ref (a q)), (1, .int p0)]) hx hb dX0_passHours_1 rfl hl (by decide) rfl (fun ls hl => ?_)
  refine lv_iconst (v := 0) hx hb dX0_passHours_2 (by decide) ?_
  refine lv_istore_n (lv' := [(3, .int (0 : Int32)), (2, .int (0 : Int32)), (0, .ref (a q)), (1, .int p0)]) hx hb dX0_passHours_3 rfl hl (by decide) rfl (fun ls hl => ?_)
  refine lX0_passHours_4 X q p0 hq _ zF (0 : Int32) (0 : Int32) M H locs _ hw (lv_sub hl [2, 3, 1, 0] rfl) h (fun x7 M8 H locs ls hw hl h => ?_)
  refine lv_iload_n hx hb dX0_passHours_22 rfl (lv_at hl 0 rfl) ?_
  exact z_ri X hw (zret h) dX0_passHours_23
def fX0_turnsIn_20 (w0 : Nat) (y1 : Int32) (y2 : Int32) (y3 : Int32) (y5 : Int32) (k : Int32 → zM → Option (Int32 × zM)) : Nat → Int32 → Int32 → zM → Option (Int32 × zM)
  | 0, _, _, _ => none
  | n + 1, v4, v6, M => if y3 ≤ v6 then (k v4 M) else (if M w0 9 ≤ v6 then (k v4 M) else (zgd (v6 < 0 ∨ 8 ≤ v6.toNatClampNeg) (zlt ((w0 + 8) + v6.toNatClampNeg) (fun w8 => zlt (v4 + (M w8 8)) (fun x9 => zlt (v6 + (1 : Int32)) (fun x10 => fX0_turnsIn_20 w0 y1 y2 y3 y5 k n x9 x10 M))))))
set_option maxRecDepth 100000 in
set_option maxHeartbeats 4000000 in
theorem lX0_turnsIn_20 {p : Program} {l : Launch} {e : Env} {s : State} {m : MethodId} {args : Array Value} {below : List Frame} {meth : Method} {c : Code} {D : va_G} {cy : Nat → ClassId} {a : Nat → Nat} {r0 : Int32} {M0 : zM} (X : zCX p s m meth c args cX0_turnsIn 7 (some .int) RX0) (w0 : Nat) (y1 : Int32) (y2 : Int32) (y3 : Int32) (y5 : Int32) (hw0 : zX0 w0) (k : Int32 → zM → Option (Int32 × zM)) : ∀ (n : Nat) (v4 : Int32) (v6 : Int32) (M : zM) (H : Heap) (locs : List Loc) (ls : Array Slot), zWD D cy a (zfr a s.heap.size) M H locs s → lv_has ls 7 [(0, .ref (a w0)), (1, .int y1), (2, .int y2), (3, .int y3), (4, .int v4), (5, .int y5), (6, .int v6)] → fX0_turnsIn_20 w0 y1 y2 y3 y5 k n v4 v6 M = some (r0, M0) →
    (∀ (u4 : Int32) (M' : zM) (H' : Heap) (locs' : List Loc) (ls' : Array Slot), zWD D cy a (zfr a s.heap.size) M' H' locs' s → lv_has ls' 7 [(0, .ref (a w0)), (1, .int y1), (2, .int y2), (3, .int y3), (4, .int u4), (5, .int y5)] → k u4 M' = some (r0, M0) → W p l e (zRm 6 138) s m args below meth c H' locs' 0 0 (zQi D cy a s args below r0 M0) (F0 m 56 ls' [])) →
    W p l e (zRm 6 138) s m args below meth c H locs 0 0 (zQi D cy a s args below r0 M0) (F0 m 20 ls []) := by
  obtain ⟨hx, hb, hr, hml, hown, hW, hlocks⟩ := id X
  have hcs : 0 ≤ ((zRm 6 138)).cells ∧ 0 ≤ ((zRm 6 138)).slots := ⟨Nat.zero_le _, Nat.zero_le _⟩
  intro n
  induction n with
  | zero =>
    intro v4 v6 M H locs ls hw hl h hk
    cases h
  | succ n ih =>
    intro v4 v6 M H locs ls hw hl h hk
    have hE := hw.2.2.2.2.1
    rw [fX0_turnsIn_20] at h
    refine lv_iload hx hb dX0_turnsIn_20 (lv_at hl 6 rfl) ?_
    refine lv_iload_n hx hb dX0_turnsIn_22 rfl (lv_at hl 3 rfl) ?_
    refine lv_icmp_ge (tgt := 56) hx hb dX0_turnsIn_23 (by decide) (fun c5 => ?_) (fun c5 => ?_)
    · replace h := zif_t c5 h
      exact hk v4 M H locs _ hw (lv_sub hl [0, 1, 2, 3, 4, 5] rfl) h
    · replace h := zif_f c5 h
      refine lv_iload hx hb dX0_turnsIn_26 (lv_at hl 6 rfl) ?_
      refine lv_aload_n hx hb dX0_turnsIn_28 rfl (lv_at hl 0 rfl) ?_
      refine gtX0_57 X hw hw0 dX0_turnsIn_29 ?_
      refine lv_icmp_ge (tgt := 56) hx hb dX0_turnsIn_32 (by decide) (fun c6 => ?_) (fun c6 => ?_)
      · replace h := zif_t c6 h
        exact hk v4 M H locs _ hw (lv_sub hl [0, 1, 2, 3, 4, 5] rfl) h
      · replace h := zif_f c6 h
        refine lv_iload hx hb dX0_turnsIn_35 (lv_at hl 4 rfl) ?_
        refine lv_aload_n hx hb dX0_turnsIn_37 rfl (lv_at hl 0 rfl) ?_
        refine gtX0_26 X hw hw0 dX0_turnsIn_38 ?_
        refine lv_iload hx hb dX0_turnsIn_41 (lv_at hl 6 rfl) ?_
        obtain ⟨g7, h⟩ := zgd_e h
        refine z_aldW X hw (zRW_0_5 hw0) g7 dX0_turnsIn_43 (fun w8 ew8 hw8 => ?_)
        replace h := zlt_s ew8 h
        refine gtX0_142 X hw hw8 dX0_turnsIn_44 ?_
        refine lv_iadd hx hb dX0_turnsIn_47 ?_
        refine lv_topi (fun x9 ex9 => ?_)
        replace h := zlt_s ex9 h
        refine lv_istore (lv' := [(4, .int x9), (0, .ref (a w0)), (1, .int y1), (2, .int y2), (3, .int y3), (5, .int y5), (6, .int v6)]) hx hb dX0_turnsIn_48 hl (by decide) rfl (fun ls hl => ?_)
        obtain ⟨x10, ex10⟩ : ∃ y : Int32, y = v6 + (1 : Int32) := ⟨_, rfl⟩
        replace h := zlt_s ex10 h
        refine lv_iinc (v := x10) (lv' := [(6, .int x10), (4, .int x9), (0, .ref (a w0)), (1, .int y1), (2, .int y2), (3, .int y3), (5, .int y5)]) hx hb dX0_turnsIn_50 hl (k := 6) rfl (by rw [ex10]; rfl) (by decide) rfl (fun ls hl => ?_)
        refine lv_goto (tgt := 20) hx hb dX0_turnsIn_53 (by decide) ?_
        exact ih x9 x10 M H locs _ hw (lv_sub hl [2, 3, 4, 5, 1, 6, 0] rfl) h hk
def fX0_turnsIn_6 (w0 : Nat) (y1 : Int32) (y2 : Int32) (y3 : Int32) (k : Int32 → zM → Option (Int32 × zM)) : Nat → Int32 → Int32 → zM → Option (Int32 × zM)
  | 0, _, _, _ => none
  | n + 1, v4, v5, M => if y1 ≤ v5 then (k v4 M) else (zbi (fX0_passHour w0 M) (fun r2 M3 => fX0_turnsIn_20 w0 y1 y2 y3 v5 (fun x11 M12 => zlt (v5 + (1 : Int32)) (fun x13 => fX0_turnsIn_6 w0 y1 y2 y3 k n x11 x13 M12)) zF v4 y2 M3))
set_option maxRecDepth 100000 in
set_option maxHeartbeats 4000000 in
theorem lX0_turnsIn_6 {p : Program} {l : Launch} {e : Env} {s : State} {m : MethodId} {args : Array Value} {below : List Frame} {meth : Method} {c : Code} {D : va_G} {cy : Nat → ClassId} {a : Nat → Nat} {r0 : Int32} {M0 : zM} (X : zCX p s m meth c args cX0_turnsIn 7 (some .int) RX0) (w0 : Nat) (y1 : Int32) (y2 : Int32) (y3 : Int32) (hw0 : zX0 w0) (k : Int32 → zM → Option (Int32 × zM)) : ∀ (n : Nat) (v4 : Int32) (v5 : Int32) (M : zM) (H : Heap) (locs : List Loc) (ls : Array Slot), zWD D cy a (zfr a s.heap.size) M H locs s → lv_has ls 7 [(0, .ref (a w0)), (1, .int y1), (2, .int y2), (3, .int y3), (4, .int v4), (5, .int v5)] → fX0_turnsIn_6 w0 y1 y2 y3 k n v4 v5 M = some (r0, M0) →
    (∀ (u4 : Int32) (M' : zM) (H' : Heap) (locs' : List Loc) (ls' : Array Slot), zWD D cy a (zfr a s.heap.size) M' H' locs' s → lv_has ls' 7 [(4, .int u4)] → k u4 M' = some (r0, M0) → W p l e (zRm 6 138) s m args below meth c H' locs' 0 0 (zQi D cy a s args below r0 M0) (F0 m 62 ls' [])) →
    W p l e (zRm 6 138) s m args below meth c H locs 0 0 (zQi D cy a s args below r0 M0) (F0 m 6 ls []) := by
  obtain ⟨hx, hb, hr, hml, hown, hW, hlocks⟩ := id X
  have hcs : 0 ≤ ((zRm 6 138)).cells ∧ 0 ≤ ((zRm 6 138)).slots := ⟨Nat.zero_le _, Nat.zero_le _⟩
  intro n
  induction n with
  | zero =>
    intro v4 v5 M H locs ls hw hl h hk
    cases h
  | succ n ih =>
    intro v4 v5 M H locs ls hw hl h hk
    have hE := hw.2.2.2.2.1
    rw [fX0_turnsIn_6] at h
    refine lv_iload hx hb dX0_turnsIn_6 (lv_at hl 5 rfl) ?_
    refine lv_iload_n hx hb dX0_turnsIn_8 rfl (lv_at hl 1 rfl) ?_
    refine lv_icmp_ge (tgt := 62) hx hb dX0_turnsIn_9 (by decide) (fun c1 => ?_) (fun c1 => ?_)
    · replace h := zif_t c1 h
      exact hk v4 M H locs _ hw (lv_sub hl [4] rfl) h
    · replace h := zif_f c1 h
      refine lv_aload_n hx hb dX0_turnsIn_12 rfl (lv_at hl 0 rfl) ?_
      obtain ⟨r2, M3, f4, h⟩ := zbi_e h
      refine z_qVi (As := []) (rest := []) X hw (kX0_passHour l D cy a w0 hw0 M r2 M3 f4) (cwX0_153 X.2.2.2.2.2.1 rfl rfl (zroomO (Nat.le_of_ble_eq_true rfl) (Nat.le_of_ble_eq_true rfl))) (zX0_lt hw0) (zS0 hw0 cy a (M w0)) rfl rfl rfl (Nat.le_of_ble_eq_true rfl) hl.1 hcs dX0_turnsIn_13 (fun H locs hw => ?_)
      refine lv_pop hx hb dX0_turnsIn_16 rfl ?_
      refine lv_iload_n hx hb dX0_turnsIn_17 rfl (lv_at hl 2 rfl) ?_
      refine lv_istore (lv' := [(6, .int y2), (0, .ref (a w0)), (1, .int y1), (2, .int y2), (3, .int y3), (4, .int v4), (5, .int v5)]) hx hb dX0_turnsIn_18 hl (by decide) rfl (fun ls hl => ?_)
      refine lX0_turnsIn_20 X w0 y1 y2 y3 v5 hw0 _ zF v4 y2 M3 H locs _ hw (lv_sub hl [1, 2, 3, 4, 5, 6, 0] rfl) h (fun x11 M12 H locs ls hw hl h => ?_)
      obtain ⟨x13, ex13⟩ : ∃ y : Int32, y = v5 + (1 : Int32) := ⟨_, rfl⟩
      replace h := zlt_s ex13 h
      refine lv_iinc (v := x13) (lv' := [(5, .int x13), (0, .ref (a w0)), (1, .int y1), (2, .int y2), (3, .int y3), (4, .int x11)]) hx hb dX0_turnsIn_56 hl (k := 5) rfl (by rw [ex13]; rfl) (by decide) rfl (fun ls hl => ?_)
      refine lv_goto (tgt := 6) hx hb dX0_turnsIn_59 (by decide) ?_
      exact ih x11 x13 M12 H locs _ hw (lv_sub hl [1, 2, 3, 4, 5, 0] rfl) h hk
def fX0_turnsIn (q : Nat) (p0 : Int32) (p1 : Int32) (p2 : Int32) (M : zM) : Option (Int32 × zM) := fX0_turnsIn_6 q p0 p1 p2 (fun x14 M15 => some (x14, M15)) zF (0 : Int32) (0 : Int32) M
set_option maxRecDepth 100000 in
set_option maxHeartbeats 4000000 in
theorem kX0_turnsIn (l : Launch) (D : va_G) (cy : Nat → ClassId) (a : Nat → Nat) (q : Nat) (hq : zX0 q) (p0 : Int32) (p1 : Int32) (p2 : Int32) (M : zM) (r0 : Int32) (M0 : zM) (h : fX0_turnsIn q p0 p1 p2 M = some (r0, M0)) : zCi l D cy a yX0_turnsIn cX0_turnsIn 7 (some .int) (zRm 6 138) [.ref (a q), .int p0, .int p1, .int p2] M (fun r u => r = r0 ∧ u = M0) := by
  intro sz
  refine zent_i sz (by decide) (Nat.le_of_ble_eq_true rfl) rfl (fun p e s m args below meth c ls H locs X hw hl => ?_)
  obtain ⟨hx, hb, hr, hml, hown, hW, hlocks⟩ := id X
  have hE := hw.2.2.2.2.1
  have hcs : 0 ≤ ((zRm 6 138)).cells ∧ 0 ≤ ((zRm 6 138)).slots := ⟨Nat.zero_le _, Nat.zero_le _⟩
  rw [fX0_turnsIn] at h
  refine lv_iconst (v := 0) hx hb dX0_turnsIn_0 (by decide) ?_
  refine lv_istore (lv' := [(4, .int (0 : Int32)), (0, .ref (a q)), (1, .int p0), (2, .int p1), (3, .int p2)]) hx hb dX0_turnsIn_1 hl (by decide) rfl (fun ls hl => ?_)
  refine lv_iconst (v := 0) hx hb dX0_turnsIn_3 (by decide) ?_
  refine lv_istore (lv' := [(5, .int (0 : Int32)), (4, .int (0 : Int32)), (0, .ref (a q)), (1, .int p0), (2, .int p1), (3, .int p2)]) hx hb dX0_turnsIn_4 hl (by decide) rfl (fun ls hl => ?_)
  refine lX0_turnsIn_6 X q p0 p1 p2 hq _ zF (0 : Int32) (0 : Int32) M H locs _ hw (lv_sub hl [2, 3, 4, 5, 1, 0] rfl) h (fun x14 M15 H locs ls hw hl h => ?_)
  refine lv_iload hx hb dX0_turnsIn_62 (lv_at hl 0 rfl) ?_
  exact z_ri X hw (zret h) dX0_turnsIn_64
def fX0_flood_2 (w0 : Nat) (k : zM → Option (zM)) : Nat → Int32 → zM → Option (zM)
  | 0, _, _ => none
  | n + 1, v1, M => if M w0 9 ≤ v1 then (k  M) else (zgd (v1 < 0 ∨ 8 ≤ v1.toNatClampNeg) (zlt ((w0 + 8) + v1.toNatClampNeg) (fun w3 => if M w3 4 = (1 : Int32) then (zgd (v1 < 0 ∨ 8 ≤ v1.toNatClampNeg) (zlt ((w0 + 8) + v1.toNatClampNeg) (fun w7 => zgd (v1 < 0 ∨ 8 ≤ v1.toNatClampNeg) (zlt ((w0 + 8) + v1.toNatClampNeg) (fun w9 => zbv (fX0_turnMore w0 w7 (M w9 1) M) (fun M11 => zlt (v1 + (1 : Int32)) (fun x13 => fX0_flood_2 w0 k n x13 M11))))))) else (zlt (v1 + (1 : Int32)) (fun x5 => fX0_flood_2 w0 k n x5 M)))))
set_option maxRecDepth 100000 in
set_option maxHeartbeats 4000000 in
theorem lX0_flood_2 {p : Program} {l : Launch} {e : Env} {s : State} {m : MethodId} {args : Array Value} {below : List Frame} {meth : Method} {c : Code} {D : va_G} {cy : Nat → ClassId} {a : Nat → Nat} {M0 : zM} (X : zCX p s m meth c args cX0_flood 2 none RX0) (w0 : Nat) (hw0 : zX0 w0) (k : zM → Option (zM)) : ∀ (n : Nat) (v1 : Int32) (M : zM) (H : Heap) (locs : List Loc) (ls : Array Slot), zWD D cy a (zfr a s.heap.size) M H locs s → lv_has ls 2 [(0, .ref (a w0)), (1, .int v1)] → fX0_flood_2 w0 k n v1 M = some M0 →
    (∀ (M' : zM) (H' : Heap) (locs' : List Loc) (ls' : Array Slot), zWD D cy a (zfr a s.heap.size) M' H' locs' s → lv_has ls' 2 [] → k M' = some M0 → W p l e (zRm 2 43) s m args below meth c H' locs' 0 0 (zQv D cy a s args below M0) (F0 m 48 ls' [])) →
    W p l e (zRm 2 43) s m args below meth c H locs 0 0 (zQv D cy a s args below M0) (F0 m 2 ls []) := by
  obtain ⟨hx, hb, hr, hml, hown, hW, hlocks⟩ := id X
  have hcs : 0 ≤ ((zRm 2 43)).cells ∧ 0 ≤ ((zRm 2 43)).slots := ⟨Nat.zero_le _, Nat.zero_le _⟩
  intro n
  induction n with
  | zero =>
    intro v1 M H locs ls hw hl h hk
    cases h
  | succ n ih =>
    intro v1 M H locs ls hw hl h hk
    have hE := hw.2.2.2.2.1
    rw [fX0_flood_2] at h
    refine lv_iload_n hx hb dX0_flood_2 rfl (lv_at hl 1 rfl) ?_
    refine lv_aload_n hx hb dX0_flood_3 rfl (lv_at hl 0 rfl) ?_
    refine gtX0_57 X hw hw0 dX0_flood_4 ?_
    refine lv_icmp_ge (tgt := 48) hx hb dX0_flood_7 (by decide) (fun c1 => ?_) (fun c1 => ?_)
    · replace h := zif_t c1 h
      exact hk  M H locs _ hw (lv_sub hl [] rfl) h
    · replace h := zif_f c1 h
      refine lv_aload_n hx hb dX0_flood_10 rfl (lv_at hl 0 rfl) ?_
      refine gtX0_26 X hw hw0 dX0_flood_11 ?_
      refine lv_iload_n hx hb dX0_flood_14 rfl (lv_at hl 1 rfl) ?_
      obtain ⟨g2, h⟩ := zgd_e h
      refine z_aldW X hw (zRW_0_5 hw0) g2 dX0_flood_15 (fun w3 ew3 hw3 => ?_)
      replace h := zlt_s ew3 h
      refine gtX0_90 X hw hw3 dX0_flood_16 ?_
      refine lv_iconst (v := 1) hx hb dX0_flood_19 (by decide) ?_
      refine lv_icmp_ne (tgt := 42) hx hb dX0_flood_20 (by decide) (fun c4 => ?_) (fun c4 => ?_)
      · replace h := zif_f c4 h
        obtain ⟨x5, ex5⟩ : ∃ y : Int32, y = v1 + (1 : Int32) := ⟨_, rfl⟩
        replace h := zlt_s ex5 h
        refine lv_iinc (v := x5) (lv' := [(1, .int x5), (0, .ref (a w0))]) hx hb dX0_flood_42 hl (k := 1) rfl (by rw [ex5]; rfl) (by decide) rfl (fun ls hl => ?_)
        refine lv_goto (tgt := 2) hx hb dX0_flood_45 (by decide) ?_
        exact ih x5 M H locs _ hw (lv_sub hl [1, 0] rfl) h hk
      · replace h := zif_t c4 h
        refine lv_aload_n hx hb dX0_flood_23 rfl (lv_at hl 0 rfl) ?_
        refine lv_aload_n hx hb dX0_flood_24 rfl (lv_at hl 0 rfl) ?_
        refine gtX0_26 X hw hw0 dX0_flood_25 ?_
        refine lv_iload_n hx hb dX0_flood_28 rfl (lv_at hl 1 rfl) ?_
        obtain ⟨g6, h⟩ := zgd_e h
        refine z_aldW X hw (zRW_0_5 hw0) g6 dX0_flood_29 (fun w7 ew7 hw7 => ?_)
        replace h := zlt_s ew7 h
        refine lv_aload_n hx hb dX0_flood_30 rfl (lv_at hl 0 rfl) ?_
        refine gtX0_26 X hw hw0 dX0_flood_31 ?_
        refine lv_iload_n hx hb dX0_flood_34 rfl (lv_at hl 1 rfl) ?_
        obtain ⟨g8, h⟩ := zgd_e h
        refine z_aldW X hw (zRW_0_5 hw0) g8 dX0_flood_35 (fun w9 ew9 hw9 => ?_)
        replace h := zlt_s ew9 h
        refine gtX0_81 X hw hw9 dX0_flood_36 ?_
        obtain ⟨M11, f12, h⟩ := zbv_e h
        refine z_qVv (As := [.ref (a w7), .int (M w9 1)]) (rest := []) X hw (kX0_turnMore l D cy a w0 hw0 w7 hw7 (M w9 1) M M11 f12) (cwX0_144 X.2.2.2.2.2.1 rfl rfl (zroomO (Nat.le_of_ble_eq_true rfl) (Nat.le_of_ble_eq_true rfl))) (zX0_lt hw0) (zS0 hw0 cy a (M w0)) rfl rfl rfl (Nat.le_of_ble_eq_true rfl) hl.1 hcs dX0_flood_39 (fun H locs hw => ?_)
        obtain ⟨x13, ex13⟩ : ∃ y : Int32, y = v1 + (1 : Int32) := ⟨_, rfl⟩
        replace h := zlt_s ex13 h
        refine lv_iinc (v := x13) (lv' := [(1, .int x13), (0, .ref (a w0))]) hx hb dX0_flood_42 hl (k := 1) rfl (by rw [ex13]; rfl) (by decide) rfl (fun ls hl => ?_)
        refine lv_goto (tgt := 2) hx hb dX0_flood_45 (by decide) ?_
        exact ih x13 M11 H locs _ hw (lv_sub hl [1, 0] rfl) h hk
def fX0_flood (q : Nat) (M : zM) : Option (zM) := fX0_flood_2 q (fun  M14 => some M14) zF (0 : Int32) M
set_option maxRecDepth 100000 in
set_option maxHeartbeats 4000000 in
theorem kX0_flood (l : Launch) (D : va_G) (cy : Nat → ClassId) (a : Nat → Nat) (q : Nat) (hq : zX0 q) (M : zM) (M0 : zM) (h : fX0_flood q M = some M0) : zCv l D cy a yX0_flood cX0_flood 2 (zRm 2 43) [.ref (a q)] M (fun u => u = M0) := by
  intro sz
  refine zent_v sz (by decide) (Nat.le_of_ble_eq_true rfl) rfl (fun p e s m args below meth c ls H locs X hw hl => ?_)
  obtain ⟨hx, hb, hr, hml, hown, hW, hlocks⟩ := id X
  have hE := hw.2.2.2.2.1
  have hcs : 0 ≤ ((zRm 2 43)).cells ∧ 0 ≤ ((zRm 2 43)).slots := ⟨Nat.zero_le _, Nat.zero_le _⟩
  rw [fX0_flood] at h
  refine lv_iconst (v := 0) hx hb dX0_flood_0 (by decide) ?_
  refine lv_istore_n (lv' := [(1, .int (0 : Int32)), (0, .ref (a q))]) hx hb dX0_flood_1 rfl hl (by decide) rfl (fun ls hl => ?_)
  refine lX0_flood_2 X q hq _ zF (0 : Int32) M H locs _ hw (lv_sub hl [1, 0] rfl) h (fun  M14 H locs ls hw hl h => ?_)
  exact z_rv X hw (zretv h) dX0_flood_48
def fX0_drawWeather (q : Nat) (M : zM) : Option (Int32 × zM) := zlt (zst M q 12 (((M q 12) * (1103515245 : Int32)) + (12345 : Int32))) (fun M1 => zlt (zushr (M1 q 12) (8 : Int32)) (fun x2 => zlt (zrem x2 (16 : Int32)) (fun x3 => if x3 = 0 then (zbv (fX0_flood q M1) (fun M12 => some ((1 : Int32), M12))) else (if (3 : Int32) < x3 then (if (6 : Int32) < x3 then (some ((0 : Int32), M1)) else (zlt (zmax ((M1 q 11) - (1 : Int32)) (0 : Int32)) (fun x7 => zlt (zst M1 q 11 x7) (fun M8 => some ((0 : Int32), M8))))) else (zlt (zmin ((M1 q 11) + (1 : Int32)) (9 : Int32)) (fun x9 => zlt (zst M1 q 11 x9) (fun M10 => some ((0 : Int32), M10))))))))
set_option maxRecDepth 100000 in
set_option maxHeartbeats 4000000 in
theorem kX0_drawWeather (l : Launch) (D : va_G) (cy : Nat → ClassId) (a : Nat → Nat) (q : Nat) (hq : zX0 q) (M : zM) (r0 : Int32) (M0 : zM) (h : fX0_drawWeather q M = some (r0, M0)) : zCi l D cy a yX0_drawWeather cX0_drawWeather 2 (some .int) (zRm 3 64) [.ref (a q)] M (fun r u => r = r0 ∧ u = M0) := by
  intro sz
  refine zent_i sz (by decide) (Nat.le_of_ble_eq_true rfl) rfl (fun p e s m args below meth c ls H locs X hw hl => ?_)
  obtain ⟨hx, hb, hr, hml, hown, hW, hlocks⟩ := id X
  have hE := hw.2.2.2.2.1
  have hcs : 0 ≤ ((zRm 3 64)).cells ∧ 0 ≤ ((zRm 3 64)).slots := ⟨Nat.zero_le _, Nat.zero_le _⟩
  rw [fX0_drawWeather] at h
  refine lv_aload_n hx hb dX0_drawWeather_0 rfl (lv_at hl 0 rfl) ?_
  refine lv_aload_n hx hb dX0_drawWeather_1 rfl (lv_at hl 0 rfl) ?_
  refine gtX0_46 X hw hq dX0_drawWeather_2 ?_
  refine z_ldc (v := 1103515245) X zm_30_2 dX0_drawWeather_5 ?_
  refine lv_imul hx hb dX0_drawWeather_7 ?_
  refine lv_sipush (v := 12345) hx hb dX0_drawWeather_8 (by decide) ?_
  refine lv_iadd hx hb dX0_drawWeather_11 ?_
  refine ptX0_46 X hw hq dX0_drawWeather_12 (fun M1 H locs eM1 hw => ?_)
  replace h := zlt_s eM1 h
  refine lv_aload_n hx hb dX0_drawWeather_15 rfl (lv_at hl 0 rfl) ?_
  refine gtX0_46 X hw hq dX0_drawWeather_16 ?_
  refine lv_bipush (v := 8) hx hb dX0_drawWeather_19 (by decide) ?_
  refine lv_iushr hx hb dX0_drawWeather_21 rfl ?_
  refine lv_topi (fun x2 ex2 => ?_)
  replace h := zlt_s ex2 h
  refine lv_bipush (v := 16) hx hb dX0_drawWeather_22 (by decide) ?_
  refine lv_irem hx hb dX0_drawWeather_24 (by decide) ?_
  refine lv_topi (fun x3 ex3 => ?_)
  replace h := zlt_s ex3 h
  refine lv_istore_n (lv' := [(1, .int x3), (0, .ref (a q))]) hx hb dX0_drawWeather_25 rfl hl (by decide) rfl (fun ls hl => ?_)
  refine lv_iload_n hx hb dX0_drawWeather_26 rfl (lv_at hl 0 rfl) ?_
  refine lv_if_ne (tgt := 36) hx hb dX0_drawWeather_27 (by decide) (fun c4 => ?_) (fun c4 => ?_)
  · replace h := zif_f c4 h
    refine lv_iload_n hx hb dX0_drawWeather_36 rfl (lv_at hl 0 rfl) ?_
    refine lv_iconst (v := 3) hx hb dX0_drawWeather_37 (by decide) ?_
    refine lv_icmp_gt (tgt := 59) hx hb dX0_drawWeather_38 (by decide) (fun c5 => ?_) (fun c5 => ?_)
    · replace h := zif_t c5 h
      refine lv_iload_n hx hb dX0_drawWeather_59 rfl (lv_at hl 0 rfl) ?_
      refine lv_bipush (v := 6) hx hb dX0_drawWeather_60 (by decide) ?_
      refine lv_icmp_gt (tgt := 79) hx hb dX0_drawWeather_62 (by decide) (fun c6 => ?_) (fun c6 => ?_)
      · replace h := zif_t c6 h
        refine lv_iconst (v := 0) hx hb dX0_drawWeather_79 (by decide) ?_
        exact z_ri X hw (zret h) dX0_drawWeather_80
      · replace h := zif_f c6 h
        refine lv_aload_n hx hb dX0_drawWeather_65 rfl (lv_at hl 1 rfl) ?_
        refine lv_aload_n hx hb dX0_drawWeather_66 rfl (lv_at hl 1 rfl) ?_
        refine gtX0_75 X hw hq dX0_drawWeather_67 ?_
        refine lv_iconst (v := 1) hx hb dX0_drawWeather_70 (by decide) ?_
        refine lv_isub hx hb dX0_drawWeather_71 ?_
        refine lv_iconst (v := 0) hx hb dX0_drawWeather_72 (by decide) ?_
        refine z_max (rest := [.ref (a q)]) X zm_30_3 zm_13_0 zm_12_7 zm_13_1 hl.1 (Nat.le_of_ble_eq_true rfl) (Nat.le_of_ble_eq_true rfl) hcs dX0_drawWeather_73 ?_
        refine lv_topi (fun x7 ex7 => ?_)
        replace h := zlt_s ex7 h
        refine ptX0_75 X hw hq dX0_drawWeather_76 (fun M8 H locs eM8 hw => ?_)
        replace h := zlt_s eM8 h
        refine lv_iconst (v := 0) hx hb dX0_drawWeather_79 (by decide) ?_
        exact z_ri X hw (zret h) dX0_drawWeather_80
    · replace h := zif_f c5 h
      refine lv_aload_n hx hb dX0_drawWeather_41 rfl (lv_at hl 1 rfl) ?_
      refine lv_aload_n hx hb dX0_drawWeather_42 rfl (lv_at hl 1 rfl) ?_
      refine gtX0_75 X hw hq dX0_drawWeather_43 ?_
      refine lv_iconst (v := 1) hx hb dX0_drawWeather_46 (by decide) ?_
      refine lv_iadd hx hb dX0_drawWeather_47 ?_
      refine lv_bipush (v := 9) hx hb dX0_drawWeather_48 (by decide) ?_
      refine z_min (rest := [.ref (a q)]) X zm_12_5 zm_12_6 zm_12_7 zm_12_8 hl.1 (Nat.le_of_ble_eq_true rfl) (Nat.le_of_ble_eq_true rfl) hcs dX0_drawWeather_50 ?_
      refine lv_topi (fun x9 ex9 => ?_)
      replace h := zlt_s ex9 h
      refine ptX0_75 X hw hq dX0_drawWeather_53 (fun M10 H locs eM10 hw => ?_)
      replace h := zlt_s eM10 h
      refine lv_goto (tgt := 79) hx hb dX0_drawWeather_56 (by decide) ?_
      refine lv_iconst (v := 0) hx hb dX0_drawWeather_79 (by decide) ?_
      exact z_ri X hw (zret h) dX0_drawWeather_80
  · replace h := zif_t c4 h
    refine lv_aload_n hx hb dX0_drawWeather_30 rfl (lv_at hl 1 rfl) ?_
    obtain ⟨M12, f13, h⟩ := zbv_e h
    refine z_qVv (As := []) (rest := []) X hw (kX0_flood l D cy a q hq M1 M12 f13) (cwX0_157 X.2.2.2.2.2.1 rfl rfl (zroomO (Nat.le_of_ble_eq_true rfl) (Nat.le_of_ble_eq_true rfl))) (zX0_lt hq) (zS0 hq cy a (M1 q)) rfl rfl rfl (Nat.le_of_ble_eq_true rfl) hl.1 hcs dX0_drawWeather_31 (fun H locs hw => ?_)
    refine lv_iconst (v := 1) hx hb dX0_drawWeather_34 (by decide) ?_
    exact z_ri X hw (zret h) dX0_drawWeather_35
def fX0_isPaid (q : Nat) (p0 : Int32) (M : zM) : Option (Int32 × zM) := zgd (p0 < 0 ∨ 5 ≤ p0.toNatClampNeg) (zgd (p0 < 0 ∨ 5 ≤ p0.toNatClampNeg) (if M (q + 4) (p0.toNatClampNeg) < M (q + 3) (p0.toNatClampNeg) then (some ((0 : Int32), M)) else (some ((1 : Int32), M))))
set_option maxRecDepth 100000 in
set_option maxHeartbeats 4000000 in
theorem kX0_isPaid (l : Launch) (D : va_G) (cy : Nat → ClassId) (a : Nat → Nat) (q : Nat) (hq : zX0 q) (p0 : Int32) (M : zM) (r0 : Int32) (M0 : zM) (h : fX0_isPaid q p0 M = some (r0, M0)) : zCi l D cy a yX0_isPaid cX0_isPaid 2 (some .boolean) (zRm 0 0) [.ref (a q), .int p0] M (fun r u => r = r0 ∧ u = M0) := by
  intro sz
  refine zent_i sz (by decide) (Nat.le_of_ble_eq_true rfl) rfl (fun p e s m args below meth c ls H locs X hw hl => ?_)
  obtain ⟨hx, hb, hr, hml, hown, hW, hlocks⟩ := id X
  have hE := hw.2.2.2.2.1
  have hcs : 0 ≤ ((zRm 0 0)).cells ∧ 0 ≤ ((zRm 0 0)).slots := ⟨Nat.zero_le _, Nat.zero_le _⟩
  rw [fX0_isPaid] at h
  refine lv_aload_n hx hb dX0_isPaid_0 rfl (lv_at hl 0 rfl) ?_
  refine gtX0_21 X hw hq dX0_isPaid_1 ?_
  refine lv_iload_n hx hb dX0_isPaid_4 rfl (lv_at hl 1 rfl) ?_
  obtain ⟨g1, h⟩ := zgd_e h
  refine z_ald X hw (zI_0_4 hq) g1 dX0_isPaid_5 ?_
  refine lv_aload_n hx hb dX0_isPaid_6 rfl (lv_at hl 0 rfl) ?_
  refine gtX0_18 X hw hq dX0_isPaid_7 ?_
  refine lv_iload_n hx hb dX0_isPaid_10 rfl (lv_at hl 1 rfl) ?_
  obtain ⟨g2, h⟩ := zgd_e h
  refine z_ald X hw (zI_0_3 hq) g2 dX0_isPaid_11 ?_
  refine lv_icmp_lt (tgt := 19) hx hb dX0_isPaid_12 (by decide) (fun c3 => ?_) (fun c3 => ?_)
  · replace h := zif_t c3 h
    refine lv_iconst (v := 0) hx hb dX0_isPaid_19 (by decide) ?_
    exact z_rz X hw (Or.inl rfl) (zret h) dX0_isPaid_20
  · replace h := zif_f c3 h
    refine lv_iconst (v := 1) hx hb dX0_isPaid_15 (by decide) ?_
    refine lv_goto (tgt := 20) hx hb dX0_isPaid_16 (by decide) ?_
    exact z_rz X hw (Or.inr rfl) (zret h) dX0_isPaid_20
def fX0_allArePaid_2 (w0 : Nat) (k : zM → Option (Int32 × zM)) : Nat → Int32 → zM → Option (Int32 × zM)
  | 0, _, _ => none
  | n + 1, v1, M => if (5 : Int32) ≤ v1 then (k  M) else (zbi (fX0_isPaid w0 v1 M) (fun r2 M3 => if r2 = 0 then (some ((0 : Int32), M3)) else (zlt (v1 + (1 : Int32)) (fun x6 => fX0_allArePaid_2 w0 k n x6 M3))))
set_option maxRecDepth 100000 in
set_option maxHeartbeats 4000000 in
theorem lX0_allArePaid_2 {p : Program} {l : Launch} {e : Env} {s : State} {m : MethodId} {args : Array Value} {below : List Frame} {meth : Method} {c : Code} {D : va_G} {cy : Nat → ClassId} {a : Nat → Nat} {r0 : Int32} {M0 : zM} (X : zCX p s m meth c args cX0_allArePaid 2 (some .boolean) RX0) (w0 : Nat) (hw0 : zX0 w0) (k : zM → Option (Int32 × zM)) : ∀ (n : Nat) (v1 : Int32) (M : zM) (H : Heap) (locs : List Loc) (ls : Array Slot), zWD D cy a (zfr a s.heap.size) M H locs s → lv_has ls 2 [(0, .ref (a w0)), (1, .int v1)] → fX0_allArePaid_2 w0 k n v1 M = some (r0, M0) →
    (∀ (M' : zM) (H' : Heap) (locs' : List Loc) (ls' : Array Slot), zWD D cy a (zfr a s.heap.size) M' H' locs' s → lv_has ls' 2 [] → k M' = some (r0, M0) → W p l e (zRm 1 21) s m args below meth c H' locs' 0 0 (zQi D cy a s args below r0 M0) (F0 m 23 ls' [])) →
    W p l e (zRm 1 21) s m args below meth c H locs 0 0 (zQi D cy a s args below r0 M0) (F0 m 2 ls []) := by
  obtain ⟨hx, hb, hr, hml, hown, hW, hlocks⟩ := id X
  have hcs : 0 ≤ ((zRm 1 21)).cells ∧ 0 ≤ ((zRm 1 21)).slots := ⟨Nat.zero_le _, Nat.zero_le _⟩
  intro n
  induction n with
  | zero =>
    intro v1 M H locs ls hw hl h hk
    cases h
  | succ n ih =>
    intro v1 M H locs ls hw hl h hk
    have hE := hw.2.2.2.2.1
    rw [fX0_allArePaid_2] at h
    refine lv_iload_n hx hb dX0_allArePaid_2 rfl (lv_at hl 1 rfl) ?_
    refine lv_iconst (v := 5) hx hb dX0_allArePaid_3 (by decide) ?_
    refine lv_icmp_ge (tgt := 23) hx hb dX0_allArePaid_4 (by decide) (fun c1 => ?_) (fun c1 => ?_)
    · replace h := zif_t c1 h
      exact hk  M H locs _ hw (lv_sub hl [] rfl) h
    · replace h := zif_f c1 h
      refine lv_aload_n hx hb dX0_allArePaid_7 rfl (lv_at hl 0 rfl) ?_
      refine lv_iload_n hx hb dX0_allArePaid_8 rfl (lv_at hl 1 rfl) ?_
      obtain ⟨r2, M3, f4, h⟩ := zbi_e h
      refine z_qVi (As := [.int v1]) (rest := []) X hw (kX0_isPaid l D cy a w0 hw0 v1 M r2 M3 f4) (cwX0_163 X.2.2.2.2.2.1 rfl rfl (zroomO (Nat.le_of_ble_eq_true rfl) (Nat.le_of_ble_eq_true rfl))) (zX0_lt hw0) (zS0 hw0 cy a (M w0)) rfl rfl rfl (Nat.le_of_ble_eq_true rfl) hl.1 hcs dX0_allArePaid_9 (fun H locs hw => ?_)
      refine lv_if_ne (tgt := 17) hx hb dX0_allArePaid_12 (by decide) (fun c5 => ?_) (fun c5 => ?_)
      · replace h := zif_f c5 h
        obtain ⟨x6, ex6⟩ : ∃ y : Int32, y = v1 + (1 : Int32) := ⟨_, rfl⟩
        replace h := zlt_s ex6 h
        refine lv_iinc (v := x6) (lv' := [(1, .int x6), (0, .ref (a w0))]) hx hb dX0_allArePaid_17 hl (k := 1) rfl (by rw [ex6]; rfl) (by decide) rfl (fun ls hl => ?_)
        refine lv_goto (tgt := 2) hx hb dX0_allArePaid_20 (by decide) ?_
        exact ih x6 M3 H locs _ hw (lv_sub hl [1, 0] rfl) h hk
      · replace h := zif_t c5 h
        refine lv_iconst (v := 0) hx hb dX0_allArePaid_15 (by decide) ?_
        exact z_rz X hw (Or.inl rfl) (zret h) dX0_allArePaid_16
def fX0_allArePaid (q : Nat) (M : zM) : Option (Int32 × zM) := fX0_allArePaid_2 q (fun  M7 => some ((1 : Int32), M7)) zF (0 : Int32) M
set_option maxRecDepth 100000 in
set_option maxHeartbeats 4000000 in
theorem kX0_allArePaid (l : Launch) (D : va_G) (cy : Nat → ClassId) (a : Nat → Nat) (q : Nat) (hq : zX0 q) (M : zM) (r0 : Int32) (M0 : zM) (h : fX0_allArePaid q M = some (r0, M0)) : zCi l D cy a yX0_allArePaid cX0_allArePaid 2 (some .boolean) (zRm 1 21) [.ref (a q)] M (fun r u => r = r0 ∧ u = M0) := by
  intro sz
  refine zent_i sz (by decide) (Nat.le_of_ble_eq_true rfl) rfl (fun p e s m args below meth c ls H locs X hw hl => ?_)
  obtain ⟨hx, hb, hr, hml, hown, hW, hlocks⟩ := id X
  have hE := hw.2.2.2.2.1
  have hcs : 0 ≤ ((zRm 1 21)).cells ∧ 0 ≤ ((zRm 1 21)).slots := ⟨Nat.zero_le _, Nat.zero_le _⟩
  rw [fX0_allArePaid] at h
  refine lv_iconst (v := 0) hx hb dX0_allArePaid_0 (by decide) ?_
  refine lv_istore_n (lv' := [(1, .int (0 : Int32)), (0, .ref (a q))]) hx hb dX0_allArePaid_1 rfl hl (by decide) rfl (fun ls hl => ?_)
  refine lX0_allArePaid_2 X q hq _ zF (0 : Int32) M H locs _ hw (lv_sub hl [1, 0] rfl) h (fun  M7 H locs ls hw hl h => ?_)
  refine lv_iconst (v := 1) hx hb dX0_allArePaid_23 (by decide) ?_
  exact z_rz X hw (Or.inr rfl) (zret h) dX0_allArePaid_24
def fX0_prayedOfAll_4 (w0 : Nat) (k : Int32 → zM → Option (Int32 × zM)) : Nat → Int32 → Int32 → zM → Option (Int32 × zM)
  | 0, _, _, _ => none
  | n + 1, v1, v2, M => if (5 : Int32) ≤ v2 then (k v1 M) else (zgd (v2 < 0 ∨ 5 ≤ v2.toNatClampNeg) (zlt (v1 + (M (w0 + 4) (v2.toNatClampNeg))) (fun x3 => zlt (v2 + (1 : Int32)) (fun x4 => fX0_prayedOfAll_4 w0 k n x3 x4 M))))
set_option maxRecDepth 100000 in
set_option maxHeartbeats 4000000 in
theorem lX0_prayedOfAll_4 {p : Program} {l : Launch} {e : Env} {s : State} {m : MethodId} {args : Array Value} {below : List Frame} {meth : Method} {c : Code} {D : va_G} {cy : Nat → ClassId} {a : Nat → Nat} {r0 : Int32} {M0 : zM} (X : zCX p s m meth c args cX0_prayedOfAll 3 (some .int) RX0) (w0 : Nat) (hw0 : zX0 w0) (k : Int32 → zM → Option (Int32 × zM)) : ∀ (n : Nat) (v1 : Int32) (v2 : Int32) (M : zM) (H : Heap) (locs : List Loc) (ls : Array Slot), zWD D cy a (zfr a s.heap.size) M H locs s → lv_has ls 3 [(0, .ref (a w0)), (1, .int v1), (2, .int v2)] → fX0_prayedOfAll_4 w0 k n v1 v2 M = some (r0, M0) →
    (∀ (u1 : Int32) (M' : zM) (H' : Heap) (locs' : List Loc) (ls' : Array Slot), zWD D cy a (zfr a s.heap.size) M' H' locs' s → lv_has ls' 3 [(1, .int u1)] → k u1 M' = some (r0, M0) → W p l e (zRm 0 0) s m args below meth c H' locs' 0 0 (zQi D cy a s args below r0 M0) (F0 m 24 ls' [])) →
    W p l e (zRm 0 0) s m args below meth c H locs 0 0 (zQi D cy a s args below r0 M0) (F0 m 4 ls []) := by
  obtain ⟨hx, hb, hr, hml, hown, hW, hlocks⟩ := id X
  have hcs : 0 ≤ ((zRm 0 0)).cells ∧ 0 ≤ ((zRm 0 0)).slots := ⟨Nat.zero_le _, Nat.zero_le _⟩
  intro n
  induction n with
  | zero =>
    intro v1 v2 M H locs ls hw hl h hk
    cases h
  | succ n ih =>
    intro v1 v2 M H locs ls hw hl h hk
    have hE := hw.2.2.2.2.1
    rw [fX0_prayedOfAll_4] at h
    refine lv_iload_n hx hb dX0_prayedOfAll_4 rfl (lv_at hl 2 rfl) ?_
    refine lv_iconst (v := 5) hx hb dX0_prayedOfAll_5 (by decide) ?_
    refine lv_icmp_ge (tgt := 24) hx hb dX0_prayedOfAll_6 (by decide) (fun c1 => ?_) (fun c1 => ?_)
    · replace h := zif_t c1 h
      exact hk v1 M H locs _ hw (lv_sub hl [1] rfl) h
    · replace h := zif_f c1 h
      refine lv_iload_n hx hb dX0_prayedOfAll_9 rfl (lv_at hl 1 rfl) ?_
      refine lv_aload_n hx hb dX0_prayedOfAll_10 rfl (lv_at hl 0 rfl) ?_
      refine gtX0_21 X hw hw0 dX0_prayedOfAll_11 ?_
      refine lv_iload_n hx hb dX0_prayedOfAll_14 rfl (lv_at hl 2 rfl) ?_
      obtain ⟨g2, h⟩ := zgd_e h
      refine z_ald X hw (zI_0_4 hw0) g2 dX0_prayedOfAll_15 ?_
      refine lv_iadd hx hb dX0_prayedOfAll_16 ?_
      refine lv_topi (fun x3 ex3 => ?_)
      replace h := zlt_s ex3 h
      refine lv_istore_n (lv' := [(1, .int x3), (0, .ref (a w0)), (2, .int v2)]) hx hb dX0_prayedOfAll_17 rfl hl (by decide) rfl (fun ls hl => ?_)
      obtain ⟨x4, ex4⟩ : ∃ y : Int32, y = v2 + (1 : Int32) := ⟨_, rfl⟩
      replace h := zlt_s ex4 h
      refine lv_iinc (v := x4) (lv' := [(2, .int x4), (1, .int x3), (0, .ref (a w0))]) hx hb dX0_prayedOfAll_18 hl (k := 2) rfl (by rw [ex4]; rfl) (by decide) rfl (fun ls hl => ?_)
      refine lv_goto (tgt := 4) hx hb dX0_prayedOfAll_21 (by decide) ?_
      exact ih x3 x4 M H locs _ hw (lv_sub hl [2, 1, 0] rfl) h hk
def fX0_prayedOfAll (q : Nat) (M : zM) : Option (Int32 × zM) := fX0_prayedOfAll_4 q (fun x5 M6 => some (x5, M6)) zF (0 : Int32) (0 : Int32) M
set_option maxRecDepth 100000 in
set_option maxHeartbeats 4000000 in
theorem kX0_prayedOfAll (l : Launch) (D : va_G) (cy : Nat → ClassId) (a : Nat → Nat) (q : Nat) (hq : zX0 q) (M : zM) (r0 : Int32) (M0 : zM) (h : fX0_prayedOfAll q M = some (r0, M0)) : zCi l D cy a yX0_prayedOfAll cX0_prayedOfAll 3 (some .int) (zRm 0 0) [.ref (a q)] M (fun r u => r = r0 ∧ u = M0) := by
  intro sz
  refine zent_i sz (by decide) (Nat.le_of_ble_eq_true rfl) rfl (fun p e s m args below meth c ls H locs X hw hl => ?_)
  obtain ⟨hx, hb, hr, hml, hown, hW, hlocks⟩ := id X
  have hE := hw.2.2.2.2.1
  have hcs : 0 ≤ ((zRm 0 0)).cells ∧ 0 ≤ ((zRm 0 0)).slots := ⟨Nat.zero_le _, Nat.zero_le _⟩
  rw [fX0_prayedOfAll] at h
  refine lv_iconst (v := 0) hx hb dX0_prayedOfAll_0 (by decide) ?_
  refine lv_istore_n (lv' := [(1, .int (0 : Int32)), (0, .ref (a q))]) hx hb dX0_prayedOfAll_1 rfl hl (by decide) rfl (fun ls hl => ?_)
  refine lv_iconst (v := 0) hx hb dX0_prayedOfAll_2 (by decide) ?_
  refine lv_istore_n (lv' := [(2, .int (0 : Int32)), (1, .int (0 : Int32)), (0, .ref (a q))]) hx hb dX0_prayedOfAll_3 rfl hl (by decide) rfl (fun ls hl => ?_)
  refine lX0_prayedOfAll_4 X q hq _ zF (0 : Int32) (0 : Int32) M H locs _ hw (lv_sub hl [2, 1, 0] rfl) h (fun x5 M6 H locs ls hw hl h => ?_)
  refine lv_iload_n hx hb dX0_prayedOfAll_24 rfl (lv_at hl 0 rfl) ?_
  exact z_ri X hw (zret h) dX0_prayedOfAll_25
def fX0_wheelsFor_4 (w0 : Nat) (y1 : Int32) (k : Int32 → zM → Option (Int32 × zM)) : Nat → Int32 → Int32 → zM → Option (Int32 × zM)
  | 0, _, _, _ => none
  | n + 1, v2, v3, M => if M w0 9 ≤ v3 then (k v2 M) else (zgd (v3 < 0 ∨ 8 ≤ v3.toNatClampNeg) (zlt ((w0 + 8) + v3.toNatClampNeg) (fun w3 => if M w3 3 = y1 then (zlt (v2 + (1 : Int32)) (fun x6 => zlt (v3 + (1 : Int32)) (fun x7 => fX0_wheelsFor_4 w0 y1 k n x6 x7 M))) else (zlt (v3 + (1 : Int32)) (fun x5 => fX0_wheelsFor_4 w0 y1 k n v2 x5 M)))))
set_option maxRecDepth 100000 in
set_option maxHeartbeats 4000000 in
theorem lX0_wheelsFor_4 {p : Program} {l : Launch} {e : Env} {s : State} {m : MethodId} {args : Array Value} {below : List Frame} {meth : Method} {c : Code} {D : va_G} {cy : Nat → ClassId} {a : Nat → Nat} {r0 : Int32} {M0 : zM} (X : zCX p s m meth c args cX0_wheelsFor 4 (some .int) RX0) (w0 : Nat) (y1 : Int32) (hw0 : zX0 w0) (k : Int32 → zM → Option (Int32 × zM)) : ∀ (n : Nat) (v2 : Int32) (v3 : Int32) (M : zM) (H : Heap) (locs : List Loc) (ls : Array Slot), zWD D cy a (zfr a s.heap.size) M H locs s → lv_has ls 4 [(0, .ref (a w0)), (1, .int y1), (2, .int v2), (3, .int v3)] → fX0_wheelsFor_4 w0 y1 k n v2 v3 M = some (r0, M0) →
    (∀ (u2 : Int32) (M' : zM) (H' : Heap) (locs' : List Loc) (ls' : Array Slot), zWD D cy a (zfr a s.heap.size) M' H' locs' s → lv_has ls' 4 [(2, .int u2)] → k u2 M' = some (r0, M0) → W p l e (zRm 0 0) s m args below meth c H' locs' 0 0 (zQi D cy a s args below r0 M0) (F0 m 34 ls' [])) →
    W p l e (zRm 0 0) s m args below meth c H locs 0 0 (zQi D cy a s args below r0 M0) (F0 m 4 ls []) := by
  obtain ⟨hx, hb, hr, hml, hown, hW, hlocks⟩ := id X
  have hcs : 0 ≤ ((zRm 0 0)).cells ∧ 0 ≤ ((zRm 0 0)).slots := ⟨Nat.zero_le _, Nat.zero_le _⟩
  intro n
  induction n with
  | zero =>
    intro v2 v3 M H locs ls hw hl h hk
    cases h
  | succ n ih =>
    intro v2 v3 M H locs ls hw hl h hk
    have hE := hw.2.2.2.2.1
    rw [fX0_wheelsFor_4] at h
    refine lv_iload_n hx hb dX0_wheelsFor_4 rfl (lv_at hl 3 rfl) ?_
    refine lv_aload_n hx hb dX0_wheelsFor_5 rfl (lv_at hl 0 rfl) ?_
    refine gtX0_57 X hw hw0 dX0_wheelsFor_6 ?_
    refine lv_icmp_ge (tgt := 34) hx hb dX0_wheelsFor_9 (by decide) (fun c1 => ?_) (fun c1 => ?_)
    · replace h := zif_t c1 h
      exact hk v2 M H locs _ hw (lv_sub hl [2] rfl) h
    · replace h := zif_f c1 h
      refine lv_aload_n hx hb dX0_wheelsFor_12 rfl (lv_at hl 0 rfl) ?_
      refine gtX0_26 X hw hw0 dX0_wheelsFor_13 ?_
      refine lv_iload_n hx hb dX0_wheelsFor_16 rfl (lv_at hl 3 rfl) ?_
      obtain ⟨g2, h⟩ := zgd_e h
      refine z_aldW X hw (zRW_0_5 hw0) g2 dX0_wheelsFor_17 (fun w3 ew3 hw3 => ?_)
      replace h := zlt_s ew3 h
      refine gtX0_87 X hw hw3 dX0_wheelsFor_18 ?_
      refine lv_iload_n hx hb dX0_wheelsFor_21 rfl (lv_at hl 1 rfl) ?_
      refine lv_icmp_ne (tgt := 28) hx hb dX0_wheelsFor_22 (by decide) (fun c4 => ?_) (fun c4 => ?_)
      · replace h := zif_f c4 h
        obtain ⟨x5, ex5⟩ : ∃ y : Int32, y = v3 + (1 : Int32) := ⟨_, rfl⟩
        replace h := zlt_s ex5 h
        refine lv_iinc (v := x5) (lv' := [(3, .int x5), (0, .ref (a w0)), (1, .int y1), (2, .int v2)]) hx hb dX0_wheelsFor_28 hl (k := 3) rfl (by rw [ex5]; rfl) (by decide) rfl (fun ls hl => ?_)
        refine lv_goto (tgt := 4) hx hb dX0_wheelsFor_31 (by decide) ?_
        exact ih v2 x5 M H locs _ hw (lv_sub hl [1, 2, 3, 0] rfl) h hk
      · replace h := zif_t c4 h
        obtain ⟨x6, ex6⟩ : ∃ y : Int32, y = v2 + (1 : Int32) := ⟨_, rfl⟩
        replace h := zlt_s ex6 h
        refine lv_iinc (v := x6) (lv' := [(2, .int x6), (0, .ref (a w0)), (1, .int y1), (3, .int v3)]) hx hb dX0_wheelsFor_25 hl (k := 2) rfl (by rw [ex6]; rfl) (by decide) rfl (fun ls hl => ?_)
        obtain ⟨x7, ex7⟩ : ∃ y : Int32, y = v3 + (1 : Int32) := ⟨_, rfl⟩
        replace h := zlt_s ex7 h
        refine lv_iinc (v := x7) (lv' := [(3, .int x7), (2, .int x6), (0, .ref (a w0)), (1, .int y1)]) hx hb dX0_wheelsFor_28 hl (k := 3) rfl (by rw [ex7]; rfl) (by decide) rfl (fun ls hl => ?_)
        refine lv_goto (tgt := 4) hx hb dX0_wheelsFor_31 (by decide) ?_
        exact ih x6 x7 M H locs _ hw (lv_sub hl [2, 3, 1, 0] rfl) h hk
def fX0_wheelsFor (q : Nat) (p0 : Int32) (M : zM) : Option (Int32 × zM) := fX0_wheelsFor_4 q p0 (fun x8 M9 => some (x8, M9)) zF (0 : Int32) (0 : Int32) M
set_option maxRecDepth 100000 in
set_option maxHeartbeats 4000000 in
theorem kX0_wheelsFor (l : Launch) (D : va_G) (cy : Nat → ClassId) (a : Nat → Nat) (q : Nat) (hq : zX0 q) (p0 : Int32) (M : zM) (r0 : Int32) (M0 : zM) (h : fX0_wheelsFor q p0 M = some (r0, M0)) : zCi l D cy a yX0_wheelsFor cX0_wheelsFor 4 (some .int) (zRm 0 0) [.ref (a q), .int p0] M (fun r u => r = r0 ∧ u = M0) := by
  intro sz
  refine zent_i sz (by decide) (Nat.le_of_ble_eq_true rfl) rfl (fun p e s m args below meth c ls H locs X hw hl => ?_)
  obtain ⟨hx, hb, hr, hml, hown, hW, hlocks⟩ := id X
  have hE := hw.2.2.2.2.1
  have hcs : 0 ≤ ((zRm 0 0)).cells ∧ 0 ≤ ((zRm 0 0)).slots := ⟨Nat.zero_le _, Nat.zero_le _⟩
  rw [fX0_wheelsFor] at h
  refine lv_iconst (v := 0) hx hb dX0_wheelsFor_0 (by decide) ?_
  refine lv_istore_n (lv' := [(2, .int (0 : Int32)), (0, .ref (a q)), (1, .int p0)]) hx hb dX0_wheelsFor_1 rfl hl (by decide) rfl (fun ls hl => ?_)
  refine lv_iconst (v := 0) hx hb dX0_wheelsFor_2 (by decide) ?_
  refine lv_istore_n (lv' := [(3, .int (0 : Int32)), (2, .int (0 : Int32)), (0, .ref (a q)), (1, .int p0)]) hx hb dX0_wheelsFor_3 rfl hl (by decide) rfl (fun ls hl => ?_)
  refine lX0_wheelsFor_4 X q p0 hq _ zF (0 : Int32) (0 : Int32) M H locs _ hw (lv_sub hl [2, 3, 1, 0] rfl) h (fun x8 M9 H locs ls hw hl h => ?_)
  refine lv_iload_n hx hb dX0_wheelsFor_34 rfl (lv_at hl 0 rfl) ?_
  exact z_ri X hw (zret h) dX0_wheelsFor_35
def fX0_familyPart (q : Nat) (p0 : Int32) (p1 : Int32) (M : zM) : Option (Int32 × zM) := if p1 = (0 : Int32) then (zgd (p0 < 0 ∨ 5 ≤ p0.toNatClampNeg) (some (M (q + 3) (p0.toNatClampNeg), M))) else (if p1 = (1 : Int32) then (zgd (p0 < 0 ∨ 5 ≤ p0.toNatClampNeg) (some (M (q + 4) (p0.toNatClampNeg), M))) else (if p1 = (2 : Int32) then (zbi (fX0_isPaid q p0 M) (fun r6 M7 => if r6 = 0 then (some ((0 : Int32), M7)) else (some ((1 : Int32), M7)))) else (zbi (fX0_wheelsFor q p0 M) (fun r10 M11 => some (r10, M11)))))
set_option maxRecDepth 100000 in
set_option maxHeartbeats 4000000 in
theorem kX0_familyPart (l : Launch) (D : va_G) (cy : Nat → ClassId) (a : Nat → Nat) (q : Nat) (hq : zX0 q) (p0 : Int32) (p1 : Int32) (M : zM) (r0 : Int32) (M0 : zM) (h : fX0_familyPart q p0 p1 M = some (r0, M0)) : zCi l D cy a yX0_familyPart cX0_familyPart 3 (some .int) (zRm 1 23) [.ref (a q), .int p0, .int p1] M (fun r u => r = r0 ∧ u = M0) := by
  intro sz
  refine zent_i sz (by decide) (Nat.le_of_ble_eq_true rfl) rfl (fun p e s m args below meth c ls H locs X hw hl => ?_)
  obtain ⟨hx, hb, hr, hml, hown, hW, hlocks⟩ := id X
  have hE := hw.2.2.2.2.1
  have hcs : 0 ≤ ((zRm 1 23)).cells ∧ 0 ≤ ((zRm 1 23)).slots := ⟨Nat.zero_le _, Nat.zero_le _⟩
  rw [fX0_familyPart] at h
  refine lv_iload_n hx hb dX0_familyPart_0 rfl (lv_at hl 2 rfl) ?_
  by_cases c1 : p1 = (0 : Int32)
  · replace h := zif_t c1 h
    refine lv_tableIn (off := 27) (tgt := 28) hx hb dX0_familyPart_1 (by rw [c1]; decide) (by rw [c1]; decide) (by rw [c1]; rfl) (by decide) ?_
    refine lv_aload_n hx hb dX0_familyPart_28 rfl (lv_at hl 0 rfl) ?_
    refine gtX0_18 X hw hq dX0_familyPart_29 ?_
    refine lv_iload_n hx hb dX0_familyPart_32 rfl (lv_at hl 1 rfl) ?_
    obtain ⟨g2, h⟩ := zgd_e h
    refine z_ald X hw (zI_0_3 hq) g2 dX0_familyPart_33 ?_
    exact z_ri X hw (zret h) dX0_familyPart_34
  replace h := zif_f c1 h
  by_cases c3 : p1 = (1 : Int32)
  · replace h := zif_t c3 h
    refine lv_tableIn (off := 34) (tgt := 35) hx hb dX0_familyPart_1 (by rw [c3]; decide) (by rw [c3]; decide) (by rw [c3]; rfl) (by decide) ?_
    refine lv_aload_n hx hb dX0_familyPart_35 rfl (lv_at hl 0 rfl) ?_
    refine gtX0_21 X hw hq dX0_familyPart_36 ?_
    refine lv_iload_n hx hb dX0_familyPart_39 rfl (lv_at hl 1 rfl) ?_
    obtain ⟨g4, h⟩ := zgd_e h
    refine z_ald X hw (zI_0_4 hq) g4 dX0_familyPart_40 ?_
    exact z_ri X hw (zret h) dX0_familyPart_41
  replace h := zif_f c3 h
  by_cases c5 : p1 = (2 : Int32)
  · replace h := zif_t c5 h
    refine lv_tableIn (off := 41) (tgt := 42) hx hb dX0_familyPart_1 (by rw [c5]; decide) (by rw [c5]; decide) (by rw [c5]; rfl) (by decide) ?_
    refine lv_aload_n hx hb dX0_familyPart_42 rfl (lv_at hl 0 rfl) ?_
    refine lv_iload_n hx hb dX0_familyPart_43 rfl (lv_at hl 1 rfl) ?_
    obtain ⟨r6, M7, f8, h⟩ := zbi_e h
    refine z_qVi (As := [.int p0]) (rest := []) X hw (kX0_isPaid l D cy a q hq p0 M r6 M7 f8) (cwX0_163 X.2.2.2.2.2.1 rfl rfl (zroomO (Nat.le_of_ble_eq_true rfl) (Nat.le_of_ble_eq_true rfl))) (zX0_lt hq) (zS0 hq cy a (M q)) rfl rfl rfl (Nat.le_of_ble_eq_true rfl) hl.1 hcs dX0_familyPart_44 (fun H locs hw => ?_)
    refine lv_if_eq (tgt := 54) hx hb dX0_familyPart_47 (by decide) (fun c9 => ?_) (fun c9 => ?_)
    · replace h := zif_t c9 h
      refine lv_iconst (v := 0) hx hb dX0_familyPart_54 (by decide) ?_
      exact z_ri X hw (zret h) dX0_familyPart_55
    · replace h := zif_f c9 h
      refine lv_iconst (v := 1) hx hb dX0_familyPart_50 (by decide) ?_
      refine lv_goto (tgt := 55) hx hb dX0_familyPart_51 (by decide) ?_
      exact z_ri X hw (zret h) dX0_familyPart_55
  replace h := zif_f c5 h
  refine lv_tableOut (tgt := 56) hx hb dX0_familyPart_1 (by have tc1 := lv_neT c1 (a := 0) rfl; have tc3 := lv_neT c3 (a := 1) rfl; have tc5 := lv_neT c5 (a := 2) rfl; omega) (by decide) ?_
  refine lv_aload_n hx hb dX0_familyPart_56 rfl (lv_at hl 0 rfl) ?_
  refine lv_iload_n hx hb dX0_familyPart_57 rfl (lv_at hl 1 rfl) ?_
  obtain ⟨r10, M11, f12, h⟩ := zbi_e h
  refine z_qVi (As := [.int p0]) (rest := []) X hw (kX0_wheelsFor l D cy a q hq p0 M r10 M11 f12) (cwX0_167 X.2.2.2.2.2.1 rfl rfl (zroomO (Nat.le_of_ble_eq_true rfl) (Nat.le_of_ble_eq_true rfl))) (zX0_lt hq) (zS0 hq cy a (M q)) rfl rfl rfl (Nat.le_of_ble_eq_true rfl) hl.1 hcs dX0_familyPart_58 (fun H locs hw => ?_)
  exact z_ri X hw (zret h) dX0_familyPart_61
def fX0_wheelPart (q : Nat) (p0 : Int32) (p1 : Int32) (M : zM) : Option (Int32 × zM) := zgd (p0 < 0 ∨ 8 ≤ p0.toNatClampNeg) (zlt ((q + 8) + p0.toNatClampNeg) (fun w2 => if (7 : Int32) ≤ p1 then (zbv (fX0_letFlow q M) (fun M5 => if p1 = (7 : Int32) then (some (M5 w2 7, M5)) else (zbi (fX0_turnsBy q w2 (M5 w2 7) M5) (fun r8 M9 => if p1 = (8 : Int32) then (some (r8, M9)) else (zbi (fX0_showsBy w2 (M9 w2 7) r8 M9) (fun r12 M13 => some (r12, M13))))))) else (zbi (fX6_part w2 p1 M) (fun r15 M16 => some (r15, M16)))))
set_option maxRecDepth 100000 in
set_option maxHeartbeats 4000000 in
theorem kX0_wheelPart (l : Launch) (D : va_G) (cy : Nat → ClassId) (a : Nat → Nat) (q : Nat) (hq : zX0 q) (p0 : Int32) (p1 : Int32) (M : zM) (r0 : Int32) (M0 : zM) (h : fX0_wheelPart q p0 p1 M = some (r0, M0)) : zCi l D cy a yX0_wheelPart cX0_wheelPart 5 (some .int) (zRm 5 115) [.ref (a q), .int p0, .int p1] M (fun r u => r = r0 ∧ u = M0) := by
  intro sz
  refine zent_i sz (by decide) (Nat.le_of_ble_eq_true rfl) rfl (fun p e s m args below meth c ls H locs X hw hl => ?_)
  obtain ⟨hx, hb, hr, hml, hown, hW, hlocks⟩ := id X
  have hE := hw.2.2.2.2.1
  have hcs : 0 ≤ ((zRm 5 115)).cells ∧ 0 ≤ ((zRm 5 115)).slots := ⟨Nat.zero_le _, Nat.zero_le _⟩
  rw [fX0_wheelPart] at h
  refine lv_aload_n hx hb dX0_wheelPart_0 rfl (lv_at hl 0 rfl) ?_
  refine gtX0_26 X hw hq dX0_wheelPart_1 ?_
  refine lv_iload_n hx hb dX0_wheelPart_4 rfl (lv_at hl 1 rfl) ?_
  obtain ⟨g1, h⟩ := zgd_e h
  refine z_aldW X hw (zRW_0_5 hq) g1 dX0_wheelPart_5 (fun w2 ew2 hw2 => ?_)
  replace h := zlt_s ew2 h
  refine lv_astore_n (lv' := [(3, .ref (a w2)), (0, .ref (a q)), (1, .int p0), (2, .int p1)]) hx hb dX0_wheelPart_6 rfl hl (by decide) rfl (fun ls hl => ?_)
  refine lv_iload_n hx hb dX0_wheelPart_7 rfl (lv_at hl 3 rfl) ?_
  refine lv_bipush (v := 7) hx hb dX0_wheelPart_8 (by decide) ?_
  refine lv_icmp_ge (tgt := 19) hx hb dX0_wheelPart_10 (by decide) (fun c3 => ?_) (fun c3 => ?_)
  · replace h := zif_t c3 h
    refine lv_aload_n hx hb dX0_wheelPart_19 rfl (lv_at hl 1 rfl) ?_
    obtain ⟨M5, f6, h⟩ := zbv_e h
    refine z_qVv (As := []) (rest := []) X hw (kX0_letFlow l D cy a q hq M M5 f6) (cwX0_136 X.2.2.2.2.2.1 rfl rfl (zroomO (Nat.le_of_ble_eq_true rfl) (Nat.le_of_ble_eq_true rfl))) (zX0_lt hq) (zS0 hq cy a (M q)) rfl rfl rfl (Nat.le_of_ble_eq_true rfl) hl.1 hcs dX0_wheelPart_20 (fun H locs hw => ?_)
    refine lv_iload_n hx hb dX0_wheelPart_23 rfl (lv_at hl 3 rfl) ?_
    refine lv_bipush (v := 7) hx hb dX0_wheelPart_24 (by decide) ?_
    refine lv_icmp_ne (tgt := 34) hx hb dX0_wheelPart_26 (by decide) (fun c7 => ?_) (fun c7 => ?_)
    · replace h := zif_f c7 h
      refine lv_aload_n hx hb dX0_wheelPart_34 rfl (lv_at hl 1 rfl) ?_
      refine lv_aload_n hx hb dX0_wheelPart_35 rfl (lv_at hl 0 rfl) ?_
      refine lv_aload_n hx hb dX0_wheelPart_36 rfl (lv_at hl 0 rfl) ?_
      refine gtX0_116 X hw hw2 dX0_wheelPart_37 ?_
      obtain ⟨r8, M9, f10, h⟩ := zbi_e h
      refine z_qVi (As := [.ref (a w2), .int (M5 w2 7)]) (rest := []) X hw (kX0_turnsBy l D cy a q hq w2 hw2 (M5 w2 7) M5 r8 M9 f10) (cwX0_139 X.2.2.2.2.2.1 rfl rfl (zroomO (Nat.le_of_ble_eq_true rfl) (Nat.le_of_ble_eq_true rfl))) (zX0_lt hq) (zS0 hq cy a (M5 q)) rfl rfl rfl (Nat.le_of_ble_eq_true rfl) hl.1 hcs dX0_wheelPart_40 (fun H locs hw => ?_)
      refine lv_istore (lv' := [(4, .int r8), (3, .ref (a w2)), (0, .ref (a q)), (1, .int p0), (2, .int p1)]) hx hb dX0_wheelPart_43 hl (by decide) rfl (fun ls hl => ?_)
      refine lv_iload_n hx hb dX0_wheelPart_45 rfl (lv_at hl 4 rfl) ?_
      refine lv_bipush (v := 8) hx hb dX0_wheelPart_46 (by decide) ?_
      refine lv_icmp_ne (tgt := 56) hx hb dX0_wheelPart_48 (by decide) (fun c11 => ?_) (fun c11 => ?_)
      · replace h := zif_f c11 h
        refine lv_aload_n hx hb dX0_wheelPart_56 rfl (lv_at hl 1 rfl) ?_
        refine lv_aload_n hx hb dX0_wheelPart_57 rfl (lv_at hl 1 rfl) ?_
        refine gtX0_116 X hw hw2 dX0_wheelPart_58 ?_
        refine lv_iload hx hb dX0_wheelPart_61 (lv_at hl 0 rfl) ?_
        obtain ⟨r12, M13, f14, h⟩ := zbi_e h
        refine z_qSi (As := [.ref (a w2), .int (M9 w2 7), .int r8]) (rest := []) X hw (kX0_showsBy l D cy a w2 hw2 (M9 w2 7) r8 M9 r12 M13 f14) (cwX0_148 X.2.2.2.2.2.1 rfl rfl (zroomO (Nat.le_of_ble_eq_true rfl) (Nat.le_of_ble_eq_true rfl))) rfl rfl (Nat.le_of_ble_eq_true rfl) hl.1 hcs dX0_wheelPart_63 (fun H locs hw => ?_)
        exact z_ri X hw (zret h) dX0_wheelPart_66
      · replace h := zif_t c11 h
        refine lv_iload hx hb dX0_wheelPart_51 (lv_at hl 0 rfl) ?_
        refine lv_goto (tgt := 66) hx hb dX0_wheelPart_53 (by decide) ?_
        exact z_ri X hw (zret h) dX0_wheelPart_66
    · replace h := zif_t c7 h
      refine lv_aload_n hx hb dX0_wheelPart_29 rfl (lv_at hl 0 rfl) ?_
      refine gtX0_116 X hw hw2 dX0_wheelPart_30 ?_
      exact z_ri X hw (zret h) dX0_wheelPart_33
  · replace h := zif_f c3 h
    refine lv_aload_n hx hb dX0_wheelPart_13 rfl (lv_at hl 0 rfl) ?_
    refine lv_iload_n hx hb dX0_wheelPart_14 rfl (lv_at hl 3 rfl) ?_
    obtain ⟨r15, M16, f17, h⟩ := zbi_e h
    refine z_qVi (As := [.int p1]) (rest := []) X hw (kX6_part l D cy a w2 hw2 p1 M r15 M16 f17) (cwX0_171 X.2.2.2.2.2.1 rfl rfl (zroomO (Nat.le_of_ble_eq_true rfl) (Nat.le_of_ble_eq_true rfl))) (zX6_lt hw2) (zS6 hw2 cy a (M w2)) rfl rfl rfl (Nat.le_of_ble_eq_true rfl) hl.1 hcs dX0_wheelPart_15 (fun H locs hw => ?_)
    exact z_ri X hw (zret h) dX0_wheelPart_18
theorem gX0_law (q : Nat) (p0 : Int32) (M : zM) (hq : zX0 q) {r : Nat} {M0 : zM} (h : fX0_law q p0 M = some (r, M0)) : zX2 r := by
  rw [fX0_law] at h
  by_cases c : p0 = 0
  · rw [if_pos c] at h
    cases h
    exact zX2_0_16 hq
  · rw [if_neg c] at h
    cases h
    exact zX2_0_19 hq
