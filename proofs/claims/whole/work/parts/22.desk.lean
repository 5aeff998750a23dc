def fX1_addBytes_3 (w0 : Nat) (y1 : Int64) (y3 : Int32) (k : zM → Option (zM)) : Nat → Int32 → zM → Option (zM)
  | 0, _, _ => none
  | n + 1, v4, M => if y3 ≤ v4 then (k  M) else (if (60 : Int32) ≤ M w0 2 then (k  M) else (zlt (zlushr y1 ((8 : Int32) * v4)) (fun x3 => zgd (M w0 2 < 0 ∨ 60 ≤ (M w0 2).toNatClampNeg) (zlt (zst M (w0 + 1) ((M w0 2).toNatClampNeg) (vp_nar .byte x3.toInt32.toInt8.toInt32)) (fun M4 => zlt (zst M4 w0 2 ((M4 w0 2) + (1 : Int32))) (fun M6 => zlt (v4 + (1 : Int32)) (fun x7 => fX1_addBytes_3 w0 y1 y3 k n x7 M6)))))))
set_option maxRecDepth 100000 in
set_option maxHeartbeats 4000000 in
theorem lX1_addBytes_3 {p : Program} {l : Launch} {e : Env} {s : State} {m : MethodId} {args : Array Value} {below : List Frame} {meth : Method} {c : Code} {D : va_G} {cy : Nat → ClassId} {a : Nat → Nat} {M0 : zM} (X : zCX p s m meth c args cX1_addBytes 5 none RX1) (w0 : Nat) (y1 : Int64) (y3 : Int32) (hw0 : zX1 w0) (k : zM → Option (zM)) : ∀ (n : Nat) (v4 : Int32) (M : zM) (H : Heap) (locs : List Loc) (ls : Array Slot), zWD D cy a (zfr a s.heap.size) M H locs s → lv_has ls 5 [(0, .ref (a w0)), (1, .long y1), (3, .int y3), (4, .int v4)] → fX1_addBytes_3 w0 y1 y3 k n v4 M = some M0 →
    (∀ (M' : zM) (H' : Heap) (locs' : List Loc) (ls' : Array Slot), zWD D cy a (zfr a s.heap.size) M' H' locs' s → lv_has ls' 5 [] → k M' = some M0 → W p l e (zRm 0 0) s m args below meth c H' locs' 0 0 (zQv D cy a s args below M0) (F0 m 52 ls' [])) →
    W p l e (zRm 0 0) s m args below meth c H locs 0 0 (zQv D cy a s args below M0) (F0 m 3 ls []) := by
  obtain ⟨hx, hb, hr, hml, hown, hW, hlocks⟩ := id X
  have hcs : 0 ≤ ((zRm 0 0)).cells ∧ 0 ≤ ((zRm 0 0)).slots := ⟨Nat.zero_le _, Nat.zero_le _⟩
  intro n
  induction n with
  | zero =>
    intro v4 M H locs ls hw hl h hk
    cases h
  | succ n ih =>
    intro v4 M H locs ls hw hl h hk
    have hE := hw.2.2.2.2.1
    rw [fX1_addBytes_3] at h
    refine lv_iload hx hb dX1_addBytes_3 (lv_at hl 3 rfl) ?_
    refine lv_iload_n hx hb dX1_addBytes_5 rfl (lv_at hl 2 rfl) ?_
    refine lv_icmp_ge (tgt := 52) hx hb dX1_addBytes_6 (by decide) (fun c1 => ?_) (fun c1 => ?_)
    · replace h := zif_t c1 h
      exact hk  M H locs _ hw (lv_sub hl [] rfl) h
    · replace h := zif_f c1 h
      refine lv_aload_n hx hb dX1_addBytes_9 rfl (lv_at hl 0 rfl) ?_
      refine gtX1_19 X hw hw0 dX1_addBytes_10 ?_
      refine lv_bipush (v := 60) hx hb dX1_addBytes_13 (by decide) ?_
      refine lv_icmp_ge (tgt := 52) hx hb dX1_addBytes_15 (by decide) (fun c2 => ?_) (fun c2 => ?_)
      · replace h := zif_t c2 h
        exact hk  M H locs _ hw (lv_sub hl [] rfl) h
      · replace h := zif_f c2 h
        refine lv_aload_n hx hb dX1_addBytes_18 rfl (lv_at hl 0 rfl) ?_
        refine gtX1_9 X hw hw0 dX1_addBytes_19 ?_
        refine lv_aload_n hx hb dX1_addBytes_22 rfl (lv_at hl 0 rfl) ?_
        refine gtX1_19 X hw hw0 dX1_addBytes_23 ?_
        refine lv_lload_n hx hb dX1_addBytes_26 rfl (lv_at hl 1 rfl) ?_
        refine lv_bipush (v := 8) hx hb dX1_addBytes_27 (by decide) ?_
        refine lv_iload hx hb dX1_addBytes_29 (lv_at hl 3 rfl) ?_
        refine lv_imul hx hb dX1_addBytes_31 ?_
        refine lv_lushr hx hb dX1_addBytes_32 rfl ?_
        refine lv_topl (fun x3 ex3 => ?_)
        replace h := zlt_s ex3 h
        refine lv_l2i hx hb dX1_addBytes_33 rfl ?_
        refine lv_i2b hx hb dX1_addBytes_34 rfl ?_
        obtain ⟨g5, h⟩ := zgd_e h
        refine z_bast X hw (zB_1_1 hw0) g5 dX1_addBytes_35 (fun M4 H locs eM4 hw => ?_)
        replace h := zlt_s eM4 h
        refine lv_aload_n hx hb dX1_addBytes_36 rfl (lv_at hl 0 rfl) ?_
        refine lv_dup hx hb dX1_addBytes_37 rfl ?_
        refine gtX1_19 X hw hw0 dX1_addBytes_38 ?_
        refine lv_iconst (v := 1) hx hb dX1_addBytes_41 (by decide) ?_
        refine lv_iadd hx hb dX1_addBytes_42 ?_
        refine ptX1_19 X hw hw0 dX1_addBytes_43 (fun M6 H locs eM6 hw => ?_)
        replace h := zlt_s eM6 h
        obtain ⟨x7, ex7⟩ : ∃ y : Int32, y = v4 + (1 : Int32) := ⟨_, rfl⟩
        replace h := zlt_s ex7 h
        refine lv_iinc (v := x7) (lv' := [(4, .int x7), (0, .ref (a w0)), (1, .long y1), (3, .int y3)]) hx hb dX1_addBytes_46 hl (k := 3) rfl (by rw [ex7]; rfl) (by decide) rfl (fun ls hl => ?_)
        refine lv_goto (tgt := 3) hx hb dX1_addBytes_49 (by decide) ?_
        exact ih x7 M6 H locs _ hw (lv_sub hl [1, 2, 3, 0] rfl) h hk
def fX1_addBytes (q : Nat) (p0 : Int64) (p1 : Int32) (M : zM) : Option (zM) := fX1_addBytes_3 q p0 p1 (fun  M8 => some M8) zF (0 : Int32) M
set_option maxRecDepth 100000 in
set_option maxHeartbeats 4000000 in
theorem kX1_addBytes (l : Launch) (D : va_G) (cy : Nat → ClassId) (a : Nat → Nat) (q : Nat) (hq : zX1 q) (p0 : Int64) (p1 : Int32) (M : zM) (M0 : zM) (h : fX1_addBytes q p0 p1 M = some M0) : zCv l D cy a yX1_addBytes cX1_addBytes 5 (zRm 0 0) [.ref (a q), .long p0, .int p1] M (fun u => u = M0) := by
  intro sz
  refine zent_v sz (by decide) (Nat.le_of_ble_eq_true rfl) rfl (fun p e s m args below meth c ls H locs X hw hl => ?_)
  obtain ⟨hx, hb, hr, hml, hown, hW, hlocks⟩ := id X
  have hE := hw.2.2.2.2.1
  have hcs : 0 ≤ ((zRm 0 0)).cells ∧ 0 ≤ ((zRm 0 0)).slots := ⟨Nat.zero_le _, Nat.zero_le _⟩
  rw [fX1_addBytes] at h
  refine lv_iconst (v := 0) hx hb dX1_addBytes_0 (by decide) ?_
  refine lv_istore (lv' := [(4, .int (0 : Int32)), (0, .ref (a q)), (1, .long p0), (3, .int p1)]) hx hb dX1_addBytes_1 hl (by decide) rfl (fun ls hl => ?_)
  refine lX1_addBytes_3 X q p0 p1 hq _ zF (0 : Int32) M H locs _ hw (lv_sub hl [1, 2, 3, 0] rfl) h (fun  M8 H locs ls hw hl h => ?_)
  exact z_rv X hw (zretv h) dX1_addBytes_52
def fX1_copyFrom (q : Nat) (q0 : Nat) (M : zM) : Option (zM) := zgd ((0 : Int32) < 0 ∨ (0 : Int32) < 0 ∨ (60 : Int32) < 0 ∨ 60 < (0 : Int32).toNatClampNeg + (60 : Int32).toNatClampNeg ∨ 60 < (0 : Int32).toNatClampNeg + (60 : Int32).toNatClampNeg) (zgd ((List.range (60 : Int32).toNatClampNeg).all (fun i => fits .byte (.int (M (q0 + 1) ((0 : Int32).toNatClampNeg + i)))) = false) (zlt (zcp M (q0 + 1) (q + 1) (0 : Int32) (0 : Int32) (60 : Int32)) (fun M1 => zgd ((0 : Int32) < 0 ∨ (0 : Int32) < 0 ∨ (24 : Int32) < 0 ∨ 24 < (0 : Int32).toNatClampNeg + (24 : Int32).toNatClampNeg ∨ 24 < (0 : Int32).toNatClampNeg + (24 : Int32).toNatClampNeg) (zlt (zcp M1 (q0 + 2) (q + 2) (0 : Int32) (0 : Int32) (24 : Int32)) (fun M4 => zlt (zst M4 q 2 (M4 q0 2)) (fun M6 => zlt (zst M6 q 3 (M6 q0 3)) (fun M7 => some M7)))))))
set_option maxRecDepth 100000 in
set_option maxHeartbeats 4000000 in
theorem kX1_copyFrom (l : Launch) (D : va_G) (cy : Nat → ClassId) (a : Nat → Nat) (q : Nat) (hq : zX1 q) (q0 : Nat) (hq0 : zX1 q0) (M : zM) (M0 : zM) (h : fX1_copyFrom q q0 M = some M0) : zCv l D cy a yX1_copyFrom cX1_copyFrom 2 (zRm 1 60) [.ref (a q), .ref (a q0)] M (fun u => u = M0) := by
  intro sz
  refine zent_v sz (by decide) (Nat.le_of_ble_eq_true rfl) rfl (fun p e s m args below meth c ls H locs X hw hl => ?_)
  obtain ⟨hx, hb, hr, hml, hown, hW, hlocks⟩ := id X
  have hE := hw.2.2.2.2.1
  have hcs : 0 ≤ ((zRm 1 60)).cells ∧ 0 ≤ ((zRm 1 60)).slots := ⟨Nat.zero_le _, Nat.zero_le _⟩
  rw [fX1_copyFrom] at h
  refine lv_aload_n hx hb dX1_copyFrom_0 rfl (lv_at hl 1 rfl) ?_
  refine gtX1_9 X hw hq0 dX1_copyFrom_1 ?_
  refine lv_iconst (v := 0) hx hb dX1_copyFrom_4 (by decide) ?_
  refine lv_aload_n hx hb dX1_copyFrom_5 rfl (lv_at hl 0 rfl) ?_
  refine gtX1_9 X hw hq dX1_copyFrom_6 ?_
  refine lv_iconst (v := 0) hx hb dX1_copyFrom_9 (by decide) ?_
  refine lv_bipush (v := 60) hx hb dX1_copyFrom_10 (by decide) ?_
  obtain ⟨g2, h⟩ := zgd_e h
  obtain ⟨g3, h⟩ := zgd_e h
  refine z_cpB (rest := []) X hw (zB_1_1 hq0) (zB_1_1 hq) g2 g3 zm_43_10 zm_25_7 zm_25_8 zm_25_9 hl.1 (Nat.le_of_ble_eq_true rfl) (Nat.le_of_ble_eq_true rfl) dX1_copyFrom_12 (fun M1 H locs eM1 hw => ?_)
  replace h := zlt_s eM1 h
  refine lv_aload_n hx hb dX1_copyFrom_15 rfl (lv_at hl 1 rfl) ?_
  refine gtX1_15 X hw hq0 dX1_copyFrom_16 ?_
  refine lv_iconst (v := 0) hx hb dX1_copyFrom_19 (by decide) ?_
  refine lv_aload_n hx hb dX1_copyFrom_20 rfl (lv_at hl 0 rfl) ?_
  refine gtX1_15 X hw hq dX1_copyFrom_21 ?_
  refine lv_iconst (v := 0) hx hb dX1_copyFrom_24 (by decide) ?_
  refine lv_bipush (v := 24) hx hb dX1_copyFrom_25 (by decide) ?_
  obtain ⟨g5, h⟩ := zgd_e h
  refine z_cpI (rest := []) X hw (zI_1_2 hq0) (zI_1_2 hq) g5 zm_43_10 zm_25_7 zm_25_8 zm_25_9 hl.1 (Nat.le_of_ble_eq_true rfl) (Nat.le_of_ble_eq_true rfl) dX1_copyFrom_27 (fun M4 H locs eM4 hw => ?_)
  replace h := zlt_s eM4 h
  refine lv_aload_n hx hb dX1_copyFrom_30 rfl (lv_at hl 0 rfl) ?_
  refine lv_aload_n hx hb dX1_copyFrom_31 rfl (lv_at hl 1 rfl) ?_
  refine gtX1_19 X hw hq0 dX1_copyFrom_32 ?_
  refine ptX1_19 X hw hq dX1_copyFrom_35 (fun M6 H locs eM6 hw => ?_)
  replace h := zlt_s eM6 h
  refine lv_aload_n hx hb dX1_copyFrom_38 rfl (lv_at hl 0 rfl) ?_
  refine lv_aload_n hx hb dX1_copyFrom_39 rfl (lv_at hl 1 rfl) ?_
  refine gtX1_29 X hw hq0 dX1_copyFrom_40 ?_
  refine ptX1_29 X hw hq dX1_copyFrom_43 (fun M7 H locs eM7 hw => ?_)
  replace h := zlt_s eM7 h
  exact z_rv X hw (zretv h) dX1_copyFrom_46
def fX4_isMissing (p0 : Int32) (M : zM) : Option (Int32 × zM) := zgd (p0 < 0 ∨ 4 ≤ p0.toNatClampNeg) (if M 80 (p0.toNatClampNeg) = 0 then (some ((1 : Int32), M)) else (some ((0 : Int32), M)))
set_option maxRecDepth 100000 in
set_option maxHeartbeats 4000000 in
theorem kX4_isMissing (l : Launch) (D : va_G) (cy : Nat → ClassId) (a : Nat → Nat) (p0 : Int32) (M : zM) (r0 : Int32) (M0 : zM) (h : fX4_isMissing p0 M = some (r0, M0)) : zCi l D cy a yX4_isMissing cX4_isMissing 2 (some .boolean) (zRm 0 0) [.ref (a 78), .int p0] M (fun r u => r = r0 ∧ u = M0) := by
  intro sz
  refine zent_i sz (by decide) (Nat.le_of_ble_eq_true rfl) rfl (fun p e s m args below meth c ls H locs X hw hl => ?_)
  obtain ⟨hx, hb, hr, hml, hown, hW, hlocks⟩ := id X
  have hE := hw.2.2.2.2.1
  have hcs : 0 ≤ ((zRm 0 0)).cells ∧ 0 ≤ ((zRm 0 0)).slots := ⟨Nat.zero_le _, Nat.zero_le _⟩
  rw [fX4_isMissing] at h
  refine lv_aload_n hx hb dX4_isMissing_0 rfl (lv_at hl 0 rfl) ?_
  refine gtX4_16 X hw dX4_isMissing_1 ?_
  refine lv_iload_n hx hb dX4_isMissing_4 rfl (lv_at hl 1 rfl) ?_
  obtain ⟨g1, h⟩ := zgd_e h
  refine z_ald X hw (zI_4_2 zX4_78) g1 dX4_isMissing_5 ?_
  refine lv_if_ne (tgt := 13) hx hb dX4_isMissing_6 (by decide) (fun c2 => ?_) (fun c2 => ?_)
  · replace h := zif_f c2 h
    refine lv_iconst (v := 0) hx hb dX4_isMissing_13 (by decide) ?_
    exact z_rz X hw (Or.inl rfl) (zret h) dX4_isMissing_14
  · replace h := zif_t c2 h
    refine lv_iconst (v := 1) hx hb dX4_isMissing_9 (by decide) ?_
    refine lv_goto (tgt := 14) hx hb dX4_isMissing_10 (by decide) ?_
    exact z_rz X hw (Or.inr rfl) (zret h) dX4_isMissing_14
def fX4_begin_3 (y1 : Int32) (y2 : Int32) (y3 : Int32) (k : zM → Option (zM)) : Nat → Int32 → zM → Option (zM)
  | 0, _, _ => none
  | n + 1, v4, M => if (24 : Int32) ≤ v4 then (k  M) else (zgd (y1 < 0 ∨ 4 ≤ y1.toNatClampNeg) (zlt (82 + y1.toNatClampNeg) (fun w3 => zgd (v4 < 0 ∨ 24 ≤ v4.toNatClampNeg) (zlt (zst M w3 (v4.toNatClampNeg) (0 : Int32)) (fun M4 => zlt (v4 + (1 : Int32)) (fun x6 => fX4_begin_3 y1 y2 y3 k n x6 M4))))))
set_option maxRecDepth 100000 in
set_option maxHeartbeats 4000000 in
theorem lX4_begin_3 {p : Program} {l : Launch} {e : Env} {s : State} {m : MethodId} {args : Array Value} {below : List Frame} {meth : Method} {c : Code} {D : va_G} {cy : Nat → ClassId} {a : Nat → Nat} {M0 : zM} (X : zCX p s m meth c args cX4_begin 5 none RX4) (y1 : Int32) (y2 : Int32) (y3 : Int32) (k : zM → Option (zM)) : ∀ (n : Nat) (v4 : Int32) (M : zM) (H : Heap) (locs : List Loc) (ls : Array Slot), zWD D cy a (zfr a s.heap.size) M H locs s → lv_has ls 5 [(0, .ref (a 78)), (1, .int y1), (2, .int y2), (3, .int y3), (4, .int v4)] → fX4_begin_3 y1 y2 y3 k n v4 M = some M0 →
    (∀ (M' : zM) (H' : Heap) (locs' : List Loc) (ls' : Array Slot), zWD D cy a (zfr a s.heap.size) M' H' locs' s → lv_has ls' 5 [(0, .ref (a 78)), (1, .int y1), (2, .int y2), (3, .int y3)] → k M' = some M0 → W p l e (zRm 0 0) s m args below meth c H' locs' 0 0 (zQv D cy a s args below M0) (F0 m 26 ls' [])) →
    W p l e (zRm 0 0) s m args below meth c H locs 0 0 (zQv D cy a s args below M0) (F0 m 3 ls []) := by
  obtain ⟨hx, hb, hr, hml, hown, hW, hlocks⟩ := id X
  have hcs : 0 ≤ ((zRm 0 0)).cells ∧ 0 ≤ ((zRm 0 0)).slots := ⟨Nat.zero_le _, Nat.zero_le _⟩
  intro n
  induction n with
  | zero =>
    intro v4 M H locs ls hw hl h hk
    cases h
  | succ n ih =>
    intro v4 M H locs ls hw hl h hk
    have hE := hw.2.2.2.2.1
    rw [fX4_begin_3] at h
    refine lv_iload hx hb dX4_begin_3 (lv_at hl 4 rfl) ?_
    refine lv_bipush (v := 24) hx hb dX4_begin_5 (by decide) ?_
    refine lv_icmp_ge (tgt := 26) hx hb dX4_begin_7 (by decide) (fun c1 => ?_) (fun c1 => ?_)
    · replace h := zif_t c1 h
      exact hk  M H locs _ hw (lv_sub hl [0, 1, 2, 3] rfl) h
    · replace h := zif_f c1 h
      refine lv_aload_n hx hb dX4_begin_10 rfl (lv_at hl 0 rfl) ?_
      refine gtX4_13 X hw dX4_begin_11 ?_
      refine lv_iload_n hx hb dX4_begin_14 rfl (lv_at hl 1 rfl) ?_
      obtain ⟨g2, h⟩ := zgd_e h
      refine z_aldI X hw (zRI_4_1 zX4_78) g2 dX4_begin_15 (fun w3 ew3 hw3 => ?_)
      replace h := zlt_s ew3 h
      refine lv_iload hx hb dX4_begin_16 (lv_at hl 4 rfl) ?_
      refine lv_iconst (v := 0) hx hb dX4_begin_18 (by decide) ?_
      obtain ⟨g5, h⟩ := zgd_e h
      refine z_ast X hw hw3 g5 dX4_begin_19 (fun M4 H locs eM4 hw => ?_)
      replace h := zlt_s eM4 h
      obtain ⟨x6, ex6⟩ : ∃ y : Int32, y = v4 + (1 : Int32) := ⟨_, rfl⟩
      replace h := zlt_s ex6 h
      refine lv_iinc (v := x6) (lv' := [(4, .int x6), (0, .ref (a 78)), (1, .int y1), (2, .int y2), (3, .int y3)]) hx hb dX4_begin_20 hl (k := 4) rfl (by rw [ex6]; rfl) (by decide) rfl (fun ls hl => ?_)
      refine lv_goto (tgt := 3) hx hb dX4_begin_23 (by decide) ?_
      exact ih x6 M4 H locs _ hw (lv_sub hl [1, 2, 3, 4, 0] rfl) h hk
def fX4_begin (p0 : Int32) (p1 : Int32) (p2 : Int32) (M : zM) : Option (zM) := fX4_begin_3 p0 p1 p2 (fun  M7 => zgd (p0 < 0 ∨ 4 ≤ p0.toNatClampNeg) (zlt (zst M7 80 (p0.toNatClampNeg) p1) (fun M8 => zgd (p0 < 0 ∨ 4 ≤ p0.toNatClampNeg) (zlt (zst M8 81 (p0.toNatClampNeg) p2) (fun M10 => some M10))))) zF (0 : Int32) M
set_option maxRecDepth 100000 in
set_option maxHeartbeats 4000000 in
theorem kX4_begin (l : Launch) (D : va_G) (cy : Nat → ClassId) (a : Nat → Nat) (p0 : Int32) (p1 : Int32) (p2 : Int32) (M : zM) (M0 : zM) (h : fX4_begin p0 p1 p2 M = some M0) : zCv l D cy a yX4_begin cX4_begin 5 (zRm 0 0) [.ref (a 78), .int p0, .int p1, .int p2] M (fun u => u = M0) := by
  intro sz
  refine zent_v sz (by decide) (Nat.le_of_ble_eq_true rfl) rfl (fun p e s m args below meth c ls H locs X hw hl => ?_)
  obtain ⟨hx, hb, hr, hml, hown, hW, hlocks⟩ := id X
  have hE := hw.2.2.2.2.1
  have hcs : 0 ≤ ((zRm 0 0)).cells ∧ 0 ≤ ((zRm 0 0)).slots := ⟨Nat.zero_le _, Nat.zero_le _⟩
  rw [fX4_begin] at h
  refine lv_iconst (v := 0) hx hb dX4_begin_0 (by decide) ?_
  refine lv_istore (lv' := [(4, .int (0 : Int32)), (0, .ref (a 78)), (1, .int p0), (2, .int p1), (3, .int p2)]) hx hb dX4_begin_1 hl (by decide) rfl (fun ls hl => ?_)
  refine lX4_begin_3 X p0 p1 p2 _ zF (0 : Int32) M H locs _ hw (lv_sub hl [1, 2, 3, 4, 0] rfl) h (fun  M7 H locs ls hw hl h => ?_)
  refine lv_aload_n hx hb dX4_begin_26 rfl (lv_at hl 0 rfl) ?_
  refine gtX4_16 X hw dX4_begin_27 ?_
  refine lv_iload_n hx hb dX4_begin_30 rfl (lv_at hl 1 rfl) ?_
  refine lv_iload_n hx hb dX4_begin_31 rfl (lv_at hl 2 rfl) ?_
  obtain ⟨g9, h⟩ := zgd_e h
  refine z_ast X hw (zI_4_2 zX4_78) g9 dX4_begin_32 (fun M8 H locs eM8 hw => ?_)
  replace h := zlt_s eM8 h
  refine lv_aload_n hx hb dX4_begin_33 rfl (lv_at hl 0 rfl) ?_
  refine gtX4_20 X hw dX4_begin_34 ?_
  refine lv_iload_n hx hb dX4_begin_37 rfl (lv_at hl 1 rfl) ?_
  refine lv_iload_n hx hb dX4_begin_38 rfl (lv_at hl 3 rfl) ?_
  obtain ⟨g11, h⟩ := zgd_e h
  refine z_ast X hw (zI_4_3 zX4_78) g11 dX4_begin_39 (fun M10 H locs eM10 hw => ?_)
  replace h := zlt_s eM10 h
  exact z_rv X hw (zretv h) dX4_begin_40
def fX4_lowest (p0 : Int32) (p1 : Int32) (M : zM) : Option (Int32 × zM) := zgd (p0 < 0 ∨ 4 ≤ p0.toNatClampNeg) (zlt (M 80 (p0.toNatClampNeg)) (fun x2 => if x2 = (8 : Int32) then (some (p1.toInt8.toInt32, M)) else (if x2 = (16 : Int32) then (some (p1.toInt16.toInt32, M)) else (some (p1, M)))))
set_option maxRecDepth 100000 in
set_option maxHeartbeats 4000000 in
theorem kX4_lowest (l : Launch) (D : va_G) (cy : Nat → ClassId) (a : Nat → Nat) (p0 : Int32) (p1 : Int32) (M : zM) (r0 : Int32) (M0 : zM) (h : fX4_lowest p0 p1 M = some (r0, M0)) : zCi l D cy a yX4_lowest cX4_lowest 3 (some .int) (zRm 0 0) [.ref (a 78), .int p0, .int p1] M (fun r u => r = r0 ∧ u = M0) := by
  intro sz
  refine zent_i sz (by decide) (Nat.le_of_ble_eq_true rfl) rfl (fun p e s m args below meth c ls H locs X hw hl => ?_)
  obtain ⟨hx, hb, hr, hml, hown, hW, hlocks⟩ := id X
  have hE := hw.2.2.2.2.1
  have hcs : 0 ≤ ((zRm 0 0)).cells ∧ 0 ≤ ((zRm 0 0)).slots := ⟨Nat.zero_le _, Nat.zero_le _⟩
  rw [fX4_lowest] at h
  refine lv_aload_n hx hb dX4_lowest_0 rfl (lv_at hl 0 rfl) ?_
  refine gtX4_16 X hw dX4_lowest_1 ?_
  refine lv_iload_n hx hb dX4_lowest_4 rfl (lv_at hl 1 rfl) ?_
  obtain ⟨g1, h⟩ := zgd_e h
  refine z_ald X hw (zI_4_2 zX4_78) g1 dX4_lowest_5 ?_
  refine lv_topi (fun x2 ex2 => ?_)
  replace h := zlt_s ex2 h
  by_cases c3 : x2 = (8 : Int32)
  · replace h := zif_t c3 h
    refine lv_lookup (off := 26) (tgt := 32) hx hb dX4_lowest_6 (by decide) (by rw [c3]; rfl) (by decide) ?_
    refine lv_iload_n hx hb dX4_lowest_32 rfl (lv_at hl 2 rfl) ?_
    refine lv_i2b hx hb dX4_lowest_33 rfl ?_
    exact z_ri X hw (zret h) dX4_lowest_34
  replace h := zif_f c3 h
  by_cases c4 : x2 = (16 : Int32)
  · replace h := zif_t c4 h
    refine lv_lookup (off := 29) (tgt := 35) hx hb dX4_lowest_6 (by decide) (by rw [c4]; rfl) (by decide) ?_
    refine lv_iload_n hx hb dX4_lowest_35 rfl (lv_at hl 2 rfl) ?_
    refine lv_i2s hx hb dX4_lowest_36 rfl ?_
    exact z_ri X hw (zret h) dX4_lowest_37
  replace h := zif_f c4 h
  refine lv_lookup (off := 32) (tgt := 38) hx hb dX4_lowest_6 (by decide) ((lv_osw c3 rfl).trans ((lv_osw c4 rfl).trans (rfl))) (by decide) ?_
  refine lv_iload_n hx hb dX4_lowest_38 rfl (lv_at hl 2 rfl) ?_
  exact z_ri X hw (zret h) dX4_lowest_39
def fX4_stand (p0 : Int32) (p1 : Int32) (p2 : Int32) (M : zM) : Option (Int32 × zM) := if p1 < 0 then (some ((0 : Int32), M)) else (if p2 < 0 then (some ((0 : Int32), M)) else (zgd (p0 < 0 ∨ 4 ≤ p0.toNatClampNeg) (if M 81 (p0.toNatClampNeg) < p2 then (some ((0 : Int32), M)) else (zgd (p0 < 0 ∨ 4 ≤ p0.toNatClampNeg) (if (M 81 (p0.toNatClampNeg)) - p2 < p1 then (some ((0 : Int32), M)) else (some ((1 : Int32), M)))))))
set_option maxRecDepth 100000 in
set_option maxHeartbeats 4000000 in
theorem kX4_stand (l : Launch) (D : va_G) (cy : Nat → ClassId) (a : Nat → Nat) (p0 : Int32) (p1 : Int32) (p2 : Int32) (M : zM) (r0 : Int32) (M0 : zM) (h : fX4_stand p0 p1 p2 M = some (r0, M0)) : zCi l D cy a yX4_stand cX4_stand 4 (some .boolean) (zRm 0 0) [.ref (a 78), .int p0, .int p1, .int p2] M (fun r u => r = r0 ∧ u = M0) := by
  intro sz
  refine zent_i sz (by decide) (Nat.le_of_ble_eq_true rfl) rfl (fun p e s m args below meth c ls H locs X hw hl => ?_)
  obtain ⟨hx, hb, hr, hml, hown, hW, hlocks⟩ := id X
  have hE := hw.2.2.2.2.1
  have hcs : 0 ≤ ((zRm 0 0)).cells ∧ 0 ≤ ((zRm 0 0)).slots := ⟨Nat.zero_le _, Nat.zero_le _⟩
  rw [fX4_stand] at h
  refine lv_iload_n hx hb dX4_stand_0 rfl (lv_at hl 2 rfl) ?_
  refine lv_if_lt (tgt := 34) hx hb dX4_stand_1 (by decide) (fun c1 => ?_) (fun c1 => ?_)
  · replace h := zif_t c1 h
    refine lv_iconst (v := 0) hx hb dX4_stand_34 (by decide) ?_
    exact z_rz X hw (Or.inl rfl) (zret h) dX4_stand_35
  · replace h := zif_f c1 h
    refine lv_iload_n hx hb dX4_stand_4 rfl (lv_at hl 3 rfl) ?_
    refine lv_if_lt (tgt := 34) hx hb dX4_stand_5 (by decide) (fun c2 => ?_) (fun c2 => ?_)
    · replace h := zif_t c2 h
      refine lv_iconst (v := 0) hx hb dX4_stand_34 (by decide) ?_
      exact z_rz X hw (Or.inl rfl) (zret h) dX4_stand_35
    · replace h := zif_f c2 h
      refine lv_iload_n hx hb dX4_stand_8 rfl (lv_at hl 3 rfl) ?_
      refine lv_aload_n hx hb dX4_stand_9 rfl (lv_at hl 0 rfl) ?_
      refine gtX4_20 X hw dX4_stand_10 ?_
      refine lv_iload_n hx hb dX4_stand_13 rfl (lv_at hl 1 rfl) ?_
      obtain ⟨g3, h⟩ := zgd_e h
      refine z_ald X hw (zI_4_3 zX4_78) g3 dX4_stand_14 ?_
      refine lv_icmp_gt (tgt := 34) hx hb dX4_stand_15 (by decide) (fun c4 => ?_) (fun c4 => ?_)
      · replace h := zif_t c4 h
        refine lv_iconst (v := 0) hx hb dX4_stand_34 (by decide) ?_
        exact z_rz X hw (Or.inl rfl) (zret h) dX4_stand_35
      · replace h := zif_f c4 h
        refine lv_iload_n hx hb dX4_stand_18 rfl (lv_at hl 2 rfl) ?_
        refine lv_aload_n hx hb dX4_stand_19 rfl (lv_at hl 0 rfl) ?_
        refine gtX4_20 X hw dX4_stand_20 ?_
        refine lv_iload_n hx hb dX4_stand_23 rfl (lv_at hl 1 rfl) ?_
        obtain ⟨g5, h⟩ := zgd_e h
        refine z_ald X hw (zI_4_3 zX4_78) g5 dX4_stand_24 ?_
        refine lv_iload_n hx hb dX4_stand_25 rfl (lv_at hl 3 rfl) ?_
        refine lv_isub hx hb dX4_stand_26 ?_
        refine lv_icmp_gt (tgt := 34) hx hb dX4_stand_27 (by decide) (fun c6 => ?_) (fun c6 => ?_)
        · replace h := zif_t c6 h
          refine lv_iconst (v := 0) hx hb dX4_stand_34 (by decide) ?_
          exact z_rz X hw (Or.inl rfl) (zret h) dX4_stand_35
        · replace h := zif_f c6 h
          refine lv_iconst (v := 1) hx hb dX4_stand_30 (by decide) ?_
          refine lv_goto (tgt := 35) hx hb dX4_stand_31 (by decide) ?_
          exact z_rz X hw (Or.inr rfl) (zret h) dX4_stand_35
def fX5_divided (p0 : Int32) (p1 : Int32) (M : zM) : Option (Int32 × zM) := if p1 = 0 then (zlt (zst M 76 2 (1 : Int32)) (fun M3 => some ((0 : Int32), M3))) else (zgd (p1 = 0) (some (p0 / p1, M)))
set_option maxRecDepth 100000 in
set_option maxHeartbeats 4000000 in
theorem kX5_divided (l : Launch) (D : va_G) (cy : Nat → ClassId) (a : Nat → Nat) (p0 : Int32) (p1 : Int32) (M : zM) (r0 : Int32) (M0 : zM) (h : fX5_divided p0 p1 M = some (r0, M0)) : zCi l D cy a yX5_divided cX5_divided 3 (some .int) (zRm 0 0) [.ref (a 76), .int p0, .int p1] M (fun r u => r = r0 ∧ u = M0) := by
  intro sz
  refine zent_i sz (by decide) (Nat.le_of_ble_eq_true rfl) rfl (fun p e s m args below meth c ls H locs X hw hl => ?_)
  obtain ⟨hx, hb, hr, hml, hown, hW, hlocks⟩ := id X
  have hE := hw.2.2.2.2.1
  have hcs : 0 ≤ ((zRm 0 0)).cells ∧ 0 ≤ ((zRm 0 0)).slots := ⟨Nat.zero_le _, Nat.zero_le _⟩
  rw [fX5_divided] at h
  refine lv_iload_n hx hb dX5_divided_0 rfl (lv_at hl 2 rfl) ?_
  refine lv_if_ne (tgt := 11) hx hb dX5_divided_1 (by decide) (fun c1 => ?_) (fun c1 => ?_)
  · replace h := zif_f c1 h
    refine lv_iload_n hx hb dX5_divided_11 rfl (lv_at hl 1 rfl) ?_
    refine lv_iload_n hx hb dX5_divided_12 rfl (lv_at hl 2 rfl) ?_
    obtain ⟨g2, h⟩ := zgd_e h
    refine lv_idiv hx hb dX5_divided_13 g2 ?_
    exact z_ri X hw (zret h) dX5_divided_14
  · replace h := zif_t c1 h
    refine lv_aload_n hx hb dX5_divided_4 rfl (lv_at hl 0 rfl) ?_
    refine lv_iconst (v := 1) hx hb dX5_divided_5 (by decide) ?_
    refine ptX5_28 X hw (Or.inr rfl) dX5_divided_6 (fun M3 H locs eM3 hw => ?_)
    replace h := zlt_s eM3 h
    refine lv_iconst (v := 0) hx hb dX5_divided_9 (by decide) ?_
    exact z_ri X hw (zret h) dX5_divided_10
def fX5_ofWheel (rec : Int32 → Int32 → Int32 → Int32 → zM → Option (Int32 × zM)) (p0 : Int32) (p1 : Int32) (p2 : Int32) (M : zM) : Option (Int32 × zM) := if p0 = (10 : Int32) then (some (p1 + (M 76 4), M)) else (if p0 = (11 : Int32) then (zbi (rec (M 76 3) (0 : Int32) p1 (p2 + (1 : Int32)) M) (fun r3 M4 => some (r3 * (2 : Int32), M4))) else (if p0 = (12 : Int32) then (zbi (rec (M 76 3) (1 : Int32) p1 (p2 + (1 : Int32)) M) (fun r7 M8 => some (r7 - (M8 76 5), M8))) else (zbi (fX5_divided p1 ((M 76 5) - (M 76 4)) M) (fun r10 M11 => some (r10, M11)))))
set_option maxRecDepth 100000 in
set_option maxHeartbeats 4000000 in
theorem kX5_ofWheel (l : Launch) (D : va_G) (cy : Nat → ClassId) (a : Nat → Nat) (rec : Int32 → Int32 → Int32 → Int32 → zM → Option (Int32 × zM)) (fr lo : Nat) (hrec : ∀ (z0 : Int32) (z1 : Int32) (z2 : Int32) (z3 : Int32) (M : zM) (r0 : Int32) (M0 : zM), rec z0 z1 z2 z3 M = some (r0, M0) → zCi l D cy a yX5_speak cX5_speak 7 (some .int) (zRm fr lo) [.ref (a 76), .int z0, .int z1, .int z2, .int z3] M (fun r u => r = r0 ∧ u = M0)) (p0 : Int32) (p1 : Int32) (p2 : Int32) (M : zM) (r0 : Int32) (M0 : zM) (h : fX5_ofWheel rec p0 p1 p2 M = some (r0, M0)) : zCi l D cy a yX5_ofWheel cX5_ofWheel 4 (some .int) (zRm (fr + 1) (lo + 26)) [.ref (a 76), .int p0, .int p1, .int p2] M (fun r u => r = r0 ∧ u = M0) := by
  intro sz
  refine zent_i sz (by decide) (Nat.le_of_ble_eq_true rfl) rfl (fun p e s m args below meth c ls H locs X hw hl => ?_)
  obtain ⟨hx, hb, hr, hml, hown, hW, hlocks⟩ := id X
  have hE := hw.2.2.2.2.1
  have hcs : 0 ≤ ((zRm (fr + 1) (lo + 26))).cells ∧ 0 ≤ ((zRm (fr + 1) (lo + 26))).slots := ⟨Nat.zero_le _, Nat.zero_le _⟩
  rw [fX5_ofWheel] at h
  refine lv_iload_n hx hb dX5_ofWheel_0 rfl (lv_at hl 1 rfl) ?_
  by_cases c1 : p0 = (10 : Int32)
  · replace h := zif_t c1 h
    refine lv_tableIn (off := 27) (tgt := 28) hx hb dX5_ofWheel_1 (by rw [c1]; decide) (by rw [c1]; decide) (by rw [c1]; rfl) (by decide) ?_
    refine lv_iload_n hx hb dX5_ofWheel_28 rfl (lv_at hl 2 rfl) ?_
    refine lv_aload_n hx hb dX5_ofWheel_29 rfl (lv_at hl 0 rfl) ?_
    refine gtX5_19 X hw dX5_ofWheel_30 ?_
    refine lv_iadd hx hb dX5_ofWheel_33 ?_
    exact z_ri X hw (zret h) dX5_ofWheel_34
  replace h := zif_f c1 h
  by_cases c2 : p0 = (11 : Int32)
  · replace h := zif_t c2 h
    refine lv_tableIn (off := 34) (tgt := 35) hx hb dX5_ofWheel_1 (by rw [c2]; decide) (by rw [c2]; decide) (by rw [c2]; rfl) (by decide) ?_
    refine lv_aload_n hx hb dX5_ofWheel_35 rfl (lv_at hl 0 rfl) ?_
    refine lv_aload_n hx hb dX5_ofWheel_36 rfl (lv_at hl 0 rfl) ?_
    refine gtX5_15 X hw dX5_ofWheel_37 ?_
    refine lv_iconst (v := 0) hx hb dX5_ofWheel_40 (by decide) ?_
    refine lv_iload_n hx hb dX5_ofWheel_41 rfl (lv_at hl 2 rfl) ?_
    refine lv_iload_n hx hb dX5_ofWheel_42 rfl (lv_at hl 3 rfl) ?_
    refine lv_iconst (v := 1) hx hb dX5_ofWheel_43 (by decide) ?_
    refine lv_iadd hx hb dX5_ofWheel_44 ?_
    obtain ⟨r3, M4, f5, h⟩ := zbi_e h
    refine z_qVi (As := [.int (M 76 3), .int (0 : Int32), .int p1, .int (p2 + (1 : Int32))]) (rest := []) X hw (hrec (M 76 3) (0 : Int32) p1 (p2 + (1 : Int32)) M r3 M4 f5) (cwX5_32 X.2.2.2.2.2.1 rfl rfl (zroomO (by omega) (by omega))) (zX5_lt zX5_76) (zS5 zX5_76 cy a (M 76)) rfl rfl rfl (Nat.le_of_ble_eq_true rfl) hl.1 hcs dX5_ofWheel_45 (fun H locs hw => ?_)
    refine lv_iconst (v := 2) hx hb dX5_ofWheel_48 (by decide) ?_
    refine lv_imul hx hb dX5_ofWheel_49 ?_
    exact z_ri X hw (zret h) dX5_ofWheel_50
  replace h := zif_f c2 h
  by_cases c6 : p0 = (12 : Int32)
  · replace h := zif_t c6 h
    refine lv_tableIn (off := 50) (tgt := 51) hx hb dX5_ofWheel_1 (by rw [c6]; decide) (by rw [c6]; decide) (by rw [c6]; rfl) (by decide) ?_
    refine lv_aload_n hx hb dX5_ofWheel_51 rfl (lv_at hl 0 rfl) ?_
    refine lv_aload_n hx hb dX5_ofWheel_52 rfl (lv_at hl 0 rfl) ?_
    refine gtX5_15 X hw dX5_ofWheel_53 ?_
    refine lv_iconst (v := 1) hx hb dX5_ofWheel_56 (by decide) ?_
    refine lv_iload_n hx hb dX5_ofWheel_57 rfl (lv_at hl 2 rfl) ?_
    refine lv_iload_n hx hb dX5_ofWheel_58 rfl (lv_at hl 3 rfl) ?_
    refine lv_iconst (v := 1) hx hb dX5_ofWheel_59 (by decide) ?_
    refine lv_iadd hx hb dX5_ofWheel_60 ?_
    obtain ⟨r7, M8, f9, h⟩ := zbi_e h
    refine z_qVi (As := [.int (M 76 3), .int (1 : Int32), .int p1, .int (p2 + (1 : Int32))]) (rest := []) X hw (hrec (M 76 3) (1 : Int32) p1 (p2 + (1 : Int32)) M r7 M8 f9) (cwX5_32 X.2.2.2.2.2.1 rfl rfl (zroomO (by omega) (by omega))) (zX5_lt zX5_76) (zS5 zX5_76 cy a (M 76)) rfl rfl rfl (Nat.le_of_ble_eq_true rfl) hl.1 hcs dX5_ofWheel_61 (fun H locs hw => ?_)
    refine lv_aload_n hx hb dX5_ofWheel_64 rfl (lv_at hl 0 rfl) ?_
    refine gtX5_22 X hw dX5_ofWheel_65 ?_
    refine lv_isub hx hb dX5_ofWheel_68 ?_
    exact z_ri X hw (zret h) dX5_ofWheel_69
  replace h := zif_f c6 h
  refine lv_tableOut (tgt := 70) hx hb dX5_ofWheel_1 (by have tc1 := lv_neT c1 (a := 10) rfl; have tc2 := lv_neT c2 (a := 11) rfl; have tc6 := lv_neT c6 (a := 12) rfl; omega) (by decide) ?_
  refine lv_aload_n hx hb dX5_ofWheel_70 rfl (lv_at hl 0 rfl) ?_
  refine lv_iload_n hx hb dX5_ofWheel_71 rfl (lv_at hl 2 rfl) ?_
  refine lv_aload_n hx hb dX5_ofWheel_72 rfl (lv_at hl 0 rfl) ?_
  refine gtX5_22 X hw dX5_ofWheel_73 ?_
  refine lv_aload_n hx hb dX5_ofWheel_76 rfl (lv_at hl 0 rfl) ?_
  refine gtX5_19 X hw dX5_ofWheel_77 ?_
  refine lv_isub hx hb dX5_ofWheel_80 ?_
  obtain ⟨r10, M11, f12, h⟩ := zbi_e h
  refine z_qVi (As := [.int p1, .int ((M 76 5) - (M 76 4))]) (rest := []) X hw (kX5_divided l D cy a p1 ((M 76 5) - (M 76 4)) M r10 M11 f12) (cwX5_49 X.2.2.2.2.2.1 rfl rfl (zroomO (by omega) (by omega))) (zX5_lt zX5_76) (zS5 zX5_76 cy a (M 76)) rfl rfl rfl (Nat.le_of_ble_eq_true rfl) hl.1 hcs dX5_ofWheel_81 (fun H locs hw => ?_)
  exact z_ri X hw (zret h) dX5_ofWheel_84
def fX5_partsOfSlow (rec : Int32 → Int32 → Int32 → Int32 → zM → Option (Int32 × zM)) (p0 : Int32) (p1 : Int32) (p2 : Int32) (M : zM) : Option (Int32 × zM) := zbi (rec p0 (3 : Int32) p1 p2 M) (fun r1 M2 => if M2 76 2 = 0 then (zbi (rec (M2 76 3) (1 : Int32) (1 : Int32) p2 M2) (fun r5 M6 => some (r1 + r5, M6))) else (some ((0 : Int32), M2)))
set_option maxRecDepth 100000 in
set_option maxHeartbeats 4000000 in
theorem kX5_partsOfSlow (l : Launch) (D : va_G) (cy : Nat → ClassId) (a : Nat → Nat) (rec : Int32 → Int32 → Int32 → Int32 → zM → Option (Int32 × zM)) (fr lo : Nat) (hrec : ∀ (z0 : Int32) (z1 : Int32) (z2 : Int32) (z3 : Int32) (M : zM) (r0 : Int32) (M0 : zM), rec z0 z1 z2 z3 M = some (r0, M0) → zCi l D cy a yX5_speak cX5_speak 7 (some .int) (zRm fr lo) [.ref (a 76), .int z0, .int z1, .int z2, .int z3] M (fun r u => r = r0 ∧ u = M0)) (p0 : Int32) (p1 : Int32) (p2 : Int32) (M : zM) (r0 : Int32) (M0 : zM) (h : fX5_partsOfSlow rec p0 p1 p2 M = some (r0, M0)) : zCi l D cy a yX5_partsOfSlow cX5_partsOfSlow 5 (some .int) (zRm (fr + 1) (lo + 26)) [.ref (a 76), .int p0, .int p1, .int p2] M (fun r u => r = r0 ∧ u = M0) := by
  intro sz
  refine zent_i sz (by decide) (Nat.le_of_ble_eq_true rfl) rfl (fun p e s m args below meth c ls H locs X hw hl => ?_)
  obtain ⟨hx, hb, hr, hml, hown, hW, hlocks⟩ := id X
  have hE := hw.2.2.2.2.1
  have hcs : 0 ≤ ((zRm (fr + 1) (lo + 26))).cells ∧ 0 ≤ ((zRm (fr + 1) (lo + 26))).slots := ⟨Nat.zero_le _, Nat.zero_le _⟩
  rw [fX5_partsOfSlow] at h
  refine lv_aload_n hx hb dX5_partsOfSlow_0 rfl (lv_at hl 0 rfl) ?_
  refine lv_iload_n hx hb dX5_partsOfSlow_1 rfl (lv_at hl 1 rfl) ?_
  refine lv_iconst (v := 3) hx hb dX5_partsOfSlow_2 (by decide) ?_
  refine lv_iload_n hx hb dX5_partsOfSlow_3 rfl (lv_at hl 2 rfl) ?_
  refine lv_iload_n hx hb dX5_partsOfSlow_4 rfl (lv_at hl 3 rfl) ?_
  obtain ⟨r1, M2, f3, h⟩ := zbi_e h
  refine z_qVi (As := [.int p0, .int (3 : Int32), .int p1, .int p2]) (rest := []) X hw (hrec p0 (3 : Int32) p1 p2 M r1 M2 f3) (cwX5_32 X.2.2.2.2.2.1 rfl rfl (zroomO (by omega) (by omega))) (zX5_lt zX5_76) (zS5 zX5_76 cy a (M 76)) rfl rfl rfl (Nat.le_of_ble_eq_true rfl) hl.1 hcs dX5_partsOfSlow_5 (fun H locs hw => ?_)
  refine lv_istore (lv' := [(4, .int r1), (0, .ref (a 76)), (1, .int p0), (2, .int p1), (3, .int p2)]) hx hb dX5_partsOfSlow_8 hl (by decide) rfl (fun ls hl => ?_)
  refine lv_aload_n hx hb dX5_partsOfSlow_10 rfl (lv_at hl 1 rfl) ?_
  refine gtX5_28 X hw dX5_partsOfSlow_11 ?_
  refine lv_if_eq (tgt := 19) hx hb dX5_partsOfSlow_14 (by decide) (fun c4 => ?_) (fun c4 => ?_)
  · replace h := zif_t c4 h
    refine lv_iload hx hb dX5_partsOfSlow_19 (lv_at hl 0 rfl) ?_
    refine lv_aload_n hx hb dX5_partsOfSlow_21 rfl (lv_at hl 1 rfl) ?_
    refine lv_aload_n hx hb dX5_partsOfSlow_22 rfl (lv_at hl 1 rfl) ?_
    refine gtX5_15 X hw dX5_partsOfSlow_23 ?_
    refine lv_iconst (v := 1) hx hb dX5_partsOfSlow_26 (by decide) ?_
    refine lv_iconst (v := 1) hx hb dX5_partsOfSlow_27 (by decide) ?_
    refine lv_iload_n hx hb dX5_partsOfSlow_28 rfl (lv_at hl 4 rfl) ?_
    obtain ⟨r5, M6, f7, h⟩ := zbi_e h
    refine z_qVi (As := [.int (M2 76 3), .int (1 : Int32), .int (1 : Int32), .int p2]) (rest := [.int r1]) X hw (hrec (M2 76 3) (1 : Int32) (1 : Int32) p2 M2 r5 M6 f7) (cwX5_32 X.2.2.2.2.2.1 rfl rfl (zroomO (by omega) (by omega))) (zX5_lt zX5_76) (zS5 zX5_76 cy a (M2 76)) rfl rfl rfl (Nat.le_of_ble_eq_true rfl) hl.1 hcs dX5_partsOfSlow_29 (fun H locs hw => ?_)
    refine lv_iadd hx hb dX5_partsOfSlow_32 ?_
    exact z_ri X hw (zret h) dX5_partsOfSlow_33
  · replace h := zif_f c4 h
    refine lv_iconst (v := 0) hx hb dX5_partsOfSlow_17 (by decide) ?_
    exact z_ri X hw (zret h) dX5_partsOfSlow_18
def fX5_ofOthers (rec : Int32 → Int32 → Int32 → Int32 → zM → Option (Int32 × zM)) (p0 : Int32) (p1 : Int32) (p2 : Int32) (p3 : Int32) (M : zM) : Option (Int32 × zM) := zlt (p3 + (1 : Int32)) (fun x1 => if p0 = (20 : Int32) then (zbi (rec p1 (0 : Int32) p2 x1 M) (fun r3 M4 => some (r3 - (4 : Int32), M4))) else (if p0 = (21 : Int32) then (zbi (fX5_partsOfSlow rec p1 p2 x1 M) (fun r7 M8 => some (r7, M8))) else (if p0 = (30 : Int32) then (zbi (rec p1 (1 : Int32) p2 x1 M) (fun r11 M12 => some ((0 : Int32) - r11, M12))) else (if p0 = (40 : Int32) then (zbi (rec p1 (2 : Int32) (p2 / (2 : Int32)) x1 M) (fun r15 M16 => some (r15, M16))) else (if p0 = (50 : Int32) then (zbi (rec p1 (0 : Int32) p2 x1 M) (fun r19 M20 => some (r19 * (3 : Int32), M20))) else (if p0 = (51 : Int32) then (zbi (rec p1 (2 : Int32) p2 x1 M) (fun r23 M24 => some (r23 ^^^ (M24 76 4), M24))) else (if p0 = (60 : Int32) then (zbi (rec p1 (1 : Int32) (p2 + (1 : Int32)) x1 M) (fun r27 M28 => some (r27, M28))) else (if p0 = (70 : Int32) then (some ((2 : Int32), M)) else (zbi (rec p1 (1 : Int32) p2 x1 M) (fun r31 M32 => some (r31 + (M32 76 5), M32)))))))))))
set_option maxRecDepth 100000 in
set_option maxHeartbeats 4000000 in
theorem kX5_ofOthers (l : Launch) (D : va_G) (cy : Nat → ClassId) (a : Nat → Nat) (rec : Int32 → Int32 → Int32 → Int32 → zM → Option (Int32 × zM)) (fr lo : Nat) (hrec : ∀ (z0 : Int32) (z1 : Int32) (z2 : Int32) (z3 : Int32) (M : zM) (r0 : Int32) (M0 : zM), rec z0 z1 z2 z3 M = some (r0, M0) → zCi l D cy a yX5_speak cX5_speak 7 (some .int) (zRm fr lo) [.ref (a 76), .int z0, .int z1, .int z2, .int z3] M (fun r u => r = r0 ∧ u = M0)) (p0 : Int32) (p1 : Int32) (p2 : Int32) (p3 : Int32) (M : zM) (r0 : Int32) (M0 : zM) (h : fX5_ofOthers rec p0 p1 p2 p3 M = some (r0, M0)) : zCi l D cy a yX5_ofOthers cX5_ofOthers 6 (some .int) (zRm (fr + 2) (lo + 50)) [.ref (a 76), .int p0, .int p1, .int p2, .int p3] M (fun r u => r = r0 ∧ u = M0) := by
  intro sz
  refine zent_i sz (by decide) (Nat.le_of_ble_eq_true rfl) rfl (fun p e s m args below meth c ls H locs X hw hl => ?_)
  obtain ⟨hx, hb, hr, hml, hown, hW, hlocks⟩ := id X
  have hE := hw.2.2.2.2.1
  have hcs : 0 ≤ ((zRm (fr + 2) (lo + 50))).cells ∧ 0 ≤ ((zRm (fr + 2) (lo + 50))).slots := ⟨Nat.zero_le _, Nat.zero_le _⟩
  rw [fX5_ofOthers] at h
  refine lv_iload hx hb dX5_ofOthers_0 (lv_at hl 4 rfl) ?_
  refine lv_iconst (v := 1) hx hb dX5_ofOthers_2 (by decide) ?_
  refine lv_iadd hx hb dX5_ofOthers_3 ?_
  refine lv_topi (fun x1 ex1 => ?_)
  replace h := zlt_s ex1 h
  refine lv_istore (lv' := [(5, .int x1), (0, .ref (a 76)), (1, .int p0), (2, .int p1), (3, .int p2), (4, .int p3)]) hx hb dX5_ofOthers_4 hl (by decide) rfl (fun ls hl => ?_)
  refine lv_iload_n hx hb dX5_ofOthers_6 rfl (lv_at hl 2 rfl) ?_
  by_cases c2 : p0 = (20 : Int32)
  · replace h := zif_t c2 h
    refine lv_lookup (off := 73) (tgt := 80) hx hb dX5_ofOthers_7 (by decide) (by rw [c2]; rfl) (by decide) ?_
    refine lv_aload_n hx hb dX5_ofOthers_80 rfl (lv_at hl 1 rfl) ?_
    refine lv_iload_n hx hb dX5_ofOthers_81 rfl (lv_at hl 3 rfl) ?_
    refine lv_iconst (v := 0) hx hb dX5_ofOthers_82 (by decide) ?_
    refine lv_iload_n hx hb dX5_ofOthers_83 rfl (lv_at hl 4 rfl) ?_
    refine lv_iload hx hb dX5_ofOthers_84 (lv_at hl 0 rfl) ?_
    obtain ⟨r3, M4, f5, h⟩ := zbi_e h
    refine z_qVi (As := [.int p1, .int (0 : Int32), .int p2, .int x1]) (rest := []) X hw (hrec p1 (0 : Int32) p2 x1 M r3 M4 f5) (cwX5_32 X.2.2.2.2.2.1 rfl rfl (zroomO (by omega) (by omega))) (zX5_lt zX5_76) (zS5 zX5_76 cy a (M 76)) rfl rfl rfl (Nat.le_of_ble_eq_true rfl) hl.1 hcs dX5_ofOthers_86 (fun H locs hw => ?_)
    refine lv_iconst (v := 4) hx hb dX5_ofOthers_89 (by decide) ?_
    refine lv_isub hx hb dX5_ofOthers_90 ?_
    exact z_ri X hw (zret h) dX5_ofOthers_91
  replace h := zif_f c2 h
  by_cases c6 : p0 = (21 : Int32)
  · replace h := zif_t c6 h
    refine lv_lookup (off := 85) (tgt := 92) hx hb dX5_ofOthers_7 (by decide) (by rw [c6]; rfl) (by decide) ?_
    refine lv_aload_n hx hb dX5_ofOthers_92 rfl (lv_at hl 1 rfl) ?_
    refine lv_iload_n hx hb dX5_ofOthers_93 rfl (lv_at hl 3 rfl) ?_
    refine lv_iload_n hx hb dX5_ofOthers_94 rfl (lv_at hl 4 rfl) ?_
    refine lv_iload hx hb dX5_ofOthers_95 (lv_at hl 0 rfl) ?_
    obtain ⟨r7, M8, f9, h⟩ := zbi_e h
    refine z_qVi (As := [.int p1, .int p2, .int x1]) (rest := []) X hw (kX5_partsOfSlow l D cy a rec _ _ hrec p1 p2 x1 M r7 M8 f9) (cwX5_53 X.2.2.2.2.2.1 rfl rfl (zroomO (by omega) (by omega))) (zX5_lt zX5_76) (zS5 zX5_76 cy a (M 76)) rfl rfl rfl (Nat.le_of_ble_eq_true rfl) hl.1 hcs dX5_ofOthers_97 (fun H locs hw => ?_)
    exact z_ri X hw (zret h) dX5_ofOthers_100
  replace h := zif_f c6 h
  by_cases c10 : p0 = (30 : Int32)
  · replace h := zif_t c10 h
    refine lv_lookup (off := 94) (tgt := 101) hx hb dX5_ofOthers_7 (by decide) (by rw [c10]; rfl) (by decide) ?_
    refine lv_iconst (v := 0) hx hb dX5_ofOthers_101 (by decide) ?_
    refine lv_aload_n hx hb dX5_ofOthers_102 rfl (lv_at hl 1 rfl) ?_
    refine lv_iload_n hx hb dX5_ofOthers_103 rfl (lv_at hl 3 rfl) ?_
    refine lv_iconst (v := 1) hx hb dX5_ofOthers_104 (by decide) ?_
    refine lv_iload_n hx hb dX5_ofOthers_105 rfl (lv_at hl 4 rfl) ?_
    refine lv_iload hx hb dX5_ofOthers_106 (lv_at hl 0 rfl) ?_
    obtain ⟨r11, M12, f13, h⟩ := zbi_e h
    refine z_qVi (As := [.int p1, .int (1 : Int32), .int p2, .int x1]) (rest := [.int (0 : Int32)]) X hw (hrec p1 (1 : Int32) p2 x1 M r11 M12 f13) (cwX5_32 X.2.2.2.2.2.1 rfl rfl (zroomO (by omega) (by omega))) (zX5_lt zX5_76) (zS5 zX5_76 cy a (M 76)) rfl rfl rfl (Nat.le_of_ble_eq_true rfl) hl.1 hcs dX5_ofOthers_108 (fun H locs hw => ?_)
    refine lv_isub hx hb dX5_ofOthers_111 ?_
    exact z_ri X hw (zret h) dX5_ofOthers_112
  replace h := zif_f c10 h
  by_cases c14 : p0 = (40 : Int32)
  · replace h := zif_t c14 h
    refine lv_lookup (off := 106) (tgt := 113) hx hb dX5_ofOthers_7 (by decide) (by rw [c14]; rfl) (by decide) ?_
    refine lv_aload_n hx hb dX5_ofOthers_113 rfl (lv_at hl 1 rfl) ?_
    refine lv_iload_n hx hb dX5_ofOthers_114 rfl (lv_at hl 3 rfl) ?_
    refine lv_iconst (v := 2) hx hb dX5_ofOthers_115 (by decide) ?_
    refine lv_iload_n hx hb dX5_ofOthers_116 rfl (lv_at hl 4 rfl) ?_
    refine lv_iconst (v := 2) hx hb dX5_ofOthers_117 (by decide) ?_
    refine lv_idiv hx hb dX5_ofOthers_118 (by decide) ?_
    refine lv_iload hx hb dX5_ofOthers_119 (lv_at hl 0 rfl) ?_
    obtain ⟨r15, M16, f17, h⟩ := zbi_e h
    refine z_qVi (As := [.int p1, .int (2 : Int32), .int (p2 / (2 : Int32)), .int x1]) (rest := []) X hw (hrec p1 (2 : Int32) (p2 / (2 : Int32)) x1 M r15 M16 f17) (cwX5_32 X.2.2.2.2.2.1 rfl rfl (zroomO (by omega) (by omega))) (zX5_lt zX5_76) (zS5 zX5_76 cy a (M 76)) rfl rfl rfl (Nat.le_of_ble_eq_true rfl) hl.1 hcs dX5_ofOthers_121 (fun H locs hw => ?_)
    exact z_ri X hw (zret h) dX5_ofOthers_124
  replace h := zif_f c14 h
  by_cases c18 : p0 = (50 : Int32)
  · replace h := zif_t c18 h
    refine lv_lookup (off := 118) (tgt := 125) hx hb dX5_ofOthers_7 (by decide) (by rw [c18]; rfl) (by decide) ?_
    refine lv_aload_n hx hb dX5_ofOthers_125 rfl (lv_at hl 1 rfl) ?_
    refine lv_iload_n hx hb dX5_ofOthers_126 rfl (lv_at hl 3 rfl) ?_
    refine lv_iconst (v := 0) hx hb dX5_ofOthers_127 (by decide) ?_
    refine lv_iload_n hx hb dX5_ofOthers_128 rfl (lv_at hl 4 rfl) ?_
    refine lv_iload hx hb dX5_ofOthers_129 (lv_at hl 0 rfl) ?_
    obtain ⟨r19, M20, f21, h⟩ := zbi_e h
    refine z_qVi (As := [.int p1, .int (0 : Int32), .int p2, .int x1]) (rest := []) X hw (hrec p1 (0 : Int32) p2 x1 M r19 M20 f21) (cwX5_32 X.2.2.2.2.2.1 rfl rfl (zroomO (by omega) (by omega))) (zX5_lt zX5_76) (zS5 zX5_76 cy a (M 76)) rfl rfl rfl (Nat.le_of_ble_eq_true rfl) hl.1 hcs dX5_ofOthers_131 (fun H locs hw => ?_)
    refine lv_iconst (v := 3) hx hb dX5_ofOthers_134 (by decide) ?_
    refine lv_imul hx hb dX5_ofOthers_135 ?_
    exact z_ri X hw (zret h) dX5_ofOthers_136
  replace h := zif_f c18 h
  by_cases c22 : p0 = (51 : Int32)
  · replace h := zif_t c22 h
    refine lv_lookup (off := 130) (tgt := 137) hx hb dX5_ofOthers_7 (by decide) (by rw [c22]; rfl) (by decide) ?_
    refine lv_aload_n hx hb dX5_ofOthers_137 rfl (lv_at hl 1 rfl) ?_
    refine lv_iload_n hx hb dX5_ofOthers_138 rfl (lv_at hl 3 rfl) ?_
    refine lv_iconst (v := 2) hx hb dX5_ofOthers_139 (by decide) ?_
    refine lv_iload_n hx hb dX5_ofOthers_140 rfl (lv_at hl 4 rfl) ?_
    refine lv_iload hx hb dX5_ofOthers_141 (lv_at hl 0 rfl) ?_
    obtain ⟨r23, M24, f25, h⟩ := zbi_e h
    refine z_qVi (As := [.int p1, .int (2 : Int32), .int p2, .int x1]) (rest := []) X hw (hrec p1 (2 : Int32) p2 x1 M r23 M24 f25) (cwX5_32 X.2.2.2.2.2.1 rfl rfl (zroomO (by omega) (by omega))) (zX5_lt zX5_76) (zS5 zX5_76 cy a (M 76)) rfl rfl rfl (Nat.le_of_ble_eq_true rfl) hl.1 hcs dX5_ofOthers_143 (fun H locs hw => ?_)
    refine lv_aload_n hx hb dX5_ofOthers_146 rfl (lv_at hl 1 rfl) ?_
    refine gtX5_19 X hw dX5_ofOthers_147 ?_
    refine lv_ixor hx hb dX5_ofOthers_150 ?_
    exact z_ri X hw (zret h) dX5_ofOthers_151
  replace h := zif_f c22 h
  by_cases c26 : p0 = (60 : Int32)
  · replace h := zif_t c26 h
    refine lv_lookup (off := 145) (tgt := 152) hx hb dX5_ofOthers_7 (by decide) (by rw [c26]; rfl) (by decide) ?_
    refine lv_aload_n hx hb dX5_ofOthers_152 rfl (lv_at hl 1 rfl) ?_
    refine lv_iload_n hx hb dX5_ofOthers_153 rfl (lv_at hl 3 rfl) ?_
    refine lv_iconst (v := 1) hx hb dX5_ofOthers_154 (by decide) ?_
    refine lv_iload_n hx hb dX5_ofOthers_155 rfl (lv_at hl 4 rfl) ?_
    refine lv_iconst (v := 1) hx hb dX5_ofOthers_156 (by decide) ?_
    refine lv_iadd hx hb dX5_ofOthers_157 ?_
    refine lv_iload hx hb dX5_ofOthers_158 (lv_at hl 0 rfl) ?_
    obtain ⟨r27, M28, f29, h⟩ := zbi_e h
    refine z_qVi (As := [.int p1, .int (1 : Int32), .int (p2 + (1 : Int32)), .int x1]) (rest := []) X hw (hrec p1 (1 : Int32) (p2 + (1 : Int32)) x1 M r27 M28 f29) (cwX5_32 X.2.2.2.2.2.1 rfl rfl (zroomO (by omega) (by omega))) (zX5_lt zX5_76) (zS5 zX5_76 cy a (M 76)) rfl rfl rfl (Nat.le_of_ble_eq_true rfl) hl.1 hcs dX5_ofOthers_160 (fun H locs hw => ?_)
    exact z_ri X hw (zret h) dX5_ofOthers_163
  replace h := zif_f c26 h
  by_cases c30 : p0 = (70 : Int32)
  · replace h := zif_t c30 h
    refine lv_lookup (off := 157) (tgt := 164) hx hb dX5_ofOthers_7 (by decide) (by rw [c30]; rfl) (by decide) ?_
    refine lv_iconst (v := 2) hx hb dX5_ofOthers_164 (by decide) ?_
    exact z_ri X hw (zret h) dX5_ofOthers_165
  replace h := zif_f c30 h
  refine lv_lookup (off := 159) (tgt := 166) hx hb dX5_ofOthers_7 (by decide) ((lv_osw c2 rfl).trans ((lv_osw c6 rfl).trans ((lv_osw c10 rfl).trans ((lv_osw c14 rfl).trans ((lv_osw c18 rfl).trans ((lv_osw c22 rfl).trans ((lv_osw c26 rfl).trans ((lv_osw c30 rfl).trans (rfl))))))))) (by decide) ?_
  refine lv_aload_n hx hb dX5_ofOthers_166 rfl (lv_at hl 1 rfl) ?_
  refine lv_iload_n hx hb dX5_ofOthers_167 rfl (lv_at hl 3 rfl) ?_
  refine lv_iconst (v := 1) hx hb dX5_ofOthers_168 (by decide) ?_
  refine lv_iload_n hx hb dX5_ofOthers_169 rfl (lv_at hl 4 rfl) ?_
  refine lv_iload hx hb dX5_ofOthers_170 (lv_at hl 0 rfl) ?_
  obtain ⟨r31, M32, f33, h⟩ := zbi_e h
  refine z_qVi (As := [.int p1, .int (1 : Int32), .int p2, .int x1]) (rest := []) X hw (hrec p1 (1 : Int32) p2 x1 M r31 M32 f33) (cwX5_32 X.2.2.2.2.2.1 rfl rfl (zroomO (by omega) (by omega))) (zX5_lt zX5_76) (zS5 zX5_76 cy a (M 76)) rfl rfl rfl (Nat.le_of_ble_eq_true rfl) hl.1 hcs dX5_ofOthers_172 (fun H locs hw => ?_)
  refine lv_aload_n hx hb dX5_ofOthers_175 rfl (lv_at hl 1 rfl) ?_
  refine gtX5_22 X hw dX5_ofOthers_176 ?_
  refine lv_iadd hx hb dX5_ofOthers_179 ?_
  exact z_ri X hw (zret h) dX5_ofOthers_180
def fX5_speak_24 (y2 : Int32) (y3 : Int32) (y4 : Int32) (k : Int32 → zM → Option (Int32 × zM)) : Nat → Int32 → Int32 → zM → Option (Int32 × zM)
  | 0, _, _, _ => none
  | n + 1, v5, v6, M => if (7 : Int32) ≤ v6 then (k v5 M) else (zgd (((4 : Int32) * v5) + y2 < 0 ∨ 28 ≤ (((4 : Int32) * v5) + y2).toNatClampNeg) (if zBODY ((((4 : Int32) * v5) + y2).toNatClampNeg) = 0 then (zgd (v5 < 0 ∨ 7 ≤ v5.toNatClampNeg) (zlt (zABOVE (v5.toNatClampNeg)) (fun x9 => zlt (v6 + (1 : Int32)) (fun x10 => fX5_speak_24 y2 y3 y4 k n x9 x10 M)))) else (k v5 M)))
set_option maxRecDepth 100000 in
set_option maxHeartbeats 4000000 in
theorem lX5_speak_24 {p : Program} {l : Launch} {e : Env} {s : State} {m : MethodId} {args : Array Value} {below : List Frame} {meth : Method} {c : Code} {D : va_G} {cy : Nat → ClassId} {a : Nat → Nat} {r0 : Int32} {M0 : zM} {dd : Nat} (X : zCX p s m meth c args cX5_speak 7 (some .int) RX5) (y2 : Int32) (y3 : Int32) (y4 : Int32) (k : Int32 → zM → Option (Int32 × zM)) : ∀ (n : Nat) (v5 : Int32) (v6 : Int32) (M : zM) (H : Heap) (locs : List Loc) (ls : Array Slot), zWD D cy a (zfr a s.heap.size) M H locs s → lv_has ls 7 [(0, .ref (a 76)), (2, .int y2), (3, .int y3), (4, .int y4), (5, .int v5), (6, .int v6)] → fX5_speak_24 y2 y3 y4 k n v5 v6 M = some (r0, M0) →
    (∀ (u5 : Int32) (M' : zM) (H' : Heap) (locs' : List Loc) (ls' : Array Slot), zWD D cy a (zfr a s.heap.size) M' H' locs' s → lv_has ls' 7 [(0, .ref (a 76)), (2, .int y2), (3, .int y3), (4, .int y4), (5, .int u5)] → k u5 M' = some (r0, M0) → W p l e (zRm ((dd + 1) * 3 + 0) ((dd + 1) * 75 + 0)) s m args below meth c H' locs' 0 0 (zQi D cy a s args below r0 M0) (F0 m 58 ls' [])) →
    W p l e (zRm ((dd + 1) * 3 + 0) ((dd + 1) * 75 + 0)) s m args below meth c H locs 0 0 (zQi D cy a s args below r0 M0) (F0 m 24 ls []) := by
  obtain ⟨hx, hb, hr, hml, hown, hW, hlocks⟩ := id X
  have hcs : 0 ≤ ((zRm ((dd + 1) * 3 + 0) ((dd + 1) * 75 + 0))).cells ∧ 0 ≤ ((zRm ((dd + 1) * 3 + 0) ((dd + 1) * 75 + 0))).slots := ⟨Nat.zero_le _, Nat.zero_le _⟩
  intro n
  induction n with
  | zero =>
    intro v5 v6 M H locs ls hw hl h hk
    cases h
  | succ n ih =>
    intro v5 v6 M H locs ls hw hl h hk
    have hE := hw.2.2.2.2.1
    rw [fX5_speak_24] at h
    refine lv_iload hx hb dX5_speak_24 (lv_at hl 5 rfl) ?_
    refine lv_bipush (v := 7) hx hb dX5_speak_26 (by decide) ?_
    refine lv_icmp_ge (tgt := 58) hx hb dX5_speak_28 (by decide) (fun c4 => ?_) (fun c4 => ?_)
    · replace h := zif_t c4 h
      exact hk v5 M H locs _ hw (lv_sub hl [0, 1, 2, 3, 4] rfl) h
    · replace h := zif_f c4 h
      refine z_tabA (n := 0) (i := 0) X hw hE.2.2.2.1 zm_37_10 dX5_speak_31 (fun t5 hTt5 => ?_)
      refine lv_iconst (v := 4) hx hb dX5_speak_34 (by decide) ?_
      refine lv_iload hx hb dX5_speak_35 (lv_at hl 4 rfl) ?_
      refine lv_imul hx hb dX5_speak_37 ?_
      refine lv_iload_n hx hb dX5_speak_38 rfl (lv_at hl 1 rfl) ?_
      refine lv_iadd hx hb dX5_speak_39 ?_
      obtain ⟨g6, h⟩ := zgd_e h
      refine z_tald X hw hTt5 g6 dX5_speak_40 ?_
      refine lv_if_ne (tgt := 58) hx hb dX5_speak_41 (by decide) (fun c7 => ?_) (fun c7 => ?_)
      · replace h := zif_f c7 h
        exact hk v5 M H locs _ hw (lv_sub hl [0, 1, 2, 3, 4] rfl) h
      · replace h := zif_t c7 h
        refine z_tabN X hw hE.2.1 hE.1.2 dX5_speak_44 (fun t hT => ?_)
        refine lv_iload hx hb dX5_speak_47 (lv_at hl 4 rfl) ?_
        obtain ⟨g8, h⟩ := zgd_e h
        refine z_tald X hw hT g8 dX5_speak_49 ?_
        refine lv_topi (fun x9 ex9 => ?_)
        replace h := zlt_s ex9 h
        refine lv_istore (lv' := [(5, .int x9), (0, .ref (a 76)), (2, .int y2), (3, .int y3), (4, .int y4), (6, .int v6)]) hx hb dX5_speak_50 hl (by decide) rfl (fun ls hl => ?_)
        obtain ⟨x10, ex10⟩ : ∃ y : Int32, y = v6 + (1 : Int32) := ⟨_, rfl⟩
        replace h := zlt_s ex10 h
        refine lv_iinc (v := x10) (lv' := [(6, .int x10), (5, .int x9), (0, .ref (a 76)), (2, .int y2), (3, .int y3), (4, .int y4)]) hx hb dX5_speak_52 hl (k := 5) rfl (by rw [ex10]; rfl) (by decide) rfl (fun ls hl => ?_)
        refine lv_goto (tgt := 24) hx hb dX5_speak_55 (by decide) ?_
        exact ih x9 x10 M H locs _ hw (lv_sub hl [2, 3, 4, 5, 1, 0] rfl) h hk
def fX5_speak : Nat → Int32 → Int32 → Int32 → Int32 → zM → Option (Int32 × zM)
  | 0, _, _, _, _, _ => none
  | dd + 1, p0, p1, p2, p3, M => if (40 : Int32) < p3 then (some ((0 : Int32), M)) else (if p1 < 0 then (some ((0 : Int32), M)) else (if p1 ≤ (3 : Int32) then (fX5_speak_24 p1 p2 p3 (fun x11 M12 => zgd (((4 : Int32) * x11) + p1 < 0 ∨ 28 ≤ (((4 : Int32) * x11) + p1).toNatClampNeg) (zlt (zBODY ((((4 : Int32) * x11) + p1).toNatClampNeg)) (fun x15 => if (30 : Int32) ≤ M12 76 1 then (if (20 : Int32) ≤ x15 then (zgd (x11 < 0 ∨ 7 ≤ x11.toNatClampNeg) (zbi (fX5_ofOthers (fX5_speak dd) x15 (zABOVE (x11.toNatClampNeg)) p2 p3 M12) (fun r19 M20 => some (r19, M20)))) else (zbi (fX5_ofWheel (fX5_speak dd) x15 p2 p3 M12) (fun r22 M23 => some (r22, M23)))) else (zgd (M12 76 1 < 0 ∨ 30 ≤ (M12 76 1).toNatClampNeg) (zlt (zst M12 77 ((M12 76 1).toNatClampNeg) x15) (fun M25 => zlt (zst M25 76 1 ((M25 76 1) + (1 : Int32))) (fun M27 => if (20 : Int32) ≤ x15 then (zgd (x11 < 0 ∨ 7 ≤ x11.toNatClampNeg) (zbi (fX5_ofOthers (fX5_speak dd) x15 (zABOVE (x11.toNatClampNeg)) p2 p3 M27) (fun r30 M31 => some (r30, M31)))) else (zbi (fX5_ofWheel (fX5_speak dd) x15 p2 p3 M27) (fun r33 M34 => some (r33, M34)))))))))) zF p0 (0 : Int32) M) else (some ((0 : Int32), M))))
set_option maxRecDepth 100000 in
set_option maxHeartbeats 4000000 in
theorem kX5_speak (l : Launch) (D : va_G) (cy : Nat → ClassId) (a : Nat → Nat) : ∀ (d : Nat) (p0 : Int32) (p1 : Int32) (p2 : Int32) (p3 : Int32) (M : zM) (r0 : Int32) (M0 : zM), fX5_speak d p0 p1 p2 p3 M = some (r0, M0) → zCi l D cy a yX5_speak cX5_speak 7 (some .int) (zRm (d * 3 + 0) (d * 75 + 0)) [.ref (a 76), .int p0, .int p1, .int p2, .int p3] M (fun r u => r = r0 ∧ u = M0) := by
  intro d
  induction d with
  | zero =>
    intro p0 p1 p2 p3 M r0 M0 h
    cases h
  | succ dd ih =>
    intro p0 p1 p2 p3 M r0 M0 h
    intro sz
    refine zent_i sz (by decide) (Nat.le_of_ble_eq_true rfl) rfl (fun p e s m args below meth c ls H locs X hw hl => ?_)
    obtain ⟨hx, hb, hr, hml, hown, hW, hlocks⟩ := id X
    have hE := hw.2.2.2.2.1
    have hcs : 0 ≤ ((zRm ((dd + 1) * 3 + 0) ((dd + 1) * 75 + 0))).cells ∧ 0 ≤ ((zRm ((dd + 1) * 3 + 0) ((dd + 1) * 75 + 0))).slots := ⟨Nat.zero_le _, Nat.zero_le _⟩
    rw [fX5_speak] at h
    refine lv_iload hx hb dX5_speak_0 (lv_at hl 4 rfl) ?_
    refine lv_bipush (v := 40) hx hb dX5_speak_2 (by decide) ?_
    refine lv_icmp_gt (tgt := 16) hx hb dX5_speak_4 (by decide) (fun c1 => ?_) (fun c1 => ?_)
    · replace h := zif_t c1 h
      refine lv_iconst (v := 0) hx hb dX5_speak_16 (by decide) ?_
      exact z_ri X hw (zret h) dX5_speak_17
    · replace h := zif_f c1 h
      refine lv_iload_n hx hb dX5_speak_7 rfl (lv_at hl 2 rfl) ?_
      refine lv_if_lt (tgt := 16) hx hb dX5_speak_8 (by decide) (fun c2 => ?_) (fun c2 => ?_)
      · replace h := zif_t c2 h
        refine lv_iconst (v := 0) hx hb dX5_speak_16 (by decide) ?_
        exact z_ri X hw (zret h) dX5_speak_17
      · replace h := zif_f c2 h
        refine lv_iload_n hx hb dX5_speak_11 rfl (lv_at hl 2 rfl) ?_
        refine lv_iconst (v := 3) hx hb dX5_speak_12 (by decide) ?_
        refine lv_icmp_le (tgt := 18) hx hb dX5_speak_13 (by decide) (fun c3 => ?_) (fun c3 => ?_)
        · replace h := zif_t c3 h
          refine lv_iload_n hx hb dX5_speak_18 rfl (lv_at hl 1 rfl) ?_
          refine lv_istore (lv' := [(5, .int p0), (0, .ref (a 76)), (1, .int p0), (2, .int p1), (3, .int p2), (4, .int p3)]) hx hb dX5_speak_19 hl (by decide) rfl (fun ls hl => ?_)
          refine lv_iconst (v := 0) hx hb dX5_speak_21 (by decide) ?_
          refine lv_istore (lv' := [(6, .int (0 : Int32)), (5, .int p0), (0, .ref (a 76)), (1, .int p0), (2, .int p1), (3, .int p2), (4, .int p3)]) hx hb dX5_speak_22 hl (by decide) rfl (fun ls hl => ?_)
          refine lX5_speak_24 X p1 p2 p3 _ zF p0 (0 : Int32) M H locs _ hw (lv_sub hl [2, 4, 5, 6, 1, 0] rfl) h (fun x11 M12 H locs ls hw hl h => ?_)
          refine z_tabA (n := 0) (i := 0) X hw hE.2.2.2.1 zm_37_10 dX5_speak_58 (fun t13 hTt13 => ?_)
          refine lv_iconst (v := 4) hx hb dX5_speak_61 (by decide) ?_
          refine lv_iload hx hb dX5_speak_62 (lv_at hl 4 rfl) ?_
          refine lv_imul hx hb dX5_speak_64 ?_
          refine lv_iload_n hx hb dX5_speak_65 rfl (lv_at hl 1 rfl) ?_
          refine lv_iadd hx hb dX5_speak_66 ?_
          obtain ⟨g14, h⟩ := zgd_e h
          refine z_tald X hw hTt13 g14 dX5_speak_67 ?_
          refine lv_topi (fun x15 ex15 => ?_)
          replace h := zlt_s ex15 h
          refine lv_istore (lv' := [(6, .int x15), (0, .ref (a 76)), (2, .int p1), (3, .int p2), (4, .int p3), (5, .int x11)]) hx hb dX5_speak_68 hl (by decide) rfl (fun ls hl => ?_)
          refine lv_aload_n hx hb dX5_speak_70 rfl (lv_at hl 1 rfl) ?_
          refine gtX5_25 X hw dX5_speak_71 ?_
          refine lv_bipush (v := 30) hx hb dX5_speak_74 (by decide) ?_
          refine lv_icmp_ge (tgt := 100) hx hb dX5_speak_76 (by decide) (fun c16 => ?_) (fun c16 => ?_)
          · replace h := zif_t c16 h
            refine lv_iload hx hb dX5_speak_100 (lv_at hl 0 rfl) ?_
            refine lv_bipush (v := 20) hx hb dX5_speak_102 (by decide) ?_
            refine lv_icmp_ge (tgt := 119) hx hb dX5_speak_104 (by decide) (fun c17 => ?_) (fun c17 => ?_)
            · replace h := zif_t c17 h
              refine lv_aload_n hx hb dX5_speak_119 rfl (lv_at hl 1 rfl) ?_
              refine lv_iload hx hb dX5_speak_120 (lv_at hl 0 rfl) ?_
              refine z_tabN X hw hE.2.1 hE.1.2 dX5_speak_122 (fun t hT => ?_)
              refine lv_iload hx hb dX5_speak_125 (lv_at hl 5 rfl) ?_
              obtain ⟨g18, h⟩ := zgd_e h
              refine z_tald X hw hT g18 dX5_speak_127 ?_
              refine lv_iload_n hx hb dX5_speak_128 rfl (lv_at hl 3 rfl) ?_
              refine lv_iload hx hb dX5_speak_129 (lv_at hl 4 rfl) ?_
              obtain ⟨r19, M20, f21, h⟩ := zbi_e h
              refine z_qVi (As := [.int x15, .int (zABOVE (x11.toNatClampNeg)), .int p2, .int p3]) (rest := []) X hw (kX5_ofOthers l D cy a (fX5_speak dd) _ _ ih x15 (zABOVE (x11.toNatClampNeg)) p2 p3 M12 r19 M20 f21) (cwX5_46 X.2.2.2.2.2.1 rfl rfl (zroomO (by omega) (by omega))) (zX5_lt zX5_76) (zS5 zX5_76 cy a (M12 76)) rfl rfl rfl (Nat.le_of_ble_eq_true rfl) hl.1 hcs dX5_speak_131 (fun H locs hw => ?_)
              exact z_ri X hw (zret h) dX5_speak_134
            · replace h := zif_f c17 h
              refine lv_aload_n hx hb dX5_speak_107 rfl (lv_at hl 1 rfl) ?_
              refine lv_iload hx hb dX5_speak_108 (lv_at hl 0 rfl) ?_
              refine lv_iload_n hx hb dX5_speak_110 rfl (lv_at hl 3 rfl) ?_
              refine lv_iload hx hb dX5_speak_111 (lv_at hl 4 rfl) ?_
              obtain ⟨r22, M23, f24, h⟩ := zbi_e h
              refine z_qVi (As := [.int x15, .int p2, .int p3]) (rest := []) X hw (kX5_ofWheel l D cy a (fX5_speak dd) _ _ ih x15 p2 p3 M12 r22 M23 f24) (cwX5_42 X.2.2.2.2.2.1 rfl rfl (zroomO (by omega) (by omega))) (zX5_lt zX5_76) (zS5 zX5_76 cy a (M12 76)) rfl rfl rfl (Nat.le_of_ble_eq_true rfl) hl.1 hcs dX5_speak_113 (fun H locs hw => ?_)
              refine lv_goto (tgt := 134) hx hb dX5_speak_116 (by decide) ?_
              exact z_ri X hw (zret h) dX5_speak_134
          · replace h := zif_f c16 h
            refine lv_aload_n hx hb dX5_speak_79 rfl (lv_at hl 1 rfl) ?_
            refine gtX5_9 X hw dX5_speak_80 ?_
            refine lv_aload_n hx hb dX5_speak_83 rfl (lv_at hl 1 rfl) ?_
            refine gtX5_25 X hw dX5_speak_84 ?_
            refine lv_iload hx hb dX5_speak_87 (lv_at hl 0 rfl) ?_
            obtain ⟨g26, h⟩ := zgd_e h
            refine z_ast X hw (zI_5_1 zX5_76) g26 dX5_speak_89 (fun M25 H locs eM25 hw => ?_)
            replace h := zlt_s eM25 h
            refine lv_aload_n hx hb dX5_speak_90 rfl (lv_at hl 1 rfl) ?_
            refine lv_dup hx hb dX5_speak_91 rfl ?_
            refine gtX5_25 X hw dX5_speak_92 ?_
            refine lv_iconst (v := 1) hx hb dX5_speak_95 (by decide) ?_
            refine lv_iadd hx hb dX5_speak_96 ?_
            refine ptX5_25 X hw dX5_speak_97 (fun M27 H locs eM27 hw => ?_)
            replace h := zlt_s eM27 h
            refine lv_iload hx hb dX5_speak_100 (lv_at hl 0 rfl) ?_
            refine lv_bipush (v := 20) hx hb dX5_speak_102 (by decide) ?_
            refine lv_icmp_ge (tgt := 119) hx hb dX5_speak_104 (by decide) (fun c28 => ?_) (fun c28 => ?_)
            · replace h := zif_t c28 h
              refine lv_aload_n hx hb dX5_speak_119 rfl (lv_at hl 1 rfl) ?_
              refine lv_iload hx hb dX5_speak_120 (lv_at hl 0 rfl) ?_
              refine z_tabN X hw hE.2.1 hE.1.2 dX5_speak_122 (fun t hT => ?_)
              refine lv_iload hx hb dX5_speak_125 (lv_at hl 5 rfl) ?_
              obtain ⟨g29, h⟩ := zgd_e h
              refine z_tald X hw hT g29 dX5_speak_127 ?_
              refine lv_iload_n hx hb dX5_speak_128 rfl (lv_at hl 3 rfl) ?_
              refine lv_iload hx hb dX5_speak_129 (lv_at hl 4 rfl) ?_
              obtain ⟨r30, M31, f32, h⟩ := zbi_e h
              refine z_qVi (As := [.int x15, .int (zABOVE (x11.toNatClampNeg)), .int p2, .int p3]) (rest := []) X hw (kX5_ofOthers l D cy a (fX5_speak dd) _ _ ih x15 (zABOVE (x11.toNatClampNeg)) p2 p3 M27 r30 M31 f32) (cwX5_46 X.2.2.2.2.2.1 rfl rfl (zroomO (by omega) (by omega))) (zX5_lt zX5_76) (zS5 zX5_76 cy a (M27 76)) rfl rfl rfl (Nat.le_of_ble_eq_true rfl) hl.1 hcs dX5_speak_131 (fun H locs hw => ?_)
              exact z_ri X hw (zret h) dX5_speak_134
            · replace h := zif_f c28 h
              refine lv_aload_n hx hb dX5_speak_107 rfl (lv_at hl 1 rfl) ?_
              refine lv_iload hx hb dX5_speak_108 (lv_at hl 0 rfl) ?_
              refine lv_iload_n hx hb dX5_speak_110 rfl (lv_at hl 3 rfl) ?_
              refine lv_iload hx hb dX5_speak_111 (lv_at hl 4 rfl) ?_
              obtain ⟨r33, M34, f35, h⟩ := zbi_e h
              refine z_qVi (As := [.int x15, .int p2, .int p3]) (rest := []) X hw (kX5_ofWheel l D cy a (fX5_speak dd) _ _ ih x15 p2 p3 M27 r33 M34 f35) (cwX5_42 X.2.2.2.2.2.1 rfl rfl (zroomO (by omega) (by omega))) (zX5_lt zX5_76) (zS5 zX5_76 cy a (M27 76)) rfl rfl rfl (Nat.le_of_ble_eq_true rfl) hl.1 hcs dX5_speak_113 (fun H locs hw => ?_)
              refine lv_goto (tgt := 134) hx hb dX5_speak_116 (by decide) ?_
              exact z_ri X hw (zret h) dX5_speak_134
        · replace h := zif_f c3 h
          refine lv_iconst (v := 0) hx hb dX5_speak_16 (by decide) ?_
          exact z_ri X hw (zret h) dX5_speak_17
def fX5_answer (p0 : Int32) (p1 : Int32) (p2 : Int32) (p3 : Int32) (p4 : Int32) (M : zM) : Option (Int32 × zM) := zlt (zst M 76 3 p0) (fun M1 => zlt (zst M1 76 4 p1) (fun M2 => zlt (zst M2 76 5 p2) (fun M3 => zlt (zst M3 76 1 (0 : Int32)) (fun M4 => zlt (zst M4 76 2 (0 : Int32)) (fun M5 => zbi (fX5_speak 60 (M5 76 3) p3 p4 (0 : Int32) M5) (fun r6 M7 => some (r6, M7)))))))
set_option maxRecDepth 100000 in
set_option maxHeartbeats 4000000 in
theorem kX5_answer (l : Launch) (D : va_G) (cy : Nat → ClassId) (a : Nat → Nat) (p0 : Int32) (p1 : Int32) (p2 : Int32) (p3 : Int32) (p4 : Int32) (M : zM) (r0 : Int32) (M0 : zM) (h : fX5_answer p0 p1 p2 p3 p4 M = some (r0, M0)) : zCi l D cy a yX5_answer cX5_answer 6 (some .int) (zRm 181 4526) [.ref (a 76), .int p0, .int p1, .int p2, .int p3, .int p4] M (fun r u => r = r0 ∧ u = M0) := by
  intro sz
  refine zent_i sz (by decide) (Nat.le_of_ble_eq_true rfl) rfl (fun p e s m args below meth c ls H locs X hw hl => ?_)
  obtain ⟨hx, hb, hr, hml, hown, hW, hlocks⟩ := id X
  have hE := hw.2.2.2.2.1
  have hcs : 0 ≤ ((zRm 181 4526)).cells ∧ 0 ≤ ((zRm 181 4526)).slots := ⟨Nat.zero_le _, Nat.zero_le _⟩
  rw [fX5_answer] at h
  refine lv_aload_n hx hb dX5_answer_0 rfl (lv_at hl 0 rfl) ?_
  refine lv_iload_n hx hb dX5_answer_1 rfl (lv_at hl 1 rfl) ?_
  refine ptX5_15 X hw dX5_answer_2 (fun M1 H locs eM1 hw => ?_)
  replace h := zlt_s eM1 h
  refine lv_aload_n hx hb dX5_answer_5 rfl (lv_at hl 0 rfl) ?_
  refine lv_iload_n hx hb dX5_answer_6 rfl (lv_at hl 2 rfl) ?_
  refine ptX5_19 X hw dX5_answer_7 (fun M2 H locs eM2 hw => ?_)
  replace h := zlt_s eM2 h
  refine lv_aload_n hx hb dX5_answer_10 rfl (lv_at hl 0 rfl) ?_
  refine lv_iload_n hx hb dX5_answer_11 rfl (lv_at hl 3 rfl) ?_
  refine ptX5_22 X hw dX5_answer_12 (fun M3 H locs eM3 hw => ?_)
  replace h := zlt_s eM3 h
  refine lv_aload_n hx hb dX5_answer_15 rfl (lv_at hl 0 rfl) ?_
  refine lv_iconst (v := 0) hx hb dX5_answer_16 (by decide) ?_
  refine ptX5_25 X hw dX5_answer_17 (fun M4 H locs eM4 hw => ?_)
  replace h := zlt_s eM4 h
  refine lv_aload_n hx hb dX5_answer_20 rfl (lv_at hl 0 rfl) ?_
  refine lv_iconst (v := 0) hx hb dX5_answer_21 (by decide) ?_
  refine ptX5_28 X hw (Or.inl rfl) dX5_answer_22 (fun M5 H locs eM5 hw => ?_)
  replace h := zlt_s eM5 h
  refine lv_aload_n hx hb dX5_answer_25 rfl (lv_at hl 0 rfl) ?_
  refine lv_aload_n hx hb dX5_answer_26 rfl (lv_at hl 0 rfl) ?_
  refine gtX5_15 X hw dX5_answer_27 ?_
  refine lv_iload hx hb dX5_answer_30 (lv_at hl 4 rfl) ?_
  refine lv_iload hx hb dX5_answer_32 (lv_at hl 5 rfl) ?_
  refine lv_iconst (v := 0) hx hb dX5_answer_34 (by decide) ?_
  obtain ⟨r6, M7, f8, h⟩ := zbi_e h
  refine z_qVi (As := [.int (M5 76 3), .int p3, .int p4, .int (0 : Int32)]) (rest := []) X hw (kX5_speak l D cy a 60 (M5 76 3) p3 p4 (0 : Int32) M5 r6 M7 f8) (cwX5_32 X.2.2.2.2.2.1 rfl rfl (zroomO (Nat.le_of_ble_eq_true rfl) (Nat.le_of_ble_eq_true rfl))) (zX5_lt zX5_76) (zS5 zX5_76 cy a (M5 76)) rfl rfl rfl (Nat.le_of_ble_eq_true rfl) hl.1 hcs dX5_answer_35 (fun H locs hw => ?_)
  exact z_ri X hw (zret h) dX5_answer_38
