def fX8_error (p0 : Int32) (M : zM) : Option (Int32 × zM) := zgd (p0 < 0 ∨ 7 ≤ p0.toNatClampNeg) (zgd (p0 < 0 ∨ 7 ≤ p0.toNatClampNeg) (zlt (zst M 91 (p0.toNatClampNeg) ((M 91 (p0.toNatClampNeg)) + (1 : Int32))) (fun M2 => some ((-1000000000 : Int32) - p0, M2))))
set_option maxRecDepth 100000 in
set_option maxHeartbeats 4000000 in
theorem kX8_error (l : Launch) (D : va_G) (cy : Nat → ClassId) (a : Nat → Nat) (p0 : Int32) (M : zM) (r0 : Int32) (M0 : zM) (h : fX8_error p0 M = some (r0, M0)) : zCi l D cy a yX8_error cX8_error 2 (some .int) (zRm 0 0) [.ref (a 87), .int p0] M (fun r u => r = r0 ∧ u = M0) := by
  intro sz
  refine zent_i sz (by decide) (Nat.le_of_ble_eq_true rfl) rfl (fun p e s m args below meth c ls H locs X hw hl => ?_)
  obtain ⟨hx, hb, hr, hml, hown, hW, hlocks⟩ := id X
  have hE := hw.2.2.2.2.1
  have hcs : 0 ≤ ((zRm 0 0)).cells ∧ 0 ≤ ((zRm 0 0)).slots := ⟨Nat.zero_le _, Nat.zero_le _⟩
  rw [fX8_error] at h
  refine lv_aload_n hx hb dX8_error_0 rfl (lv_at hl 0 rfl) ?_
  refine gtX8_19 X hw dX8_error_1 ?_
  refine lv_iload_n hx hb dX8_error_4 rfl (lv_at hl 1 rfl) ?_
  refine lv_dup2_11 hx hb dX8_error_5 rfl rfl ?_
  obtain ⟨g1, h⟩ := zgd_e h
  refine z_ald X hw zI_91 g1 dX8_error_6 ?_
  refine lv_iconst (v := 1) hx hb dX8_error_7 (by decide) ?_
  refine lv_iadd hx hb dX8_error_8 ?_
  obtain ⟨g3, h⟩ := zgd_e h
  refine z_ast X hw zI_91 g3 dX8_error_9 (fun M2 H locs eM2 hw => ?_)
  replace h := zlt_s eM2 h
  refine z_ldc (v := (-1000000000)) X zm_6_15 dX8_error_10 ?_
  refine lv_iload_n hx hb dX8_error_12 rfl (lv_at hl 1 rfl) ?_
  refine lv_isub hx hb dX8_error_13 ?_
  exact z_ri X hw (zret h) dX8_error_14
def fX8_in (p0 : Int32) (p1 : Int32) (p2 : Int32) (M : zM) : Option (Int32 × zM) := if p0 < p1 then (some ((0 : Int32), M)) else (if p2 < p0 then (some ((0 : Int32), M)) else (some ((1 : Int32), M)))
set_option maxRecDepth 100000 in
set_option maxHeartbeats 4000000 in
theorem kX8_in (l : Launch) (D : va_G) (cy : Nat → ClassId) (a : Nat → Nat) (p0 : Int32) (p1 : Int32) (p2 : Int32) (M : zM) (r0 : Int32) (M0 : zM) (h : fX8_in p0 p1 p2 M = some (r0, M0)) : zCi l D cy a yX8_in cX8_in 3 (some .boolean) (zRm 0 0) [.int p0, .int p1, .int p2] M (fun r u => r = r0 ∧ u = M0) := by
  intro sz
  refine zent_i sz (by decide) (Nat.le_of_ble_eq_true rfl) rfl (fun p e s m args below meth c ls H locs X hw hl => ?_)
  obtain ⟨hx, hb, hr, hml, hown, hW, hlocks⟩ := id X
  have hE := hw.2.2.2.2.1
  have hcs : 0 ≤ ((zRm 0 0)).cells ∧ 0 ≤ ((zRm 0 0)).slots := ⟨Nat.zero_le _, Nat.zero_le _⟩
  rw [fX8_in] at h
  refine lv_iload_n hx hb dX8_in_0 rfl (lv_at hl 0 rfl) ?_
  refine lv_iload_n hx hb dX8_in_1 rfl (lv_at hl 1 rfl) ?_
  refine lv_icmp_lt (tgt := 14) hx hb dX8_in_2 (by decide) (fun c1 => ?_) (fun c1 => ?_)
  · replace h := zif_t c1 h
    refine lv_iconst (v := 0) hx hb dX8_in_14 (by decide) ?_
    exact z_rz X hw (Or.inl rfl) (zret h) dX8_in_15
  · replace h := zif_f c1 h
    refine lv_iload_n hx hb dX8_in_5 rfl (lv_at hl 0 rfl) ?_
    refine lv_iload_n hx hb dX8_in_6 rfl (lv_at hl 2 rfl) ?_
    refine lv_icmp_gt (tgt := 14) hx hb dX8_in_7 (by decide) (fun c2 => ?_) (fun c2 => ?_)
    · replace h := zif_t c2 h
      refine lv_iconst (v := 0) hx hb dX8_in_14 (by decide) ?_
      exact z_rz X hw (Or.inl rfl) (zret h) dX8_in_15
    · replace h := zif_f c2 h
      refine lv_iconst (v := 1) hx hb dX8_in_10 (by decide) ?_
      refine lv_goto (tgt := 15) hx hb dX8_in_11 (by decide) ?_
      exact z_rz X hw (Or.inr rfl) (zret h) dX8_in_15
def fX8_held (p0 : Int32) (p1 : Int32) (p2 : Int32) (M : zM) : Option (Int32 × zM) := if p1 ≤ p0 then (if p0 ≤ p2 then (some (p0, M)) else (some (p2, M))) else (some (p1, M))
set_option maxRecDepth 100000 in
set_option maxHeartbeats 4000000 in
theorem kX8_held (l : Launch) (D : va_G) (cy : Nat → ClassId) (a : Nat → Nat) (p0 : Int32) (p1 : Int32) (p2 : Int32) (M : zM) (r0 : Int32) (M0 : zM) (h : fX8_held p0 p1 p2 M = some (r0, M0)) : zCi l D cy a yX8_held cX8_held 3 (some .int) (zRm 0 0) [.int p0, .int p1, .int p2] M (fun r u => r = r0 ∧ u = M0) := by
  intro sz
  refine zent_i sz (by decide) (Nat.le_of_ble_eq_true rfl) rfl (fun p e s m args below meth c ls H locs X hw hl => ?_)
  obtain ⟨hx, hb, hr, hml, hown, hW, hlocks⟩ := id X
  have hE := hw.2.2.2.2.1
  have hcs : 0 ≤ ((zRm 0 0)).cells ∧ 0 ≤ ((zRm 0 0)).slots := ⟨Nat.zero_le _, Nat.zero_le _⟩
  rw [fX8_held] at h
  refine lv_iload_n hx hb dX8_held_0 rfl (lv_at hl 0 rfl) ?_
  refine lv_iload_n hx hb dX8_held_1 rfl (lv_at hl 1 rfl) ?_
  refine lv_icmp_ge (tgt := 9) hx hb dX8_held_2 (by decide) (fun c1 => ?_) (fun c1 => ?_)
  · replace h := zif_t c1 h
    refine lv_iload_n hx hb dX8_held_9 rfl (lv_at hl 0 rfl) ?_
    refine lv_iload_n hx hb dX8_held_10 rfl (lv_at hl 2 rfl) ?_
    refine lv_icmp_le (tgt := 18) hx hb dX8_held_11 (by decide) (fun c2 => ?_) (fun c2 => ?_)
    · replace h := zif_t c2 h
      refine lv_iload_n hx hb dX8_held_18 rfl (lv_at hl 0 rfl) ?_
      exact z_ri X hw (zret h) dX8_held_19
    · replace h := zif_f c2 h
      refine lv_iload_n hx hb dX8_held_14 rfl (lv_at hl 2 rfl) ?_
      refine lv_goto (tgt := 19) hx hb dX8_held_15 (by decide) ?_
      exact z_ri X hw (zret h) dX8_held_19
  · replace h := zif_f c1 h
    refine lv_iload_n hx hb dX8_held_5 rfl (lv_at hl 1 rfl) ?_
    refine lv_goto (tgt := 19) hx hb dX8_held_6 (by decide) ?_
    exact z_ri X hw (zret h) dX8_held_19
def fX8_carry_2 (w0 : Nat) (w1 : Nat) (k : zM → Option (zM)) : Nat → Int32 → zM → Option (zM)
  | 0, _, _ => none
  | n + 1, v2, M => if (449 : Int32) ≤ v2 then (k  M) else (zgd (v2 < 0 ∨ 449 ≤ v2.toNatClampNeg) (zgd (v2 < 0 ∨ 449 ≤ v2.toNatClampNeg) (zlt (zst M w1 (v2.toNatClampNeg) (M w0 (v2.toNatClampNeg))) (fun M3 => zlt (v2 + (1 : Int32)) (fun x5 => fX8_carry_2 w0 w1 k n x5 M3)))))
set_option maxRecDepth 100000 in
set_option maxHeartbeats 4000000 in
theorem lX8_carry_2 {p : Program} {l : Launch} {e : Env} {s : State} {m : MethodId} {args : Array Value} {below : List Frame} {meth : Method} {c : Code} {D : va_G} {cy : Nat → ClassId} {a : Nat → Nat} {M0 : zM} (X : zCX p s m meth c args cX8_carry 3 none RX8) (w0 : Nat) (w1 : Nat) (hw0 : zI w0 449) (hw1 : zI w1 449) (k : zM → Option (zM)) : ∀ (n : Nat) (v2 : Int32) (M : zM) (H : Heap) (locs : List Loc) (ls : Array Slot), zWD D cy a (zfr a s.heap.size) M H locs s → lv_has ls 3 [(0, .ref (a w0)), (1, .ref (a w1)), (2, .int v2)] → fX8_carry_2 w0 w1 k n v2 M = some M0 →
    (∀ (M' : zM) (H' : Heap) (locs' : List Loc) (ls' : Array Slot), zWD D cy a (zfr a s.heap.size) M' H' locs' s → lv_has ls' 3 [] → k M' = some M0 → W p l e (zRm 0 0) s m args below meth c H' locs' 0 0 (zQv D cy a s args below M0) (F0 m 21 ls' [])) →
    W p l e (zRm 0 0) s m args below meth c H locs 0 0 (zQv D cy a s args below M0) (F0 m 2 ls []) := by
  obtain ⟨hx, hb, hr, hml, hown, hW, hlocks⟩ := id X
  have hcs : 0 ≤ ((zRm 0 0)).cells ∧ 0 ≤ ((zRm 0 0)).slots := ⟨Nat.zero_le _, Nat.zero_le _⟩
  intro n
  induction n with
  | zero =>
    intro v2 M H locs ls hw hl h hk
    cases h
  | succ n ih =>
    intro v2 M H locs ls hw hl h hk
    have hE := hw.2.2.2.2.1
    rw [fX8_carry_2] at h
    refine lv_iload_n hx hb dX8_carry_2 rfl (lv_at hl 2 rfl) ?_
    refine lv_sipush (v := 449) hx hb dX8_carry_3 (by decide) ?_
    refine lv_icmp_ge (tgt := 21) hx hb dX8_carry_6 (by decide) (fun c1 => ?_) (fun c1 => ?_)
    · replace h := zif_t c1 h
      exact hk  M H locs _ hw (lv_sub hl [] rfl) h
    · replace h := zif_f c1 h
      refine lv_aload_n hx hb dX8_carry_9 rfl (lv_at hl 1 rfl) ?_
      refine lv_iload_n hx hb dX8_carry_10 rfl (lv_at hl 2 rfl) ?_
      refine lv_aload_n hx hb dX8_carry_11 rfl (lv_at hl 0 rfl) ?_
      refine lv_iload_n hx hb dX8_carry_12 rfl (lv_at hl 2 rfl) ?_
      obtain ⟨g2, h⟩ := zgd_e h
      refine z_ald X hw hw0 g2 dX8_carry_13 ?_
      obtain ⟨g4, h⟩ := zgd_e h
      refine z_ast X hw hw1 g4 dX8_carry_14 (fun M3 H locs eM3 hw => ?_)
      replace h := zlt_s eM3 h
      obtain ⟨x5, ex5⟩ : ∃ y : Int32, y = v2 + (1 : Int32) := ⟨_, rfl⟩
      replace h := zlt_s ex5 h
      refine lv_iinc (v := x5) (lv' := [(2, .int x5), (0, .ref (a w0)), (1, .ref (a w1))]) hx hb dX8_carry_15 hl (k := 2) rfl (by rw [ex5]; rfl) (by decide) rfl (fun ls hl => ?_)
      refine lv_goto (tgt := 2) hx hb dX8_carry_18 (by decide) ?_
      exact ih x5 M3 H locs _ hw (lv_sub hl [1, 2, 0] rfl) h hk
def fX8_carry (q0 : Nat) (q1 : Nat) (M : zM) : Option (zM) := fX8_carry_2 q0 q1 (fun  M6 => some M6) zF (0 : Int32) M
set_option maxRecDepth 100000 in
set_option maxHeartbeats 4000000 in
theorem kX8_carry (l : Launch) (D : va_G) (cy : Nat → ClassId) (a : Nat → Nat) (q0 : Nat) (hq0 : zI q0 449) (q1 : Nat) (hq1 : zI q1 449) (M : zM) (M0 : zM) (h : fX8_carry q0 q1 M = some M0) : zCv l D cy a yX8_carry cX8_carry 3 (zRm 0 0) [.ref (a q0), .ref (a q1)] M (fun u => u = M0) := by
  intro sz
  refine zent_v sz (by decide) (Nat.le_of_ble_eq_true rfl) rfl (fun p e s m args below meth c ls H locs X hw hl => ?_)
  obtain ⟨hx, hb, hr, hml, hown, hW, hlocks⟩ := id X
  have hE := hw.2.2.2.2.1
  have hcs : 0 ≤ ((zRm 0 0)).cells ∧ 0 ≤ ((zRm 0 0)).slots := ⟨Nat.zero_le _, Nat.zero_le _⟩
  rw [fX8_carry] at h
  refine lv_iconst (v := 0) hx hb dX8_carry_0 (by decide) ?_
  refine lv_istore_n (lv' := [(2, .int (0 : Int32)), (0, .ref (a q0)), (1, .ref (a q1))]) hx hb dX8_carry_1 rfl hl (by decide) rfl (fun ls hl => ?_)
  refine lX8_carry_2 X q0 q1 hq0 hq1 _ zF (0 : Int32) M H locs _ hw (lv_sub hl [1, 2, 0] rfl) h (fun  M6 H locs ls hw hl h => ?_)
  exact z_rv X hw (zretv h) dX8_carry_21
def fX8_isWheel (p0 : Int32) (M : zM) : Option (Int32 × zM) := zbi (fX8_in p0 (0 : Int32) ((M 88 (0)) - (1 : Int32)) M) (fun r1 M2 => zgd (¬ (r1 = 0 ∨ r1 = 1)) (some (r1, M2)))
set_option maxRecDepth 100000 in
set_option maxHeartbeats 4000000 in
theorem kX8_isWheel (l : Launch) (D : va_G) (cy : Nat → ClassId) (a : Nat → Nat) (p0 : Int32) (M : zM) (r0 : Int32) (M0 : zM) (h : fX8_isWheel p0 M = some (r0, M0)) : zCi l D cy a yX8_isWheel cX8_isWheel 2 (some .boolean) (zRm 1 22) [.ref (a 87), .int p0] M (fun r u => r = r0 ∧ u = M0) := by
  intro sz
  refine zent_i sz (by decide) (Nat.le_of_ble_eq_true rfl) rfl (fun p e s m args below meth c ls H locs X hw hl => ?_)
  obtain ⟨hx, hb, hr, hml, hown, hW, hlocks⟩ := id X
  have hE := hw.2.2.2.2.1
  have hcs : 0 ≤ ((zRm 1 22)).cells ∧ 0 ≤ ((zRm 1 22)).slots := ⟨Nat.zero_le _, Nat.zero_le _⟩
  rw [fX8_isWheel] at h
  refine lv_iload_n hx hb dX8_isWheel_0 rfl (lv_at hl 1 rfl) ?_
  refine lv_iconst (v := 0) hx hb dX8_isWheel_1 (by decide) ?_
  refine lv_aload_n hx hb dX8_isWheel_2 rfl (lv_at hl 0 rfl) ?_
  refine gtX8_7 X hw dX8_isWheel_3 ?_
  refine lv_iconst (v := 0) hx hb dX8_isWheel_6 (by decide) ?_
  refine z_aldK (k := 0) X hw zI_88 (by decide) (by decide) (by decide) dX8_isWheel_7 ?_
  refine lv_iconst (v := 1) hx hb dX8_isWheel_8 (by decide) ?_
  refine lv_isub hx hb dX8_isWheel_9 ?_
  obtain ⟨r1, M2, f3, h⟩ := zbi_e h
  refine z_qSi (As := [.int p0, .int (0 : Int32), .int ((M 88 (0)) - (1 : Int32))]) (rest := []) X hw (kX8_in l D cy a p0 (0 : Int32) ((M 88 (0)) - (1 : Int32)) M r1 M2 f3) (cwX8_56 X.2.2.2.2.2.1 rfl rfl (zroomO (Nat.le_of_ble_eq_true rfl) (Nat.le_of_ble_eq_true rfl))) rfl rfl (Nat.le_of_ble_eq_true rfl) hl.1 hcs dX8_isWheel_10 (fun H locs hw => ?_)
  obtain ⟨g4, h⟩ := zgd_e h
  exact z_rz X hw (Decidable.not_not.mp g4) (zret h) dX8_isWheel_13
def fX8_isFamily (p0 : Int32) (M : zM) : Option (Int32 × zM) := zbi (fX8_in p0 (0 : Int32) (4 : Int32) M) (fun r1 M2 => zgd (¬ (r1 = 0 ∨ r1 = 1)) (some (r1, M2)))
set_option maxRecDepth 100000 in
set_option maxHeartbeats 4000000 in
theorem kX8_isFamily (l : Launch) (D : va_G) (cy : Nat → ClassId) (a : Nat → Nat) (p0 : Int32) (M : zM) (r0 : Int32) (M0 : zM) (h : fX8_isFamily p0 M = some (r0, M0)) : zCi l D cy a yX8_isFamily cX8_isFamily 1 (some .boolean) (zRm 1 22) [.int p0] M (fun r u => r = r0 ∧ u = M0) := by
  intro sz
  refine zent_i sz (by decide) (Nat.le_of_ble_eq_true rfl) rfl (fun p e s m args below meth c ls H locs X hw hl => ?_)
  obtain ⟨hx, hb, hr, hml, hown, hW, hlocks⟩ := id X
  have hE := hw.2.2.2.2.1
  have hcs : 0 ≤ ((zRm 1 22)).cells ∧ 0 ≤ ((zRm 1 22)).slots := ⟨Nat.zero_le _, Nat.zero_le _⟩
  rw [fX8_isFamily] at h
  refine lv_iload_n hx hb dX8_isFamily_0 rfl (lv_at hl 0 rfl) ?_
  refine lv_iconst (v := 0) hx hb dX8_isFamily_1 (by decide) ?_
  refine lv_iconst (v := 4) hx hb dX8_isFamily_2 (by decide) ?_
  obtain ⟨r1, M2, f3, h⟩ := zbi_e h
  refine z_qSi (As := [.int p0, .int (0 : Int32), .int (4 : Int32)]) (rest := []) X hw (kX8_in l D cy a p0 (0 : Int32) (4 : Int32) M r1 M2 f3) (cwX8_56 X.2.2.2.2.2.1 rfl rfl (zroomO (Nat.le_of_ble_eq_true rfl) (Nat.le_of_ble_eq_true rfl))) rfl rfl (Nat.le_of_ble_eq_true rfl) hl.1 hcs dX8_isFamily_3 (fun H locs hw => ?_)
  obtain ⟨g4, h⟩ := zgd_e h
  exact z_rz X hw (Decidable.not_not.mp g4) (zret h) dX8_isFamily_6
def fX8_isPlace (p0 : Int32) (M : zM) : Option (Int32 × zM) := zbi (fX8_in p0 (0 : Int32) (11 : Int32) M) (fun r1 M2 => zgd (¬ (r1 = 0 ∨ r1 = 1)) (some (r1, M2)))
set_option maxRecDepth 100000 in
set_option maxHeartbeats 4000000 in
theorem kX8_isPlace (l : Launch) (D : va_G) (cy : Nat → ClassId) (a : Nat → Nat) (p0 : Int32) (M : zM) (r0 : Int32) (M0 : zM) (h : fX8_isPlace p0 M = some (r0, M0)) : zCi l D cy a yX8_isPlace cX8_isPlace 1 (some .boolean) (zRm 1 22) [.int p0] M (fun r u => r = r0 ∧ u = M0) := by
  intro sz
  refine zent_i sz (by decide) (Nat.le_of_ble_eq_true rfl) rfl (fun p e s m args below meth c ls H locs X hw hl => ?_)
  obtain ⟨hx, hb, hr, hml, hown, hW, hlocks⟩ := id X
  have hE := hw.2.2.2.2.1
  have hcs : 0 ≤ ((zRm 1 22)).cells ∧ 0 ≤ ((zRm 1 22)).slots := ⟨Nat.zero_le _, Nat.zero_le _⟩
  rw [fX8_isPlace] at h
  refine lv_iload_n hx hb dX8_isPlace_0 rfl (lv_at hl 0 rfl) ?_
  refine lv_iconst (v := 0) hx hb dX8_isPlace_1 (by decide) ?_
  refine lv_bipush (v := 11) hx hb dX8_isPlace_2 (by decide) ?_
  obtain ⟨r1, M2, f3, h⟩ := zbi_e h
  refine z_qSi (As := [.int p0, .int (0 : Int32), .int (11 : Int32)]) (rest := []) X hw (kX8_in l D cy a p0 (0 : Int32) (11 : Int32) M r1 M2 f3) (cwX8_56 X.2.2.2.2.2.1 rfl rfl (zroomO (Nat.le_of_ble_eq_true rfl) (Nat.le_of_ble_eq_true rfl))) rfl rfl (Nat.le_of_ble_eq_true rfl) hl.1 hcs dX8_isPlace_4 (fun H locs hw => ?_)
  obtain ⟨g4, h⟩ := zgd_e h
  exact z_rz X hw (Decidable.not_not.mp g4) (zret h) dX8_isPlace_7
def fX8_its (p0 : Int32) (p1 : Int32) (M : zM) : Option (Int32 × zM) := zgd (((52 : Int32) + ((7 : Int32) * p0)) + p1 < 0 ∨ 449 ≤ (((52 : Int32) + ((7 : Int32) * p0)) + p1).toNatClampNeg) (some (M 88 ((((52 : Int32) + ((7 : Int32) * p0)) + p1).toNatClampNeg), M))
set_option maxRecDepth 100000 in
set_option maxHeartbeats 4000000 in
theorem kX8_its (l : Launch) (D : va_G) (cy : Nat → ClassId) (a : Nat → Nat) (p0 : Int32) (p1 : Int32) (M : zM) (r0 : Int32) (M0 : zM) (h : fX8_its p0 p1 M = some (r0, M0)) : zCi l D cy a yX8_its cX8_its 3 (some .int) (zRm 0 0) [.ref (a 87), .int p0, .int p1] M (fun r u => r = r0 ∧ u = M0) := by
  intro sz
  refine zent_i sz (by decide) (Nat.le_of_ble_eq_true rfl) rfl (fun p e s m args below meth c ls H locs X hw hl => ?_)
  obtain ⟨hx, hb, hr, hml, hown, hW, hlocks⟩ := id X
  have hE := hw.2.2.2.2.1
  have hcs : 0 ≤ ((zRm 0 0)).cells ∧ 0 ≤ ((zRm 0 0)).slots := ⟨Nat.zero_le _, Nat.zero_le _⟩
  rw [fX8_its] at h
  refine lv_aload_n hx hb dX8_its_0 rfl (lv_at hl 0 rfl) ?_
  refine gtX8_7 X hw dX8_its_1 ?_
  refine lv_bipush (v := 52) hx hb dX8_its_4 (by decide) ?_
  refine lv_bipush (v := 7) hx hb dX8_its_6 (by decide) ?_
  refine lv_iload_n hx hb dX8_its_8 rfl (lv_at hl 1 rfl) ?_
  refine lv_imul hx hb dX8_its_9 ?_
  refine lv_iadd hx hb dX8_its_10 ?_
  refine lv_iload_n hx hb dX8_its_11 rfl (lv_at hl 2 rfl) ?_
  refine lv_iadd hx hb dX8_its_12 ?_
  obtain ⟨g1, h⟩ := zgd_e h
  refine z_ald X hw zI_88 g1 dX8_its_13 ?_
  exact z_ri X hw (zret h) dX8_its_14
def fX8_lays1 (p0 : Int32) (p1 : Int32) (p2 : Int32) (M : zM) : Option (zM) := zgd (((52 : Int32) + ((7 : Int32) * p0)) + p1 < 0 ∨ 449 ≤ (((52 : Int32) + ((7 : Int32) * p0)) + p1).toNatClampNeg) (zlt (zst M 88 ((((52 : Int32) + ((7 : Int32) * p0)) + p1).toNatClampNeg) p2) (fun M1 => some M1))
set_option maxRecDepth 100000 in
set_option maxHeartbeats 4000000 in
theorem kX8_lays1 (l : Launch) (D : va_G) (cy : Nat → ClassId) (a : Nat → Nat) (p0 : Int32) (p1 : Int32) (p2 : Int32) (M : zM) (M0 : zM) (h : fX8_lays1 p0 p1 p2 M = some M0) : zCv l D cy a yX8_lays1 cX8_lays1 4 (zRm 0 0) [.ref (a 87), .int p0, .int p1, .int p2] M (fun u => u = M0) := by
  intro sz
  refine zent_v sz (by decide) (Nat.le_of_ble_eq_true rfl) rfl (fun p e s m args below meth c ls H locs X hw hl => ?_)
  obtain ⟨hx, hb, hr, hml, hown, hW, hlocks⟩ := id X
  have hE := hw.2.2.2.2.1
  have hcs : 0 ≤ ((zRm 0 0)).cells ∧ 0 ≤ ((zRm 0 0)).slots := ⟨Nat.zero_le _, Nat.zero_le _⟩
  rw [fX8_lays1] at h
  refine lv_aload_n hx hb dX8_lays1_0 rfl (lv_at hl 0 rfl) ?_
  refine gtX8_7 X hw dX8_lays1_1 ?_
  refine lv_bipush (v := 52) hx hb dX8_lays1_4 (by decide) ?_
  refine lv_bipush (v := 7) hx hb dX8_lays1_6 (by decide) ?_
  refine lv_iload_n hx hb dX8_lays1_8 rfl (lv_at hl 1 rfl) ?_
  refine lv_imul hx hb dX8_lays1_9 ?_
  refine lv_iadd hx hb dX8_lays1_10 ?_
  refine lv_iload_n hx hb dX8_lays1_11 rfl (lv_at hl 2 rfl) ?_
  refine lv_iadd hx hb dX8_lays1_12 ?_
  refine lv_iload_n hx hb dX8_lays1_13 rfl (lv_at hl 3 rfl) ?_
  obtain ⟨g2, h⟩ := zgd_e h
  refine z_ast X hw zI_88 g2 dX8_lays1_14 (fun M1 H locs eM1 hw => ?_)
  replace h := zlt_s eM1 h
  exact z_rv X hw (zretv h) dX8_lays1_15
def fX8_owed (p0 : Int32) (M : zM) : Option (Int32 × zM) := zgd ((42 : Int32) + ((2 : Int32) * p0) < 0 ∨ 449 ≤ ((42 : Int32) + ((2 : Int32) * p0)).toNatClampNeg) (some (M 88 (((42 : Int32) + ((2 : Int32) * p0)).toNatClampNeg), M))
set_option maxRecDepth 100000 in
set_option maxHeartbeats 4000000 in
theorem kX8_owed (l : Launch) (D : va_G) (cy : Nat → ClassId) (a : Nat → Nat) (p0 : Int32) (M : zM) (r0 : Int32) (M0 : zM) (h : fX8_owed p0 M = some (r0, M0)) : zCi l D cy a yX8_owed cX8_owed 2 (some .int) (zRm 0 0) [.ref (a 87), .int p0] M (fun r u => r = r0 ∧ u = M0) := by
  intro sz
  refine zent_i sz (by decide) (Nat.le_of_ble_eq_true rfl) rfl (fun p e s m args below meth c ls H locs X hw hl => ?_)
  obtain ⟨hx, hb, hr, hml, hown, hW, hlocks⟩ := id X
  have hE := hw.2.2.2.2.1
  have hcs : 0 ≤ ((zRm 0 0)).cells ∧ 0 ≤ ((zRm 0 0)).slots := ⟨Nat.zero_le _, Nat.zero_le _⟩
  rw [fX8_owed] at h
  refine lv_aload_n hx hb dX8_owed_0 rfl (lv_at hl 0 rfl) ?_
  refine gtX8_7 X hw dX8_owed_1 ?_
  refine lv_bipush (v := 42) hx hb dX8_owed_4 (by decide) ?_
  refine lv_iconst (v := 2) hx hb dX8_owed_6 (by decide) ?_
  refine lv_iload_n hx hb dX8_owed_7 rfl (lv_at hl 1 rfl) ?_
  refine lv_imul hx hb dX8_owed_8 ?_
  refine lv_iadd hx hb dX8_owed_9 ?_
  obtain ⟨g1, h⟩ := zgd_e h
  refine z_ald X hw zI_88 g1 dX8_owed_10 ?_
  exact z_ri X hw (zret h) dX8_owed_11
def fX8_prayed (p0 : Int32) (M : zM) : Option (Int32 × zM) := zgd (((42 : Int32) + ((2 : Int32) * p0)) + (1 : Int32) < 0 ∨ 449 ≤ (((42 : Int32) + ((2 : Int32) * p0)) + (1 : Int32)).toNatClampNeg) (some (M 88 ((((42 : Int32) + ((2 : Int32) * p0)) + (1 : Int32)).toNatClampNeg), M))
set_option maxRecDepth 100000 in
set_option maxHeartbeats 4000000 in
theorem kX8_prayed (l : Launch) (D : va_G) (cy : Nat → ClassId) (a : Nat → Nat) (p0 : Int32) (M : zM) (r0 : Int32) (M0 : zM) (h : fX8_prayed p0 M = some (r0, M0)) : zCi l D cy a yX8_prayed cX8_prayed 2 (some .int) (zRm 0 0) [.ref (a 87), .int p0] M (fun r u => r = r0 ∧ u = M0) := by
  intro sz
  refine zent_i sz (by decide) (Nat.le_of_ble_eq_true rfl) rfl (fun p e s m args below meth c ls H locs X hw hl => ?_)
  obtain ⟨hx, hb, hr, hml, hown, hW, hlocks⟩ := id X
  have hE := hw.2.2.2.2.1
  have hcs : 0 ≤ ((zRm 0 0)).cells ∧ 0 ≤ ((zRm 0 0)).slots := ⟨Nat.zero_le _, Nat.zero_le _⟩
  rw [fX8_prayed] at h
  refine lv_aload_n hx hb dX8_prayed_0 rfl (lv_at hl 0 rfl) ?_
  refine gtX8_7 X hw dX8_prayed_1 ?_
  refine lv_bipush (v := 42) hx hb dX8_prayed_4 (by decide) ?_
  refine lv_iconst (v := 2) hx hb dX8_prayed_6 (by decide) ?_
  refine lv_iload_n hx hb dX8_prayed_7 rfl (lv_at hl 1 rfl) ?_
  refine lv_imul hx hb dX8_prayed_8 ?_
  refine lv_iadd hx hb dX8_prayed_9 ?_
  refine lv_iconst (v := 1) hx hb dX8_prayed_10 (by decide) ?_
  refine lv_iadd hx hb dX8_prayed_11 ?_
  obtain ⟨g1, h⟩ := zgd_e h
  refine z_ald X hw zI_88 g1 dX8_prayed_12 ?_
  exact z_ri X hw (zret h) dX8_prayed_13
def fX8_prays (p0 : Int32) (p1 : Int32) (M : zM) : Option (zM) := zbi (fX8_held p1 (0 : Int32) (999999 : Int32) M) (fun r1 M2 => zgd (((42 : Int32) + ((2 : Int32) * p0)) + (1 : Int32) < 0 ∨ 449 ≤ (((42 : Int32) + ((2 : Int32) * p0)) + (1 : Int32)).toNatClampNeg) (zlt (zst M2 88 ((((42 : Int32) + ((2 : Int32) * p0)) + (1 : Int32)).toNatClampNeg) r1) (fun M4 => some M4)))
set_option maxRecDepth 100000 in
set_option maxHeartbeats 4000000 in
theorem kX8_prays (l : Launch) (D : va_G) (cy : Nat → ClassId) (a : Nat → Nat) (p0 : Int32) (p1 : Int32) (M : zM) (M0 : zM) (h : fX8_prays p0 p1 M = some M0) : zCv l D cy a yX8_prays cX8_prays 3 (zRm 1 22) [.ref (a 87), .int p0, .int p1] M (fun u => u = M0) := by
  intro sz
  refine zent_v sz (by decide) (Nat.le_of_ble_eq_true rfl) rfl (fun p e s m args below meth c ls H locs X hw hl => ?_)
  obtain ⟨hx, hb, hr, hml, hown, hW, hlocks⟩ := id X
  have hE := hw.2.2.2.2.1
  have hcs : 0 ≤ ((zRm 1 22)).cells ∧ 0 ≤ ((zRm 1 22)).slots := ⟨Nat.zero_le _, Nat.zero_le _⟩
  rw [fX8_prays] at h
  refine lv_aload_n hx hb dX8_prays_0 rfl (lv_at hl 0 rfl) ?_
  refine gtX8_7 X hw dX8_prays_1 ?_
  refine lv_bipush (v := 42) hx hb dX8_prays_4 (by decide) ?_
  refine lv_iconst (v := 2) hx hb dX8_prays_6 (by decide) ?_
  refine lv_iload_n hx hb dX8_prays_7 rfl (lv_at hl 1 rfl) ?_
  refine lv_imul hx hb dX8_prays_8 ?_
  refine lv_iadd hx hb dX8_prays_9 ?_
  refine lv_iconst (v := 1) hx hb dX8_prays_10 (by decide) ?_
  refine lv_iadd hx hb dX8_prays_11 ?_
  refine lv_iload_n hx hb dX8_prays_12 rfl (lv_at hl 2 rfl) ?_
  refine lv_iconst (v := 0) hx hb dX8_prays_13 (by decide) ?_
  refine z_ldc (v := 999999) X zm_18_4 dX8_prays_14 ?_
  obtain ⟨r1, M2, f3, h⟩ := zbi_e h
  refine z_qSi (As := [.int p1, .int (0 : Int32), .int (999999 : Int32)]) (rest := [.int (((42 : Int32) + ((2 : Int32) * p0)) + (1 : Int32)), .ref (a 88)]) X hw (kX8_held l D cy a p1 (0 : Int32) (999999 : Int32) M r1 M2 f3) (cwX8_61 X.2.2.2.2.2.1 rfl rfl (zroomO (Nat.le_of_ble_eq_true rfl) (Nat.le_of_ble_eq_true rfl))) rfl rfl (Nat.le_of_ble_eq_true rfl) hl.1 hcs dX8_prays_16 (fun H locs hw => ?_)
  obtain ⟨g5, h⟩ := zgd_e h
  refine z_ast X hw zI_88 g5 dX8_prays_19 (fun M4 H locs eM4 hw => ?_)
  replace h := zlt_s eM4 h
  exact z_rv X hw (zretv h) dX8_prays_20
def fX8_isPaid (p0 : Int32) (M : zM) : Option (Int32 × zM) := zbi (fX8_prayed p0 M) (fun r1 M2 => zbi (fX8_owed p0 M2) (fun r4 M5 => if r1 < r4 then (some ((0 : Int32), M5)) else (some ((1 : Int32), M5))))
set_option maxRecDepth 100000 in
set_option maxHeartbeats 4000000 in
theorem kX8_isPaid (l : Launch) (D : va_G) (cy : Nat → ClassId) (a : Nat → Nat) (p0 : Int32) (M : zM) (r0 : Int32) (M0 : zM) (h : fX8_isPaid p0 M = some (r0, M0)) : zCi l D cy a yX8_isPaid cX8_isPaid 2 (some .boolean) (zRm 1 21) [.ref (a 87), .int p0] M (fun r u => r = r0 ∧ u = M0) := by
  intro sz
  refine zent_i sz (by decide) (Nat.le_of_ble_eq_true rfl) rfl (fun p e s m args below meth c ls H locs X hw hl => ?_)
  obtain ⟨hx, hb, hr, hml, hown, hW, hlocks⟩ := id X
  have hE := hw.2.2.2.2.1
  have hcs : 0 ≤ ((zRm 1 21)).cells ∧ 0 ≤ ((zRm 1 21)).slots := ⟨Nat.zero_le _, Nat.zero_le _⟩
  rw [fX8_isPaid] at h
  refine lv_aload_n hx hb dX8_isPaid_0 rfl (lv_at hl 0 rfl) ?_
  refine lv_iload_n hx hb dX8_isPaid_1 rfl (lv_at hl 1 rfl) ?_
  obtain ⟨r1, M2, f3, h⟩ := zbi_e h
  refine z_qVi (As := [.int p0]) (rest := []) X hw (kX8_prayed l D cy a p0 M r1 M2 f3) (cwX8_65 X.2.2.2.2.2.1 rfl rfl (zroomO (Nat.le_of_ble_eq_true rfl) (Nat.le_of_ble_eq_true rfl))) (zX8_lt (rfl : zX8 87)) (zS8 (rfl : zX8 87) cy a (M 87)) rfl rfl rfl (Nat.le_of_ble_eq_true rfl) hl.1 hcs dX8_isPaid_2 (fun H locs hw => ?_)
  refine lv_aload_n hx hb dX8_isPaid_5 rfl (lv_at hl 0 rfl) ?_
  refine lv_iload_n hx hb dX8_isPaid_6 rfl (lv_at hl 1 rfl) ?_
  obtain ⟨r4, M5, f6, h⟩ := zbi_e h
  refine z_qVi (As := [.int p0]) (rest := [.int r1]) X hw (kX8_owed l D cy a p0 M2 r4 M5 f6) (cwX8_69 X.2.2.2.2.2.1 rfl rfl (zroomO (Nat.le_of_ble_eq_true rfl) (Nat.le_of_ble_eq_true rfl))) (zX8_lt (rfl : zX8 87)) (zS8 (rfl : zX8 87) cy a (M2 87)) rfl rfl rfl (Nat.le_of_ble_eq_true rfl) hl.1 hcs dX8_isPaid_7 (fun H locs hw => ?_)
  refine lv_icmp_lt (tgt := 17) hx hb dX8_isPaid_10 (by decide) (fun c7 => ?_) (fun c7 => ?_)
  · replace h := zif_t c7 h
    refine lv_iconst (v := 0) hx hb dX8_isPaid_17 (by decide) ?_
    exact z_rz X hw (Or.inl rfl) (zret h) dX8_isPaid_18
  · replace h := zif_f c7 h
    refine lv_iconst (v := 1) hx hb dX8_isPaid_13 (by decide) ?_
    refine lv_goto (tgt := 18) hx hb dX8_isPaid_14 (by decide) ?_
    exact z_rz X hw (Or.inr rfl) (zret h) dX8_isPaid_18
def fX8_hourOfDay (M : zM) : Option (Int32 × zM) := zlt (zrem (M 88 (1)) (24 : Int32)) (fun x1 => some (x1, M))
set_option maxRecDepth 100000 in
set_option maxHeartbeats 4000000 in
theorem kX8_hourOfDay (l : Launch) (D : va_G) (cy : Nat → ClassId) (a : Nat → Nat) (M : zM) (r0 : Int32) (M0 : zM) (h : fX8_hourOfDay  M = some (r0, M0)) : zCi l D cy a yX8_hourOfDay cX8_hourOfDay 1 (some .int) (zRm 0 0) [.ref (a 87)] M (fun r u => r = r0 ∧ u = M0) := by
  intro sz
  refine zent_i sz (by decide) (Nat.le_of_ble_eq_true rfl) rfl (fun p e s m args below meth c ls H locs X hw hl => ?_)
  obtain ⟨hx, hb, hr, hml, hown, hW, hlocks⟩ := id X
  have hE := hw.2.2.2.2.1
  have hcs : 0 ≤ ((zRm 0 0)).cells ∧ 0 ≤ ((zRm 0 0)).slots := ⟨Nat.zero_le _, Nat.zero_le _⟩
  rw [fX8_hourOfDay] at h
  refine lv_aload_n hx hb dX8_hourOfDay_0 rfl (lv_at hl 0 rfl) ?_
  refine gtX8_7 X hw dX8_hourOfDay_1 ?_
  refine lv_iconst (v := 1) hx hb dX8_hourOfDay_4 (by decide) ?_
  refine z_aldK (k := 1) X hw zI_88 (by decide) (by decide) (by decide) dX8_hourOfDay_5 ?_
  refine lv_bipush (v := 24) hx hb dX8_hourOfDay_6 (by decide) ?_
  refine lv_irem hx hb dX8_hourOfDay_8 (by decide) ?_
  refine lv_topi (fun x1 ex1 => ?_)
  replace h := zlt_s ex1 h
  exact z_ri X hw (zret h) dX8_hourOfDay_9
def fX8_change (p0 : Int32) (p1 : Int32) (M : zM) : Option (Int32 × zM) := zgd (p0 < 0 ∨ 449 ≤ p0.toNatClampNeg) (zlt (M 88 (p0.toNatClampNeg)) (fun x2 => zgd (p0 < 0 ∨ 449 ≤ p0.toNatClampNeg) (zlt (zst M 88 (p0.toNatClampNeg) p1) (fun M3 => some (x2, M3)))))
set_option maxRecDepth 100000 in
set_option maxHeartbeats 4000000 in
theorem kX8_change (l : Launch) (D : va_G) (cy : Nat → ClassId) (a : Nat → Nat) (p0 : Int32) (p1 : Int32) (M : zM) (r0 : Int32) (M0 : zM) (h : fX8_change p0 p1 M = some (r0, M0)) : zCi l D cy a yX8_change cX8_change 4 (some .int) (zRm 0 0) [.ref (a 87), .int p0, .int p1] M (fun r u => r = r0 ∧ u = M0) := by
  intro sz
  refine zent_i sz (by decide) (Nat.le_of_ble_eq_true rfl) rfl (fun p e s m args below meth c ls H locs X hw hl => ?_)
  obtain ⟨hx, hb, hr, hml, hown, hW, hlocks⟩ := id X
  have hE := hw.2.2.2.2.1
  have hcs : 0 ≤ ((zRm 0 0)).cells ∧ 0 ≤ ((zRm 0 0)).slots := ⟨Nat.zero_le _, Nat.zero_le _⟩
  rw [fX8_change] at h
  refine lv_aload_n hx hb dX8_change_0 rfl (lv_at hl 0 rfl) ?_
  refine gtX8_7 X hw dX8_change_1 ?_
  refine lv_iload_n hx hb dX8_change_4 rfl (lv_at hl 1 rfl) ?_
  obtain ⟨g1, h⟩ := zgd_e h
  refine z_ald X hw zI_88 g1 dX8_change_5 ?_
  refine lv_topi (fun x2 ex2 => ?_)
  replace h := zlt_s ex2 h
  refine lv_istore_n (lv' := [(3, .int x2), (0, .ref (a 87)), (1, .int p0), (2, .int p1)]) hx hb dX8_change_6 rfl hl (by decide) rfl (fun ls hl => ?_)
  refine lv_aload_n hx hb dX8_change_7 rfl (lv_at hl 1 rfl) ?_
  refine gtX8_7 X hw dX8_change_8 ?_
  refine lv_iload_n hx hb dX8_change_11 rfl (lv_at hl 2 rfl) ?_
  refine lv_iload_n hx hb dX8_change_12 rfl (lv_at hl 3 rfl) ?_
  obtain ⟨g4, h⟩ := zgd_e h
  refine z_ast X hw zI_88 g4 dX8_change_13 (fun M3 H locs eM3 hw => ?_)
  replace h := zlt_s eM3 h
  refine lv_iload_n hx hb dX8_change_14 rfl (lv_at hl 0 rfl) ?_
  exact z_ri X hw (zret h) dX8_change_15
def fX8_force (p0 : Int32) (p1 : Int32) (M : zM) : Option (Int32 × zM) := zbi (fX8_in p0 (0 : Int32) (23 : Int32) M) (fun r1 M2 => if r1 = 0 then (zbi (fX8_error (1 : Int32) M2) (fun r5 M6 => some (r5, M6))) else (zbi (fX8_in p1 (0 : Int32) (99 : Int32) M2) (fun r8 M9 => if r8 = 0 then (zbi (fX8_error (1 : Int32) M9) (fun r12 M13 => some (r12, M13))) else (zbi (fX8_change ((6 : Int32) + p0) p1 M9) (fun r15 M16 => some (r15, M16))))))
set_option maxRecDepth 100000 in
set_option maxHeartbeats 4000000 in
theorem kX8_force (l : Launch) (D : va_G) (cy : Nat → ClassId) (a : Nat → Nat) (p0 : Int32) (p1 : Int32) (M : zM) (r0 : Int32) (M0 : zM) (h : fX8_force p0 p1 M = some (r0, M0)) : zCi l D cy a yX8_force cX8_force 3 (some .int) (zRm 1 23) [.ref (a 87), .int p0, .int p1] M (fun r u => r = r0 ∧ u = M0) := by
  intro sz
  refine zent_i sz (by decide) (Nat.le_of_ble_eq_true rfl) rfl (fun p e s m args below meth c ls H locs X hw hl => ?_)
  obtain ⟨hx, hb, hr, hml, hown, hW, hlocks⟩ := id X
  have hE := hw.2.2.2.2.1
  have hcs : 0 ≤ ((zRm 1 23)).cells ∧ 0 ≤ ((zRm 1 23)).slots := ⟨Nat.zero_le _, Nat.zero_le _⟩
  rw [fX8_force] at h
  refine lv_iload_n hx hb dX8_force_0 rfl (lv_at hl 1 rfl) ?_
  refine lv_iconst (v := 0) hx hb dX8_force_1 (by decide) ?_
  refine lv_bipush (v := 23) hx hb dX8_force_2 (by decide) ?_
  obtain ⟨r1, M2, f3, h⟩ := zbi_e h
  refine z_qSi (As := [.int p0, .int (0 : Int32), .int (23 : Int32)]) (rest := []) X hw (kX8_in l D cy a p0 (0 : Int32) (23 : Int32) M r1 M2 f3) (cwX8_56 X.2.2.2.2.2.1 rfl rfl (zroomO (Nat.le_of_ble_eq_true rfl) (Nat.le_of_ble_eq_true rfl))) rfl rfl (Nat.le_of_ble_eq_true rfl) hl.1 hcs dX8_force_4 (fun H locs hw => ?_)
  refine lv_if_eq (tgt := 32) hx hb dX8_force_7 (by decide) (fun c4 => ?_) (fun c4 => ?_)
  · replace h := zif_t c4 h
    refine lv_aload_n hx hb dX8_force_32 rfl (lv_at hl 0 rfl) ?_
    refine lv_iconst (v := 1) hx hb dX8_force_33 (by decide) ?_
    obtain ⟨r5, M6, f7, h⟩ := zbi_e h
    refine z_qVi (As := [.int (1 : Int32)]) (rest := []) X hw (kX8_error l D cy a (1 : Int32) M2 r5 M6 f7) (cwX8_76 X.2.2.2.2.2.1 rfl rfl (zroomO (Nat.le_of_ble_eq_true rfl) (Nat.le_of_ble_eq_true rfl))) (zX8_lt (rfl : zX8 87)) (zS8 (rfl : zX8 87) cy a (M2 87)) rfl rfl rfl (Nat.le_of_ble_eq_true rfl) hl.1 hcs dX8_force_34 (fun H locs hw => ?_)
    exact z_ri X hw (zret h) dX8_force_37
  · replace h := zif_f c4 h
    refine lv_iload_n hx hb dX8_force_10 rfl (lv_at hl 2 rfl) ?_
    refine lv_iconst (v := 0) hx hb dX8_force_11 (by decide) ?_
    refine lv_bipush (v := 99) hx hb dX8_force_12 (by decide) ?_
    obtain ⟨r8, M9, f10, h⟩ := zbi_e h
    refine z_qSi (As := [.int p1, .int (0 : Int32), .int (99 : Int32)]) (rest := []) X hw (kX8_in l D cy a p1 (0 : Int32) (99 : Int32) M2 r8 M9 f10) (cwX8_56 X.2.2.2.2.2.1 rfl rfl (zroomO (Nat.le_of_ble_eq_true rfl) (Nat.le_of_ble_eq_true rfl))) rfl rfl (Nat.le_of_ble_eq_true rfl) hl.1 hcs dX8_force_14 (fun H locs hw => ?_)
    refine lv_if_eq (tgt := 32) hx hb dX8_force_17 (by decide) (fun c11 => ?_) (fun c11 => ?_)
    · replace h := zif_t c11 h
      refine lv_aload_n hx hb dX8_force_32 rfl (lv_at hl 0 rfl) ?_
      refine lv_iconst (v := 1) hx hb dX8_force_33 (by decide) ?_
      obtain ⟨r12, M13, f14, h⟩ := zbi_e h
      refine z_qVi (As := [.int (1 : Int32)]) (rest := []) X hw (kX8_error l D cy a (1 : Int32) M9 r12 M13 f14) (cwX8_76 X.2.2.2.2.2.1 rfl rfl (zroomO (Nat.le_of_ble_eq_true rfl) (Nat.le_of_ble_eq_true rfl))) (zX8_lt (rfl : zX8 87)) (zS8 (rfl : zX8 87) cy a (M9 87)) rfl rfl rfl (Nat.le_of_ble_eq_true rfl) hl.1 hcs dX8_force_34 (fun H locs hw => ?_)
      exact z_ri X hw (zret h) dX8_force_37
    · replace h := zif_f c11 h
      refine lv_aload_n hx hb dX8_force_20 rfl (lv_at hl 0 rfl) ?_
      refine lv_bipush (v := 6) hx hb dX8_force_21 (by decide) ?_
      refine lv_iload_n hx hb dX8_force_23 rfl (lv_at hl 1 rfl) ?_
      refine lv_iadd hx hb dX8_force_24 ?_
      refine lv_iload_n hx hb dX8_force_25 rfl (lv_at hl 2 rfl) ?_
      obtain ⟨r15, M16, f17, h⟩ := zbi_e h
      refine z_qVi (As := [.int ((6 : Int32) + p0), .int p1]) (rest := []) X hw (kX8_change l D cy a ((6 : Int32) + p0) p1 M9 r15 M16 f17) (cwX8_72 X.2.2.2.2.2.1 rfl rfl (zroomO (Nat.le_of_ble_eq_true rfl) (Nat.le_of_ble_eq_true rfl))) (zX8_lt (rfl : zX8 87)) (zS8 (rfl : zX8 87) cy a (M9 87)) rfl rfl rfl (Nat.le_of_ble_eq_true rfl) hl.1 hcs dX8_force_26 (fun H locs hw => ?_)
      refine lv_goto (tgt := 37) hx hb dX8_force_29 (by decide) ?_
      exact z_ri X hw (zret h) dX8_force_37
def fX8_weed (p0 : Int32) (p1 : Int32) (M : zM) : Option (Int32 × zM) := zbi (fX8_isPlace p0 M) (fun r1 M2 => if r1 = 0 then (zbi (fX8_error (1 : Int32) M2) (fun r5 M6 => some (r5, M6))) else (zbi (fX8_in p1 (0 : Int32) (9 : Int32) M2) (fun r8 M9 => if r8 = 0 then (zbi (fX8_error (1 : Int32) M9) (fun r12 M13 => some (r12, M13))) else (zbi (fX8_change ((30 : Int32) + p0) p1 M9) (fun r15 M16 => some (r15, M16))))))
set_option maxRecDepth 100000 in
set_option maxHeartbeats 4000000 in
theorem kX8_weed (l : Launch) (D : va_G) (cy : Nat → ClassId) (a : Nat → Nat) (p0 : Int32) (p1 : Int32) (M : zM) (r0 : Int32) (M0 : zM) (h : fX8_weed p0 p1 M = some (r0, M0)) : zCi l D cy a yX8_weed cX8_weed 3 (some .int) (zRm 2 42) [.ref (a 87), .int p0, .int p1] M (fun r u => r = r0 ∧ u = M0) := by
  intro sz
  refine zent_i sz (by decide) (Nat.le_of_ble_eq_true rfl) rfl (fun p e s m args below meth c ls H locs X hw hl => ?_)
  obtain ⟨hx, hb, hr, hml, hown, hW, hlocks⟩ := id X
  have hE := hw.2.2.2.2.1
  have hcs : 0 ≤ ((zRm 2 42)).cells ∧ 0 ≤ ((zRm 2 42)).slots := ⟨Nat.zero_le _, Nat.zero_le _⟩
  rw [fX8_weed] at h
  refine lv_iload_n hx hb dX8_weed_0 rfl (lv_at hl 1 rfl) ?_
  obtain ⟨r1, M2, f3, h⟩ := zbi_e h
  refine z_qSi (As := [.int p0]) (rest := []) X hw (kX8_isPlace l D cy a p0 M r1 M2 f3) (cwX8_79 X.2.2.2.2.2.1 rfl rfl (zroomO (Nat.le_of_ble_eq_true rfl) (Nat.le_of_ble_eq_true rfl))) rfl rfl (Nat.le_of_ble_eq_true rfl) hl.1 hcs dX8_weed_1 (fun H locs hw => ?_)
  refine lv_if_eq (tgt := 29) hx hb dX8_weed_4 (by decide) (fun c4 => ?_) (fun c4 => ?_)
  · replace h := zif_t c4 h
    refine lv_aload_n hx hb dX8_weed_29 rfl (lv_at hl 0 rfl) ?_
    refine lv_iconst (v := 1) hx hb dX8_weed_30 (by decide) ?_
    obtain ⟨r5, M6, f7, h⟩ := zbi_e h
    refine z_qVi (As := [.int (1 : Int32)]) (rest := []) X hw (kX8_error l D cy a (1 : Int32) M2 r5 M6 f7) (cwX8_76 X.2.2.2.2.2.1 rfl rfl (zroomO (Nat.le_of_ble_eq_true rfl) (Nat.le_of_ble_eq_true rfl))) (zX8_lt (rfl : zX8 87)) (zS8 (rfl : zX8 87) cy a (M2 87)) rfl rfl rfl (Nat.le_of_ble_eq_true rfl) hl.1 hcs dX8_weed_31 (fun H locs hw => ?_)
    exact z_ri X hw (zret h) dX8_weed_34
  · replace h := zif_f c4 h
    refine lv_iload_n hx hb dX8_weed_7 rfl (lv_at hl 2 rfl) ?_
    refine lv_iconst (v := 0) hx hb dX8_weed_8 (by decide) ?_
    refine lv_bipush (v := 9) hx hb dX8_weed_9 (by decide) ?_
    obtain ⟨r8, M9, f10, h⟩ := zbi_e h
    refine z_qSi (As := [.int p1, .int (0 : Int32), .int (9 : Int32)]) (rest := []) X hw (kX8_in l D cy a p1 (0 : Int32) (9 : Int32) M2 r8 M9 f10) (cwX8_56 X.2.2.2.2.2.1 rfl rfl (zroomO (Nat.le_of_ble_eq_true rfl) (Nat.le_of_ble_eq_true rfl))) rfl rfl (Nat.le_of_ble_eq_true rfl) hl.1 hcs dX8_weed_11 (fun H locs hw => ?_)
    refine lv_if_eq (tgt := 29) hx hb dX8_weed_14 (by decide) (fun c11 => ?_) (fun c11 => ?_)
    · replace h := zif_t c11 h
      refine lv_aload_n hx hb dX8_weed_29 rfl (lv_at hl 0 rfl) ?_
      refine lv_iconst (v := 1) hx hb dX8_weed_30 (by decide) ?_
      obtain ⟨r12, M13, f14, h⟩ := zbi_e h
      refine z_qVi (As := [.int (1 : Int32)]) (rest := []) X hw (kX8_error l D cy a (1 : Int32) M9 r12 M13 f14) (cwX8_76 X.2.2.2.2.2.1 rfl rfl (zroomO (Nat.le_of_ble_eq_true rfl) (Nat.le_of_ble_eq_true rfl))) (zX8_lt (rfl : zX8 87)) (zS8 (rfl : zX8 87) cy a (M9 87)) rfl rfl rfl (Nat.le_of_ble_eq_true rfl) hl.1 hcs dX8_weed_31 (fun H locs hw => ?_)
      exact z_ri X hw (zret h) dX8_weed_34
    · replace h := zif_f c11 h
      refine lv_aload_n hx hb dX8_weed_17 rfl (lv_at hl 0 rfl) ?_
      refine lv_bipush (v := 30) hx hb dX8_weed_18 (by decide) ?_
      refine lv_iload_n hx hb dX8_weed_20 rfl (lv_at hl 1 rfl) ?_
      refine lv_iadd hx hb dX8_weed_21 ?_
      refine lv_iload_n hx hb dX8_weed_22 rfl (lv_at hl 2 rfl) ?_
      obtain ⟨r15, M16, f17, h⟩ := zbi_e h
      refine z_qVi (As := [.int ((30 : Int32) + p0), .int p1]) (rest := []) X hw (kX8_change l D cy a ((30 : Int32) + p0) p1 M9 r15 M16 f17) (cwX8_72 X.2.2.2.2.2.1 rfl rfl (zroomO (Nat.le_of_ble_eq_true rfl) (Nat.le_of_ble_eq_true rfl))) (zX8_lt (rfl : zX8 87)) (zS8 (rfl : zX8 87) cy a (M9 87)) rfl rfl rfl (Nat.le_of_ble_eq_true rfl) hl.1 hcs dX8_weed_23 (fun H locs hw => ?_)
      refine lv_goto (tgt := 34) hx hb dX8_weed_26 (by decide) ?_
      exact z_ri X hw (zret h) dX8_weed_34
def fX8_frost (p0 : Int32) (M : zM) : Option (Int32 × zM) := zbi (fX8_in p0 (0 : Int32) (9 : Int32) M) (fun r1 M2 => if r1 = 0 then (zbi (fX8_error (1 : Int32) M2) (fun r5 M6 => some (r5, M6))) else (zbi (fX8_change (2 : Int32) p0 M2) (fun r8 M9 => some (r8, M9))))
set_option maxRecDepth 100000 in
set_option maxHeartbeats 4000000 in
theorem kX8_frost (l : Launch) (D : va_G) (cy : Nat → ClassId) (a : Nat → Nat) (p0 : Int32) (M : zM) (r0 : Int32) (M0 : zM) (h : fX8_frost p0 M = some (r0, M0)) : zCi l D cy a yX8_frost cX8_frost 2 (some .int) (zRm 1 23) [.ref (a 87), .int p0] M (fun r u => r = r0 ∧ u = M0) := by
  intro sz
  refine zent_i sz (by decide) (Nat.le_of_ble_eq_true rfl) rfl (fun p e s m args below meth c ls H locs X hw hl => ?_)
  obtain ⟨hx, hb, hr, hml, hown, hW, hlocks⟩ := id X
  have hE := hw.2.2.2.2.1
  have hcs : 0 ≤ ((zRm 1 23)).cells ∧ 0 ≤ ((zRm 1 23)).slots := ⟨Nat.zero_le _, Nat.zero_le _⟩
  rw [fX8_frost] at h
  refine lv_iload_n hx hb dX8_frost_0 rfl (lv_at hl 1 rfl) ?_
  refine lv_iconst (v := 0) hx hb dX8_frost_1 (by decide) ?_
  refine lv_bipush (v := 9) hx hb dX8_frost_2 (by decide) ?_
  obtain ⟨r1, M2, f3, h⟩ := zbi_e h
  refine z_qSi (As := [.int p0, .int (0 : Int32), .int (9 : Int32)]) (rest := []) X hw (kX8_in l D cy a p0 (0 : Int32) (9 : Int32) M r1 M2 f3) (cwX8_56 X.2.2.2.2.2.1 rfl rfl (zroomO (Nat.le_of_ble_eq_true rfl) (Nat.le_of_ble_eq_true rfl))) rfl rfl (Nat.le_of_ble_eq_true rfl) hl.1 hcs dX8_frost_4 (fun H locs hw => ?_)
  refine lv_if_eq (tgt := 19) hx hb dX8_frost_7 (by decide) (fun c4 => ?_) (fun c4 => ?_)
  · replace h := zif_t c4 h
    refine lv_aload_n hx hb dX8_frost_19 rfl (lv_at hl 0 rfl) ?_
    refine lv_iconst (v := 1) hx hb dX8_frost_20 (by decide) ?_
    obtain ⟨r5, M6, f7, h⟩ := zbi_e h
    refine z_qVi (As := [.int (1 : Int32)]) (rest := []) X hw (kX8_error l D cy a (1 : Int32) M2 r5 M6 f7) (cwX8_76 X.2.2.2.2.2.1 rfl rfl (zroomO (Nat.le_of_ble_eq_true rfl) (Nat.le_of_ble_eq_true rfl))) (zX8_lt (rfl : zX8 87)) (zS8 (rfl : zX8 87) cy a (M2 87)) rfl rfl rfl (Nat.le_of_ble_eq_true rfl) hl.1 hcs dX8_frost_21 (fun H locs hw => ?_)
    exact z_ri X hw (zret h) dX8_frost_24
  · replace h := zif_f c4 h
    refine lv_aload_n hx hb dX8_frost_10 rfl (lv_at hl 0 rfl) ?_
    refine lv_iconst (v := 2) hx hb dX8_frost_11 (by decide) ?_
    refine lv_iload_n hx hb dX8_frost_12 rfl (lv_at hl 1 rfl) ?_
    obtain ⟨r8, M9, f10, h⟩ := zbi_e h
    refine z_qVi (As := [.int (2 : Int32), .int p0]) (rest := []) X hw (kX8_change l D cy a (2 : Int32) p0 M2 r8 M9 f10) (cwX8_72 X.2.2.2.2.2.1 rfl rfl (zroomO (Nat.le_of_ble_eq_true rfl) (Nat.le_of_ble_eq_true rfl))) (zX8_lt (rfl : zX8 87)) (zS8 (rfl : zX8 87) cy a (M2 87)) rfl rfl rfl (Nat.le_of_ble_eq_true rfl) hl.1 hcs dX8_frost_13 (fun H locs hw => ?_)
    refine lv_goto (tgt := 24) hx hb dX8_frost_16 (by decide) ?_
    exact z_ri X hw (zret h) dX8_frost_24
def fX8_owe (p0 : Int32) (p1 : Int32) (M : zM) : Option (Int32 × zM) := zbi (fX8_isFamily p0 M) (fun r1 M2 => if r1 = 0 then (zbi (fX8_error (1 : Int32) M2) (fun r5 M6 => some (r5, M6))) else (zbi (fX8_in p1 (0 : Int32) (99999 : Int32) M2) (fun r8 M9 => if r8 = 0 then (zbi (fX8_error (1 : Int32) M9) (fun r12 M13 => some (r12, M13))) else (zbi (fX8_change ((42 : Int32) + ((2 : Int32) * p0)) p1 M9) (fun r15 M16 => some (r15, M16))))))
set_option maxRecDepth 100000 in
set_option maxHeartbeats 4000000 in
theorem kX8_owe (l : Launch) (D : va_G) (cy : Nat → ClassId) (a : Nat → Nat) (p0 : Int32) (p1 : Int32) (M : zM) (r0 : Int32) (M0 : zM) (h : fX8_owe p0 p1 M = some (r0, M0)) : zCi l D cy a yX8_owe cX8_owe 3 (some .int) (zRm 2 42) [.ref (a 87), .int p0, .int p1] M (fun r u => r = r0 ∧ u = M0) := by
  intro sz
  refine zent_i sz (by decide) (Nat.le_of_ble_eq_true rfl) rfl (fun p e s m args below meth c ls H locs X hw hl => ?_)
  obtain ⟨hx, hb, hr, hml, hown, hW, hlocks⟩ := id X
  have hE := hw.2.2.2.2.1
  have hcs : 0 ≤ ((zRm 2 42)).cells ∧ 0 ≤ ((zRm 2 42)).slots := ⟨Nat.zero_le _, Nat.zero_le _⟩
  rw [fX8_owe] at h
  refine lv_iload_n hx hb dX8_owe_0 rfl (lv_at hl 1 rfl) ?_
  obtain ⟨r1, M2, f3, h⟩ := zbi_e h
  refine z_qSi (As := [.int p0]) (rest := []) X hw (kX8_isFamily l D cy a p0 M r1 M2 f3) (cwX8_83 X.2.2.2.2.2.1 rfl rfl (zroomO (Nat.le_of_ble_eq_true rfl) (Nat.le_of_ble_eq_true rfl))) rfl rfl (Nat.le_of_ble_eq_true rfl) hl.1 hcs dX8_owe_1 (fun H locs hw => ?_)
  refine lv_if_eq (tgt := 31) hx hb dX8_owe_4 (by decide) (fun c4 => ?_) (fun c4 => ?_)
  · replace h := zif_t c4 h
    refine lv_aload_n hx hb dX8_owe_31 rfl (lv_at hl 0 rfl) ?_
    refine lv_iconst (v := 1) hx hb dX8_owe_32 (by decide) ?_
    obtain ⟨r5, M6, f7, h⟩ := zbi_e h
    refine z_qVi (As := [.int (1 : Int32)]) (rest := []) X hw (kX8_error l D cy a (1 : Int32) M2 r5 M6 f7) (cwX8_76 X.2.2.2.2.2.1 rfl rfl (zroomO (Nat.le_of_ble_eq_true rfl) (Nat.le_of_ble_eq_true rfl))) (zX8_lt (rfl : zX8 87)) (zS8 (rfl : zX8 87) cy a (M2 87)) rfl rfl rfl (Nat.le_of_ble_eq_true rfl) hl.1 hcs dX8_owe_33 (fun H locs hw => ?_)
    exact z_ri X hw (zret h) dX8_owe_36
  · replace h := zif_f c4 h
    refine lv_iload_n hx hb dX8_owe_7 rfl (lv_at hl 2 rfl) ?_
    refine lv_iconst (v := 0) hx hb dX8_owe_8 (by decide) ?_
    refine z_ldc (v := 99999) X zm_7_23 dX8_owe_9 ?_
    obtain ⟨r8, M9, f10, h⟩ := zbi_e h
    refine z_qSi (As := [.int p1, .int (0 : Int32), .int (99999 : Int32)]) (rest := []) X hw (kX8_in l D cy a p1 (0 : Int32) (99999 : Int32) M2 r8 M9 f10) (cwX8_56 X.2.2.2.2.2.1 rfl rfl (zroomO (Nat.le_of_ble_eq_true rfl) (Nat.le_of_ble_eq_true rfl))) rfl rfl (Nat.le_of_ble_eq_true rfl) hl.1 hcs dX8_owe_11 (fun H locs hw => ?_)
    refine lv_if_eq (tgt := 31) hx hb dX8_owe_14 (by decide) (fun c11 => ?_) (fun c11 => ?_)
    · replace h := zif_t c11 h
      refine lv_aload_n hx hb dX8_owe_31 rfl (lv_at hl 0 rfl) ?_
      refine lv_iconst (v := 1) hx hb dX8_owe_32 (by decide) ?_
      obtain ⟨r12, M13, f14, h⟩ := zbi_e h
      refine z_qVi (As := [.int (1 : Int32)]) (rest := []) X hw (kX8_error l D cy a (1 : Int32) M9 r12 M13 f14) (cwX8_76 X.2.2.2.2.2.1 rfl rfl (zroomO (Nat.le_of_ble_eq_true rfl) (Nat.le_of_ble_eq_true rfl))) (zX8_lt (rfl : zX8 87)) (zS8 (rfl : zX8 87) cy a (M9 87)) rfl rfl rfl (Nat.le_of_ble_eq_true rfl) hl.1 hcs dX8_owe_33 (fun H locs hw => ?_)
      exact z_ri X hw (zret h) dX8_owe_36
    · replace h := zif_f c11 h
      refine lv_aload_n hx hb dX8_owe_17 rfl (lv_at hl 0 rfl) ?_
      refine lv_bipush (v := 42) hx hb dX8_owe_18 (by decide) ?_
      refine lv_iconst (v := 2) hx hb dX8_owe_20 (by decide) ?_
      refine lv_iload_n hx hb dX8_owe_21 rfl (lv_at hl 1 rfl) ?_
      refine lv_imul hx hb dX8_owe_22 ?_
      refine lv_iadd hx hb dX8_owe_23 ?_
      refine lv_iload_n hx hb dX8_owe_24 rfl (lv_at hl 2 rfl) ?_
      obtain ⟨r15, M16, f17, h⟩ := zbi_e h
      refine z_qVi (As := [.int ((42 : Int32) + ((2 : Int32) * p0)), .int p1]) (rest := []) X hw (kX8_change l D cy a ((42 : Int32) + ((2 : Int32) * p0)) p1 M9 r15 M16 f17) (cwX8_72 X.2.2.2.2.2.1 rfl rfl (zroomO (Nat.le_of_ble_eq_true rfl) (Nat.le_of_ble_eq_true rfl))) (zX8_lt (rfl : zX8 87)) (zS8 (rfl : zX8 87) cy a (M9 87)) rfl rfl rfl (Nat.le_of_ble_eq_true rfl) hl.1 hcs dX8_owe_25 (fun H locs hw => ?_)
      refine lv_goto (tgt := 36) hx hb dX8_owe_28 (by decide) ?_
      exact z_ri X hw (zret h) dX8_owe_36
def fX8_toldFamily_49 (y1 : Int32) (k : Int32 → zM → Option (Int32 × zM)) : Nat → Int32 → Int32 → zM → Option (Int32 × zM)
  | 0, _, _, _ => none
  | n + 1, v3, v4, M => if M 88 (0) ≤ v4 then (k v3 M) else (zbi (fX8_its v4 (3 : Int32) M) (fun r3 M4 => if r3 = y1 then (zlt (v3 + (1 : Int32)) (fun x9 => zlt (v4 + (1 : Int32)) (fun x10 => fX8_toldFamily_49 y1 k n x9 x10 M4))) else (zlt (v3 + (0 : Int32)) (fun x7 => zlt (v4 + (1 : Int32)) (fun x8 => fX8_toldFamily_49 y1 k n x7 x8 M4)))))
set_option maxRecDepth 100000 in
set_option maxHeartbeats 4000000 in
theorem lX8_toldFamily_49 {p : Program} {l : Launch} {e : Env} {s : State} {m : MethodId} {args : Array Value} {below : List Frame} {meth : Method} {c : Code} {D : va_G} {cy : Nat → ClassId} {a : Nat → Nat} {r0 : Int32} {M0 : zM} (X : zCX p s m meth c args cX8_toldFamily 5 (some .int) RX8) (y1 : Int32) (k : Int32 → zM → Option (Int32 × zM)) : ∀ (n : Nat) (v3 : Int32) (v4 : Int32) (M : zM) (H : Heap) (locs : List Loc) (ls : Array Slot), zWD D cy a (zfr a s.heap.size) M H locs s → lv_has ls 5 [(0, .ref (a 87)), (1, .int y1), (3, .int v3), (4, .int v4)] → fX8_toldFamily_49 y1 k n v3 v4 M = some (r0, M0) →
    (∀ (u3 : Int32) (M' : zM) (H' : Heap) (locs' : List Loc) (ls' : Array Slot), zWD D cy a (zfr a s.heap.size) M' H' locs' s → lv_has ls' 5 [(3, .int u3)] → k u3 M' = some (r0, M0) → W p l e (zRm 2 42) s m args below meth c H' locs' 0 0 (zQi D cy a s args below r0 M0) (F0 m 85 ls' [])) →
    W p l e (zRm 2 42) s m args below meth c H locs 0 0 (zQi D cy a s args below r0 M0) (F0 m 49 ls []) := by
  obtain ⟨hx, hb, hr, hml, hown, hW, hlocks⟩ := id X
  have hcs : 0 ≤ ((zRm 2 42)).cells ∧ 0 ≤ ((zRm 2 42)).slots := ⟨Nat.zero_le _, Nat.zero_le _⟩
  intro n
  induction n with
  | zero =>
    intro v3 v4 M H locs ls hw hl h hk
    cases h
  | succ n ih =>
    intro v3 v4 M H locs ls hw hl h hk
    have hE := hw.2.2.2.2.1
    rw [fX8_toldFamily_49] at h
    refine lv_iload hx hb dX8_toldFamily_49 (lv_at hl 3 rfl) ?_
    refine lv_aload_n hx hb dX8_toldFamily_51 rfl (lv_at hl 0 rfl) ?_
    refine gtX8_7 X hw dX8_toldFamily_52 ?_
    refine lv_iconst (v := 0) hx hb dX8_toldFamily_55 (by decide) ?_
    refine z_aldK (k := 0) X hw zI_88 (by decide) (by decide) (by decide) dX8_toldFamily_56 ?_
    refine lv_icmp_ge (tgt := 85) hx hb dX8_toldFamily_57 (by decide) (fun c2 => ?_) (fun c2 => ?_)
    · replace h := zif_t c2 h
      exact hk v3 M H locs _ hw (lv_sub hl [2] rfl) h
    · replace h := zif_f c2 h
      refine lv_iload_n hx hb dX8_toldFamily_60 rfl (lv_at hl 2 rfl) ?_
      refine lv_aload_n hx hb dX8_toldFamily_61 rfl (lv_at hl 0 rfl) ?_
      refine lv_iload hx hb dX8_toldFamily_62 (lv_at hl 3 rfl) ?_
      refine lv_iconst (v := 3) hx hb dX8_toldFamily_64 (by decide) ?_
      obtain ⟨r3, M4, f5, h⟩ := zbi_e h
      refine z_qVi (As := [.int v4, .int (3 : Int32)]) (rest := [.int v3]) X hw (kX8_its l D cy a v4 (3 : Int32) M r3 M4 f5) (cwX8_90 X.2.2.2.2.2.1 rfl rfl (zroomO (Nat.le_of_ble_eq_true rfl) (Nat.le_of_ble_eq_true rfl))) (zX8_lt (rfl : zX8 87)) (zS8 (rfl : zX8 87) cy a (M 87)) rfl rfl rfl (Nat.le_of_ble_eq_true rfl) hl.1 hcs dX8_toldFamily_65 (fun H locs hw => ?_)
      refine lv_iload_n hx hb dX8_toldFamily_68 rfl (lv_at hl 1 rfl) ?_
      refine lv_icmp_ne (tgt := 76) hx hb dX8_toldFamily_69 (by decide) (fun c6 => ?_) (fun c6 => ?_)
      · replace h := zif_f c6 h
        refine lv_iconst (v := 0) hx hb dX8_toldFamily_76 (by decide) ?_
        refine lv_iadd hx hb dX8_toldFamily_77 ?_
        refine lv_topi (fun x7 ex7 => ?_)
        replace h := zlt_s ex7 h
        refine lv_istore_n (lv' := [(3, .int x7), (0, .ref (a 87)), (1, .int y1), (4, .int v4)]) hx hb dX8_toldFamily_78 rfl hl (by decide) rfl (fun ls hl => ?_)
        obtain ⟨x8, ex8⟩ : ∃ y : Int32, y = v4 + (1 : Int32) := ⟨_, rfl⟩
        replace h := zlt_s ex8 h
        refine lv_iinc (v := x8) (lv' := [(4, .int x8), (3, .int x7), (0, .ref (a 87)), (1, .int y1)]) hx hb dX8_toldFamily_79 hl (k := 3) rfl (by rw [ex8]; rfl) (by decide) rfl (fun ls hl => ?_)
        refine lv_goto (tgt := 49) hx hb dX8_toldFamily_82 (by decide) ?_
        exact ih x7 x8 M4 H locs _ hw (lv_sub hl [2, 3, 1, 0] rfl) h hk
      · replace h := zif_t c6 h
        refine lv_iconst (v := 1) hx hb dX8_toldFamily_72 (by decide) ?_
        refine lv_goto (tgt := 77) hx hb dX8_toldFamily_73 (by decide) ?_
        refine lv_iadd hx hb dX8_toldFamily_77 ?_
        refine lv_topi (fun x9 ex9 => ?_)
        replace h := zlt_s ex9 h
        refine lv_istore_n (lv' := [(3, .int x9), (0, .ref (a 87)), (1, .int y1), (4, .int v4)]) hx hb dX8_toldFamily_78 rfl hl (by decide) rfl (fun ls hl => ?_)
        obtain ⟨x10, ex10⟩ : ∃ y : Int32, y = v4 + (1 : Int32) := ⟨_, rfl⟩
        replace h := zlt_s ex10 h
        refine lv_iinc (v := x10) (lv' := [(4, .int x10), (3, .int x9), (0, .ref (a 87)), (1, .int y1)]) hx hb dX8_toldFamily_79 hl (k := 3) rfl (by rw [ex10]; rfl) (by decide) rfl (fun ls hl => ?_)
        refine lv_goto (tgt := 49) hx hb dX8_toldFamily_82 (by decide) ?_
        exact ih x9 x10 M4 H locs _ hw (lv_sub hl [2, 3, 1, 0] rfl) h hk
def fX8_toldFamily (p0 : Int32) (p1 : Int32) (M : zM) : Option (Int32 × zM) := if (3 : Int32) ≤ p1 then (fX8_toldFamily_49 p0 (fun x11 M12 => some (x11, M12)) zF (0 : Int32) (0 : Int32) M) else (if p1 = 0 then (zbi (fX8_owed p0 M) (fun r22 M23 => some (r22, M23))) else (if p1 = (1 : Int32) then (zbi (fX8_prayed p0 M) (fun r19 M20 => some (r19, M20))) else (zbi (fX8_isPaid p0 M) (fun r15 M16 => if r15 = 0 then (some ((0 : Int32), M16)) else (some ((1 : Int32), M16))))))
set_option maxRecDepth 100000 in
set_option maxHeartbeats 4000000 in
theorem kX8_toldFamily (l : Launch) (D : va_G) (cy : Nat → ClassId) (a : Nat → Nat) (p0 : Int32) (p1 : Int32) (M : zM) (r0 : Int32) (M0 : zM) (h : fX8_toldFamily p0 p1 M = some (r0, M0)) : zCi l D cy a yX8_toldFamily cX8_toldFamily 5 (some .int) (zRm 2 42) [.ref (a 87), .int p0, .int p1] M (fun r u => r = r0 ∧ u = M0) := by
  intro sz
  refine zent_i sz (by decide) (Nat.le_of_ble_eq_true rfl) rfl (fun p e s m args below meth c ls H locs X hw hl => ?_)
  obtain ⟨hx, hb, hr, hml, hown, hW, hlocks⟩ := id X
  have hE := hw.2.2.2.2.1
  have hcs : 0 ≤ ((zRm 2 42)).cells ∧ 0 ≤ ((zRm 2 42)).slots := ⟨Nat.zero_le _, Nat.zero_le _⟩
  rw [fX8_toldFamily] at h
  refine lv_iload_n hx hb dX8_toldFamily_0 rfl (lv_at hl 2 rfl) ?_
  refine lv_iconst (v := 3) hx hb dX8_toldFamily_1 (by decide) ?_
  refine lv_icmp_ge (tgt := 44) hx hb dX8_toldFamily_2 (by decide) (fun c1 => ?_) (fun c1 => ?_)
  · replace h := zif_t c1 h
    refine lv_iconst (v := 0) hx hb dX8_toldFamily_44 (by decide) ?_
    refine lv_istore_n (lv' := [(3, .int (0 : Int32)), (0, .ref (a 87)), (1, .int p0), (2, .int p1)]) hx hb dX8_toldFamily_45 rfl hl (by decide) rfl (fun ls hl => ?_)
    refine lv_iconst (v := 0) hx hb dX8_toldFamily_46 (by decide) ?_
    refine lv_istore (lv' := [(4, .int (0 : Int32)), (3, .int (0 : Int32)), (0, .ref (a 87)), (1, .int p0), (2, .int p1)]) hx hb dX8_toldFamily_47 hl (by decide) rfl (fun ls hl => ?_)
    refine lX8_toldFamily_49 X p0 _ zF (0 : Int32) (0 : Int32) M H locs _ hw (lv_sub hl [2, 3, 1, 0] rfl) h (fun x11 M12 H locs ls hw hl h => ?_)
    refine lv_iload_n hx hb dX8_toldFamily_85 rfl (lv_at hl 0 rfl) ?_
    exact z_ri X hw (zret h) dX8_toldFamily_86
  · replace h := zif_f c1 h
    refine lv_iload_n hx hb dX8_toldFamily_5 rfl (lv_at hl 2 rfl) ?_
    refine lv_if_ne (tgt := 17) hx hb dX8_toldFamily_6 (by decide) (fun c13 => ?_) (fun c13 => ?_)
    · replace h := zif_f c13 h
      refine lv_iload_n hx hb dX8_toldFamily_17 rfl (lv_at hl 2 rfl) ?_
      refine lv_iconst (v := 1) hx hb dX8_toldFamily_18 (by decide) ?_
      refine lv_icmp_ne (tgt := 30) hx hb dX8_toldFamily_19 (by decide) (fun c14 => ?_) (fun c14 => ?_)
      · replace h := zif_f c14 h
        refine lv_aload_n hx hb dX8_toldFamily_30 rfl (lv_at hl 0 rfl) ?_
        refine lv_iload_n hx hb dX8_toldFamily_31 rfl (lv_at hl 1 rfl) ?_
        obtain ⟨r15, M16, f17, h⟩ := zbi_e h
        refine z_qVi (As := [.int p0]) (rest := []) X hw (kX8_isPaid l D cy a p0 M r15 M16 f17) (cwX8_87 X.2.2.2.2.2.1 rfl rfl (zroomO (Nat.le_of_ble_eq_true rfl) (Nat.le_of_ble_eq_true rfl))) (zX8_lt (rfl : zX8 87)) (zS8 (rfl : zX8 87) cy a (M 87)) rfl rfl rfl (Nat.le_of_ble_eq_true rfl) hl.1 hcs dX8_toldFamily_32 (fun H locs hw => ?_)
        refine lv_if_eq (tgt := 42) hx hb dX8_toldFamily_35 (by decide) (fun c18 => ?_) (fun c18 => ?_)
        · replace h := zif_t c18 h
          refine lv_iconst (v := 0) hx hb dX8_toldFamily_42 (by decide) ?_
          exact z_ri X hw (zret h) dX8_toldFamily_43
        · replace h := zif_f c18 h
          refine lv_iconst (v := 1) hx hb dX8_toldFamily_38 (by decide) ?_
          refine lv_goto (tgt := 43) hx hb dX8_toldFamily_39 (by decide) ?_
          exact z_ri X hw (zret h) dX8_toldFamily_43
      · replace h := zif_t c14 h
        refine lv_aload_n hx hb dX8_toldFamily_22 rfl (lv_at hl 0 rfl) ?_
        refine lv_iload_n hx hb dX8_toldFamily_23 rfl (lv_at hl 1 rfl) ?_
        obtain ⟨r19, M20, f21, h⟩ := zbi_e h
        refine z_qVi (As := [.int p0]) (rest := []) X hw (kX8_prayed l D cy a p0 M r19 M20 f21) (cwX8_65 X.2.2.2.2.2.1 rfl rfl (zroomO (Nat.le_of_ble_eq_true rfl) (Nat.le_of_ble_eq_true rfl))) (zX8_lt (rfl : zX8 87)) (zS8 (rfl : zX8 87) cy a (M 87)) rfl rfl rfl (Nat.le_of_ble_eq_true rfl) hl.1 hcs dX8_toldFamily_24 (fun H locs hw => ?_)
        refine lv_goto (tgt := 43) hx hb dX8_toldFamily_27 (by decide) ?_
        exact z_ri X hw (zret h) dX8_toldFamily_43
    · replace h := zif_t c13 h
      refine lv_aload_n hx hb dX8_toldFamily_9 rfl (lv_at hl 0 rfl) ?_
      refine lv_iload_n hx hb dX8_toldFamily_10 rfl (lv_at hl 1 rfl) ?_
      obtain ⟨r22, M23, f24, h⟩ := zbi_e h
      refine z_qVi (As := [.int p0]) (rest := []) X hw (kX8_owed l D cy a p0 M r22 M23 f24) (cwX8_69 X.2.2.2.2.2.1 rfl rfl (zroomO (Nat.le_of_ble_eq_true rfl) (Nat.le_of_ble_eq_true rfl))) (zX8_lt (rfl : zX8 87)) (zS8 (rfl : zX8 87) cy a (M 87)) rfl rfl rfl (Nat.le_of_ble_eq_true rfl) hl.1 hcs dX8_toldFamily_11 (fun H locs hw => ?_)
      refine lv_goto (tgt := 43) hx hb dX8_toldFamily_14 (by decide) ?_
      exact z_ri X hw (zret h) dX8_toldFamily_43
def fX8_familyIs (p0 : Int32) (p1 : Int32) (M : zM) : Option (Int32 × zM) := zbi (fX8_isFamily p0 M) (fun r1 M2 => if r1 = 0 then (zbi (fX8_error (1 : Int32) M2) (fun r5 M6 => some (r5, M6))) else (zbi (fX8_in p1 (0 : Int32) (3 : Int32) M2) (fun r8 M9 => if r8 = 0 then (zbi (fX8_error (1 : Int32) M9) (fun r12 M13 => some (r12, M13))) else (zbi (fX8_toldFamily p0 p1 M9) (fun r15 M16 => some (r15, M16))))))
set_option maxRecDepth 100000 in
set_option maxHeartbeats 4000000 in
theorem kX8_familyIs (l : Launch) (D : va_G) (cy : Nat → ClassId) (a : Nat → Nat) (p0 : Int32) (p1 : Int32) (M : zM) (r0 : Int32) (M0 : zM) (h : fX8_familyIs p0 p1 M = some (r0, M0)) : zCi l D cy a yX8_familyIs cX8_familyIs 3 (some .int) (zRm 3 66) [.ref (a 87), .int p0, .int p1] M (fun r u => r = r0 ∧ u = M0) := by
  intro sz
  refine zent_i sz (by decide) (Nat.le_of_ble_eq_true rfl) rfl (fun p e s m args below meth c ls H locs X hw hl => ?_)
  obtain ⟨hx, hb, hr, hml, hown, hW, hlocks⟩ := id X
  have hE := hw.2.2.2.2.1
  have hcs : 0 ≤ ((zRm 3 66)).cells ∧ 0 ≤ ((zRm 3 66)).slots := ⟨Nat.zero_le _, Nat.zero_le _⟩
  rw [fX8_familyIs] at h
  refine lv_iload_n hx hb dX8_familyIs_0 rfl (lv_at hl 1 rfl) ?_
  obtain ⟨r1, M2, f3, h⟩ := zbi_e h
  refine z_qSi (As := [.int p0]) (rest := []) X hw (kX8_isFamily l D cy a p0 M r1 M2 f3) (cwX8_83 X.2.2.2.2.2.1 rfl rfl (zroomO (Nat.le_of_ble_eq_true rfl) (Nat.le_of_ble_eq_true rfl))) rfl rfl (Nat.le_of_ble_eq_true rfl) hl.1 hcs dX8_familyIs_1 (fun H locs hw => ?_)
  refine lv_if_eq (tgt := 25) hx hb dX8_familyIs_4 (by decide) (fun c4 => ?_) (fun c4 => ?_)
  · replace h := zif_t c4 h
    refine lv_aload_n hx hb dX8_familyIs_25 rfl (lv_at hl 0 rfl) ?_
    refine lv_iconst (v := 1) hx hb dX8_familyIs_26 (by decide) ?_
    obtain ⟨r5, M6, f7, h⟩ := zbi_e h
    refine z_qVi (As := [.int (1 : Int32)]) (rest := []) X hw (kX8_error l D cy a (1 : Int32) M2 r5 M6 f7) (cwX8_76 X.2.2.2.2.2.1 rfl rfl (zroomO (Nat.le_of_ble_eq_true rfl) (Nat.le_of_ble_eq_true rfl))) (zX8_lt (rfl : zX8 87)) (zS8 (rfl : zX8 87) cy a (M2 87)) rfl rfl rfl (Nat.le_of_ble_eq_true rfl) hl.1 hcs dX8_familyIs_27 (fun H locs hw => ?_)
    exact z_ri X hw (zret h) dX8_familyIs_30
  · replace h := zif_f c4 h
    refine lv_iload_n hx hb dX8_familyIs_7 rfl (lv_at hl 2 rfl) ?_
    refine lv_iconst (v := 0) hx hb dX8_familyIs_8 (by decide) ?_
    refine lv_iconst (v := 3) hx hb dX8_familyIs_9 (by decide) ?_
    obtain ⟨r8, M9, f10, h⟩ := zbi_e h
    refine z_qSi (As := [.int p1, .int (0 : Int32), .int (3 : Int32)]) (rest := []) X hw (kX8_in l D cy a p1 (0 : Int32) (3 : Int32) M2 r8 M9 f10) (cwX8_56 X.2.2.2.2.2.1 rfl rfl (zroomO (Nat.le_of_ble_eq_true rfl) (Nat.le_of_ble_eq_true rfl))) rfl rfl (Nat.le_of_ble_eq_true rfl) hl.1 hcs dX8_familyIs_10 (fun H locs hw => ?_)
    refine lv_if_eq (tgt := 25) hx hb dX8_familyIs_13 (by decide) (fun c11 => ?_) (fun c11 => ?_)
    · replace h := zif_t c11 h
      refine lv_aload_n hx hb dX8_familyIs_25 rfl (lv_at hl 0 rfl) ?_
      refine lv_iconst (v := 1) hx hb dX8_familyIs_26 (by decide) ?_
      obtain ⟨r12, M13, f14, h⟩ := zbi_e h
      refine z_qVi (As := [.int (1 : Int32)]) (rest := []) X hw (kX8_error l D cy a (1 : Int32) M9 r12 M13 f14) (cwX8_76 X.2.2.2.2.2.1 rfl rfl (zroomO (Nat.le_of_ble_eq_true rfl) (Nat.le_of_ble_eq_true rfl))) (zX8_lt (rfl : zX8 87)) (zS8 (rfl : zX8 87) cy a (M9 87)) rfl rfl rfl (Nat.le_of_ble_eq_true rfl) hl.1 hcs dX8_familyIs_27 (fun H locs hw => ?_)
      exact z_ri X hw (zret h) dX8_familyIs_30
    · replace h := zif_f c11 h
      refine lv_aload_n hx hb dX8_familyIs_16 rfl (lv_at hl 0 rfl) ?_
      refine lv_iload_n hx hb dX8_familyIs_17 rfl (lv_at hl 1 rfl) ?_
      refine lv_iload_n hx hb dX8_familyIs_18 rfl (lv_at hl 2 rfl) ?_
      obtain ⟨r15, M16, f17, h⟩ := zbi_e h
      refine z_qVi (As := [.int p0, .int p1]) (rest := []) X hw (kX8_toldFamily l D cy a p0 p1 M9 r15 M16 f17) (cwX8_93 X.2.2.2.2.2.1 rfl rfl (zroomO (Nat.le_of_ble_eq_true rfl) (Nat.le_of_ble_eq_true rfl))) (zX8_lt (rfl : zX8 87)) (zS8 (rfl : zX8 87) cy a (M9 87)) rfl rfl rfl (Nat.le_of_ble_eq_true rfl) hl.1 hcs dX8_familyIs_19 (fun H locs hw => ?_)
      refine lv_goto (tgt := 30) hx hb dX8_familyIs_22 (by decide) ?_
      exact z_ri X hw (zret h) dX8_familyIs_30
def fX8_adds (p0 : Int32) (p1 : Int32) (M : zM) : Option (Int32 × zM) := zlt (M 88 (0)) (fun x1 => zbv (fX8_lays1 x1 (0 : Int32) (p0 / (10 : Int32)) M) (fun M3 => zlt (zrem p0 (10 : Int32)) (fun x5 => zbv (fX8_lays1 x1 (1 : Int32) x5 M3) (fun M7 => zbv (fX8_lays1 x1 (2 : Int32) (p1 / (10 : Int32)) M7) (fun M10 => zlt (zrem p1 (10 : Int32)) (fun x12 => zbv (fX8_lays1 x1 (3 : Int32) x12 M10) (fun M14 => zbv (fX8_lays1 x1 (4 : Int32) (1 : Int32) M14) (fun M17 => zbv (fX8_lays1 x1 (5 : Int32) (0 : Int32) M17) (fun M20 => zbv (fX8_lays1 x1 (6 : Int32) (0 : Int32) M20) (fun M23 => zlt (zst M23 88 (0) ((M23 88 (0)) + (1 : Int32))) (fun M25 => some (x1, M25))))))))))))
set_option maxRecDepth 100000 in
set_option maxHeartbeats 4000000 in
theorem kX8_adds (l : Launch) (D : va_G) (cy : Nat → ClassId) (a : Nat → Nat) (p0 : Int32) (p1 : Int32) (M : zM) (r0 : Int32) (M0 : zM) (h : fX8_adds p0 p1 M = some (r0, M0)) : zCi l D cy a yX8_adds cX8_adds 4 (some .int) (zRm 1 23) [.ref (a 87), .int p0, .int p1] M (fun r u => r = r0 ∧ u = M0) := by
  intro sz
  refine zent_i sz (by decide) (Nat.le_of_ble_eq_true rfl) rfl (fun p e s m args below meth c ls H locs X hw hl => ?_)
  obtain ⟨hx, hb, hr, hml, hown, hW, hlocks⟩ := id X
  have hE := hw.2.2.2.2.1
  have hcs : 0 ≤ ((zRm 1 23)).cells ∧ 0 ≤ ((zRm 1 23)).slots := ⟨Nat.zero_le _, Nat.zero_le _⟩
  rw [fX8_adds] at h
  refine lv_aload_n hx hb dX8_adds_0 rfl (lv_at hl 0 rfl) ?_
  refine gtX8_7 X hw dX8_adds_1 ?_
  refine lv_iconst (v := 0) hx hb dX8_adds_4 (by decide) ?_
  refine z_aldK (k := 0) X hw zI_88 (by decide) (by decide) (by decide) dX8_adds_5 ?_
  refine lv_topi (fun x1 ex1 => ?_)
  replace h := zlt_s ex1 h
  refine lv_istore_n (lv' := [(3, .int x1), (0, .ref (a 87)), (1, .int p0), (2, .int p1)]) hx hb dX8_adds_6 rfl hl (by decide) rfl (fun ls hl => ?_)
  refine lv_aload_n hx hb dX8_adds_7 rfl (lv_at hl 1 rfl) ?_
  refine lv_iload_n hx hb dX8_adds_8 rfl (lv_at hl 0 rfl) ?_
  refine lv_iconst (v := 0) hx hb dX8_adds_9 (by decide) ?_
  refine lv_iload_n hx hb dX8_adds_10 rfl (lv_at hl 2 rfl) ?_
  refine lv_bipush (v := 10) hx hb dX8_adds_11 (by decide) ?_
  refine lv_idiv hx hb dX8_adds_13 (by decide) ?_
  obtain ⟨M3, f4, h⟩ := zbv_e h
  refine z_qVv (As := [.int x1, .int (0 : Int32), .int (p0 / (10 : Int32))]) (rest := []) X hw (kX8_lays1 l D cy a x1 (0 : Int32) (p0 / (10 : Int32)) M M3 f4) (cwX8_96 X.2.2.2.2.2.1 rfl rfl (zroomO (Nat.le_of_ble_eq_true rfl) (Nat.le_of_ble_eq_true rfl))) (zX8_lt (rfl : zX8 87)) (zS8 (rfl : zX8 87) cy a (M 87)) rfl rfl rfl (Nat.le_of_ble_eq_true rfl) hl.1 hcs dX8_adds_14 (fun H locs hw => ?_)
  refine lv_aload_n hx hb dX8_adds_17 rfl (lv_at hl 1 rfl) ?_
  refine lv_iload_n hx hb dX8_adds_18 rfl (lv_at hl 0 rfl) ?_
  refine lv_iconst (v := 1) hx hb dX8_adds_19 (by decide) ?_
  refine lv_iload_n hx hb dX8_adds_20 rfl (lv_at hl 2 rfl) ?_
  refine lv_bipush (v := 10) hx hb dX8_adds_21 (by decide) ?_
  refine lv_irem hx hb dX8_adds_23 (by decide) ?_
  refine lv_topi (fun x5 ex5 => ?_)
  replace h := zlt_s ex5 h
  obtain ⟨M7, f8, h⟩ := zbv_e h
  refine z_qVv (As := [.int x1, .int (1 : Int32), .int x5]) (rest := []) X hw (kX8_lays1 l D cy a x1 (1 : Int32) x5 M3 M7 f8) (cwX8_96 X.2.2.2.2.2.1 rfl rfl (zroomO (Nat.le_of_ble_eq_true rfl) (Nat.le_of_ble_eq_true rfl))) (zX8_lt (rfl : zX8 87)) (zS8 (rfl : zX8 87) cy a (M3 87)) rfl rfl rfl (Nat.le_of_ble_eq_true rfl) hl.1 hcs dX8_adds_24 (fun H locs hw => ?_)
  refine lv_aload_n hx hb dX8_adds_27 rfl (lv_at hl 1 rfl) ?_
  refine lv_iload_n hx hb dX8_adds_28 rfl (lv_at hl 0 rfl) ?_
  refine lv_iconst (v := 2) hx hb dX8_adds_29 (by decide) ?_
  refine lv_iload_n hx hb dX8_adds_30 rfl (lv_at hl 3 rfl) ?_
  refine lv_bipush (v := 10) hx hb dX8_adds_31 (by decide) ?_
  refine lv_idiv hx hb dX8_adds_33 (by decide) ?_
  obtain ⟨M10, f11, h⟩ := zbv_e h
  refine z_qVv (As := [.int x1, .int (2 : Int32), .int (p1 / (10 : Int32))]) (rest := []) X hw (kX8_lays1 l D cy a x1 (2 : Int32) (p1 / (10 : Int32)) M7 M10 f11) (cwX8_96 X.2.2.2.2.2.1 rfl rfl (zroomO (Nat.le_of_ble_eq_true rfl) (Nat.le_of_ble_eq_true rfl))) (zX8_lt (rfl : zX8 87)) (zS8 (rfl : zX8 87) cy a (M7 87)) rfl rfl rfl (Nat.le_of_ble_eq_true rfl) hl.1 hcs dX8_adds_34 (fun H locs hw => ?_)
  refine lv_aload_n hx hb dX8_adds_37 rfl (lv_at hl 1 rfl) ?_
  refine lv_iload_n hx hb dX8_adds_38 rfl (lv_at hl 0 rfl) ?_
  refine lv_iconst (v := 3) hx hb dX8_adds_39 (by decide) ?_
  refine lv_iload_n hx hb dX8_adds_40 rfl (lv_at hl 3 rfl) ?_
  refine lv_bipush (v := 10) hx hb dX8_adds_41 (by decide) ?_
  refine lv_irem hx hb dX8_adds_43 (by decide) ?_
  refine lv_topi (fun x12 ex12 => ?_)
  replace h := zlt_s ex12 h
  obtain ⟨M14, f15, h⟩ := zbv_e h
  refine z_qVv (As := [.int x1, .int (3 : Int32), .int x12]) (rest := []) X hw (kX8_lays1 l D cy a x1 (3 : Int32) x12 M10 M14 f15) (cwX8_96 X.2.2.2.2.2.1 rfl rfl (zroomO (Nat.le_of_ble_eq_true rfl) (Nat.le_of_ble_eq_true rfl))) (zX8_lt (rfl : zX8 87)) (zS8 (rfl : zX8 87) cy a (M10 87)) rfl rfl rfl (Nat.le_of_ble_eq_true rfl) hl.1 hcs dX8_adds_44 (fun H locs hw => ?_)
  refine lv_aload_n hx hb dX8_adds_47 rfl (lv_at hl 1 rfl) ?_
  refine lv_iload_n hx hb dX8_adds_48 rfl (lv_at hl 0 rfl) ?_
  refine lv_iconst (v := 4) hx hb dX8_adds_49 (by decide) ?_
  refine lv_iconst (v := 1) hx hb dX8_adds_50 (by decide) ?_
  obtain ⟨M17, f18, h⟩ := zbv_e h
  refine z_qVv (As := [.int x1, .int (4 : Int32), .int (1 : Int32)]) (rest := []) X hw (kX8_lays1 l D cy a x1 (4 : Int32) (1 : Int32) M14 M17 f18) (cwX8_96 X.2.2.2.2.2.1 rfl rfl (zroomO (Nat.le_of_ble_eq_true rfl) (Nat.le_of_ble_eq_true rfl))) (zX8_lt (rfl : zX8 87)) (zS8 (rfl : zX8 87) cy a (M14 87)) rfl rfl rfl (Nat.le_of_ble_eq_true rfl) hl.1 hcs dX8_adds_51 (fun H locs hw => ?_)
  refine lv_aload_n hx hb dX8_adds_54 rfl (lv_at hl 1 rfl) ?_
  refine lv_iload_n hx hb dX8_adds_55 rfl (lv_at hl 0 rfl) ?_
  refine lv_iconst (v := 5) hx hb dX8_adds_56 (by decide) ?_
  refine lv_iconst (v := 0) hx hb dX8_adds_57 (by decide) ?_
  obtain ⟨M20, f21, h⟩ := zbv_e h
  refine z_qVv (As := [.int x1, .int (5 : Int32), .int (0 : Int32)]) (rest := []) X hw (kX8_lays1 l D cy a x1 (5 : Int32) (0 : Int32) M17 M20 f21) (cwX8_96 X.2.2.2.2.2.1 rfl rfl (zroomO (Nat.le_of_ble_eq_true rfl) (Nat.le_of_ble_eq_true rfl))) (zX8_lt (rfl : zX8 87)) (zS8 (rfl : zX8 87) cy a (M17 87)) rfl rfl rfl (Nat.le_of_ble_eq_true rfl) hl.1 hcs dX8_adds_58 (fun H locs hw => ?_)
  refine lv_aload_n hx hb dX8_adds_61 rfl (lv_at hl 1 rfl) ?_
  refine lv_iload_n hx hb dX8_adds_62 rfl (lv_at hl 0 rfl) ?_
  refine lv_bipush (v := 6) hx hb dX8_adds_63 (by decide) ?_
  refine lv_iconst (v := 0) hx hb dX8_adds_65 (by decide) ?_
  obtain ⟨M23, f24, h⟩ := zbv_e h
  refine z_qVv (As := [.int x1, .int (6 : Int32), .int (0 : Int32)]) (rest := []) X hw (kX8_lays1 l D cy a x1 (6 : Int32) (0 : Int32) M20 M23 f24) (cwX8_96 X.2.2.2.2.2.1 rfl rfl (zroomO (Nat.le_of_ble_eq_true rfl) (Nat.le_of_ble_eq_true rfl))) (zX8_lt (rfl : zX8 87)) (zS8 (rfl : zX8 87) cy a (M20 87)) rfl rfl rfl (Nat.le_of_ble_eq_true rfl) hl.1 hcs dX8_adds_66 (fun H locs hw => ?_)
  refine lv_aload_n hx hb dX8_adds_69 rfl (lv_at hl 1 rfl) ?_
  refine gtX8_7 X hw dX8_adds_70 ?_
  refine lv_iconst (v := 0) hx hb dX8_adds_73 (by decide) ?_
  refine lv_dup2_11 hx hb dX8_adds_74 rfl rfl ?_
  refine z_aldK (k := 0) X hw zI_88 (by decide) (by decide) (by decide) dX8_adds_75 ?_
  refine lv_iconst (v := 1) hx hb dX8_adds_76 (by decide) ?_
  refine lv_iadd hx hb dX8_adds_77 ?_
  refine z_astK (k := 0) X hw zI_88 (by decide) (by decide) (by decide) dX8_adds_78 (fun M25 H locs eM25 hw => ?_)
  replace h := zlt_s eM25 h
  refine lv_iload_n hx hb dX8_adds_79 rfl (lv_at hl 0 rfl) ?_
  exact z_ri X hw (zret h) dX8_adds_80
def fX8_wheel (p0 : Int32) (p1 : Int32) (M : zM) : Option (Int32 × zM) := zbi (fX8_in p0 (0 : Int32) (69 : Int32) M) (fun r1 M2 => if r1 = 0 then (zbi (fX8_error (1 : Int32) M2) (fun r5 M6 => some (r5, M6))) else (zbi (fX8_in p1 (0 : Int32) (114 : Int32) M2) (fun r8 M9 => if r8 = 0 then (zbi (fX8_error (1 : Int32) M9) (fun r12 M13 => some (r12, M13))) else (zlt (zrem p1 (10 : Int32)) (fun x15 => if x15 ≤ (4 : Int32) then (if M9 88 (0) = (8 : Int32) then (zbi (fX8_error (4 : Int32) M9) (fun r21 M22 => some (r21, M22))) else (zbi (fX8_adds p0 p1 M9) (fun r18 M19 => some (r18, M19)))) else (zbi (fX8_error (1 : Int32) M9) (fun r24 M25 => some (r24, M25))))))))
set_option maxRecDepth 100000 in
set_option maxHeartbeats 4000000 in
theorem kX8_wheel (l : Launch) (D : va_G) (cy : Nat → ClassId) (a : Nat → Nat) (p0 : Int32) (p1 : Int32) (M : zM) (r0 : Int32) (M0 : zM) (h : fX8_wheel p0 p1 M = some (r0, M0)) : zCi l D cy a yX8_wheel cX8_wheel 3 (some .int) (zRm 2 46) [.ref (a 87), .int p0, .int p1] M (fun r u => r = r0 ∧ u = M0) := by
  intro sz
  refine zent_i sz (by decide) (Nat.le_of_ble_eq_true rfl) rfl (fun p e s m args below meth c ls H locs X hw hl => ?_)
  obtain ⟨hx, hb, hr, hml, hown, hW, hlocks⟩ := id X
  have hE := hw.2.2.2.2.1
  have hcs : 0 ≤ ((zRm 2 46)).cells ∧ 0 ≤ ((zRm 2 46)).slots := ⟨Nat.zero_le _, Nat.zero_le _⟩
  rw [fX8_wheel] at h
  refine lv_iload_n hx hb dX8_wheel_0 rfl (lv_at hl 1 rfl) ?_
  refine lv_iconst (v := 0) hx hb dX8_wheel_1 (by decide) ?_
  refine lv_bipush (v := 69) hx hb dX8_wheel_2 (by decide) ?_
  obtain ⟨r1, M2, f3, h⟩ := zbi_e h
  refine z_qSi (As := [.int p0, .int (0 : Int32), .int (69 : Int32)]) (rest := []) X hw (kX8_in l D cy a p0 (0 : Int32) (69 : Int32) M r1 M2 f3) (cwX8_56 X.2.2.2.2.2.1 rfl rfl (zroomO (Nat.le_of_ble_eq_true rfl) (Nat.le_of_ble_eq_true rfl))) rfl rfl (Nat.le_of_ble_eq_true rfl) hl.1 hcs dX8_wheel_4 (fun H locs hw => ?_)
  refine lv_if_eq (tgt := 28) hx hb dX8_wheel_7 (by decide) (fun c4 => ?_) (fun c4 => ?_)
  · replace h := zif_t c4 h
    refine lv_aload_n hx hb dX8_wheel_28 rfl (lv_at hl 0 rfl) ?_
    refine lv_iconst (v := 1) hx hb dX8_wheel_29 (by decide) ?_
    obtain ⟨r5, M6, f7, h⟩ := zbi_e h
    refine z_qVi (As := [.int (1 : Int32)]) (rest := []) X hw (kX8_error l D cy a (1 : Int32) M2 r5 M6 f7) (cwX8_76 X.2.2.2.2.2.1 rfl rfl (zroomO (Nat.le_of_ble_eq_true rfl) (Nat.le_of_ble_eq_true rfl))) (zX8_lt (rfl : zX8 87)) (zS8 (rfl : zX8 87) cy a (M2 87)) rfl rfl rfl (Nat.le_of_ble_eq_true rfl) hl.1 hcs dX8_wheel_30 (fun H locs hw => ?_)
    exact z_ri X hw (zret h) dX8_wheel_33
  · replace h := zif_f c4 h
    refine lv_iload_n hx hb dX8_wheel_10 rfl (lv_at hl 2 rfl) ?_
    refine lv_iconst (v := 0) hx hb dX8_wheel_11 (by decide) ?_
    refine lv_bipush (v := 114) hx hb dX8_wheel_12 (by decide) ?_
    obtain ⟨r8, M9, f10, h⟩ := zbi_e h
    refine z_qSi (As := [.int p1, .int (0 : Int32), .int (114 : Int32)]) (rest := []) X hw (kX8_in l D cy a p1 (0 : Int32) (114 : Int32) M2 r8 M9 f10) (cwX8_56 X.2.2.2.2.2.1 rfl rfl (zroomO (Nat.le_of_ble_eq_true rfl) (Nat.le_of_ble_eq_true rfl))) rfl rfl (Nat.le_of_ble_eq_true rfl) hl.1 hcs dX8_wheel_14 (fun H locs hw => ?_)
    refine lv_if_eq (tgt := 28) hx hb dX8_wheel_17 (by decide) (fun c11 => ?_) (fun c11 => ?_)
    · replace h := zif_t c11 h
      refine lv_aload_n hx hb dX8_wheel_28 rfl (lv_at hl 0 rfl) ?_
      refine lv_iconst (v := 1) hx hb dX8_wheel_29 (by decide) ?_
      obtain ⟨r12, M13, f14, h⟩ := zbi_e h
      refine z_qVi (As := [.int (1 : Int32)]) (rest := []) X hw (kX8_error l D cy a (1 : Int32) M9 r12 M13 f14) (cwX8_76 X.2.2.2.2.2.1 rfl rfl (zroomO (Nat.le_of_ble_eq_true rfl) (Nat.le_of_ble_eq_true rfl))) (zX8_lt (rfl : zX8 87)) (zS8 (rfl : zX8 87) cy a (M9 87)) rfl rfl rfl (Nat.le_of_ble_eq_true rfl) hl.1 hcs dX8_wheel_30 (fun H locs hw => ?_)
      exact z_ri X hw (zret h) dX8_wheel_33
    · replace h := zif_f c11 h
      refine lv_iload_n hx hb dX8_wheel_20 rfl (lv_at hl 2 rfl) ?_
      refine lv_bipush (v := 10) hx hb dX8_wheel_21 (by decide) ?_
      refine lv_irem hx hb dX8_wheel_23 (by decide) ?_
      refine lv_topi (fun x15 ex15 => ?_)
      replace h := zlt_s ex15 h
      refine lv_iconst (v := 4) hx hb dX8_wheel_24 (by decide) ?_
      refine lv_icmp_le (tgt := 34) hx hb dX8_wheel_25 (by decide) (fun c16 => ?_) (fun c16 => ?_)
      · replace h := zif_t c16 h
        refine lv_aload_n hx hb dX8_wheel_34 rfl (lv_at hl 0 rfl) ?_
        refine gtX8_7 X hw dX8_wheel_35 ?_
        refine lv_iconst (v := 0) hx hb dX8_wheel_38 (by decide) ?_
        refine z_aldK (k := 0) X hw zI_88 (by decide) (by decide) (by decide) dX8_wheel_39 ?_
        refine lv_bipush (v := 8) hx hb dX8_wheel_40 (by decide) ?_
        refine lv_icmp_ne (tgt := 53) hx hb dX8_wheel_42 (by decide) (fun c17 => ?_) (fun c17 => ?_)
        · replace h := zif_f c17 h
          refine lv_aload_n hx hb dX8_wheel_53 rfl (lv_at hl 0 rfl) ?_
          refine lv_iload_n hx hb dX8_wheel_54 rfl (lv_at hl 1 rfl) ?_
          refine lv_iload_n hx hb dX8_wheel_55 rfl (lv_at hl 2 rfl) ?_
          obtain ⟨r18, M19, f20, h⟩ := zbi_e h
          refine z_qVi (As := [.int p0, .int p1]) (rest := []) X hw (kX8_adds l D cy a p0 p1 M9 r18 M19 f20) (cwX8_100 X.2.2.2.2.2.1 rfl rfl (zroomO (Nat.le_of_ble_eq_true rfl) (Nat.le_of_ble_eq_true rfl))) (zX8_lt (rfl : zX8 87)) (zS8 (rfl : zX8 87) cy a (M9 87)) rfl rfl rfl (Nat.le_of_ble_eq_true rfl) hl.1 hcs dX8_wheel_56 (fun H locs hw => ?_)
          exact z_ri X hw (zret h) dX8_wheel_59
        · replace h := zif_t c17 h
          refine lv_aload_n hx hb dX8_wheel_45 rfl (lv_at hl 0 rfl) ?_
          refine lv_iconst (v := 4) hx hb dX8_wheel_46 (by decide) ?_
          obtain ⟨r21, M22, f23, h⟩ := zbi_e h
          refine z_qVi (As := [.int (4 : Int32)]) (rest := []) X hw (kX8_error l D cy a (4 : Int32) M9 r21 M22 f23) (cwX8_76 X.2.2.2.2.2.1 rfl rfl (zroomO (Nat.le_of_ble_eq_true rfl) (Nat.le_of_ble_eq_true rfl))) (zX8_lt (rfl : zX8 87)) (zS8 (rfl : zX8 87) cy a (M9 87)) rfl rfl rfl (Nat.le_of_ble_eq_true rfl) hl.1 hcs dX8_wheel_47 (fun H locs hw => ?_)
          refine lv_goto (tgt := 59) hx hb dX8_wheel_50 (by decide) ?_
          exact z_ri X hw (zret h) dX8_wheel_59
      · replace h := zif_f c16 h
        refine lv_aload_n hx hb dX8_wheel_28 rfl (lv_at hl 0 rfl) ?_
        refine lv_iconst (v := 1) hx hb dX8_wheel_29 (by decide) ?_
        obtain ⟨r24, M25, f26, h⟩ := zbi_e h
        refine z_qVi (As := [.int (1 : Int32)]) (rest := []) X hw (kX8_error l D cy a (1 : Int32) M9 r24 M25 f26) (cwX8_76 X.2.2.2.2.2.1 rfl rfl (zroomO (Nat.le_of_ble_eq_true rfl) (Nat.le_of_ble_eq_true rfl))) (zX8_lt (rfl : zX8 87)) (zS8 (rfl : zX8 87) cy a (M9 87)) rfl rfl rfl (Nat.le_of_ble_eq_true rfl) hl.1 hcs dX8_wheel_30 (fun H locs hw => ?_)
        exact z_ri X hw (zret h) dX8_wheel_33
def fX8_hasText (p0 : Int32) (M : zM) : Option (Int32 × zM) := zgd ((115 : Int32) + ((125 : Int32) * p0) < 0 ∨ 449 ≤ ((115 : Int32) + ((125 : Int32) * p0)).toNatClampNeg) (if M 88 (((115 : Int32) + ((125 : Int32) * p0)).toNatClampNeg) ≤ 0 then (some ((0 : Int32), M)) else (some ((1 : Int32), M)))
set_option maxRecDepth 100000 in
set_option maxHeartbeats 4000000 in
theorem kX8_hasText (l : Launch) (D : va_G) (cy : Nat → ClassId) (a : Nat → Nat) (p0 : Int32) (M : zM) (r0 : Int32) (M0 : zM) (h : fX8_hasText p0 M = some (r0, M0)) : zCi l D cy a yX8_hasText cX8_hasText 2 (some .boolean) (zRm 0 0) [.ref (a 87), .int p0] M (fun r u => r = r0 ∧ u = M0) := by
  intro sz
  refine zent_i sz (by decide) (Nat.le_of_ble_eq_true rfl) rfl (fun p e s m args below meth c ls H locs X hw hl => ?_)
  obtain ⟨hx, hb, hr, hml, hown, hW, hlocks⟩ := id X
  have hE := hw.2.2.2.2.1
  have hcs : 0 ≤ ((zRm 0 0)).cells ∧ 0 ≤ ((zRm 0 0)).slots := ⟨Nat.zero_le _, Nat.zero_le _⟩
  rw [fX8_hasText] at h
  refine lv_aload_n hx hb dX8_hasText_0 rfl (lv_at hl 0 rfl) ?_
  refine gtX8_7 X hw dX8_hasText_1 ?_
  refine lv_bipush (v := 115) hx hb dX8_hasText_4 (by decide) ?_
  refine lv_bipush (v := 125) hx hb dX8_hasText_6 (by decide) ?_
  refine lv_iload_n hx hb dX8_hasText_8 rfl (lv_at hl 1 rfl) ?_
  refine lv_imul hx hb dX8_hasText_9 ?_
  refine lv_iadd hx hb dX8_hasText_10 ?_
  obtain ⟨g1, h⟩ := zgd_e h
  refine z_ald X hw zI_88 g1 dX8_hasText_11 ?_
  refine lv_if_le (tgt := 19) hx hb dX8_hasText_12 (by decide) (fun c2 => ?_) (fun c2 => ?_)
  · replace h := zif_t c2 h
    refine lv_iconst (v := 0) hx hb dX8_hasText_19 (by decide) ?_
    exact z_rz X hw (Or.inl rfl) (zret h) dX8_hasText_20
  · replace h := zif_f c2 h
    refine lv_iconst (v := 1) hx hb dX8_hasText_15 (by decide) ?_
    refine lv_goto (tgt := 20) hx hb dX8_hasText_16 (by decide) ?_
    exact z_rz X hw (Or.inr rfl) (zret h) dX8_hasText_20
def fX8_joined (p0 : Int32) (p1 : Int32) (p2 : Int32) (M : zM) : Option (Int32 × zM) := if p0 = (37 : Int32) then (if p2 = 0 then (some ((0 : Int32), M)) else (if p2 = (-1 : Int32) then (some ((0 : Int32), M)) else (zgd (p2 = 0) (zlt (zrem p1 p2) (fun x5 => some (x5, M)))))) else (if p0 = (38 : Int32) then (if p1 = 0 then (some ((0 : Int32), M)) else (if p2 = 0 then (some ((0 : Int32), M)) else (some ((1 : Int32), M)))) else (if p0 = (42 : Int32) then (some (p1 * p2, M)) else (if p0 = (43 : Int32) then (some (p1 + p2, M)) else (if p0 = (45 : Int32) then (some (p1 - p2, M)) else (if p0 = (47 : Int32) then (if p2 = 0 then (some ((0 : Int32), M)) else (if p2 = (-1 : Int32) then (some (-p1, M)) else (zgd (p2 = 0) (some (p1 / p2, M))))) else (if p0 = (60 : Int32) then (if p2 ≤ p1 then (some ((0 : Int32), M)) else (some ((1 : Int32), M))) else (if p0 = (61 : Int32) then (if p1 = p2 then (some ((1 : Int32), M)) else (some ((0 : Int32), M))) else (if p0 = (62 : Int32) then (if p1 ≤ p2 then (some ((0 : Int32), M)) else (some ((1 : Int32), M))) else (if p1 = 0 then (if p2 = 0 then (some ((0 : Int32), M)) else (some ((1 : Int32), M))) else (some ((1 : Int32), M)))))))))))
set_option maxRecDepth 100000 in
set_option maxHeartbeats 4000000 in
theorem kX8_joined (l : Launch) (D : va_G) (cy : Nat → ClassId) (a : Nat → Nat) (p0 : Int32) (p1 : Int32) (p2 : Int32) (M : zM) (r0 : Int32) (M0 : zM) (h : fX8_joined p0 p1 p2 M = some (r0, M0)) : zCi l D cy a yX8_joined cX8_joined 3 (some .int) (zRm 0 0) [.int p0, .int p1, .int p2] M (fun r u => r = r0 ∧ u = M0) := by
  intro sz
  refine zent_i sz (by decide) (Nat.le_of_ble_eq_true rfl) rfl (fun p e s m args below meth c ls H locs X hw hl => ?_)
  obtain ⟨hx, hb, hr, hml, hown, hW, hlocks⟩ := id X
  have hE := hw.2.2.2.2.1
  have hcs : 0 ≤ ((zRm 0 0)).cells ∧ 0 ≤ ((zRm 0 0)).slots := ⟨Nat.zero_le _, Nat.zero_le _⟩
  rw [fX8_joined] at h
  refine lv_iload_n hx hb dX8_joined_0 rfl (lv_at hl 0 rfl) ?_
  by_cases c1 : p0 = (37 : Int32)
  · replace h := zif_t c1 h
    refine lv_tableIn (off := 153) (tgt := 154) hx hb dX8_joined_1 (by rw [c1]; decide) (by rw [c1]; decide) (by rw [c1]; rfl) (by decide) ?_
    refine lv_iload_n hx hb dX8_joined_154 rfl (lv_at hl 2 rfl) ?_
    refine lv_if_eq (tgt := 163) hx hb dX8_joined_155 (by decide) (fun c2 => ?_) (fun c2 => ?_)
    · replace h := zif_t c2 h
      refine lv_iconst (v := 0) hx hb dX8_joined_163 (by decide) ?_
      refine lv_goto (tgt := 170) hx hb dX8_joined_164 (by decide) ?_
      exact z_ri X hw (zret h) dX8_joined_170
    · replace h := zif_f c2 h
      refine lv_iload_n hx hb dX8_joined_158 rfl (lv_at hl 2 rfl) ?_
      refine lv_iconst (v := (-1)) hx hb dX8_joined_159 (by decide) ?_
      refine lv_icmp_ne (tgt := 167) hx hb dX8_joined_160 (by decide) (fun c3 => ?_) (fun c3 => ?_)
      · replace h := zif_f c3 h
        refine lv_iload_n hx hb dX8_joined_167 rfl (lv_at hl 1 rfl) ?_
        refine lv_iload_n hx hb dX8_joined_168 rfl (lv_at hl 2 rfl) ?_
        obtain ⟨g4, h⟩ := zgd_e h
        refine lv_irem hx hb dX8_joined_169 g4 ?_
        refine lv_topi (fun x5 ex5 => ?_)
        replace h := zlt_s ex5 h
        exact z_ri X hw (zret h) dX8_joined_170
      · replace h := zif_t c3 h
        refine lv_iconst (v := 0) hx hb dX8_joined_163 (by decide) ?_
        refine lv_goto (tgt := 170) hx hb dX8_joined_164 (by decide) ?_
        exact z_ri X hw (zret h) dX8_joined_170
  replace h := zif_f c1 h
  by_cases c6 : p0 = (38 : Int32)
  · replace h := zif_t c6 h
    refine lv_tableIn (off := 203) (tgt := 204) hx hb dX8_joined_1 (by rw [c6]; decide) (by rw [c6]; decide) (by rw [c6]; rfl) (by decide) ?_
    refine lv_iload_n hx hb dX8_joined_204 rfl (lv_at hl 1 rfl) ?_
    refine lv_if_eq (tgt := 216) hx hb dX8_joined_205 (by decide) (fun c7 => ?_) (fun c7 => ?_)
    · replace h := zif_t c7 h
      refine lv_iconst (v := 0) hx hb dX8_joined_216 (by decide) ?_
      exact z_ri X hw (zret h) dX8_joined_217
    · replace h := zif_f c7 h
      refine lv_iload_n hx hb dX8_joined_208 rfl (lv_at hl 2 rfl) ?_
      refine lv_if_eq (tgt := 216) hx hb dX8_joined_209 (by decide) (fun c8 => ?_) (fun c8 => ?_)
      · replace h := zif_t c8 h
        refine lv_iconst (v := 0) hx hb dX8_joined_216 (by decide) ?_
        exact z_ri X hw (zret h) dX8_joined_217
      · replace h := zif_f c8 h
        refine lv_iconst (v := 1) hx hb dX8_joined_212 (by decide) ?_
        refine lv_goto (tgt := 217) hx hb dX8_joined_213 (by decide) ?_
        exact z_ri X hw (zret h) dX8_joined_217
  replace h := zif_f c6 h
  by_cases c9 : p0 = (42 : Int32)
  · replace h := zif_t c9 h
    refine lv_tableIn (off := 127) (tgt := 128) hx hb dX8_joined_1 (by rw [c9]; decide) (by rw [c9]; decide) (by rw [c9]; rfl) (by decide) ?_
    refine lv_iload_n hx hb dX8_joined_128 rfl (lv_at hl 1 rfl) ?_
    refine lv_iload_n hx hb dX8_joined_129 rfl (lv_at hl 2 rfl) ?_
    refine lv_imul hx hb dX8_joined_130 ?_
    exact z_ri X hw (zret h) dX8_joined_131
  replace h := zif_f c9 h
  by_cases c10 : p0 = (43 : Int32)
  · replace h := zif_t c10 h
    refine lv_tableIn (off := 119) (tgt := 120) hx hb dX8_joined_1 (by rw [c10]; decide) (by rw [c10]; decide) (by rw [c10]; rfl) (by decide) ?_
    refine lv_iload_n hx hb dX8_joined_120 rfl (lv_at hl 1 rfl) ?_
    refine lv_iload_n hx hb dX8_joined_121 rfl (lv_at hl 2 rfl) ?_
    refine lv_iadd hx hb dX8_joined_122 ?_
    exact z_ri X hw (zret h) dX8_joined_123
  replace h := zif_f c10 h
  by_cases c11 : p0 = (45 : Int32)
  · replace h := zif_t c11 h
    refine lv_tableIn (off := 123) (tgt := 124) hx hb dX8_joined_1 (by rw [c11]; decide) (by rw [c11]; decide) (by rw [c11]; rfl) (by decide) ?_
    refine lv_iload_n hx hb dX8_joined_124 rfl (lv_at hl 1 rfl) ?_
    refine lv_iload_n hx hb dX8_joined_125 rfl (lv_at hl 2 rfl) ?_
    refine lv_isub hx hb dX8_joined_126 ?_
    exact z_ri X hw (zret h) dX8_joined_127
  replace h := zif_f c11 h
  by_cases c12 : p0 = (47 : Int32)
  · replace h := zif_t c12 h
    refine lv_tableIn (off := 131) (tgt := 132) hx hb dX8_joined_1 (by rw [c12]; decide) (by rw [c12]; decide) (by rw [c12]; rfl) (by decide) ?_
    refine lv_iload_n hx hb dX8_joined_132 rfl (lv_at hl 2 rfl) ?_
    refine lv_if_ne (tgt := 140) hx hb dX8_joined_133 (by decide) (fun c13 => ?_) (fun c13 => ?_)
    · replace h := zif_f c13 h
      refine lv_iload_n hx hb dX8_joined_140 rfl (lv_at hl 2 rfl) ?_
      refine lv_iconst (v := (-1)) hx hb dX8_joined_141 (by decide) ?_
      refine lv_icmp_ne (tgt := 150) hx hb dX8_joined_142 (by decide) (fun c14 => ?_) (fun c14 => ?_)
      · replace h := zif_f c14 h
        refine lv_iload_n hx hb dX8_joined_150 rfl (lv_at hl 1 rfl) ?_
        refine lv_iload_n hx hb dX8_joined_151 rfl (lv_at hl 2 rfl) ?_
        obtain ⟨g15, h⟩ := zgd_e h
        refine lv_idiv hx hb dX8_joined_152 g15 ?_
        exact z_ri X hw (zret h) dX8_joined_153
      · replace h := zif_t c14 h
        refine lv_iload_n hx hb dX8_joined_145 rfl (lv_at hl 1 rfl) ?_
        refine lv_ineg hx hb dX8_joined_146 ?_
        refine lv_goto (tgt := 153) hx hb dX8_joined_147 (by decide) ?_
        exact z_ri X hw (zret h) dX8_joined_153
    · replace h := zif_t c13 h
      refine lv_iconst (v := 0) hx hb dX8_joined_136 (by decide) ?_
      refine lv_goto (tgt := 153) hx hb dX8_joined_137 (by decide) ?_
      exact z_ri X hw (zret h) dX8_joined_153
  replace h := zif_f c12 h
  by_cases c16 : p0 = (60 : Int32)
  · replace h := zif_t c16 h
    refine lv_tableIn (off := 170) (tgt := 171) hx hb dX8_joined_1 (by rw [c16]; decide) (by rw [c16]; decide) (by rw [c16]; rfl) (by decide) ?_
    refine lv_iload_n hx hb dX8_joined_171 rfl (lv_at hl 1 rfl) ?_
    refine lv_iload_n hx hb dX8_joined_172 rfl (lv_at hl 2 rfl) ?_
    refine lv_icmp_ge (tgt := 180) hx hb dX8_joined_173 (by decide) (fun c17 => ?_) (fun c17 => ?_)
    · replace h := zif_t c17 h
      refine lv_iconst (v := 0) hx hb dX8_joined_180 (by decide) ?_
      exact z_ri X hw (zret h) dX8_joined_181
    · replace h := zif_f c17 h
      refine lv_iconst (v := 1) hx hb dX8_joined_176 (by decide) ?_
      refine lv_goto (tgt := 181) hx hb dX8_joined_177 (by decide) ?_
      exact z_ri X hw (zret h) dX8_joined_181
  replace h := zif_f c16 h
  by_cases c18 : p0 = (61 : Int32)
  · replace h := zif_t c18 h
    refine lv_tableIn (off := 192) (tgt := 193) hx hb dX8_joined_1 (by rw [c18]; decide) (by rw [c18]; decide) (by rw [c18]; rfl) (by decide) ?_
    refine lv_iload_n hx hb dX8_joined_193 rfl (lv_at hl 1 rfl) ?_
    refine lv_iload_n hx hb dX8_joined_194 rfl (lv_at hl 2 rfl) ?_
    refine lv_icmp_ne (tgt := 202) hx hb dX8_joined_195 (by decide) (fun c19 => ?_) (fun c19 => ?_)
    · replace h := zif_f c19 h
      refine lv_iconst (v := 0) hx hb dX8_joined_202 (by decide) ?_
      exact z_ri X hw (zret h) dX8_joined_203
    · replace h := zif_t c19 h
      refine lv_iconst (v := 1) hx hb dX8_joined_198 (by decide) ?_
      refine lv_goto (tgt := 203) hx hb dX8_joined_199 (by decide) ?_
      exact z_ri X hw (zret h) dX8_joined_203
  replace h := zif_f c18 h
  by_cases c20 : p0 = (62 : Int32)
  · replace h := zif_t c20 h
    refine lv_tableIn (off := 181) (tgt := 182) hx hb dX8_joined_1 (by rw [c20]; decide) (by rw [c20]; decide) (by rw [c20]; rfl) (by decide) ?_
    refine lv_iload_n hx hb dX8_joined_182 rfl (lv_at hl 1 rfl) ?_
    refine lv_iload_n hx hb dX8_joined_183 rfl (lv_at hl 2 rfl) ?_
    refine lv_icmp_le (tgt := 191) hx hb dX8_joined_184 (by decide) (fun c21 => ?_) (fun c21 => ?_)
    · replace h := zif_t c21 h
      refine lv_iconst (v := 0) hx hb dX8_joined_191 (by decide) ?_
      exact z_ri X hw (zret h) dX8_joined_192
    · replace h := zif_f c21 h
      refine lv_iconst (v := 1) hx hb dX8_joined_187 (by decide) ?_
      refine lv_goto (tgt := 192) hx hb dX8_joined_188 (by decide) ?_
      exact z_ri X hw (zret h) dX8_joined_192
  replace h := zif_f c20 h
  have K : W p l e (zRm 0 0) s m args below meth c H locs 0 0 (zQi D cy a s args below r0 M0) (F0 m 218 ls []) := by
    refine lv_iload_n hx hb dX8_joined_218 rfl (lv_at hl 1 rfl) ?_
    refine lv_if_ne (tgt := 226) hx hb dX8_joined_219 (by decide) (fun c22 => ?_) (fun c22 => ?_)
    · replace h := zif_f c22 h
      refine lv_iconst (v := 1) hx hb dX8_joined_226 (by decide) ?_
      refine lv_goto (tgt := 231) hx hb dX8_joined_227 (by decide) ?_
      exact z_ri X hw (zret h) dX8_joined_231
    · replace h := zif_t c22 h
      refine lv_iload_n hx hb dX8_joined_222 rfl (lv_at hl 2 rfl) ?_
      refine lv_if_eq (tgt := 230) hx hb dX8_joined_223 (by decide) (fun c23 => ?_) (fun c23 => ?_)
      · replace h := zif_t c23 h
        refine lv_iconst (v := 0) hx hb dX8_joined_230 (by decide) ?_
        exact z_ri X hw (zret h) dX8_joined_231
      · replace h := zif_f c23 h
        refine lv_iconst (v := 1) hx hb dX8_joined_226 (by decide) ?_
        refine lv_goto (tgt := 231) hx hb dX8_joined_227 (by decide) ?_
        exact z_ri X hw (zret h) dX8_joined_231
  have tc1 := lv_neT c1 (a := 37) rfl
  have tc6 := lv_neT c6 (a := 38) rfl
  have tc9 := lv_neT c9 (a := 42) rfl
  have tc10 := lv_neT c10 (a := 43) rfl
  have tc11 := lv_neT c11 (a := 45) rfl
  have tc12 := lv_neT c12 (a := 47) rfl
  have tc16 := lv_neT c16 (a := 60) rfl
  have tc18 := lv_neT c18 (a := 61) rfl
  have tc20 := lv_neT c20 (a := 62) rfl
  by_cases tz : p0.toInt < 37 ∨ 62 < p0.toInt
  · exact lv_tableOut (tgt := 218) hx hb dX8_joined_1 tz (by decide) K
  have tw : p0.toInt = 39 ∨ p0.toInt = 40 ∨ p0.toInt = 41 ∨ p0.toInt = 44 ∨ p0.toInt = 46 ∨ p0.toInt = 48 ∨ p0.toInt = 49 ∨ p0.toInt = 50 ∨ p0.toInt = 51 ∨ p0.toInt = 52 ∨ p0.toInt = 53 ∨ p0.toInt = 54 ∨ p0.toInt = 55 ∨ p0.toInt = 56 ∨ p0.toInt = 57 ∨ p0.toInt = 58 ∨ p0.toInt = 59 := by omega
  rcases tw with tw | tw | tw | tw | tw | tw | tw | tw | tw | tw | tw | tw | tw | tw | tw | tw | tw <;> exact lv_tableIn (off := 217) (tgt := 218) hx hb dX8_joined_1 (by omega) (by omega) (by rw [tw]; rfl) (by decide) K
def fX8_worked_13 (y2 : Int32) (k : zM → Option (Int32 × zM)) : Nat → Int32 → Int32 → zM → Option (Int32 × zM)
  | 0, _, _, _ => none
  | n + 1, v3, v4, M => zgd (y2 < 0 ∨ 449 ≤ y2.toNatClampNeg) (if M 88 (y2.toNatClampNeg) ≤ v4 then (k  M) else (zgd ((y2 + (1 : Int32)) + ((2 : Int32) * v4) < 0 ∨ 449 ≤ ((y2 + (1 : Int32)) + ((2 : Int32) * v4)).toNatClampNeg) (zlt (M 88 (((y2 + (1 : Int32)) + ((2 : Int32) * v4)).toNatClampNeg)) (fun x5 => zgd ((y2 + (2 : Int32)) + ((2 : Int32) * v4) < 0 ∨ 449 ≤ ((y2 + (2 : Int32)) + ((2 : Int32) * v4)).toNatClampNeg) (zlt (M 88 (((y2 + (2 : Int32)) + ((2 : Int32) * v4)).toNatClampNeg)) (fun x7 => if x5 = 0 then (if x5 = 0 then (zgd (v3 < 0 ∨ 64 ≤ v3.toNatClampNeg) (zlt (zst M 94 (v3.toNatClampNeg) x7) (fun M15 => zlt (v3 + (1 : Int32)) (fun x17 => zlt (v4 + (1 : Int32)) (fun x18 => fX8_worked_13 y2 k n x17 x18 M15))))) else (zgd (x7 < 0 ∨ 128 ≤ x7.toNatClampNeg) (zgd (v3 < 0 ∨ 64 ≤ v3.toNatClampNeg) (zlt (zst M 94 (v3.toNatClampNeg) (M 93 (x7.toNatClampNeg))) (fun M11 => zlt (v3 + (1 : Int32)) (fun x13 => zlt (v4 + (1 : Int32)) (fun x14 => fX8_worked_13 y2 k n x13 x14 M11))))))) else (if x5 = (1 : Int32) then (if x5 = 0 then (zgd (v3 < 0 ∨ 64 ≤ v3.toNatClampNeg) (zlt (zst M 94 (v3.toNatClampNeg) x7) (fun M44 => zlt (v3 + (1 : Int32)) (fun x46 => zlt (v4 + (1 : Int32)) (fun x47 => fX8_worked_13 y2 k n x46 x47 M44))))) else (zgd (x7 < 0 ∨ 128 ≤ x7.toNatClampNeg) (zgd (v3 < 0 ∨ 64 ≤ v3.toNatClampNeg) (zlt (zst M 94 (v3.toNatClampNeg) (M 93 (x7.toNatClampNeg))) (fun M40 => zlt (v3 + (1 : Int32)) (fun x42 => zlt (v4 + (1 : Int32)) (fun x43 => fX8_worked_13 y2 k n x42 x43 M40))))))) else (if x5 = (2 : Int32) then (zgd (v3 - (1 : Int32) < 0 ∨ 64 ≤ (v3 - (1 : Int32)).toNatClampNeg) (if M 94 ((v3 - (1 : Int32)).toNatClampNeg) = 0 then (zgd (v3 - (1 : Int32) < 0 ∨ 64 ≤ (v3 - (1 : Int32)).toNatClampNeg) (zlt (zst M 94 ((v3 - (1 : Int32)).toNatClampNeg) (1 : Int32)) (fun M35 => zlt (v4 + (1 : Int32)) (fun x37 => fX8_worked_13 y2 k n v3 x37 M35)))) else (zgd (v3 - (1 : Int32) < 0 ∨ 64 ≤ (v3 - (1 : Int32)).toNatClampNeg) (zlt (zst M 94 ((v3 - (1 : Int32)).toNatClampNeg) (0 : Int32)) (fun M32 => zlt (v4 + (1 : Int32)) (fun x34 => fX8_worked_13 y2 k n v3 x34 M32)))))) else (zlt (v3 + (-1 : Int32)) (fun x21 => zgd (x21 - (1 : Int32) < 0 ∨ 64 ≤ (x21 - (1 : Int32)).toNatClampNeg) (zgd (x21 < 0 ∨ 64 ≤ x21.toNatClampNeg) (zbi (fX8_joined x7 (M 94 ((x21 - (1 : Int32)).toNatClampNeg)) (M 94 (x21.toNatClampNeg)) M) (fun r24 M25 => zgd (x21 - (1 : Int32) < 0 ∨ 64 ≤ (x21 - (1 : Int32)).toNatClampNeg) (zlt (zst M25 94 ((x21 - (1 : Int32)).toNatClampNeg) r24) (fun M27 => zlt (v4 + (1 : Int32)) (fun x29 => fX8_worked_13 y2 k n x21 x29 M27))))))))))))))))
set_option maxRecDepth 100000 in
set_option maxHeartbeats 4000000 in
theorem lX8_worked_13 {p : Program} {l : Launch} {e : Env} {s : State} {m : MethodId} {args : Array Value} {below : List Frame} {meth : Method} {c : Code} {D : va_G} {cy : Nat → ClassId} {a : Nat → Nat} {r0 : Int32} {M0 : zM} (X : zCX p s m meth c args cX8_worked 7 (some .int) RX8) (y2 : Int32) (k : zM → Option (Int32 × zM)) : ∀ (n : Nat) (v3 : Int32) (v4 : Int32) (M : zM) (H : Heap) (locs : List Loc) (ls : Array Slot), zWD D cy a (zfr a s.heap.size) M H locs s → lv_has ls 7 [(0, .ref (a 87)), (2, .int y2), (3, .int v3), (4, .int v4)] → fX8_worked_13 y2 k n v3 v4 M = some (r0, M0) →
    (∀ (M' : zM) (H' : Heap) (locs' : List Loc) (ls' : Array Slot), zWD D cy a (zfr a s.heap.size) M' H' locs' s → lv_has ls' 7 [(0, .ref (a 87))] → k M' = some (r0, M0) → W p l e (zRm 1 22) s m args below meth c H' locs' 0 0 (zQi D cy a s args below r0 M0) (F0 m 163 ls' [])) →
    W p l e (zRm 1 22) s m args below meth c H locs 0 0 (zQi D cy a s args below r0 M0) (F0 m 13 ls []) := by
  obtain ⟨hx, hb, hr, hml, hown, hW, hlocks⟩ := id X
  have hcs : 0 ≤ ((zRm 1 22)).cells ∧ 0 ≤ ((zRm 1 22)).slots := ⟨Nat.zero_le _, Nat.zero_le _⟩
  intro n
  induction n with
  | zero =>
    intro v3 v4 M H locs ls hw hl h hk
    cases h
  | succ n ih =>
    intro v3 v4 M H locs ls hw hl h hk
    have hE := hw.2.2.2.2.1
    rw [fX8_worked_13] at h
    refine lv_iload hx hb dX8_worked_13 (lv_at hl 3 rfl) ?_
    refine lv_aload_n hx hb dX8_worked_15 rfl (lv_at hl 0 rfl) ?_
    refine gtX8_7 X hw dX8_worked_16 ?_
    refine lv_iload_n hx hb dX8_worked_19 rfl (lv_at hl 1 rfl) ?_
    obtain ⟨g2, h⟩ := zgd_e h
    refine z_ald X hw zI_88 g2 dX8_worked_20 ?_
    refine lv_icmp_ge (tgt := 163) hx hb dX8_worked_21 (by decide) (fun c3 => ?_) (fun c3 => ?_)
    · replace h := zif_t c3 h
      exact hk  M H locs _ hw (lv_sub hl [0] rfl) h
    · replace h := zif_f c3 h
      refine lv_aload_n hx hb dX8_worked_24 rfl (lv_at hl 0 rfl) ?_
      refine gtX8_7 X hw dX8_worked_25 ?_
      refine lv_iload_n hx hb dX8_worked_28 rfl (lv_at hl 1 rfl) ?_
      refine lv_iconst (v := 1) hx hb dX8_worked_29 (by decide) ?_
      refine lv_iadd hx hb dX8_worked_30 ?_
      refine lv_iconst (v := 2) hx hb dX8_worked_31 (by decide) ?_
      refine lv_iload hx hb dX8_worked_32 (lv_at hl 3 rfl) ?_
      refine lv_imul hx hb dX8_worked_34 ?_
      refine lv_iadd hx hb dX8_worked_35 ?_
      obtain ⟨g4, h⟩ := zgd_e h
      refine z_ald X hw zI_88 g4 dX8_worked_36 ?_
      refine lv_topi (fun x5 ex5 => ?_)
      replace h := zlt_s ex5 h
      refine lv_istore (lv' := [(5, .int x5), (0, .ref (a 87)), (2, .int y2), (3, .int v3), (4, .int v4)]) hx hb dX8_worked_37 hl (by decide) rfl (fun ls hl => ?_)
      refine lv_aload_n hx hb dX8_worked_39 rfl (lv_at hl 1 rfl) ?_
      refine gtX8_7 X hw dX8_worked_40 ?_
      refine lv_iload_n hx hb dX8_worked_43 rfl (lv_at hl 2 rfl) ?_
      refine lv_iconst (v := 2) hx hb dX8_worked_44 (by decide) ?_
      refine lv_iadd hx hb dX8_worked_45 ?_
      refine lv_iconst (v := 2) hx hb dX8_worked_46 (by decide) ?_
      refine lv_iload hx hb dX8_worked_47 (lv_at hl 4 rfl) ?_
      refine lv_imul hx hb dX8_worked_49 ?_
      refine lv_iadd hx hb dX8_worked_50 ?_
      obtain ⟨g6, h⟩ := zgd_e h
      refine z_ald X hw zI_88 g6 dX8_worked_51 ?_
      refine lv_topi (fun x7 ex7 => ?_)
      replace h := zlt_s ex7 h
      refine lv_istore (lv' := [(6, .int x7), (5, .int x5), (0, .ref (a 87)), (2, .int y2), (3, .int v3), (4, .int v4)]) hx hb dX8_worked_52 hl (by decide) rfl (fun ls hl => ?_)
      refine lv_iload hx hb dX8_worked_54 (lv_at hl 1 rfl) ?_
      refine lv_if_eq (tgt := 65) hx hb dX8_worked_56 (by decide) (fun c8 => ?_) (fun c8 => ?_)
      · replace h := zif_t c8 h
        refine lv_aload_n hx hb dX8_worked_65 rfl (lv_at hl 2 rfl) ?_
        refine gtX8_28 X hw dX8_worked_66 ?_
        refine lv_iload_n hx hb dX8_worked_69 rfl (lv_at hl 4 rfl) ?_
        refine lv_iload hx hb dX8_worked_70 (lv_at hl 1 rfl) ?_
        refine lv_if_ne (tgt := 80) hx hb dX8_worked_72 (by decide) (fun c9 => ?_) (fun c9 => ?_)
        · replace h := zif_f c9 h
          refine lv_aload_n hx hb dX8_worked_80 rfl (lv_at hl 2 rfl) ?_
          refine gtX8_25 X hw dX8_worked_81 ?_
          refine lv_iload hx hb dX8_worked_84 (lv_at hl 0 rfl) ?_
          obtain ⟨g10, h⟩ := zgd_e h
          refine z_ald X hw zI_93 g10 dX8_worked_86 ?_
          obtain ⟨g12, h⟩ := zgd_e h
          refine z_ast X hw zI_94 g12 dX8_worked_87 (fun M11 H locs eM11 hw => ?_)
          replace h := zlt_s eM11 h
          obtain ⟨x13, ex13⟩ : ∃ y : Int32, y = v3 + (1 : Int32) := ⟨_, rfl⟩
          replace h := zlt_s ex13 h
          refine lv_iinc (v := x13) (lv' := [(3, .int x13), (6, .int x7), (5, .int x5), (0, .ref (a 87)), (2, .int y2), (4, .int v4)]) hx hb dX8_worked_88 hl (k := 4) rfl (by rw [ex13]; rfl) (by decide) rfl (fun ls hl => ?_)
          refine lv_goto (tgt := 157) hx hb dX8_worked_91 (by decide) ?_
          obtain ⟨x14, ex14⟩ : ∃ y : Int32, y = v4 + (1 : Int32) := ⟨_, rfl⟩
          replace h := zlt_s ex14 h
          refine lv_iinc (v := x14) (lv' := [(4, .int x14), (3, .int x13), (6, .int x7), (5, .int x5), (0, .ref (a 87)), (2, .int y2)]) hx hb dX8_worked_157 hl (k := 5) rfl (by rw [ex14]; rfl) (by decide) rfl (fun ls hl => ?_)
          refine lv_goto (tgt := 13) hx hb dX8_worked_160 (by decide) ?_
          exact ih x13 x14 M11 H locs _ hw (lv_sub hl [4, 5, 1, 0] rfl) h hk
        · replace h := zif_t c9 h
          refine lv_iload hx hb dX8_worked_75 (lv_at hl 0 rfl) ?_
          refine lv_goto (tgt := 87) hx hb dX8_worked_77 (by decide) ?_
          obtain ⟨g16, h⟩ := zgd_e h
          refine z_ast X hw zI_94 g16 dX8_worked_87 (fun M15 H locs eM15 hw => ?_)
          replace h := zlt_s eM15 h
          obtain ⟨x17, ex17⟩ : ∃ y : Int32, y = v3 + (1 : Int32) := ⟨_, rfl⟩
          replace h := zlt_s ex17 h
          refine lv_iinc (v := x17) (lv' := [(3, .int x17), (6, .int x7), (5, .int x5), (0, .ref (a 87)), (2, .int y2), (4, .int v4)]) hx hb dX8_worked_88 hl (k := 4) rfl (by rw [ex17]; rfl) (by decide) rfl (fun ls hl => ?_)
          refine lv_goto (tgt := 157) hx hb dX8_worked_91 (by decide) ?_
          obtain ⟨x18, ex18⟩ : ∃ y : Int32, y = v4 + (1 : Int32) := ⟨_, rfl⟩
          replace h := zlt_s ex18 h
          refine lv_iinc (v := x18) (lv' := [(4, .int x18), (3, .int x17), (6, .int x7), (5, .int x5), (0, .ref (a 87)), (2, .int y2)]) hx hb dX8_worked_157 hl (k := 5) rfl (by rw [ex18]; rfl) (by decide) rfl (fun ls hl => ?_)
          refine lv_goto (tgt := 13) hx hb dX8_worked_160 (by decide) ?_
          exact ih x17 x18 M15 H locs _ hw (lv_sub hl [4, 5, 1, 0] rfl) h hk
      · replace h := zif_f c8 h
        refine lv_iload hx hb dX8_worked_59 (lv_at hl 1 rfl) ?_
        refine lv_iconst (v := 1) hx hb dX8_worked_61 (by decide) ?_
        refine lv_icmp_ne (tgt := 94) hx hb dX8_worked_62 (by decide) (fun c19 => ?_) (fun c19 => ?_)
        · replace h := zif_f c19 h
          refine lv_iload hx hb dX8_worked_94 (lv_at hl 1 rfl) ?_
          refine lv_iconst (v := 2) hx hb dX8_worked_96 (by decide) ?_
          refine lv_icmp_ne (tgt := 127) hx hb dX8_worked_97 (by decide) (fun c20 => ?_) (fun c20 => ?_)
          · replace h := zif_f c20 h
            obtain ⟨x21, ex21⟩ : ∃ y : Int32, y = v3 + (-1 : Int32) := ⟨_, rfl⟩
            replace h := zlt_s ex21 h
            refine lv_iinc (v := x21) (lv' := [(3, .int x21), (6, .int x7), (5, .int x5), (0, .ref (a 87)), (2, .int y2), (4, .int v4)]) hx hb dX8_worked_127 hl (k := 4) rfl (by rw [ex21]; rfl) (by decide) rfl (fun ls hl => ?_)
            refine lv_aload_n hx hb dX8_worked_130 rfl (lv_at hl 3 rfl) ?_
            refine gtX8_28 X hw dX8_worked_131 ?_
            refine lv_iload_n hx hb dX8_worked_134 rfl (lv_at hl 0 rfl) ?_
            refine lv_iconst (v := 1) hx hb dX8_worked_135 (by decide) ?_
            refine lv_isub hx hb dX8_worked_136 ?_
            refine lv_iload hx hb dX8_worked_137 (lv_at hl 1 rfl) ?_
            refine lv_aload_n hx hb dX8_worked_139 rfl (lv_at hl 3 rfl) ?_
            refine gtX8_28 X hw dX8_worked_140 ?_
            refine lv_iload_n hx hb dX8_worked_143 rfl (lv_at hl 0 rfl) ?_
            refine lv_iconst (v := 1) hx hb dX8_worked_144 (by decide) ?_
            refine lv_isub hx hb dX8_worked_145 ?_
            obtain ⟨g22, h⟩ := zgd_e h
            refine z_ald X hw zI_94 g22 dX8_worked_146 ?_
            refine lv_aload_n hx hb dX8_worked_147 rfl (lv_at hl 3 rfl) ?_
            refine gtX8_28 X hw dX8_worked_148 ?_
            refine lv_iload_n hx hb dX8_worked_151 rfl (lv_at hl 0 rfl) ?_
            obtain ⟨g23, h⟩ := zgd_e h
            refine z_ald X hw zI_94 g23 dX8_worked_152 ?_
            obtain ⟨r24, M25, f26, h⟩ := zbi_e h
            refine z_qSi (As := [.int x7, .int (M 94 ((x21 - (1 : Int32)).toNatClampNeg)), .int (M 94 (x21.toNatClampNeg))]) (rest := [.int (x21 - (1 : Int32)), .ref (a 94)]) X hw (kX8_joined l D cy a x7 (M 94 ((x21 - (1 : Int32)).toNatClampNeg)) (M 94 (x21.toNatClampNeg)) M r24 M25 f26) (cwX8_176 X.2.2.2.2.2.1 rfl rfl (zroomO (Nat.le_of_ble_eq_true rfl) (Nat.le_of_ble_eq_true rfl))) rfl rfl (Nat.le_of_ble_eq_true rfl) hl.1 hcs dX8_worked_153 (fun H locs hw => ?_)
            obtain ⟨g28, h⟩ := zgd_e h
            refine z_ast X hw zI_94 g28 dX8_worked_156 (fun M27 H locs eM27 hw => ?_)
            replace h := zlt_s eM27 h
            obtain ⟨x29, ex29⟩ : ∃ y : Int32, y = v4 + (1 : Int32) := ⟨_, rfl⟩
            replace h := zlt_s ex29 h
            refine lv_iinc (v := x29) (lv' := [(4, .int x29), (3, .int x21), (6, .int x7), (5, .int x5), (0, .ref (a 87)), (2, .int y2)]) hx hb dX8_worked_157 hl (k := 5) rfl (by rw [ex29]; rfl) (by decide) rfl (fun ls hl => ?_)
            refine lv_goto (tgt := 13) hx hb dX8_worked_160 (by decide) ?_
            exact ih x21 x29 M27 H locs _ hw (lv_sub hl [4, 5, 1, 0] rfl) h hk
          · replace h := zif_t c20 h
            refine lv_aload_n hx hb dX8_worked_100 rfl (lv_at hl 2 rfl) ?_
            refine gtX8_28 X hw dX8_worked_101 ?_
            refine lv_iload_n hx hb dX8_worked_104 rfl (lv_at hl 4 rfl) ?_
            refine lv_iconst (v := 1) hx hb dX8_worked_105 (by decide) ?_
            refine lv_isub hx hb dX8_worked_106 ?_
            refine lv_aload_n hx hb dX8_worked_107 rfl (lv_at hl 2 rfl) ?_
            refine gtX8_28 X hw dX8_worked_108 ?_
            refine lv_iload_n hx hb dX8_worked_111 rfl (lv_at hl 4 rfl) ?_
            refine lv_iconst (v := 1) hx hb dX8_worked_112 (by decide) ?_
            refine lv_isub hx hb dX8_worked_113 ?_
            obtain ⟨g30, h⟩ := zgd_e h
            refine z_ald X hw zI_94 g30 dX8_worked_114 ?_
            refine lv_if_ne (tgt := 122) hx hb dX8_worked_115 (by decide) (fun c31 => ?_) (fun c31 => ?_)
            · replace h := zif_f c31 h
              refine lv_iconst (v := 0) hx hb dX8_worked_122 (by decide) ?_
              obtain ⟨g33, h⟩ := zgd_e h
              refine z_ast X hw zI_94 g33 dX8_worked_123 (fun M32 H locs eM32 hw => ?_)
              replace h := zlt_s eM32 h
              refine lv_goto (tgt := 157) hx hb dX8_worked_124 (by decide) ?_
              obtain ⟨x34, ex34⟩ : ∃ y : Int32, y = v4 + (1 : Int32) := ⟨_, rfl⟩
              replace h := zlt_s ex34 h
              refine lv_iinc (v := x34) (lv' := [(4, .int x34), (6, .int x7), (5, .int x5), (0, .ref (a 87)), (2, .int y2), (3, .int v3)]) hx hb dX8_worked_157 hl (k := 5) rfl (by rw [ex34]; rfl) (by decide) rfl (fun ls hl => ?_)
              refine lv_goto (tgt := 13) hx hb dX8_worked_160 (by decide) ?_
              exact ih v3 x34 M32 H locs _ hw (lv_sub hl [3, 4, 5, 0] rfl) h hk
            · replace h := zif_t c31 h
              refine lv_iconst (v := 1) hx hb dX8_worked_118 (by decide) ?_
              refine lv_goto (tgt := 123) hx hb dX8_worked_119 (by decide) ?_
              obtain ⟨g36, h⟩ := zgd_e h
              refine z_ast X hw zI_94 g36 dX8_worked_123 (fun M35 H locs eM35 hw => ?_)
              replace h := zlt_s eM35 h
              refine lv_goto (tgt := 157) hx hb dX8_worked_124 (by decide) ?_
              obtain ⟨x37, ex37⟩ : ∃ y : Int32, y = v4 + (1 : Int32) := ⟨_, rfl⟩
              replace h := zlt_s ex37 h
              refine lv_iinc (v := x37) (lv' := [(4, .int x37), (6, .int x7), (5, .int x5), (0, .ref (a 87)), (2, .int y2), (3, .int v3)]) hx hb dX8_worked_157 hl (k := 5) rfl (by rw [ex37]; rfl) (by decide) rfl (fun ls hl => ?_)
              refine lv_goto (tgt := 13) hx hb dX8_worked_160 (by decide) ?_
              exact ih v3 x37 M35 H locs _ hw (lv_sub hl [3, 4, 5, 0] rfl) h hk
        · replace h := zif_t c19 h
          refine lv_aload_n hx hb dX8_worked_65 rfl (lv_at hl 2 rfl) ?_
          refine gtX8_28 X hw dX8_worked_66 ?_
          refine lv_iload_n hx hb dX8_worked_69 rfl (lv_at hl 4 rfl) ?_
          refine lv_iload hx hb dX8_worked_70 (lv_at hl 1 rfl) ?_
          refine lv_if_ne (tgt := 80) hx hb dX8_worked_72 (by decide) (fun c38 => ?_) (fun c38 => ?_)
          · replace h := zif_f c38 h
            refine lv_aload_n hx hb dX8_worked_80 rfl (lv_at hl 2 rfl) ?_
            refine gtX8_25 X hw dX8_worked_81 ?_
            refine lv_iload hx hb dX8_worked_84 (lv_at hl 0 rfl) ?_
            obtain ⟨g39, h⟩ := zgd_e h
            refine z_ald X hw zI_93 g39 dX8_worked_86 ?_
            obtain ⟨g41, h⟩ := zgd_e h
            refine z_ast X hw zI_94 g41 dX8_worked_87 (fun M40 H locs eM40 hw => ?_)
            replace h := zlt_s eM40 h
            obtain ⟨x42, ex42⟩ : ∃ y : Int32, y = v3 + (1 : Int32) := ⟨_, rfl⟩
            replace h := zlt_s ex42 h
            refine lv_iinc (v := x42) (lv' := [(3, .int x42), (6, .int x7), (5, .int x5), (0, .ref (a 87)), (2, .int y2), (4, .int v4)]) hx hb dX8_worked_88 hl (k := 4) rfl (by rw [ex42]; rfl) (by decide) rfl (fun ls hl => ?_)
            refine lv_goto (tgt := 157) hx hb dX8_worked_91 (by decide) ?_
            obtain ⟨x43, ex43⟩ : ∃ y : Int32, y = v4 + (1 : Int32) := ⟨_, rfl⟩
            replace h := zlt_s ex43 h
            refine lv_iinc (v := x43) (lv' := [(4, .int x43), (3, .int x42), (6, .int x7), (5, .int x5), (0, .ref (a 87)), (2, .int y2)]) hx hb dX8_worked_157 hl (k := 5) rfl (by rw [ex43]; rfl) (by decide) rfl (fun ls hl => ?_)
            refine lv_goto (tgt := 13) hx hb dX8_worked_160 (by decide) ?_
            exact ih x42 x43 M40 H locs _ hw (lv_sub hl [4, 5, 1, 0] rfl) h hk
          · replace h := zif_t c38 h
            refine lv_iload hx hb dX8_worked_75 (lv_at hl 0 rfl) ?_
            refine lv_goto (tgt := 87) hx hb dX8_worked_77 (by decide) ?_
            obtain ⟨g45, h⟩ := zgd_e h
            refine z_ast X hw zI_94 g45 dX8_worked_87 (fun M44 H locs eM44 hw => ?_)
            replace h := zlt_s eM44 h
            obtain ⟨x46, ex46⟩ : ∃ y : Int32, y = v3 + (1 : Int32) := ⟨_, rfl⟩
            replace h := zlt_s ex46 h
            refine lv_iinc (v := x46) (lv' := [(3, .int x46), (6, .int x7), (5, .int x5), (0, .ref (a 87)), (2, .int y2), (4, .int v4)]) hx hb dX8_worked_88 hl (k := 4) rfl (by rw [ex46]; rfl) (by decide) rfl (fun ls hl => ?_)
            refine lv_goto (tgt := 157) hx hb dX8_worked_91 (by decide) ?_
            obtain ⟨x47, ex47⟩ : ∃ y : Int32, y = v4 + (1 : Int32) := ⟨_, rfl⟩
            replace h := zlt_s ex47 h
            refine lv_iinc (v := x47) (lv' := [(4, .int x47), (3, .int x46), (6, .int x7), (5, .int x5), (0, .ref (a 87)), (2, .int y2)]) hx hb dX8_worked_157 hl (k := 5) rfl (by rw [ex47]; rfl) (by decide) rfl (fun ls hl => ?_)
            refine lv_goto (tgt := 13) hx hb dX8_worked_160 (by decide) ?_
            exact ih x46 x47 M44 H locs _ hw (lv_sub hl [4, 5, 1, 0] rfl) h hk
def fX8_worked (p0 : Int32) (M : zM) : Option (Int32 × zM) := zlt ((115 : Int32) + ((125 : Int32) * p0)) (fun x1 => fX8_worked_13 x1 (fun  M48 => some (M48 94 (0), M48)) zF (0 : Int32) (0 : Int32) M)
set_option maxRecDepth 100000 in
set_option maxHeartbeats 4000000 in
theorem kX8_worked (l : Launch) (D : va_G) (cy : Nat → ClassId) (a : Nat → Nat) (p0 : Int32) (M : zM) (r0 : Int32) (M0 : zM) (h : fX8_worked p0 M = some (r0, M0)) : zCi l D cy a yX8_worked cX8_worked 7 (some .int) (zRm 1 22) [.ref (a 87), .int p0] M (fun r u => r = r0 ∧ u = M0) := by
  intro sz
  refine zent_i sz (by decide) (Nat.le_of_ble_eq_true rfl) rfl (fun p e s m args below meth c ls H locs X hw hl => ?_)
  obtain ⟨hx, hb, hr, hml, hown, hW, hlocks⟩ := id X
  have hE := hw.2.2.2.2.1
  have hcs : 0 ≤ ((zRm 1 22)).cells ∧ 0 ≤ ((zRm 1 22)).slots := ⟨Nat.zero_le _, Nat.zero_le _⟩
  rw [fX8_worked] at h
  refine lv_bipush (v := 115) hx hb dX8_worked_0 (by decide) ?_
  refine lv_bipush (v := 125) hx hb dX8_worked_2 (by decide) ?_
  refine lv_iload_n hx hb dX8_worked_4 rfl (lv_at hl 1 rfl) ?_
  refine lv_imul hx hb dX8_worked_5 ?_
  refine lv_iadd hx hb dX8_worked_6 ?_
  refine lv_topi (fun x1 ex1 => ?_)
  replace h := zlt_s ex1 h
  refine lv_istore_n (lv' := [(2, .int x1), (0, .ref (a 87)), (1, .int p0)]) hx hb dX8_worked_7 rfl hl (by decide) rfl (fun ls hl => ?_)
  refine lv_iconst (v := 0) hx hb dX8_worked_8 (by decide) ?_
  refine lv_istore_n (lv' := [(3, .int (0 : Int32)), (2, .int x1), (0, .ref (a 87)), (1, .int p0)]) hx hb dX8_worked_9 rfl hl (by decide) rfl (fun ls hl => ?_)
  refine lv_iconst (v := 0) hx hb dX8_worked_10 (by decide) ?_
  refine lv_istore (lv' := [(4, .int (0 : Int32)), (3, .int (0 : Int32)), (2, .int x1), (0, .ref (a 87)), (1, .int p0)]) hx hb dX8_worked_11 hl (by decide) rfl (fun ls hl => ?_)
  refine lX8_worked_13 X x1 _ zF (0 : Int32) (0 : Int32) M H locs _ hw (lv_sub hl [3, 2, 1, 0] rfl) h (fun  M48 H locs ls hw hl h => ?_)
  refine lv_aload_n hx hb dX8_worked_163 rfl (lv_at hl 0 rfl) ?_
  refine gtX8_28 X hw dX8_worked_164 ?_
  refine lv_iconst (v := 0) hx hb dX8_worked_167 (by decide) ?_
  refine z_aldK (k := 0) X hw zI_94 (by decide) (by decide) (by decide) dX8_worked_168 ?_
  exact z_ri X hw (zret h) dX8_worked_169
def fX8_takesTold (p0 : Int32) (p1 : Int32) (M : zM) : Option (Int32 × zM) := zbi (fX8_hasText (0 : Int32) M) (fun r1 M2 => if r1 = 0 then (some (p1 / (2 : Int32), M2)) else (zlt (zst M2 93 (102) p1) (fun M5 => zbi (fX8_its p0 (2 : Int32) M5) (fun r6 M7 => zlt (zst M7 93 (112) r6) (fun M9 => zbi (fX8_hourOfDay M9) (fun r10 M11 => zlt (zst M11 93 (104) r10) (fun M13 => zbi (fX8_its p0 (1 : Int32) M13) (fun r14 M15 => zlt (zst M15 93 (109) r14) (fun M17 => zbi (fX8_worked (0 : Int32) M17) (fun r18 M19 => some (r18, M19)))))))))))
set_option maxRecDepth 100000 in
set_option maxHeartbeats 4000000 in
theorem kX8_takesTold (l : Launch) (D : va_G) (cy : Nat → ClassId) (a : Nat → Nat) (p0 : Int32) (p1 : Int32) (M : zM) (r0 : Int32) (M0 : zM) (h : fX8_takesTold p0 p1 M = some (r0, M0)) : zCi l D cy a yX8_takesTold cX8_takesTold 3 (some .int) (zRm 2 48) [.ref (a 87), .int p0, .int p1] M (fun r u => r = r0 ∧ u = M0) := by
  intro sz
  refine zent_i sz (by decide) (Nat.le_of_ble_eq_true rfl) rfl (fun p e s m args below meth c ls H locs X hw hl => ?_)
  obtain ⟨hx, hb, hr, hml, hown, hW, hlocks⟩ := id X
  have hE := hw.2.2.2.2.1
  have hcs : 0 ≤ ((zRm 2 48)).cells ∧ 0 ≤ ((zRm 2 48)).slots := ⟨Nat.zero_le _, Nat.zero_le _⟩
  rw [fX8_takesTold] at h
  refine lv_aload_n hx hb dX8_takesTold_0 rfl (lv_at hl 0 rfl) ?_
  refine lv_iconst (v := 0) hx hb dX8_takesTold_1 (by decide) ?_
  obtain ⟨r1, M2, f3, h⟩ := zbi_e h
  refine z_qVi (As := [.int (0 : Int32)]) (rest := []) X hw (kX8_hasText l D cy a (0 : Int32) M r1 M2 f3) (cwX8_173 X.2.2.2.2.2.1 rfl rfl (zroomO (Nat.le_of_ble_eq_true rfl) (Nat.le_of_ble_eq_true rfl))) (zX8_lt (rfl : zX8 87)) (zS8 (rfl : zX8 87) cy a (M 87)) rfl rfl rfl (Nat.le_of_ble_eq_true rfl) hl.1 hcs dX8_takesTold_2 (fun H locs hw => ?_)
  refine lv_if_ne (tgt := 12) hx hb dX8_takesTold_5 (by decide) (fun c4 => ?_) (fun c4 => ?_)
  · replace h := zif_f c4 h
    refine lv_aload_n hx hb dX8_takesTold_12 rfl (lv_at hl 0 rfl) ?_
    refine gtX8_25 X hw dX8_takesTold_13 ?_
    refine lv_bipush (v := 102) hx hb dX8_takesTold_16 (by decide) ?_
    refine lv_iload_n hx hb dX8_takesTold_18 rfl (lv_at hl 2 rfl) ?_
    refine z_astK (k := 102) X hw zI_93 (by decide) (by decide) (by decide) dX8_takesTold_19 (fun M5 H locs eM5 hw => ?_)
    replace h := zlt_s eM5 h
    refine lv_aload_n hx hb dX8_takesTold_20 rfl (lv_at hl 0 rfl) ?_
    refine gtX8_25 X hw dX8_takesTold_21 ?_
    refine lv_bipush (v := 112) hx hb dX8_takesTold_24 (by decide) ?_
    refine lv_aload_n hx hb dX8_takesTold_26 rfl (lv_at hl 0 rfl) ?_
    refine lv_iload_n hx hb dX8_takesTold_27 rfl (lv_at hl 1 rfl) ?_
    refine lv_iconst (v := 2) hx hb dX8_takesTold_28 (by decide) ?_
    obtain ⟨r6, M7, f8, h⟩ := zbi_e h
    refine z_qVi (As := [.int p0, .int (2 : Int32)]) (rest := [.int (112 : Int32), .ref (a 93)]) X hw (kX8_its l D cy a p0 (2 : Int32) M5 r6 M7 f8) (cwX8_90 X.2.2.2.2.2.1 rfl rfl (zroomO (Nat.le_of_ble_eq_true rfl) (Nat.le_of_ble_eq_true rfl))) (zX8_lt (rfl : zX8 87)) (zS8 (rfl : zX8 87) cy a (M5 87)) rfl rfl rfl (Nat.le_of_ble_eq_true rfl) hl.1 hcs dX8_takesTold_29 (fun H locs hw => ?_)
    refine z_astK (k := 112) X hw zI_93 (by decide) (by decide) (by decide) dX8_takesTold_32 (fun M9 H locs eM9 hw => ?_)
    replace h := zlt_s eM9 h
    refine lv_aload_n hx hb dX8_takesTold_33 rfl (lv_at hl 0 rfl) ?_
    refine gtX8_25 X hw dX8_takesTold_34 ?_
    refine lv_bipush (v := 104) hx hb dX8_takesTold_37 (by decide) ?_
    refine lv_aload_n hx hb dX8_takesTold_39 rfl (lv_at hl 0 rfl) ?_
    obtain ⟨r10, M11, f12, h⟩ := zbi_e h
    refine z_qVi (As := []) (rest := [.int (104 : Int32), .ref (a 93)]) X hw (kX8_hourOfDay l D cy a M9 r10 M11 f12) (cwX8_179 X.2.2.2.2.2.1 rfl rfl (zroomO (Nat.le_of_ble_eq_true rfl) (Nat.le_of_ble_eq_true rfl))) (zX8_lt (rfl : zX8 87)) (zS8 (rfl : zX8 87) cy a (M9 87)) rfl rfl rfl (Nat.le_of_ble_eq_true rfl) hl.1 hcs dX8_takesTold_40 (fun H locs hw => ?_)
    refine z_astK (k := 104) X hw zI_93 (by decide) (by decide) (by decide) dX8_takesTold_43 (fun M13 H locs eM13 hw => ?_)
    replace h := zlt_s eM13 h
    refine lv_aload_n hx hb dX8_takesTold_44 rfl (lv_at hl 0 rfl) ?_
    refine gtX8_25 X hw dX8_takesTold_45 ?_
    refine lv_bipush (v := 109) hx hb dX8_takesTold_48 (by decide) ?_
    refine lv_aload_n hx hb dX8_takesTold_50 rfl (lv_at hl 0 rfl) ?_
    refine lv_iload_n hx hb dX8_takesTold_51 rfl (lv_at hl 1 rfl) ?_
    refine lv_iconst (v := 1) hx hb dX8_takesTold_52 (by decide) ?_
    obtain ⟨r14, M15, f16, h⟩ := zbi_e h
    refine z_qVi (As := [.int p0, .int (1 : Int32)]) (rest := [.int (109 : Int32), .ref (a 93)]) X hw (kX8_its l D cy a p0 (1 : Int32) M13 r14 M15 f16) (cwX8_90 X.2.2.2.2.2.1 rfl rfl (zroomO (Nat.le_of_ble_eq_true rfl) (Nat.le_of_ble_eq_true rfl))) (zX8_lt (rfl : zX8 87)) (zS8 (rfl : zX8 87) cy a (M13 87)) rfl rfl rfl (Nat.le_of_ble_eq_true rfl) hl.1 hcs dX8_takesTold_53 (fun H locs hw => ?_)
    refine z_astK (k := 109) X hw zI_93 (by decide) (by decide) (by decide) dX8_takesTold_56 (fun M17 H locs eM17 hw => ?_)
    replace h := zlt_s eM17 h
    refine lv_aload_n hx hb dX8_takesTold_57 rfl (lv_at hl 0 rfl) ?_
    refine lv_iconst (v := 0) hx hb dX8_takesTold_58 (by decide) ?_
    obtain ⟨r18, M19, f20, h⟩ := zbi_e h
    refine z_qVi (As := [.int (0 : Int32)]) (rest := []) X hw (kX8_worked l D cy a (0 : Int32) M17 r18 M19 f20) (cwX8_182 X.2.2.2.2.2.1 rfl rfl (zroomO (Nat.le_of_ble_eq_true rfl) (Nat.le_of_ble_eq_true rfl))) (zX8_lt (rfl : zX8 87)) (zS8 (rfl : zX8 87) cy a (M17 87)) rfl rfl rfl (Nat.le_of_ble_eq_true rfl) hl.1 hcs dX8_takesTold_59 (fun H locs hw => ?_)
    exact z_ri X hw (zret h) dX8_takesTold_62
  · replace h := zif_t c4 h
    refine lv_iload_n hx hb dX8_takesTold_8 rfl (lv_at hl 2 rfl) ?_
    refine lv_iconst (v := 2) hx hb dX8_takesTold_9 (by decide) ?_
    refine lv_idiv hx hb dX8_takesTold_10 (by decide) ?_
    exact z_ri X hw (zret h) dX8_takesTold_11
def fX8_wants (p0 : Int32) (p1 : Int32) (M : zM) : Option (Int32 × zM) := zbi (fX8_its p0 (1 : Int32) M) (fun r1 M2 => zbi (fX8_its p0 (4 : Int32) M2) (fun r4 M5 => if r4 = 0 then (some ((0 : Int32), M5)) else (if M5 88 (2) ≤ r1 then (zlt (p1 / (3 : Int32)) (fun x9 => zbi (fX8_its p0 (0 : Int32) M5) (fun r10 M11 => if r10 = (1 : Int32) then (zlt ((p1 / (3 : Int32)) + r1) (fun x14 => zbi (fX8_held x14 (0 : Int32) p1 M11) (fun r15 M16 => some (r15, M16)))) else (if r10 = (2 : Int32) then (zbi (fX8_held r1 (0 : Int32) p1 M11) (fun r19 M20 => some (r19, M20))) else (if r10 = (3 : Int32) then (zlt ((2 : Int32) * (p1 / (3 : Int32))) (fun x23 => zbi (fX8_held x23 (0 : Int32) p1 M11) (fun r24 M25 => some (r24, M25)))) else (if r10 = (4 : Int32) then (zlt ((p1 / (3 : Int32)) + r1) (fun x28 => zbi (fX8_held x28 (0 : Int32) p1 M11) (fun r29 M30 => some (r29, M30)))) else (if r10 = (5 : Int32) then (zlt ((2 : Int32) * (p1 / (3 : Int32))) (fun x33 => zbi (fX8_held x33 (0 : Int32) p1 M11) (fun r34 M35 => some (r34, M35)))) else (if r10 = (6 : Int32) then (zbi (fX8_takesTold p0 p1 M11) (fun r38 M39 => zbi (fX8_held r38 (0 : Int32) p1 M39) (fun r41 M42 => some (r41, M42)))) else (zbi (fX8_held x9 (0 : Int32) p1 M11) (fun r44 M45 => some (r44, M45))))))))))) else (some ((0 : Int32), M5)))))
set_option maxRecDepth 100000 in
set_option maxHeartbeats 4000000 in
theorem kX8_wants (l : Launch) (D : va_G) (cy : Nat → ClassId) (a : Nat → Nat) (p0 : Int32) (p1 : Int32) (M : zM) (r0 : Int32) (M0 : zM) (h : fX8_wants p0 p1 M = some (r0, M0)) : zCi l D cy a yX8_wants cX8_wants 5 (some .int) (zRm 3 70) [.ref (a 87), .int p0, .int p1] M (fun r u => r = r0 ∧ u = M0) := by
  intro sz
  refine zent_i sz (by decide) (Nat.le_of_ble_eq_true rfl) rfl (fun p e s m args below meth c ls H locs X hw hl => ?_)
  obtain ⟨hx, hb, hr, hml, hown, hW, hlocks⟩ := id X
  have hE := hw.2.2.2.2.1
  have hcs : 0 ≤ ((zRm 3 70)).cells ∧ 0 ≤ ((zRm 3 70)).slots := ⟨Nat.zero_le _, Nat.zero_le _⟩
  rw [fX8_wants] at h
  refine lv_aload_n hx hb dX8_wants_0 rfl (lv_at hl 0 rfl) ?_
  refine lv_iload_n hx hb dX8_wants_1 rfl (lv_at hl 1 rfl) ?_
  refine lv_iconst (v := 1) hx hb dX8_wants_2 (by decide) ?_
  obtain ⟨r1, M2, f3, h⟩ := zbi_e h
  refine z_qVi (As := [.int p0, .int (1 : Int32)]) (rest := []) X hw (kX8_its l D cy a p0 (1 : Int32) M r1 M2 f3) (cwX8_90 X.2.2.2.2.2.1 rfl rfl (zroomO (Nat.le_of_ble_eq_true rfl) (Nat.le_of_ble_eq_true rfl))) (zX8_lt (rfl : zX8 87)) (zS8 (rfl : zX8 87) cy a (M 87)) rfl rfl rfl (Nat.le_of_ble_eq_true rfl) hl.1 hcs dX8_wants_3 (fun H locs hw => ?_)
  refine lv_istore_n (lv' := [(3, .int r1), (0, .ref (a 87)), (1, .int p0), (2, .int p1)]) hx hb dX8_wants_6 rfl hl (by decide) rfl (fun ls hl => ?_)
  refine lv_aload_n hx hb dX8_wants_7 rfl (lv_at hl 1 rfl) ?_
  refine lv_iload_n hx hb dX8_wants_8 rfl (lv_at hl 2 rfl) ?_
  refine lv_iconst (v := 4) hx hb dX8_wants_9 (by decide) ?_
  obtain ⟨r4, M5, f6, h⟩ := zbi_e h
  refine z_qVi (As := [.int p0, .int (4 : Int32)]) (rest := []) X hw (kX8_its l D cy a p0 (4 : Int32) M2 r4 M5 f6) (cwX8_90 X.2.2.2.2.2.1 rfl rfl (zroomO (Nat.le_of_ble_eq_true rfl) (Nat.le_of_ble_eq_true rfl))) (zX8_lt (rfl : zX8 87)) (zS8 (rfl : zX8 87) cy a (M2 87)) rfl rfl rfl (Nat.le_of_ble_eq_true rfl) hl.1 hcs dX8_wants_10 (fun H locs hw => ?_)
  refine lv_if_eq (tgt := 26) hx hb dX8_wants_13 (by decide) (fun c7 => ?_) (fun c7 => ?_)
  · replace h := zif_t c7 h
    refine lv_iconst (v := 0) hx hb dX8_wants_26 (by decide) ?_
    exact z_ri X hw (zret h) dX8_wants_27
  · replace h := zif_f c7 h
    refine lv_iload_n hx hb dX8_wants_16 rfl (lv_at hl 0 rfl) ?_
    refine lv_aload_n hx hb dX8_wants_17 rfl (lv_at hl 1 rfl) ?_
    refine gtX8_7 X hw dX8_wants_18 ?_
    refine lv_iconst (v := 2) hx hb dX8_wants_21 (by decide) ?_
    refine z_aldK (k := 2) X hw zI_88 (by decide) (by decide) (by decide) dX8_wants_22 ?_
    refine lv_icmp_ge (tgt := 28) hx hb dX8_wants_23 (by decide) (fun c8 => ?_) (fun c8 => ?_)
    · replace h := zif_t c8 h
      refine lv_iload_n hx hb dX8_wants_28 rfl (lv_at hl 3 rfl) ?_
      refine lv_iconst (v := 3) hx hb dX8_wants_29 (by decide) ?_
      refine lv_idiv hx hb dX8_wants_30 (by decide) ?_
      refine lv_topi (fun x9 ex9 => ?_)
      replace h := zlt_s ex9 h
      refine lv_istore (lv' := [(4, .int x9), (3, .int r1), (0, .ref (a 87)), (1, .int p0), (2, .int p1)]) hx hb dX8_wants_31 hl (by decide) rfl (fun ls hl => ?_)
      refine lv_aload_n hx hb dX8_wants_33 rfl (lv_at hl 2 rfl) ?_
      refine lv_iload_n hx hb dX8_wants_34 rfl (lv_at hl 3 rfl) ?_
      refine lv_iconst (v := 0) hx hb dX8_wants_35 (by decide) ?_
      obtain ⟨r10, M11, f12, h⟩ := zbi_e h
      refine z_qVi (As := [.int p0, .int (0 : Int32)]) (rest := []) X hw (kX8_its l D cy a p0 (0 : Int32) M5 r10 M11 f12) (cwX8_90 X.2.2.2.2.2.1 rfl rfl (zroomO (Nat.le_of_ble_eq_true rfl) (Nat.le_of_ble_eq_true rfl))) (zX8_lt (rfl : zX8 87)) (zS8 (rfl : zX8 87) cy a (M5 87)) rfl rfl rfl (Nat.le_of_ble_eq_true rfl) hl.1 hcs dX8_wants_36 (fun H locs hw => ?_)
      by_cases c13 : r10 = (1 : Int32)
      · replace h := zif_t c13 h
        refine lv_tableIn (off := 37) (tgt := 76) hx hb dX8_wants_39 (by rw [c13]; decide) (by rw [c13]; decide) (by rw [c13]; rfl) (by decide) ?_
        refine lv_iload_n hx hb dX8_wants_76 rfl (lv_at hl 4 rfl) ?_
        refine lv_iconst (v := 3) hx hb dX8_wants_77 (by decide) ?_
        refine lv_idiv hx hb dX8_wants_78 (by decide) ?_
        refine lv_iload_n hx hb dX8_wants_79 rfl (lv_at hl 1 rfl) ?_
        refine lv_iadd hx hb dX8_wants_80 ?_
        refine lv_topi (fun x14 ex14 => ?_)
        replace h := zlt_s ex14 h
        refine lv_istore (lv' := [(4, .int x14), (3, .int r1), (0, .ref (a 87)), (1, .int p0), (2, .int p1)]) hx hb dX8_wants_81 hl (by decide) rfl (fun ls hl => ?_)
        refine lv_goto (tgt := 113) hx hb dX8_wants_83 (by decide) ?_
        refine lv_iload hx hb dX8_wants_113 (lv_at hl 0 rfl) ?_
        refine lv_iconst (v := 0) hx hb dX8_wants_115 (by decide) ?_
        refine lv_iload_n hx hb dX8_wants_116 rfl (lv_at hl 4 rfl) ?_
        obtain ⟨r15, M16, f17, h⟩ := zbi_e h
        refine z_qSi (As := [.int x14, .int (0 : Int32), .int p1]) (rest := []) X hw (kX8_held l D cy a x14 (0 : Int32) p1 M11 r15 M16 f17) (cwX8_61 X.2.2.2.2.2.1 rfl rfl (zroomO (Nat.le_of_ble_eq_true rfl) (Nat.le_of_ble_eq_true rfl))) rfl rfl (Nat.le_of_ble_eq_true rfl) hl.1 hcs dX8_wants_117 (fun H locs hw => ?_)
        exact z_ri X hw (zret h) dX8_wants_120
      replace h := zif_f c13 h
      by_cases c18 : r10 = (2 : Int32)
      · replace h := zif_t c18 h
        refine lv_tableIn (off := 47) (tgt := 86) hx hb dX8_wants_39 (by rw [c18]; decide) (by rw [c18]; decide) (by rw [c18]; rfl) (by decide) ?_
        refine lv_iload_n hx hb dX8_wants_86 rfl (lv_at hl 1 rfl) ?_
        refine lv_istore (lv' := [(4, .int r1), (3, .int r1), (0, .ref (a 87)), (1, .int p0), (2, .int p1)]) hx hb dX8_wants_87 hl (by decide) rfl (fun ls hl => ?_)
        refine lv_goto (tgt := 113) hx hb dX8_wants_89 (by decide) ?_
        refine lv_iload hx hb dX8_wants_113 (lv_at hl 0 rfl) ?_
        refine lv_iconst (v := 0) hx hb dX8_wants_115 (by decide) ?_
        refine lv_iload_n hx hb dX8_wants_116 rfl (lv_at hl 4 rfl) ?_
        obtain ⟨r19, M20, f21, h⟩ := zbi_e h
        refine z_qSi (As := [.int r1, .int (0 : Int32), .int p1]) (rest := []) X hw (kX8_held l D cy a r1 (0 : Int32) p1 M11 r19 M20 f21) (cwX8_61 X.2.2.2.2.2.1 rfl rfl (zroomO (Nat.le_of_ble_eq_true rfl) (Nat.le_of_ble_eq_true rfl))) rfl rfl (Nat.le_of_ble_eq_true rfl) hl.1 hcs dX8_wants_117 (fun H locs hw => ?_)
        exact z_ri X hw (zret h) dX8_wants_120
      replace h := zif_f c18 h
      by_cases c22 : r10 = (3 : Int32)
      · replace h := zif_t c22 h
        refine lv_tableIn (off := 53) (tgt := 92) hx hb dX8_wants_39 (by rw [c22]; decide) (by rw [c22]; decide) (by rw [c22]; rfl) (by decide) ?_
        refine lv_iconst (v := 2) hx hb dX8_wants_92 (by decide) ?_
        refine lv_iload_n hx hb dX8_wants_93 rfl (lv_at hl 4 rfl) ?_
        refine lv_iconst (v := 3) hx hb dX8_wants_94 (by decide) ?_
        refine lv_idiv hx hb dX8_wants_95 (by decide) ?_
        refine lv_imul hx hb dX8_wants_96 ?_
        refine lv_topi (fun x23 ex23 => ?_)
        replace h := zlt_s ex23 h
        refine lv_istore (lv' := [(4, .int x23), (3, .int r1), (0, .ref (a 87)), (1, .int p0), (2, .int p1)]) hx hb dX8_wants_97 hl (by decide) rfl (fun ls hl => ?_)
        refine lv_goto (tgt := 113) hx hb dX8_wants_99 (by decide) ?_
        refine lv_iload hx hb dX8_wants_113 (lv_at hl 0 rfl) ?_
        refine lv_iconst (v := 0) hx hb dX8_wants_115 (by decide) ?_
        refine lv_iload_n hx hb dX8_wants_116 rfl (lv_at hl 4 rfl) ?_
        obtain ⟨r24, M25, f26, h⟩ := zbi_e h
        refine z_qSi (As := [.int x23, .int (0 : Int32), .int p1]) (rest := []) X hw (kX8_held l D cy a x23 (0 : Int32) p1 M11 r24 M25 f26) (cwX8_61 X.2.2.2.2.2.1 rfl rfl (zroomO (Nat.le_of_ble_eq_true rfl) (Nat.le_of_ble_eq_true rfl))) rfl rfl (Nat.le_of_ble_eq_true rfl) hl.1 hcs dX8_wants_117 (fun H locs hw => ?_)
        exact z_ri X hw (zret h) dX8_wants_120
      replace h := zif_f c22 h
      by_cases c27 : r10 = (4 : Int32)
      · replace h := zif_t c27 h
        refine lv_tableIn (off := 37) (tgt := 76) hx hb dX8_wants_39 (by rw [c27]; decide) (by rw [c27]; decide) (by rw [c27]; rfl) (by decide) ?_
        refine lv_iload_n hx hb dX8_wants_76 rfl (lv_at hl 4 rfl) ?_
        refine lv_iconst (v := 3) hx hb dX8_wants_77 (by decide) ?_
        refine lv_idiv hx hb dX8_wants_78 (by decide) ?_
        refine lv_iload_n hx hb dX8_wants_79 rfl (lv_at hl 1 rfl) ?_
        refine lv_iadd hx hb dX8_wants_80 ?_
        refine lv_topi (fun x28 ex28 => ?_)
        replace h := zlt_s ex28 h
        refine lv_istore (lv' := [(4, .int x28), (3, .int r1), (0, .ref (a 87)), (1, .int p0), (2, .int p1)]) hx hb dX8_wants_81 hl (by decide) rfl (fun ls hl => ?_)
        refine lv_goto (tgt := 113) hx hb dX8_wants_83 (by decide) ?_
        refine lv_iload hx hb dX8_wants_113 (lv_at hl 0 rfl) ?_
        refine lv_iconst (v := 0) hx hb dX8_wants_115 (by decide) ?_
        refine lv_iload_n hx hb dX8_wants_116 rfl (lv_at hl 4 rfl) ?_
        obtain ⟨r29, M30, f31, h⟩ := zbi_e h
        refine z_qSi (As := [.int x28, .int (0 : Int32), .int p1]) (rest := []) X hw (kX8_held l D cy a x28 (0 : Int32) p1 M11 r29 M30 f31) (cwX8_61 X.2.2.2.2.2.1 rfl rfl (zroomO (Nat.le_of_ble_eq_true rfl) (Nat.le_of_ble_eq_true rfl))) rfl rfl (Nat.le_of_ble_eq_true rfl) hl.1 hcs dX8_wants_117 (fun H locs hw => ?_)
        exact z_ri X hw (zret h) dX8_wants_120
      replace h := zif_f c27 h
      by_cases c32 : r10 = (5 : Int32)
      · replace h := zif_t c32 h
        refine lv_tableIn (off := 53) (tgt := 92) hx hb dX8_wants_39 (by rw [c32]; decide) (by rw [c32]; decide) (by rw [c32]; rfl) (by decide) ?_
        refine lv_iconst (v := 2) hx hb dX8_wants_92 (by decide) ?_
        refine lv_iload_n hx hb dX8_wants_93 rfl (lv_at hl 4 rfl) ?_
        refine lv_iconst (v := 3) hx hb dX8_wants_94 (by decide) ?_
        refine lv_idiv hx hb dX8_wants_95 (by decide) ?_
        refine lv_imul hx hb dX8_wants_96 ?_
        refine lv_topi (fun x33 ex33 => ?_)
        replace h := zlt_s ex33 h
        refine lv_istore (lv' := [(4, .int x33), (3, .int r1), (0, .ref (a 87)), (1, .int p0), (2, .int p1)]) hx hb dX8_wants_97 hl (by decide) rfl (fun ls hl => ?_)
        refine lv_goto (tgt := 113) hx hb dX8_wants_99 (by decide) ?_
        refine lv_iload hx hb dX8_wants_113 (lv_at hl 0 rfl) ?_
        refine lv_iconst (v := 0) hx hb dX8_wants_115 (by decide) ?_
        refine lv_iload_n hx hb dX8_wants_116 rfl (lv_at hl 4 rfl) ?_
        obtain ⟨r34, M35, f36, h⟩ := zbi_e h
        refine z_qSi (As := [.int x33, .int (0 : Int32), .int p1]) (rest := []) X hw (kX8_held l D cy a x33 (0 : Int32) p1 M11 r34 M35 f36) (cwX8_61 X.2.2.2.2.2.1 rfl rfl (zroomO (Nat.le_of_ble_eq_true rfl) (Nat.le_of_ble_eq_true rfl))) rfl rfl (Nat.le_of_ble_eq_true rfl) hl.1 hcs dX8_wants_117 (fun H locs hw => ?_)
        exact z_ri X hw (zret h) dX8_wants_120
      replace h := zif_f c32 h
      by_cases c37 : r10 = (6 : Int32)
      · replace h := zif_t c37 h
        refine lv_tableIn (off := 63) (tgt := 102) hx hb dX8_wants_39 (by rw [c37]; decide) (by rw [c37]; decide) (by rw [c37]; rfl) (by decide) ?_
        refine lv_aload_n hx hb dX8_wants_102 rfl (lv_at hl 2 rfl) ?_
        refine lv_iload_n hx hb dX8_wants_103 rfl (lv_at hl 3 rfl) ?_
        refine lv_iload_n hx hb dX8_wants_104 rfl (lv_at hl 4 rfl) ?_
        obtain ⟨r38, M39, f40, h⟩ := zbi_e h
        refine z_qVi (As := [.int p0, .int p1]) (rest := []) X hw (kX8_takesTold l D cy a p0 p1 M11 r38 M39 f40) (cwX8_185 X.2.2.2.2.2.1 rfl rfl (zroomO (Nat.le_of_ble_eq_true rfl) (Nat.le_of_ble_eq_true rfl))) (zX8_lt (rfl : zX8 87)) (zS8 (rfl : zX8 87) cy a (M11 87)) rfl rfl rfl (Nat.le_of_ble_eq_true rfl) hl.1 hcs dX8_wants_105 (fun H locs hw => ?_)
        refine lv_istore (lv' := [(4, .int r38), (3, .int r1), (0, .ref (a 87)), (1, .int p0), (2, .int p1)]) hx hb dX8_wants_108 hl (by decide) rfl (fun ls hl => ?_)
        refine lv_goto (tgt := 113) hx hb dX8_wants_110 (by decide) ?_
        refine lv_iload hx hb dX8_wants_113 (lv_at hl 0 rfl) ?_
        refine lv_iconst (v := 0) hx hb dX8_wants_115 (by decide) ?_
        refine lv_iload_n hx hb dX8_wants_116 rfl (lv_at hl 4 rfl) ?_
        obtain ⟨r41, M42, f43, h⟩ := zbi_e h
        refine z_qSi (As := [.int r38, .int (0 : Int32), .int p1]) (rest := []) X hw (kX8_held l D cy a r38 (0 : Int32) p1 M39 r41 M42 f43) (cwX8_61 X.2.2.2.2.2.1 rfl rfl (zroomO (Nat.le_of_ble_eq_true rfl) (Nat.le_of_ble_eq_true rfl))) rfl rfl (Nat.le_of_ble_eq_true rfl) hl.1 hcs dX8_wants_117 (fun H locs hw => ?_)
        exact z_ri X hw (zret h) dX8_wants_120
      replace h := zif_f c37 h
      refine lv_tableOut (tgt := 113) hx hb dX8_wants_39 (by have tc13 := lv_neT c13 (a := 1) rfl; have tc18 := lv_neT c18 (a := 2) rfl; have tc22 := lv_neT c22 (a := 3) rfl; have tc27 := lv_neT c27 (a := 4) rfl; have tc32 := lv_neT c32 (a := 5) rfl; have tc37 := lv_neT c37 (a := 6) rfl; omega) (by decide) ?_
      refine lv_iload hx hb dX8_wants_113 (lv_at hl 0 rfl) ?_
      refine lv_iconst (v := 0) hx hb dX8_wants_115 (by decide) ?_
      refine lv_iload_n hx hb dX8_wants_116 rfl (lv_at hl 4 rfl) ?_
      obtain ⟨r44, M45, f46, h⟩ := zbi_e h
      refine z_qSi (As := [.int x9, .int (0 : Int32), .int p1]) (rest := []) X hw (kX8_held l D cy a x9 (0 : Int32) p1 M11 r44 M45 f46) (cwX8_61 X.2.2.2.2.2.1 rfl rfl (zroomO (Nat.le_of_ble_eq_true rfl) (Nat.le_of_ble_eq_true rfl))) rfl rfl (Nat.le_of_ble_eq_true rfl) hl.1 hcs dX8_wants_117 (fun H locs hw => ?_)
      exact z_ri X hw (zret h) dX8_wants_120
    · replace h := zif_f c8 h
      refine lv_iconst (v := 0) hx hb dX8_wants_26 (by decide) ?_
      exact z_ri X hw (zret h) dX8_wants_27
def fX8_flow_82 (y2 : Int32) (k : Int32 → zM → Option (zM)) : Nat → Int32 → Int32 → zM → Option (zM)
  | 0, _, _, _ => none
  | n + 1, v1, v4, M => if M 88 (0) ≤ v4 then (k v1 M) else (zbi (fX8_its v4 (2 : Int32) M) (fun r16 M17 => if r16 = y2 then (zbi (fX8_wants v4 v1 M17) (fun r21 M22 => zgd (v4 < 0 ∨ 9 ≤ v4.toNatClampNeg) (zlt (zst M22 96 (v4.toNatClampNeg) r21) (fun M24 => zgd (v4 < 0 ∨ 9 ≤ v4.toNatClampNeg) (zlt (v1 - (M24 96 (v4.toNatClampNeg))) (fun x27 => zgd (v4 < 0 ∨ 9 ≤ v4.toNatClampNeg) (zlt (zst M24 87 15 ((M24 87 15) + (M24 96 (v4.toNatClampNeg)))) (fun M29 => zlt (v4 + (1 : Int32)) (fun x30 => fX8_flow_82 y2 k n x27 x30 M29))))))))) else (zlt (v4 + (1 : Int32)) (fun x20 => fX8_flow_82 y2 k n v1 x20 M17))))
set_option maxRecDepth 100000 in
set_option maxHeartbeats 4000000 in
theorem lX8_flow_82 {p : Program} {l : Launch} {e : Env} {s : State} {m : MethodId} {args : Array Value} {below : List Frame} {meth : Method} {c : Code} {D : va_G} {cy : Nat → ClassId} {a : Nat → Nat} {M0 : zM} (X : zCX p s m meth c args cX8_flow 5 none RX8) (y2 : Int32) (k : Int32 → zM → Option (zM)) : ∀ (n : Nat) (v1 : Int32) (v4 : Int32) (M : zM) (H : Heap) (locs : List Loc) (ls : Array Slot), zWD D cy a (zfr a s.heap.size) M H locs s → lv_has ls 5 [(0, .ref (a 87)), (1, .int v1), (2, .int y2), (4, .int v4)] → fX8_flow_82 y2 k n v1 v4 M = some M0 →
    (∀ (u1 : Int32) (M' : zM) (H' : Heap) (locs' : List Loc) (ls' : Array Slot), zWD D cy a (zfr a s.heap.size) M' H' locs' s → lv_has ls' 5 [(0, .ref (a 87)), (1, .int u1), (2, .int y2)] → k u1 M' = some M0 → W p l e (zRm 4 94) s m args below meth c H' locs' 0 0 (zQv D cy a s args below M0) (F0 m 150 ls' [])) →
    W p l e (zRm 4 94) s m args below meth c H locs 0 0 (zQv D cy a s args below M0) (F0 m 82 ls []) := by
  obtain ⟨hx, hb, hr, hml, hown, hW, hlocks⟩ := id X
  have hcs : 0 ≤ ((zRm 4 94)).cells ∧ 0 ≤ ((zRm 4 94)).slots := ⟨Nat.zero_le _, Nat.zero_le _⟩
  intro n
  induction n with
  | zero =>
    intro v1 v4 M H locs ls hw hl h hk
    cases h
  | succ n ih =>
    intro v1 v4 M H locs ls hw hl h hk
    have hE := hw.2.2.2.2.1
    rw [fX8_flow_82] at h
    refine lv_iload hx hb dX8_flow_82 (lv_at hl 3 rfl) ?_
    refine lv_aload_n hx hb dX8_flow_84 rfl (lv_at hl 0 rfl) ?_
    refine gtX8_7 X hw dX8_flow_85 ?_
    refine lv_iconst (v := 0) hx hb dX8_flow_88 (by decide) ?_
    refine z_aldK (k := 0) X hw zI_88 (by decide) (by decide) (by decide) dX8_flow_89 ?_
    refine lv_icmp_ge (tgt := 150) hx hb dX8_flow_90 (by decide) (fun c15 => ?_) (fun c15 => ?_)
    · replace h := zif_t c15 h
      exact hk v1 M H locs _ hw (lv_sub hl [0, 1, 2] rfl) h
    · replace h := zif_f c15 h
      refine lv_aload_n hx hb dX8_flow_93 rfl (lv_at hl 0 rfl) ?_
      refine lv_iload hx hb dX8_flow_94 (lv_at hl 3 rfl) ?_
      refine lv_iconst (v := 2) hx hb dX8_flow_96 (by decide) ?_
      obtain ⟨r16, M17, f18, h⟩ := zbi_e h
      refine z_qVi (As := [.int v4, .int (2 : Int32)]) (rest := []) X hw (kX8_its l D cy a v4 (2 : Int32) M r16 M17 f18) (cwX8_90 X.2.2.2.2.2.1 rfl rfl (zroomO (Nat.le_of_ble_eq_true rfl) (Nat.le_of_ble_eq_true rfl))) (zX8_lt (rfl : zX8 87)) (zS8 (rfl : zX8 87) cy a (M 87)) rfl rfl rfl (Nat.le_of_ble_eq_true rfl) hl.1 hcs dX8_flow_97 (fun H locs hw => ?_)
      refine lv_iload_n hx hb dX8_flow_100 rfl (lv_at hl 2 rfl) ?_
      refine lv_icmp_ne (tgt := 144) hx hb dX8_flow_101 (by decide) (fun c19 => ?_) (fun c19 => ?_)
      · replace h := zif_f c19 h
        obtain ⟨x20, ex20⟩ : ∃ y : Int32, y = v4 + (1 : Int32) := ⟨_, rfl⟩
        replace h := zlt_s ex20 h
        refine lv_iinc (v := x20) (lv' := [(4, .int x20), (0, .ref (a 87)), (1, .int v1), (2, .int y2)]) hx hb dX8_flow_144 hl (k := 3) rfl (by rw [ex20]; rfl) (by decide) rfl (fun ls hl => ?_)
        refine lv_goto (tgt := 82) hx hb dX8_flow_147 (by decide) ?_
        exact ih v1 x20 M17 H locs _ hw (lv_sub hl [1, 2, 3, 0] rfl) h hk
      · replace h := zif_t c19 h
        refine lv_aload_n hx hb dX8_flow_104 rfl (lv_at hl 0 rfl) ?_
        refine gtX8_34 X hw dX8_flow_105 ?_
        refine lv_iload hx hb dX8_flow_108 (lv_at hl 3 rfl) ?_
        refine lv_aload_n hx hb dX8_flow_110 rfl (lv_at hl 0 rfl) ?_
        refine lv_iload hx hb dX8_flow_111 (lv_at hl 3 rfl) ?_
        refine lv_iload_n hx hb dX8_flow_113 rfl (lv_at hl 1 rfl) ?_
        obtain ⟨r21, M22, f23, h⟩ := zbi_e h
        refine z_qVi (As := [.int v4, .int v1]) (rest := [.int v4, .ref (a 96)]) X hw (kX8_wants l D cy a v4 v1 M17 r21 M22 f23) (cwX8_200 X.2.2.2.2.2.1 rfl rfl (zroomO (Nat.le_of_ble_eq_true rfl) (Nat.le_of_ble_eq_true rfl))) (zX8_lt (rfl : zX8 87)) (zS8 (rfl : zX8 87) cy a (M17 87)) rfl rfl rfl (Nat.le_of_ble_eq_true rfl) hl.1 hcs dX8_flow_114 (fun H locs hw => ?_)
        obtain ⟨g25, h⟩ := zgd_e h
        refine z_ast X hw zI_96 g25 dX8_flow_117 (fun M24 H locs eM24 hw => ?_)
        replace h := zlt_s eM24 h
        refine lv_iload_n hx hb dX8_flow_118 rfl (lv_at hl 1 rfl) ?_
        refine lv_aload_n hx hb dX8_flow_119 rfl (lv_at hl 0 rfl) ?_
        refine gtX8_34 X hw dX8_flow_120 ?_
        refine lv_iload hx hb dX8_flow_123 (lv_at hl 3 rfl) ?_
        obtain ⟨g26, h⟩ := zgd_e h
        refine z_ald X hw zI_96 g26 dX8_flow_125 ?_
        refine lv_isub hx hb dX8_flow_126 ?_
        refine lv_topi (fun x27 ex27 => ?_)
        replace h := zlt_s ex27 h
        refine lv_istore_n (lv' := [(1, .int x27), (0, .ref (a 87)), (2, .int y2), (4, .int v4)]) hx hb dX8_flow_127 rfl hl (by decide) rfl (fun ls hl => ?_)
        refine lv_aload_n hx hb dX8_flow_128 rfl (lv_at hl 1 rfl) ?_
        refine lv_dup hx hb dX8_flow_129 rfl ?_
        refine gtX8_197 X hw dX8_flow_130 ?_
        refine lv_aload_n hx hb dX8_flow_133 rfl (lv_at hl 1 rfl) ?_
        refine gtX8_34 X hw dX8_flow_134 ?_
        refine lv_iload hx hb dX8_flow_137 (lv_at hl 3 rfl) ?_
        obtain ⟨g28, h⟩ := zgd_e h
        refine z_ald X hw zI_96 g28 dX8_flow_139 ?_
        refine lv_iadd hx hb dX8_flow_140 ?_
        refine ptX8_197 X hw dX8_flow_141 (fun M29 H locs eM29 hw => ?_)
        replace h := zlt_s eM29 h
        obtain ⟨x30, ex30⟩ : ∃ y : Int32, y = v4 + (1 : Int32) := ⟨_, rfl⟩
        replace h := zlt_s ex30 h
        refine lv_iinc (v := x30) (lv' := [(4, .int x30), (1, .int x27), (0, .ref (a 87)), (2, .int y2)]) hx hb dX8_flow_144 hl (k := 3) rfl (by rw [ex30]; rfl) (by decide) rfl (fun ls hl => ?_)
        refine lv_goto (tgt := 82) hx hb dX8_flow_147 (by decide) ?_
        exact ih x27 x30 M29 H locs _ hw (lv_sub hl [2, 1, 3, 0] rfl) h hk
def fX8_flow_25 (k : Int32 → zM → Option (zM)) : Nat → Int32 → Int32 → zM → Option (zM)
  | 0, _, _, _ => none
  | n + 1, v1, v2, M => if (12 : Int32) ≤ v2 then (k v1 M) else (zgd (v2 < 0 ∨ 13 ≤ v2.toNatClampNeg) (zlt (zst M 95 (v2.toNatClampNeg) v1) (fun M9 => zgd ((30 : Int32) + v2 < 0 ∨ 449 ≤ ((30 : Int32) + v2).toNatClampNeg) (if v1 ≤ M9 88 (((30 : Int32) + v2).toNatClampNeg) then (zlt (v1 - v1) (fun x13 => zlt (zst M9 87 14 ((M9 87 14) + v1)) (fun M14 => fX8_flow_82 v2 (fun x31 M32 => zlt (v2 + (1 : Int32)) (fun x33 => fX8_flow_25 k n x31 x33 M32)) zF x13 (0 : Int32) M14))) else (zgd ((30 : Int32) + v2 < 0 ∨ 449 ≤ ((30 : Int32) + v2).toNatClampNeg) (zlt (M9 88 (((30 : Int32) + v2).toNatClampNeg)) (fun x35 => zlt (v1 - x35) (fun x36 => zlt (zst M9 87 14 ((M9 87 14) + x35)) (fun M37 => fX8_flow_82 v2 (fun x38 M39 => zlt (v2 + (1 : Int32)) (fun x40 => fX8_flow_25 k n x38 x40 M39)) zF x36 (0 : Int32) M37)))))))))
set_option maxRecDepth 100000 in
set_option maxHeartbeats 4000000 in
theorem lX8_flow_25 {p : Program} {l : Launch} {e : Env} {s : State} {m : MethodId} {args : Array Value} {below : List Frame} {meth : Method} {c : Code} {D : va_G} {cy : Nat → ClassId} {a : Nat → Nat} {M0 : zM} (X : zCX p s m meth c args cX8_flow 5 none RX8) (k : Int32 → zM → Option (zM)) : ∀ (n : Nat) (v1 : Int32) (v2 : Int32) (M : zM) (H : Heap) (locs : List Loc) (ls : Array Slot), zWD D cy a (zfr a s.heap.size) M H locs s → lv_has ls 5 [(0, .ref (a 87)), (1, .int v1), (2, .int v2)] → fX8_flow_25 k n v1 v2 M = some M0 →
    (∀ (u1 : Int32) (M' : zM) (H' : Heap) (locs' : List Loc) (ls' : Array Slot), zWD D cy a (zfr a s.heap.size) M' H' locs' s → lv_has ls' 5 [(0, .ref (a 87)), (1, .int u1)] → k u1 M' = some M0 → W p l e (zRm 4 94) s m args below meth c H' locs' 0 0 (zQv D cy a s args below M0) (F0 m 156 ls' [])) →
    W p l e (zRm 4 94) s m args below meth c H locs 0 0 (zQv D cy a s args below M0) (F0 m 25 ls []) := by
  obtain ⟨hx, hb, hr, hml, hown, hW, hlocks⟩ := id X
  have hcs : 0 ≤ ((zRm 4 94)).cells ∧ 0 ≤ ((zRm 4 94)).slots := ⟨Nat.zero_le _, Nat.zero_le _⟩
  intro n
  induction n with
  | zero =>
    intro v1 v2 M H locs ls hw hl h hk
    cases h
  | succ n ih =>
    intro v1 v2 M H locs ls hw hl h hk
    have hE := hw.2.2.2.2.1
    rw [fX8_flow_25] at h
    refine lv_iload_n hx hb dX8_flow_25 rfl (lv_at hl 2 rfl) ?_
    refine lv_bipush (v := 12) hx hb dX8_flow_26 (by decide) ?_
    refine lv_icmp_ge (tgt := 156) hx hb dX8_flow_28 (by decide) (fun c8 => ?_) (fun c8 => ?_)
    · replace h := zif_t c8 h
      exact hk v1 M H locs _ hw (lv_sub hl [0, 1] rfl) h
    · replace h := zif_f c8 h
      refine lv_aload_n hx hb dX8_flow_31 rfl (lv_at hl 0 rfl) ?_
      refine gtX8_31 X hw dX8_flow_32 ?_
      refine lv_iload_n hx hb dX8_flow_35 rfl (lv_at hl 2 rfl) ?_
      refine lv_iload_n hx hb dX8_flow_36 rfl (lv_at hl 1 rfl) ?_
      obtain ⟨g10, h⟩ := zgd_e h
      refine z_ast X hw zI_95 g10 dX8_flow_37 (fun M9 H locs eM9 hw => ?_)
      replace h := zlt_s eM9 h
      refine lv_aload_n hx hb dX8_flow_38 rfl (lv_at hl 0 rfl) ?_
      refine gtX8_7 X hw dX8_flow_39 ?_
      refine lv_bipush (v := 30) hx hb dX8_flow_42 (by decide) ?_
      refine lv_iload_n hx hb dX8_flow_44 rfl (lv_at hl 2 rfl) ?_
      refine lv_iadd hx hb dX8_flow_45 ?_
      obtain ⟨g11, h⟩ := zgd_e h
      refine z_ald X hw zI_88 g11 dX8_flow_46 ?_
      refine lv_iload_n hx hb dX8_flow_47 rfl (lv_at hl 1 rfl) ?_
      refine lv_icmp_ge (tgt := 63) hx hb dX8_flow_48 (by decide) (fun c12 => ?_) (fun c12 => ?_)
      · replace h := zif_t c12 h
        refine lv_iload_n hx hb dX8_flow_63 rfl (lv_at hl 1 rfl) ?_
        refine lv_istore_n (lv' := [(3, .int v1), (0, .ref (a 87)), (1, .int v1), (2, .int v2)]) hx hb dX8_flow_64 rfl hl (by decide) rfl (fun ls hl => ?_)
        refine lv_iload_n hx hb dX8_flow_65 rfl (lv_at hl 2 rfl) ?_
        refine lv_iload_n hx hb dX8_flow_66 rfl (lv_at hl 0 rfl) ?_
        refine lv_isub hx hb dX8_flow_67 ?_
        refine lv_topi (fun x13 ex13 => ?_)
        replace h := zlt_s ex13 h
        refine lv_istore_n (lv' := [(1, .int x13), (3, .int v1), (0, .ref (a 87)), (2, .int v2)]) hx hb dX8_flow_68 rfl hl (by decide) rfl (fun ls hl => ?_)
        refine lv_aload_n hx hb dX8_flow_69 rfl (lv_at hl 2 rfl) ?_
        refine lv_dup hx hb dX8_flow_70 rfl ?_
        refine gtX8_194 X hw dX8_flow_71 ?_
        refine lv_iload_n hx hb dX8_flow_74 rfl (lv_at hl 1 rfl) ?_
        refine lv_iadd hx hb dX8_flow_75 ?_
        refine ptX8_194 X hw dX8_flow_76 (fun M14 H locs eM14 hw => ?_)
        replace h := zlt_s eM14 h
        refine lv_iconst (v := 0) hx hb dX8_flow_79 (by decide) ?_
        refine lv_istore (lv' := [(4, .int (0 : Int32)), (1, .int x13), (3, .int v1), (0, .ref (a 87)), (2, .int v2)]) hx hb dX8_flow_80 hl (by decide) rfl (fun ls hl => ?_)
        refine lX8_flow_82 X v2 _ zF x13 (0 : Int32) M14 H locs _ hw (lv_sub hl [3, 1, 4, 0] rfl) h (fun x31 M32 H locs ls hw hl h => ?_)
        obtain ⟨x33, ex33⟩ : ∃ y : Int32, y = v2 + (1 : Int32) := ⟨_, rfl⟩
        replace h := zlt_s ex33 h
        refine lv_iinc (v := x33) (lv' := [(2, .int x33), (0, .ref (a 87)), (1, .int x31)]) hx hb dX8_flow_150 hl (k := 2) rfl (by rw [ex33]; rfl) (by decide) rfl (fun ls hl => ?_)
        refine lv_goto (tgt := 25) hx hb dX8_flow_153 (by decide) ?_
        exact ih x31 x33 M32 H locs _ hw (lv_sub hl [1, 2, 0] rfl) h hk
      · replace h := zif_f c12 h
        refine lv_aload_n hx hb dX8_flow_51 rfl (lv_at hl 0 rfl) ?_
        refine gtX8_7 X hw dX8_flow_52 ?_
        refine lv_bipush (v := 30) hx hb dX8_flow_55 (by decide) ?_
        refine lv_iload_n hx hb dX8_flow_57 rfl (lv_at hl 2 rfl) ?_
        refine lv_iadd hx hb dX8_flow_58 ?_
        obtain ⟨g34, h⟩ := zgd_e h
        refine z_ald X hw zI_88 g34 dX8_flow_59 ?_
        refine lv_goto (tgt := 64) hx hb dX8_flow_60 (by decide) ?_
        refine lv_topi (fun x35 ex35 => ?_)
        replace h := zlt_s ex35 h
        refine lv_istore_n (lv' := [(3, .int x35), (0, .ref (a 87)), (1, .int v1), (2, .int v2)]) hx hb dX8_flow_64 rfl hl (by decide) rfl (fun ls hl => ?_)
        refine lv_iload_n hx hb dX8_flow_65 rfl (lv_at hl 2 rfl) ?_
        refine lv_iload_n hx hb dX8_flow_66 rfl (lv_at hl 0 rfl) ?_
        refine lv_isub hx hb dX8_flow_67 ?_
        refine lv_topi (fun x36 ex36 => ?_)
        replace h := zlt_s ex36 h
        refine lv_istore_n (lv' := [(1, .int x36), (3, .int x35), (0, .ref (a 87)), (2, .int v2)]) hx hb dX8_flow_68 rfl hl (by decide) rfl (fun ls hl => ?_)
        refine lv_aload_n hx hb dX8_flow_69 rfl (lv_at hl 2 rfl) ?_
        refine lv_dup hx hb dX8_flow_70 rfl ?_
        refine gtX8_194 X hw dX8_flow_71 ?_
        refine lv_iload_n hx hb dX8_flow_74 rfl (lv_at hl 1 rfl) ?_
        refine lv_iadd hx hb dX8_flow_75 ?_
        refine ptX8_194 X hw dX8_flow_76 (fun M37 H locs eM37 hw => ?_)
        replace h := zlt_s eM37 h
        refine lv_iconst (v := 0) hx hb dX8_flow_79 (by decide) ?_
        refine lv_istore (lv' := [(4, .int (0 : Int32)), (1, .int x36), (3, .int x35), (0, .ref (a 87)), (2, .int v2)]) hx hb dX8_flow_80 hl (by decide) rfl (fun ls hl => ?_)
        refine lX8_flow_82 X v2 _ zF x36 (0 : Int32) M37 H locs _ hw (lv_sub hl [3, 1, 4, 0] rfl) h (fun x38 M39 H locs ls hw hl h => ?_)
        obtain ⟨x40, ex40⟩ : ∃ y : Int32, y = v2 + (1 : Int32) := ⟨_, rfl⟩
        replace h := zlt_s ex40 h
        refine lv_iinc (v := x40) (lv' := [(2, .int x40), (0, .ref (a 87)), (1, .int x38)]) hx hb dX8_flow_150 hl (k := 2) rfl (by rw [ex40]; rfl) (by decide) rfl (fun ls hl => ?_)
        refine lv_goto (tgt := 25) hx hb dX8_flow_153 (by decide) ?_
        exact ih x38 x40 M39 H locs _ hw (lv_sub hl [1, 2, 0] rfl) h hk
def fX8_flow (M : zM) : Option (zM) := zbi (fX8_hourOfDay M) (fun r1 M2 => zgd ((6 : Int32) + r1 < 0 ∨ 449 ≤ ((6 : Int32) + r1).toNatClampNeg) (zlt (M2 88 (((6 : Int32) + r1).toNatClampNeg)) (fun x5 => zlt (zst M2 87 14 (0 : Int32)) (fun M6 => zlt (zst M6 87 15 (0 : Int32)) (fun M7 => fX8_flow_25  (fun x41 M42 => zlt (zst M42 95 (12) x41) (fun M43 => some M43)) zF x5 (0 : Int32) M7)))))
set_option maxRecDepth 100000 in
set_option maxHeartbeats 4000000 in
theorem kX8_flow (l : Launch) (D : va_G) (cy : Nat → ClassId) (a : Nat → Nat) (M : zM) (M0 : zM) (h : fX8_flow  M = some M0) : zCv l D cy a yX8_flow cX8_flow 5 (zRm 4 94) [.ref (a 87)] M (fun u => u = M0) := by
  intro sz
  refine zent_v sz (by decide) (Nat.le_of_ble_eq_true rfl) rfl (fun p e s m args below meth c ls H locs X hw hl => ?_)
  obtain ⟨hx, hb, hr, hml, hown, hW, hlocks⟩ := id X
  have hE := hw.2.2.2.2.1
  have hcs : 0 ≤ ((zRm 4 94)).cells ∧ 0 ≤ ((zRm 4 94)).slots := ⟨Nat.zero_le _, Nat.zero_le _⟩
  rw [fX8_flow] at h
  refine lv_aload_n hx hb dX8_flow_0 rfl (lv_at hl 0 rfl) ?_
  refine gtX8_7 X hw dX8_flow_1 ?_
  refine lv_bipush (v := 6) hx hb dX8_flow_4 (by decide) ?_
  refine lv_aload_n hx hb dX8_flow_6 rfl (lv_at hl 0 rfl) ?_
  obtain ⟨r1, M2, f3, h⟩ := zbi_e h
  refine z_qVi (As := []) (rest := [.int (6 : Int32), .ref (a 88)]) X hw (kX8_hourOfDay l D cy a M r1 M2 f3) (cwX8_179 X.2.2.2.2.2.1 rfl rfl (zroomO (Nat.le_of_ble_eq_true rfl) (Nat.le_of_ble_eq_true rfl))) (zX8_lt (rfl : zX8 87)) (zS8 (rfl : zX8 87) cy a (M 87)) rfl rfl rfl (Nat.le_of_ble_eq_true rfl) hl.1 hcs dX8_flow_7 (fun H locs hw => ?_)
  refine lv_iadd hx hb dX8_flow_10 ?_
  obtain ⟨g4, h⟩ := zgd_e h
  refine z_ald X hw zI_88 g4 dX8_flow_11 ?_
  refine lv_topi (fun x5 ex5 => ?_)
  replace h := zlt_s ex5 h
  refine lv_istore_n (lv' := [(1, .int x5), (0, .ref (a 87))]) hx hb dX8_flow_12 rfl hl (by decide) rfl (fun ls hl => ?_)
  refine lv_aload_n hx hb dX8_flow_13 rfl (lv_at hl 1 rfl) ?_
  refine lv_iconst (v := 0) hx hb dX8_flow_14 (by decide) ?_
  refine ptX8_194 X hw dX8_flow_15 (fun M6 H locs eM6 hw => ?_)
  replace h := zlt_s eM6 h
  refine lv_aload_n hx hb dX8_flow_18 rfl (lv_at hl 1 rfl) ?_
  refine lv_iconst (v := 0) hx hb dX8_flow_19 (by decide) ?_
  refine ptX8_197 X hw dX8_flow_20 (fun M7 H locs eM7 hw => ?_)
  replace h := zlt_s eM7 h
  refine lv_iconst (v := 0) hx hb dX8_flow_23 (by decide) ?_
  refine lv_istore_n (lv' := [(2, .int (0 : Int32)), (1, .int x5), (0, .ref (a 87))]) hx hb dX8_flow_24 rfl hl (by decide) rfl (fun ls hl => ?_)
  refine lX8_flow_25 X  _ zF x5 (0 : Int32) M7 H locs _ hw (lv_sub hl [2, 1, 0] rfl) h (fun x41 M42 H locs ls hw hl h => ?_)
  refine lv_aload_n hx hb dX8_flow_156 rfl (lv_at hl 0 rfl) ?_
  refine gtX8_31 X hw dX8_flow_157 ?_
  refine lv_bipush (v := 12) hx hb dX8_flow_160 (by decide) ?_
  refine lv_iload_n hx hb dX8_flow_162 rfl (lv_at hl 1 rfl) ?_
  refine z_astK (k := 12) X hw zI_95 (by decide) (by decide) (by decide) dX8_flow_163 (fun M43 H locs eM43 hw => ?_)
  replace h := zlt_s eM43 h
  exact z_rv X hw (zretv h) dX8_flow_164
def fX8_turnsTold (p0 : Int32) (p1 : Int32) (M : zM) : Option (Int32 × zM) := zbi (fX8_hasText (1 : Int32) M) (fun r1 M2 => if r1 = 0 then (some (p1, M2)) else (zlt (zst M2 93 (116) p1) (fun M5 => zbi (fX8_its p0 (5 : Int32) M5) (fun r6 M7 => zlt (zst M7 93 (99) r6) (fun M9 => zbi (fX8_its p0 (1 : Int32) M9) (fun r10 M11 => zlt (zst M11 93 (109) r10) (fun M13 => zbi (fX8_worked (1 : Int32) M13) (fun r14 M15 => some (r14, M15)))))))))
set_option maxRecDepth 100000 in
set_option maxHeartbeats 4000000 in
theorem kX8_turnsTold (l : Launch) (D : va_G) (cy : Nat → ClassId) (a : Nat → Nat) (p0 : Int32) (p1 : Int32) (M : zM) (r0 : Int32) (M0 : zM) (h : fX8_turnsTold p0 p1 M = some (r0, M0)) : zCi l D cy a yX8_turnsTold cX8_turnsTold 3 (some .int) (zRm 2 48) [.ref (a 87), .int p0, .int p1] M (fun r u => r = r0 ∧ u = M0) := by
  intro sz
  refine zent_i sz (by decide) (Nat.le_of_ble_eq_true rfl) rfl (fun p e s m args below meth c ls H locs X hw hl => ?_)
  obtain ⟨hx, hb, hr, hml, hown, hW, hlocks⟩ := id X
  have hE := hw.2.2.2.2.1
  have hcs : 0 ≤ ((zRm 2 48)).cells ∧ 0 ≤ ((zRm 2 48)).slots := ⟨Nat.zero_le _, Nat.zero_le _⟩
  rw [fX8_turnsTold] at h
  refine lv_aload_n hx hb dX8_turnsTold_0 rfl (lv_at hl 0 rfl) ?_
  refine lv_iconst (v := 1) hx hb dX8_turnsTold_1 (by decide) ?_
  obtain ⟨r1, M2, f3, h⟩ := zbi_e h
  refine z_qVi (As := [.int (1 : Int32)]) (rest := []) X hw (kX8_hasText l D cy a (1 : Int32) M r1 M2 f3) (cwX8_173 X.2.2.2.2.2.1 rfl rfl (zroomO (Nat.le_of_ble_eq_true rfl) (Nat.le_of_ble_eq_true rfl))) (zX8_lt (rfl : zX8 87)) (zS8 (rfl : zX8 87) cy a (M 87)) rfl rfl rfl (Nat.le_of_ble_eq_true rfl) hl.1 hcs dX8_turnsTold_2 (fun H locs hw => ?_)
  refine lv_if_ne (tgt := 10) hx hb dX8_turnsTold_5 (by decide) (fun c4 => ?_) (fun c4 => ?_)
  · replace h := zif_f c4 h
    refine lv_aload_n hx hb dX8_turnsTold_10 rfl (lv_at hl 0 rfl) ?_
    refine gtX8_25 X hw dX8_turnsTold_11 ?_
    refine lv_bipush (v := 116) hx hb dX8_turnsTold_14 (by decide) ?_
    refine lv_iload_n hx hb dX8_turnsTold_16 rfl (lv_at hl 2 rfl) ?_
    refine z_astK (k := 116) X hw zI_93 (by decide) (by decide) (by decide) dX8_turnsTold_17 (fun M5 H locs eM5 hw => ?_)
    replace h := zlt_s eM5 h
    refine lv_aload_n hx hb dX8_turnsTold_18 rfl (lv_at hl 0 rfl) ?_
    refine gtX8_25 X hw dX8_turnsTold_19 ?_
    refine lv_bipush (v := 99) hx hb dX8_turnsTold_22 (by decide) ?_
    refine lv_aload_n hx hb dX8_turnsTold_24 rfl (lv_at hl 0 rfl) ?_
    refine lv_iload_n hx hb dX8_turnsTold_25 rfl (lv_at hl 1 rfl) ?_
    refine lv_iconst (v := 5) hx hb dX8_turnsTold_26 (by decide) ?_
    obtain ⟨r6, M7, f8, h⟩ := zbi_e h
    refine z_qVi (As := [.int p0, .int (5 : Int32)]) (rest := [.int (99 : Int32), .ref (a 93)]) X hw (kX8_its l D cy a p0 (5 : Int32) M5 r6 M7 f8) (cwX8_90 X.2.2.2.2.2.1 rfl rfl (zroomO (Nat.le_of_ble_eq_true rfl) (Nat.le_of_ble_eq_true rfl))) (zX8_lt (rfl : zX8 87)) (zS8 (rfl : zX8 87) cy a (M5 87)) rfl rfl rfl (Nat.le_of_ble_eq_true rfl) hl.1 hcs dX8_turnsTold_27 (fun H locs hw => ?_)
    refine z_astK (k := 99) X hw zI_93 (by decide) (by decide) (by decide) dX8_turnsTold_30 (fun M9 H locs eM9 hw => ?_)
    replace h := zlt_s eM9 h
    refine lv_aload_n hx hb dX8_turnsTold_31 rfl (lv_at hl 0 rfl) ?_
    refine gtX8_25 X hw dX8_turnsTold_32 ?_
    refine lv_bipush (v := 109) hx hb dX8_turnsTold_35 (by decide) ?_
    refine lv_aload_n hx hb dX8_turnsTold_37 rfl (lv_at hl 0 rfl) ?_
    refine lv_iload_n hx hb dX8_turnsTold_38 rfl (lv_at hl 1 rfl) ?_
    refine lv_iconst (v := 1) hx hb dX8_turnsTold_39 (by decide) ?_
    obtain ⟨r10, M11, f12, h⟩ := zbi_e h
    refine z_qVi (As := [.int p0, .int (1 : Int32)]) (rest := [.int (109 : Int32), .ref (a 93)]) X hw (kX8_its l D cy a p0 (1 : Int32) M9 r10 M11 f12) (cwX8_90 X.2.2.2.2.2.1 rfl rfl (zroomO (Nat.le_of_ble_eq_true rfl) (Nat.le_of_ble_eq_true rfl))) (zX8_lt (rfl : zX8 87)) (zS8 (rfl : zX8 87) cy a (M9 87)) rfl rfl rfl (Nat.le_of_ble_eq_true rfl) hl.1 hcs dX8_turnsTold_40 (fun H locs hw => ?_)
    refine z_astK (k := 109) X hw zI_93 (by decide) (by decide) (by decide) dX8_turnsTold_43 (fun M13 H locs eM13 hw => ?_)
    replace h := zlt_s eM13 h
    refine lv_aload_n hx hb dX8_turnsTold_44 rfl (lv_at hl 0 rfl) ?_
    refine lv_iconst (v := 1) hx hb dX8_turnsTold_45 (by decide) ?_
    obtain ⟨r14, M15, f16, h⟩ := zbi_e h
    refine z_qVi (As := [.int (1 : Int32)]) (rest := []) X hw (kX8_worked l D cy a (1 : Int32) M13 r14 M15 f16) (cwX8_182 X.2.2.2.2.2.1 rfl rfl (zroomO (Nat.le_of_ble_eq_true rfl) (Nat.le_of_ble_eq_true rfl))) (zX8_lt (rfl : zX8 87)) (zS8 (rfl : zX8 87) cy a (M13 87)) rfl rfl rfl (Nat.le_of_ble_eq_true rfl) hl.1 hcs dX8_turnsTold_46 (fun H locs hw => ?_)
    exact z_ri X hw (zret h) dX8_turnsTold_49
  · replace h := zif_t c4 h
    refine lv_iload_n hx hb dX8_turnsTold_8 rfl (lv_at hl 2 rfl) ?_
    exact z_ri X hw (zret h) dX8_turnsTold_9
def fX8_turns (p0 : Int32) (p1 : Int32) (M : zM) : Option (Int32 × zM) := zbi (fX8_its p0 (0 : Int32) M) (fun r1 M2 => if r1 = (1 : Int32) then (zlt (p1 / (2 : Int32)) (fun x5 => zbi (fX8_held x5 (0 : Int32) (9999 : Int32) M2) (fun r6 M7 => some (r6, M7)))) else (if r1 = (3 : Int32) then (zlt ((2 : Int32) * p1) (fun x10 => zbi (fX8_held x10 (0 : Int32) (9999 : Int32) M2) (fun r11 M12 => some (r11, M12)))) else (if r1 = (4 : Int32) then (if p1 / (2 : Int32) ≤ 0 then (zbi (fX8_held (0 : Int32) (0 : Int32) (9999 : Int32) M2) (fun r16 M17 => some (r16, M17))) else (zlt ((p1 / (2 : Int32)) + (1 : Int32)) (fun x19 => zbi (fX8_held x19 (0 : Int32) (9999 : Int32) M2) (fun r20 M21 => some (r20, M21))))) else (if r1 = (5 : Int32) then (zbi (fX8_held (0 : Int32) (0 : Int32) (9999 : Int32) M2) (fun r24 M25 => some (r24, M25))) else (if r1 = (6 : Int32) then (zbi (fX8_turnsTold p0 p1 M2) (fun r28 M29 => zbi (fX8_held r28 (0 : Int32) (9999 : Int32) M29) (fun r31 M32 => some (r31, M32)))) else (zbi (fX8_held p1 (0 : Int32) (9999 : Int32) M2) (fun r34 M35 => some (r34, M35))))))))
set_option maxRecDepth 100000 in
set_option maxHeartbeats 4000000 in
theorem kX8_turns (l : Launch) (D : va_G) (cy : Nat → ClassId) (a : Nat → Nat) (p0 : Int32) (p1 : Int32) (M : zM) (r0 : Int32) (M0 : zM) (h : fX8_turns p0 p1 M = some (r0, M0)) : zCi l D cy a yX8_turns cX8_turns 4 (some .int) (zRm 3 70) [.ref (a 87), .int p0, .int p1] M (fun r u => r = r0 ∧ u = M0) := by
  intro sz
  refine zent_i sz (by decide) (Nat.le_of_ble_eq_true rfl) rfl (fun p e s m args below meth c ls H locs X hw hl => ?_)
  obtain ⟨hx, hb, hr, hml, hown, hW, hlocks⟩ := id X
  have hE := hw.2.2.2.2.1
  have hcs : 0 ≤ ((zRm 3 70)).cells ∧ 0 ≤ ((zRm 3 70)).slots := ⟨Nat.zero_le _, Nat.zero_le _⟩
  rw [fX8_turns] at h
  refine lv_iload_n hx hb dX8_turns_0 rfl (lv_at hl 2 rfl) ?_
  refine lv_istore_n (lv' := [(3, .int p1), (0, .ref (a 87)), (1, .int p0), (2, .int p1)]) hx hb dX8_turns_1 rfl hl (by decide) rfl (fun ls hl => ?_)
  refine lv_aload_n hx hb dX8_turns_2 rfl (lv_at hl 1 rfl) ?_
  refine lv_iload_n hx hb dX8_turns_3 rfl (lv_at hl 2 rfl) ?_
  refine lv_iconst (v := 0) hx hb dX8_turns_4 (by decide) ?_
  obtain ⟨r1, M2, f3, h⟩ := zbi_e h
  refine z_qVi (As := [.int p0, .int (0 : Int32)]) (rest := []) X hw (kX8_its l D cy a p0 (0 : Int32) M r1 M2 f3) (cwX8_90 X.2.2.2.2.2.1 rfl rfl (zroomO (Nat.le_of_ble_eq_true rfl) (Nat.le_of_ble_eq_true rfl))) (zX8_lt (rfl : zX8 87)) (zS8 (rfl : zX8 87) cy a (M 87)) rfl rfl rfl (Nat.le_of_ble_eq_true rfl) hl.1 hcs dX8_turns_5 (fun H locs hw => ?_)
  by_cases c4 : r1 = (1 : Int32)
  · replace h := zif_t c4 h
    refine lv_tableIn (off := 40) (tgt := 48) hx hb dX8_turns_8 (by rw [c4]; decide) (by rw [c4]; decide) (by rw [c4]; rfl) (by decide) ?_
    refine lv_iload_n hx hb dX8_turns_48 rfl (lv_at hl 3 rfl) ?_
    refine lv_iconst (v := 2) hx hb dX8_turns_49 (by decide) ?_
    refine lv_idiv hx hb dX8_turns_50 (by decide) ?_
    refine lv_topi (fun x5 ex5 => ?_)
    replace h := zlt_s ex5 h
    refine lv_istore_n (lv' := [(3, .int x5), (0, .ref (a 87)), (1, .int p0), (2, .int p1)]) hx hb dX8_turns_51 rfl hl (by decide) rfl (fun ls hl => ?_)
    refine lv_goto (tgt := 96) hx hb dX8_turns_52 (by decide) ?_
    refine lv_iload_n hx hb dX8_turns_96 rfl (lv_at hl 0 rfl) ?_
    refine lv_iconst (v := 0) hx hb dX8_turns_97 (by decide) ?_
    refine lv_sipush (v := 9999) hx hb dX8_turns_98 (by decide) ?_
    obtain ⟨r6, M7, f8, h⟩ := zbi_e h
    refine z_qSi (As := [.int x5, .int (0 : Int32), .int (9999 : Int32)]) (rest := []) X hw (kX8_held l D cy a x5 (0 : Int32) (9999 : Int32) M2 r6 M7 f8) (cwX8_61 X.2.2.2.2.2.1 rfl rfl (zroomO (Nat.le_of_ble_eq_true rfl) (Nat.le_of_ble_eq_true rfl))) rfl rfl (Nat.le_of_ble_eq_true rfl) hl.1 hcs dX8_turns_101 (fun H locs hw => ?_)
    exact z_ri X hw (zret h) dX8_turns_104
  replace h := zif_f c4 h
  by_cases c9 : r1 = (3 : Int32)
  · replace h := zif_t c9 h
    refine lv_tableIn (off := 47) (tgt := 55) hx hb dX8_turns_8 (by rw [c9]; decide) (by rw [c9]; decide) (by rw [c9]; rfl) (by decide) ?_
    refine lv_iconst (v := 2) hx hb dX8_turns_55 (by decide) ?_
    refine lv_iload_n hx hb dX8_turns_56 rfl (lv_at hl 3 rfl) ?_
    refine lv_imul hx hb dX8_turns_57 ?_
    refine lv_topi (fun x10 ex10 => ?_)
    replace h := zlt_s ex10 h
    refine lv_istore_n (lv' := [(3, .int x10), (0, .ref (a 87)), (1, .int p0), (2, .int p1)]) hx hb dX8_turns_58 rfl hl (by decide) rfl (fun ls hl => ?_)
    refine lv_goto (tgt := 96) hx hb dX8_turns_59 (by decide) ?_
    refine lv_iload_n hx hb dX8_turns_96 rfl (lv_at hl 0 rfl) ?_
    refine lv_iconst (v := 0) hx hb dX8_turns_97 (by decide) ?_
    refine lv_sipush (v := 9999) hx hb dX8_turns_98 (by decide) ?_
    obtain ⟨r11, M12, f13, h⟩ := zbi_e h
    refine z_qSi (As := [.int x10, .int (0 : Int32), .int (9999 : Int32)]) (rest := []) X hw (kX8_held l D cy a x10 (0 : Int32) (9999 : Int32) M2 r11 M12 f13) (cwX8_61 X.2.2.2.2.2.1 rfl rfl (zroomO (Nat.le_of_ble_eq_true rfl) (Nat.le_of_ble_eq_true rfl))) rfl rfl (Nat.le_of_ble_eq_true rfl) hl.1 hcs dX8_turns_101 (fun H locs hw => ?_)
    exact z_ri X hw (zret h) dX8_turns_104
  replace h := zif_f c9 h
  by_cases c14 : r1 = (4 : Int32)
  · replace h := zif_t c14 h
    refine lv_tableIn (off := 54) (tgt := 62) hx hb dX8_turns_8 (by rw [c14]; decide) (by rw [c14]; decide) (by rw [c14]; rfl) (by decide) ?_
    refine lv_iload_n hx hb dX8_turns_62 rfl (lv_at hl 3 rfl) ?_
    refine lv_iconst (v := 2) hx hb dX8_turns_63 (by decide) ?_
    refine lv_idiv hx hb dX8_turns_64 (by decide) ?_
    refine lv_if_le (tgt := 76) hx hb dX8_turns_65 (by decide) (fun c15 => ?_) (fun c15 => ?_)
    · replace h := zif_t c15 h
      refine lv_iconst (v := 0) hx hb dX8_turns_76 (by decide) ?_
      refine lv_istore_n (lv' := [(3, .int (0 : Int32)), (0, .ref (a 87)), (1, .int p0), (2, .int p1)]) hx hb dX8_turns_77 rfl hl (by decide) rfl (fun ls hl => ?_)
      refine lv_goto (tgt := 96) hx hb dX8_turns_78 (by decide) ?_
      refine lv_iload_n hx hb dX8_turns_96 rfl (lv_at hl 0 rfl) ?_
      refine lv_iconst (v := 0) hx hb dX8_turns_97 (by decide) ?_
      refine lv_sipush (v := 9999) hx hb dX8_turns_98 (by decide) ?_
      obtain ⟨r16, M17, f18, h⟩ := zbi_e h
      refine z_qSi (As := [.int (0 : Int32), .int (0 : Int32), .int (9999 : Int32)]) (rest := []) X hw (kX8_held l D cy a (0 : Int32) (0 : Int32) (9999 : Int32) M2 r16 M17 f18) (cwX8_61 X.2.2.2.2.2.1 rfl rfl (zroomO (Nat.le_of_ble_eq_true rfl) (Nat.le_of_ble_eq_true rfl))) rfl rfl (Nat.le_of_ble_eq_true rfl) hl.1 hcs dX8_turns_101 (fun H locs hw => ?_)
      exact z_ri X hw (zret h) dX8_turns_104
    · replace h := zif_f c15 h
      refine lv_iload_n hx hb dX8_turns_68 rfl (lv_at hl 3 rfl) ?_
      refine lv_iconst (v := 2) hx hb dX8_turns_69 (by decide) ?_
      refine lv_idiv hx hb dX8_turns_70 (by decide) ?_
      refine lv_iconst (v := 1) hx hb dX8_turns_71 (by decide) ?_
      refine lv_iadd hx hb dX8_turns_72 ?_
      refine lv_goto (tgt := 77) hx hb dX8_turns_73 (by decide) ?_
      refine lv_topi (fun x19 ex19 => ?_)
      replace h := zlt_s ex19 h
      refine lv_istore_n (lv' := [(3, .int x19), (0, .ref (a 87)), (1, .int p0), (2, .int p1)]) hx hb dX8_turns_77 rfl hl (by decide) rfl (fun ls hl => ?_)
      refine lv_goto (tgt := 96) hx hb dX8_turns_78 (by decide) ?_
      refine lv_iload_n hx hb dX8_turns_96 rfl (lv_at hl 0 rfl) ?_
      refine lv_iconst (v := 0) hx hb dX8_turns_97 (by decide) ?_
      refine lv_sipush (v := 9999) hx hb dX8_turns_98 (by decide) ?_
      obtain ⟨r20, M21, f22, h⟩ := zbi_e h
      refine z_qSi (As := [.int x19, .int (0 : Int32), .int (9999 : Int32)]) (rest := []) X hw (kX8_held l D cy a x19 (0 : Int32) (9999 : Int32) M2 r20 M21 f22) (cwX8_61 X.2.2.2.2.2.1 rfl rfl (zroomO (Nat.le_of_ble_eq_true rfl) (Nat.le_of_ble_eq_true rfl))) rfl rfl (Nat.le_of_ble_eq_true rfl) hl.1 hcs dX8_turns_101 (fun H locs hw => ?_)
      exact z_ri X hw (zret h) dX8_turns_104
  replace h := zif_f c14 h
  by_cases c23 : r1 = (5 : Int32)
  · replace h := zif_t c23 h
    refine lv_tableIn (off := 73) (tgt := 81) hx hb dX8_turns_8 (by rw [c23]; decide) (by rw [c23]; decide) (by rw [c23]; rfl) (by decide) ?_
    refine lv_iconst (v := 0) hx hb dX8_turns_81 (by decide) ?_
    refine lv_istore_n (lv' := [(3, .int (0 : Int32)), (0, .ref (a 87)), (1, .int p0), (2, .int p1)]) hx hb dX8_turns_82 rfl hl (by decide) rfl (fun ls hl => ?_)
    refine lv_goto (tgt := 96) hx hb dX8_turns_83 (by decide) ?_
    refine lv_iload_n hx hb dX8_turns_96 rfl (lv_at hl 0 rfl) ?_
    refine lv_iconst (v := 0) hx hb dX8_turns_97 (by decide) ?_
    refine lv_sipush (v := 9999) hx hb dX8_turns_98 (by decide) ?_
    obtain ⟨r24, M25, f26, h⟩ := zbi_e h
    refine z_qSi (As := [.int (0 : Int32), .int (0 : Int32), .int (9999 : Int32)]) (rest := []) X hw (kX8_held l D cy a (0 : Int32) (0 : Int32) (9999 : Int32) M2 r24 M25 f26) (cwX8_61 X.2.2.2.2.2.1 rfl rfl (zroomO (Nat.le_of_ble_eq_true rfl) (Nat.le_of_ble_eq_true rfl))) rfl rfl (Nat.le_of_ble_eq_true rfl) hl.1 hcs dX8_turns_101 (fun H locs hw => ?_)
    exact z_ri X hw (zret h) dX8_turns_104
  replace h := zif_f c23 h
  by_cases c27 : r1 = (6 : Int32)
  · replace h := zif_t c27 h
    refine lv_tableIn (off := 78) (tgt := 86) hx hb dX8_turns_8 (by rw [c27]; decide) (by rw [c27]; decide) (by rw [c27]; rfl) (by decide) ?_
    refine lv_aload_n hx hb dX8_turns_86 rfl (lv_at hl 1 rfl) ?_
    refine lv_iload_n hx hb dX8_turns_87 rfl (lv_at hl 2 rfl) ?_
    refine lv_iload_n hx hb dX8_turns_88 rfl (lv_at hl 3 rfl) ?_
    obtain ⟨r28, M29, f30, h⟩ := zbi_e h
    refine z_qVi (As := [.int p0, .int p1]) (rest := []) X hw (kX8_turnsTold l D cy a p0 p1 M2 r28 M29 f30) (cwX8_188 X.2.2.2.2.2.1 rfl rfl (zroomO (Nat.le_of_ble_eq_true rfl) (Nat.le_of_ble_eq_true rfl))) (zX8_lt (rfl : zX8 87)) (zS8 (rfl : zX8 87) cy a (M2 87)) rfl rfl rfl (Nat.le_of_ble_eq_true rfl) hl.1 hcs dX8_turns_89 (fun H locs hw => ?_)
    refine lv_istore_n (lv' := [(3, .int r28), (0, .ref (a 87)), (1, .int p0), (2, .int p1)]) hx hb dX8_turns_92 rfl hl (by decide) rfl (fun ls hl => ?_)
    refine lv_goto (tgt := 96) hx hb dX8_turns_93 (by decide) ?_
    refine lv_iload_n hx hb dX8_turns_96 rfl (lv_at hl 0 rfl) ?_
    refine lv_iconst (v := 0) hx hb dX8_turns_97 (by decide) ?_
    refine lv_sipush (v := 9999) hx hb dX8_turns_98 (by decide) ?_
    obtain ⟨r31, M32, f33, h⟩ := zbi_e h
    refine z_qSi (As := [.int r28, .int (0 : Int32), .int (9999 : Int32)]) (rest := []) X hw (kX8_held l D cy a r28 (0 : Int32) (9999 : Int32) M29 r31 M32 f33) (cwX8_61 X.2.2.2.2.2.1 rfl rfl (zroomO (Nat.le_of_ble_eq_true rfl) (Nat.le_of_ble_eq_true rfl))) rfl rfl (Nat.le_of_ble_eq_true rfl) hl.1 hcs dX8_turns_101 (fun H locs hw => ?_)
    exact z_ri X hw (zret h) dX8_turns_104
  replace h := zif_f c27 h
  have K : W p l e (zRm 3 70) s m args below meth c H locs 0 0 (zQi D cy a s args below r0 M0) (F0 m 96 ls []) := by
    refine lv_iload_n hx hb dX8_turns_96 rfl (lv_at hl 0 rfl) ?_
    refine lv_iconst (v := 0) hx hb dX8_turns_97 (by decide) ?_
    refine lv_sipush (v := 9999) hx hb dX8_turns_98 (by decide) ?_
    obtain ⟨r34, M35, f36, h⟩ := zbi_e h
    refine z_qSi (As := [.int p1, .int (0 : Int32), .int (9999 : Int32)]) (rest := []) X hw (kX8_held l D cy a p1 (0 : Int32) (9999 : Int32) M2 r34 M35 f36) (cwX8_61 X.2.2.2.2.2.1 rfl rfl (zroomO (Nat.le_of_ble_eq_true rfl) (Nat.le_of_ble_eq_true rfl))) rfl rfl (Nat.le_of_ble_eq_true rfl) hl.1 hcs dX8_turns_101 (fun H locs hw => ?_)
    exact z_ri X hw (zret h) dX8_turns_104
  have tc4 := lv_neT c4 (a := 1) rfl
  have tc9 := lv_neT c9 (a := 3) rfl
  have tc14 := lv_neT c14 (a := 4) rfl
  have tc23 := lv_neT c23 (a := 5) rfl
  have tc27 := lv_neT c27 (a := 6) rfl
  by_cases tz : r1.toInt < 1 ∨ 6 < r1.toInt
  · exact lv_tableOut (tgt := 96) hx hb dX8_turns_8 tz (by decide) K
  have tw : r1.toInt = 2 := by omega
  exact lv_tableIn (off := 88) (tgt := 96) hx hb dX8_turns_8 (by omega) (by omega) (by rw [tw]; rfl) (by decide) K
def fX8_showsBy (p0 : Int32) (p1 : Int32) (p2 : Int32) (M : zM) : Option (Int32 × zM) := zbi (fX8_its p0 (0 : Int32) M) (fun r1 M2 => if r1 = (2 : Int32) then (some (p2 / (2 : Int32), M2)) else (if r1 = (4 : Int32) then (some ((0 : Int32), M2)) else (if r1 = (5 : Int32) then (some ((2 : Int32) * p1, M2)) else (some (p2, M2)))))
set_option maxRecDepth 100000 in
set_option maxHeartbeats 4000000 in
theorem kX8_showsBy (l : Launch) (D : va_G) (cy : Nat → ClassId) (a : Nat → Nat) (p0 : Int32) (p1 : Int32) (p2 : Int32) (M : zM) (r0 : Int32) (M0 : zM) (h : fX8_showsBy p0 p1 p2 M = some (r0, M0)) : zCi l D cy a yX8_showsBy cX8_showsBy 4 (some .int) (zRm 1 22) [.ref (a 87), .int p0, .int p1, .int p2] M (fun r u => r = r0 ∧ u = M0) := by
  intro sz
  refine zent_i sz (by decide) (Nat.le_of_ble_eq_true rfl) rfl (fun p e s m args below meth c ls H locs X hw hl => ?_)
  obtain ⟨hx, hb, hr, hml, hown, hW, hlocks⟩ := id X
  have hE := hw.2.2.2.2.1
  have hcs : 0 ≤ ((zRm 1 22)).cells ∧ 0 ≤ ((zRm 1 22)).slots := ⟨Nat.zero_le _, Nat.zero_le _⟩
  rw [fX8_showsBy] at h
  refine lv_aload_n hx hb dX8_showsBy_0 rfl (lv_at hl 0 rfl) ?_
  refine lv_iload_n hx hb dX8_showsBy_1 rfl (lv_at hl 1 rfl) ?_
  refine lv_iconst (v := 0) hx hb dX8_showsBy_2 (by decide) ?_
  obtain ⟨r1, M2, f3, h⟩ := zbi_e h
  refine z_qVi (As := [.int p0, .int (0 : Int32)]) (rest := []) X hw (kX8_its l D cy a p0 (0 : Int32) M r1 M2 f3) (cwX8_90 X.2.2.2.2.2.1 rfl rfl (zroomO (Nat.le_of_ble_eq_true rfl) (Nat.le_of_ble_eq_true rfl))) (zX8_lt (rfl : zX8 87)) (zS8 (rfl : zX8 87) cy a (M 87)) rfl rfl rfl (Nat.le_of_ble_eq_true rfl) hl.1 hcs dX8_showsBy_3 (fun H locs hw => ?_)
  by_cases c4 : r1 = (2 : Int32)
  · replace h := zif_t c4 h
    refine lv_tableIn (off := 36) (tgt := 42) hx hb dX8_showsBy_6 (by rw [c4]; decide) (by rw [c4]; decide) (by rw [c4]; rfl) (by decide) ?_
    refine lv_iload_n hx hb dX8_showsBy_42 rfl (lv_at hl 3 rfl) ?_
    refine lv_iconst (v := 2) hx hb dX8_showsBy_43 (by decide) ?_
    refine lv_idiv hx hb dX8_showsBy_44 (by decide) ?_
    exact z_ri X hw (zret h) dX8_showsBy_45
  replace h := zif_f c4 h
  by_cases c5 : r1 = (4 : Int32)
  · replace h := zif_t c5 h
    refine lv_tableIn (off := 30) (tgt := 36) hx hb dX8_showsBy_6 (by rw [c5]; decide) (by rw [c5]; decide) (by rw [c5]; rfl) (by decide) ?_
    refine lv_iconst (v := 0) hx hb dX8_showsBy_36 (by decide) ?_
    exact z_ri X hw (zret h) dX8_showsBy_37
  replace h := zif_f c5 h
  by_cases c6 : r1 = (5 : Int32)
  · replace h := zif_t c6 h
    refine lv_tableIn (off := 32) (tgt := 38) hx hb dX8_showsBy_6 (by rw [c6]; decide) (by rw [c6]; decide) (by rw [c6]; rfl) (by decide) ?_
    refine lv_iconst (v := 2) hx hb dX8_showsBy_38 (by decide) ?_
    refine lv_iload_n hx hb dX8_showsBy_39 rfl (lv_at hl 2 rfl) ?_
    refine lv_imul hx hb dX8_showsBy_40 ?_
    exact z_ri X hw (zret h) dX8_showsBy_41
  replace h := zif_f c6 h
  have K : W p l e (zRm 1 22) s m args below meth c H locs 0 0 (zQi D cy a s args below r0 M0) (F0 m 46 ls []) := by
    refine lv_iload_n hx hb dX8_showsBy_46 rfl (lv_at hl 3 rfl) ?_
    exact z_ri X hw (zret h) dX8_showsBy_47
  have tc4 := lv_neT c4 (a := 2) rfl
  have tc5 := lv_neT c5 (a := 4) rfl
  have tc6 := lv_neT c6 (a := 5) rfl
  by_cases tz : r1.toInt < 2 ∨ 5 < r1.toInt
  · exact lv_tableOut (tgt := 46) hx hb dX8_showsBy_6 tz (by decide) K
  have tw : r1.toInt = 3 := by omega
  exact lv_tableIn (off := 40) (tgt := 46) hx hb dX8_showsBy_6 (by omega) (by omega) (by rw [tw]; rfl) (by decide) K
def fX8_shows (p0 : Int32) (p1 : Int32) (M : zM) : Option (Int32 × zM) := zbi (fX8_turns p0 p1 M) (fun r1 M2 => zbi (fX8_showsBy p0 p1 r1 M2) (fun r4 M5 => some (r4, M5)))
set_option maxRecDepth 100000 in
set_option maxHeartbeats 4000000 in
theorem kX8_shows (l : Launch) (D : va_G) (cy : Nat → ClassId) (a : Nat → Nat) (p0 : Int32) (p1 : Int32) (M : zM) (r0 : Int32) (M0 : zM) (h : fX8_shows p0 p1 M = some (r0, M0)) : zCi l D cy a yX8_shows cX8_shows 3 (some .int) (zRm 4 93) [.ref (a 87), .int p0, .int p1] M (fun r u => r = r0 ∧ u = M0) := by
  intro sz
  refine zent_i sz (by decide) (Nat.le_of_ble_eq_true rfl) rfl (fun p e s m args below meth c ls H locs X hw hl => ?_)
  obtain ⟨hx, hb, hr, hml, hown, hW, hlocks⟩ := id X
  have hE := hw.2.2.2.2.1
  have hcs : 0 ≤ ((zRm 4 93)).cells ∧ 0 ≤ ((zRm 4 93)).slots := ⟨Nat.zero_le _, Nat.zero_le _⟩
  rw [fX8_shows] at h
  refine lv_aload_n hx hb dX8_shows_0 rfl (lv_at hl 0 rfl) ?_
  refine lv_iload_n hx hb dX8_shows_1 rfl (lv_at hl 1 rfl) ?_
  refine lv_iload_n hx hb dX8_shows_2 rfl (lv_at hl 2 rfl) ?_
  refine lv_aload_n hx hb dX8_shows_3 rfl (lv_at hl 0 rfl) ?_
  refine lv_iload_n hx hb dX8_shows_4 rfl (lv_at hl 1 rfl) ?_
  refine lv_iload_n hx hb dX8_shows_5 rfl (lv_at hl 2 rfl) ?_
  obtain ⟨r1, M2, f3, h⟩ := zbi_e h
  refine z_qVi (As := [.int p0, .int p1]) (rest := [.int p1, .int p0, .ref (a 87)]) X hw (kX8_turns l D cy a p0 p1 M r1 M2 f3) (cwX8_106 X.2.2.2.2.2.1 rfl rfl (zroomO (Nat.le_of_ble_eq_true rfl) (Nat.le_of_ble_eq_true rfl))) (zX8_lt (rfl : zX8 87)) (zS8 (rfl : zX8 87) cy a (M 87)) rfl rfl rfl (Nat.le_of_ble_eq_true rfl) hl.1 hcs dX8_shows_6 (fun H locs hw => ?_)
  obtain ⟨r4, M5, f6, h⟩ := zbi_e h
  refine z_qVi (As := [.int p0, .int p1, .int r1]) (rest := []) X hw (kX8_showsBy l D cy a p0 p1 r1 M2 r4 M5 f6) (cwX8_191 X.2.2.2.2.2.1 rfl rfl (zroomO (Nat.le_of_ble_eq_true rfl) (Nat.le_of_ble_eq_true rfl))) (zX8_lt (rfl : zX8 87)) (zS8 (rfl : zX8 87) cy a (M2 87)) rfl rfl rfl (Nat.le_of_ble_eq_true rfl) hl.1 hcs dX8_shows_9 (fun H locs hw => ?_)
  exact z_ri X hw (zret h) dX8_shows_12
def fX8_toldWheel (p0 : Int32) (p1 : Int32) (M : zM) : Option (Int32 × zM) := if (7 : Int32) ≤ p1 then (zbv (fX8_flow M) (fun M3 => if p1 = (7 : Int32) then (zgd (p0 < 0 ∨ 9 ≤ p0.toNatClampNeg) (some (M3 96 (p0.toNatClampNeg), M3))) else (if p1 = (8 : Int32) then (zgd (p0 < 0 ∨ 9 ≤ p0.toNatClampNeg) (zbi (fX8_turns p0 (M3 96 (p0.toNatClampNeg)) M3) (fun r12 M13 => some (r12, M13)))) else (zgd (p0 < 0 ∨ 9 ≤ p0.toNatClampNeg) (zbi (fX8_shows p0 (M3 96 (p0.toNatClampNeg)) M3) (fun r8 M9 => some (r8, M9))))))) else (zbi (fX8_its p0 p1 M) (fun r16 M17 => some (r16, M17)))
set_option maxRecDepth 100000 in
set_option maxHeartbeats 4000000 in
theorem kX8_toldWheel (l : Launch) (D : va_G) (cy : Nat → ClassId) (a : Nat → Nat) (p0 : Int32) (p1 : Int32) (M : zM) (r0 : Int32) (M0 : zM) (h : fX8_toldWheel p0 p1 M = some (r0, M0)) : zCi l D cy a yX8_toldWheel cX8_toldWheel 3 (some .int) (zRm 5 118) [.ref (a 87), .int p0, .int p1] M (fun r u => r = r0 ∧ u = M0) := by
  intro sz
  refine zent_i sz (by decide) (Nat.le_of_ble_eq_true rfl) rfl (fun p e s m args below meth c ls H locs X hw hl => ?_)
  obtain ⟨hx, hb, hr, hml, hown, hW, hlocks⟩ := id X
  have hE := hw.2.2.2.2.1
  have hcs : 0 ≤ ((zRm 5 118)).cells ∧ 0 ≤ ((zRm 5 118)).slots := ⟨Nat.zero_le _, Nat.zero_le _⟩
  rw [fX8_toldWheel] at h
  refine lv_iload_n hx hb dX8_toldWheel_0 rfl (lv_at hl 2 rfl) ?_
  refine lv_bipush (v := 7) hx hb dX8_toldWheel_1 (by decide) ?_
  refine lv_icmp_ge (tgt := 13) hx hb dX8_toldWheel_3 (by decide) (fun c1 => ?_) (fun c1 => ?_)
  · replace h := zif_t c1 h
    refine lv_aload_n hx hb dX8_toldWheel_13 rfl (lv_at hl 0 rfl) ?_
    obtain ⟨M3, f4, h⟩ := zbv_e h
    refine z_qVv (As := []) (rest := []) X hw (kX8_flow l D cy a M M3 f4) (cwX8_103 X.2.2.2.2.2.1 rfl rfl (zroomO (Nat.le_of_ble_eq_true rfl) (Nat.le_of_ble_eq_true rfl))) (zX8_lt (rfl : zX8 87)) (zS8 (rfl : zX8 87) cy a (M 87)) rfl rfl rfl (Nat.le_of_ble_eq_true rfl) hl.1 hcs dX8_toldWheel_14 (fun H locs hw => ?_)
    refine lv_iload_n hx hb dX8_toldWheel_17 rfl (lv_at hl 2 rfl) ?_
    refine lv_bipush (v := 7) hx hb dX8_toldWheel_18 (by decide) ?_
    refine lv_icmp_ne (tgt := 32) hx hb dX8_toldWheel_20 (by decide) (fun c5 => ?_) (fun c5 => ?_)
    · replace h := zif_f c5 h
      refine lv_iload_n hx hb dX8_toldWheel_32 rfl (lv_at hl 2 rfl) ?_
      refine lv_bipush (v := 8) hx hb dX8_toldWheel_33 (by decide) ?_
      refine lv_icmp_ne (tgt := 52) hx hb dX8_toldWheel_35 (by decide) (fun c6 => ?_) (fun c6 => ?_)
      · replace h := zif_f c6 h
        refine lv_aload_n hx hb dX8_toldWheel_52 rfl (lv_at hl 0 rfl) ?_
        refine lv_iload_n hx hb dX8_toldWheel_53 rfl (lv_at hl 1 rfl) ?_
        refine lv_aload_n hx hb dX8_toldWheel_54 rfl (lv_at hl 0 rfl) ?_
        refine gtX8_34 X hw dX8_toldWheel_55 ?_
        refine lv_iload_n hx hb dX8_toldWheel_58 rfl (lv_at hl 1 rfl) ?_
        obtain ⟨g7, h⟩ := zgd_e h
        refine z_ald X hw zI_96 g7 dX8_toldWheel_59 ?_
        obtain ⟨r8, M9, f10, h⟩ := zbi_e h
        refine z_qVi (As := [.int p0, .int (M3 96 (p0.toNatClampNeg))]) (rest := []) X hw (kX8_shows l D cy a p0 (M3 96 (p0.toNatClampNeg)) M3 r8 M9 f10) (cwX8_109 X.2.2.2.2.2.1 rfl rfl (zroomO (Nat.le_of_ble_eq_true rfl) (Nat.le_of_ble_eq_true rfl))) (zX8_lt (rfl : zX8 87)) (zS8 (rfl : zX8 87) cy a (M3 87)) rfl rfl rfl (Nat.le_of_ble_eq_true rfl) hl.1 hcs dX8_toldWheel_60 (fun H locs hw => ?_)
        exact z_ri X hw (zret h) dX8_toldWheel_63
      · replace h := zif_t c6 h
        refine lv_aload_n hx hb dX8_toldWheel_38 rfl (lv_at hl 0 rfl) ?_
        refine lv_iload_n hx hb dX8_toldWheel_39 rfl (lv_at hl 1 rfl) ?_
        refine lv_aload_n hx hb dX8_toldWheel_40 rfl (lv_at hl 0 rfl) ?_
        refine gtX8_34 X hw dX8_toldWheel_41 ?_
        refine lv_iload_n hx hb dX8_toldWheel_44 rfl (lv_at hl 1 rfl) ?_
        obtain ⟨g11, h⟩ := zgd_e h
        refine z_ald X hw zI_96 g11 dX8_toldWheel_45 ?_
        obtain ⟨r12, M13, f14, h⟩ := zbi_e h
        refine z_qVi (As := [.int p0, .int (M3 96 (p0.toNatClampNeg))]) (rest := []) X hw (kX8_turns l D cy a p0 (M3 96 (p0.toNatClampNeg)) M3 r12 M13 f14) (cwX8_106 X.2.2.2.2.2.1 rfl rfl (zroomO (Nat.le_of_ble_eq_true rfl) (Nat.le_of_ble_eq_true rfl))) (zX8_lt (rfl : zX8 87)) (zS8 (rfl : zX8 87) cy a (M3 87)) rfl rfl rfl (Nat.le_of_ble_eq_true rfl) hl.1 hcs dX8_toldWheel_46 (fun H locs hw => ?_)
        refine lv_goto (tgt := 63) hx hb dX8_toldWheel_49 (by decide) ?_
        exact z_ri X hw (zret h) dX8_toldWheel_63
    · replace h := zif_t c5 h
      refine lv_aload_n hx hb dX8_toldWheel_23 rfl (lv_at hl 0 rfl) ?_
      refine gtX8_34 X hw dX8_toldWheel_24 ?_
      refine lv_iload_n hx hb dX8_toldWheel_27 rfl (lv_at hl 1 rfl) ?_
      obtain ⟨g15, h⟩ := zgd_e h
      refine z_ald X hw zI_96 g15 dX8_toldWheel_28 ?_
      refine lv_goto (tgt := 63) hx hb dX8_toldWheel_29 (by decide) ?_
      exact z_ri X hw (zret h) dX8_toldWheel_63
  · replace h := zif_f c1 h
    refine lv_aload_n hx hb dX8_toldWheel_6 rfl (lv_at hl 0 rfl) ?_
    refine lv_iload_n hx hb dX8_toldWheel_7 rfl (lv_at hl 1 rfl) ?_
    refine lv_iload_n hx hb dX8_toldWheel_8 rfl (lv_at hl 2 rfl) ?_
    obtain ⟨r16, M17, f18, h⟩ := zbi_e h
    refine z_qVi (As := [.int p0, .int p1]) (rest := []) X hw (kX8_its l D cy a p0 p1 M r16 M17 f18) (cwX8_90 X.2.2.2.2.2.1 rfl rfl (zroomO (Nat.le_of_ble_eq_true rfl) (Nat.le_of_ble_eq_true rfl))) (zX8_lt (rfl : zX8 87)) (zS8 (rfl : zX8 87) cy a (M 87)) rfl rfl rfl (Nat.le_of_ble_eq_true rfl) hl.1 hcs dX8_toldWheel_9 (fun H locs hw => ?_)
    exact z_ri X hw (zret h) dX8_toldWheel_12
def fX8_wheelIs (p0 : Int32) (p1 : Int32) (M : zM) : Option (Int32 × zM) := zbi (fX8_isWheel p0 M) (fun r1 M2 => if r1 = 0 then (zbi (fX8_error (1 : Int32) M2) (fun r5 M6 => some (r5, M6))) else (zbi (fX8_in p1 (0 : Int32) (9 : Int32) M2) (fun r8 M9 => if r8 = 0 then (zbi (fX8_error (1 : Int32) M9) (fun r12 M13 => some (r12, M13))) else (zbi (fX8_toldWheel p0 p1 M9) (fun r15 M16 => some (r15, M16))))))
set_option maxRecDepth 100000 in
set_option maxHeartbeats 4000000 in
theorem kX8_wheelIs (l : Launch) (D : va_G) (cy : Nat → ClassId) (a : Nat → Nat) (p0 : Int32) (p1 : Int32) (M : zM) (r0 : Int32) (M0 : zM) (h : fX8_wheelIs p0 p1 M = some (r0, M0)) : zCi l D cy a yX8_wheelIs cX8_wheelIs 3 (some .int) (zRm 6 140) [.ref (a 87), .int p0, .int p1] M (fun r u => r = r0 ∧ u = M0) := by
  intro sz
  refine zent_i sz (by decide) (Nat.le_of_ble_eq_true rfl) rfl (fun p e s m args below meth c ls H locs X hw hl => ?_)
  obtain ⟨hx, hb, hr, hml, hown, hW, hlocks⟩ := id X
  have hE := hw.2.2.2.2.1
  have hcs : 0 ≤ ((zRm 6 140)).cells ∧ 0 ≤ ((zRm 6 140)).slots := ⟨Nat.zero_le _, Nat.zero_le _⟩
  rw [fX8_wheelIs] at h
  refine lv_aload_n hx hb dX8_wheelIs_0 rfl (lv_at hl 0 rfl) ?_
  refine lv_iload_n hx hb dX8_wheelIs_1 rfl (lv_at hl 1 rfl) ?_
  obtain ⟨r1, M2, f3, h⟩ := zbi_e h
  refine z_qVi (As := [.int p0]) (rest := []) X hw (kX8_isWheel l D cy a p0 M r1 M2 f3) (cwX8_112 X.2.2.2.2.2.1 rfl rfl (zroomO (Nat.le_of_ble_eq_true rfl) (Nat.le_of_ble_eq_true rfl))) (zX8_lt (rfl : zX8 87)) (zS8 (rfl : zX8 87) cy a (M 87)) rfl rfl rfl (Nat.le_of_ble_eq_true rfl) hl.1 hcs dX8_wheelIs_2 (fun H locs hw => ?_)
  refine lv_if_eq (tgt := 27) hx hb dX8_wheelIs_5 (by decide) (fun c4 => ?_) (fun c4 => ?_)
  · replace h := zif_t c4 h
    refine lv_aload_n hx hb dX8_wheelIs_27 rfl (lv_at hl 0 rfl) ?_
    refine lv_iconst (v := 1) hx hb dX8_wheelIs_28 (by decide) ?_
    obtain ⟨r5, M6, f7, h⟩ := zbi_e h
    refine z_qVi (As := [.int (1 : Int32)]) (rest := []) X hw (kX8_error l D cy a (1 : Int32) M2 r5 M6 f7) (cwX8_76 X.2.2.2.2.2.1 rfl rfl (zroomO (Nat.le_of_ble_eq_true rfl) (Nat.le_of_ble_eq_true rfl))) (zX8_lt (rfl : zX8 87)) (zS8 (rfl : zX8 87) cy a (M2 87)) rfl rfl rfl (Nat.le_of_ble_eq_true rfl) hl.1 hcs dX8_wheelIs_29 (fun H locs hw => ?_)
    exact z_ri X hw (zret h) dX8_wheelIs_32
  · replace h := zif_f c4 h
    refine lv_iload_n hx hb dX8_wheelIs_8 rfl (lv_at hl 2 rfl) ?_
    refine lv_iconst (v := 0) hx hb dX8_wheelIs_9 (by decide) ?_
    refine lv_bipush (v := 9) hx hb dX8_wheelIs_10 (by decide) ?_
    obtain ⟨r8, M9, f10, h⟩ := zbi_e h
    refine z_qSi (As := [.int p1, .int (0 : Int32), .int (9 : Int32)]) (rest := []) X hw (kX8_in l D cy a p1 (0 : Int32) (9 : Int32) M2 r8 M9 f10) (cwX8_56 X.2.2.2.2.2.1 rfl rfl (zroomO (Nat.le_of_ble_eq_true rfl) (Nat.le_of_ble_eq_true rfl))) rfl rfl (Nat.le_of_ble_eq_true rfl) hl.1 hcs dX8_wheelIs_12 (fun H locs hw => ?_)
    refine lv_if_eq (tgt := 27) hx hb dX8_wheelIs_15 (by decide) (fun c11 => ?_) (fun c11 => ?_)
    · replace h := zif_t c11 h
      refine lv_aload_n hx hb dX8_wheelIs_27 rfl (lv_at hl 0 rfl) ?_
      refine lv_iconst (v := 1) hx hb dX8_wheelIs_28 (by decide) ?_
      obtain ⟨r12, M13, f14, h⟩ := zbi_e h
      refine z_qVi (As := [.int (1 : Int32)]) (rest := []) X hw (kX8_error l D cy a (1 : Int32) M9 r12 M13 f14) (cwX8_76 X.2.2.2.2.2.1 rfl rfl (zroomO (Nat.le_of_ble_eq_true rfl) (Nat.le_of_ble_eq_true rfl))) (zX8_lt (rfl : zX8 87)) (zS8 (rfl : zX8 87) cy a (M9 87)) rfl rfl rfl (Nat.le_of_ble_eq_true rfl) hl.1 hcs dX8_wheelIs_29 (fun H locs hw => ?_)
      exact z_ri X hw (zret h) dX8_wheelIs_32
    · replace h := zif_f c11 h
      refine lv_aload_n hx hb dX8_wheelIs_18 rfl (lv_at hl 0 rfl) ?_
      refine lv_iload_n hx hb dX8_wheelIs_19 rfl (lv_at hl 1 rfl) ?_
      refine lv_iload_n hx hb dX8_wheelIs_20 rfl (lv_at hl 2 rfl) ?_
      obtain ⟨r15, M16, f17, h⟩ := zbi_e h
      refine z_qVi (As := [.int p0, .int p1]) (rest := []) X hw (kX8_toldWheel l D cy a p0 p1 M9 r15 M16 f17) (cwX8_115 X.2.2.2.2.2.1 rfl rfl (zroomO (Nat.le_of_ble_eq_true rfl) (Nat.le_of_ble_eq_true rfl))) (zX8_lt (rfl : zX8 87)) (zS8 (rfl : zX8 87) cy a (M9 87)) rfl rfl rfl (Nat.le_of_ble_eq_true rfl) hl.1 hcs dX8_wheelIs_21 (fun H locs hw => ?_)
      refine lv_goto (tgt := 32) hx hb dX8_wheelIs_24 (by decide) ?_
      exact z_ri X hw (zret h) dX8_wheelIs_32
def fX8_isUnder (p0 : Int32) (p1 : Int32) (M : zM) : Option (Int32 × zM) := if p1 = 0 then (some ((1 : Int32), M)) else (if p0 = p1 then (some ((1 : Int32), M)) else (if p1 = (1 : Int32) then (if p0 = (4 : Int32) then (some ((1 : Int32), M)) else (if p1 = (3 : Int32) then (if p0 = (5 : Int32) then (some ((1 : Int32), M)) else (some ((0 : Int32), M))) else (some ((0 : Int32), M)))) else (if p1 = (3 : Int32) then (if p0 = (5 : Int32) then (some ((1 : Int32), M)) else (some ((0 : Int32), M))) else (some ((0 : Int32), M)))))
set_option maxRecDepth 100000 in
set_option maxHeartbeats 4000000 in
theorem kX8_isUnder (l : Launch) (D : va_G) (cy : Nat → ClassId) (a : Nat → Nat) (p0 : Int32) (p1 : Int32) (M : zM) (r0 : Int32) (M0 : zM) (h : fX8_isUnder p0 p1 M = some (r0, M0)) : zCi l D cy a yX8_isUnder cX8_isUnder 2 (some .boolean) (zRm 0 0) [.int p0, .int p1] M (fun r u => r = r0 ∧ u = M0) := by
  intro sz
  refine zent_i sz (by decide) (Nat.le_of_ble_eq_true rfl) rfl (fun p e s m args below meth c ls H locs X hw hl => ?_)
  obtain ⟨hx, hb, hr, hml, hown, hW, hlocks⟩ := id X
  have hE := hw.2.2.2.2.1
  have hcs : 0 ≤ ((zRm 0 0)).cells ∧ 0 ≤ ((zRm 0 0)).slots := ⟨Nat.zero_le _, Nat.zero_le _⟩
  rw [fX8_isUnder] at h
  refine lv_iload_n hx hb dX8_isUnder_0 rfl (lv_at hl 1 rfl) ?_
  refine lv_if_eq (tgt := 29) hx hb dX8_isUnder_1 (by decide) (fun c1 => ?_) (fun c1 => ?_)
  · replace h := zif_t c1 h
    refine lv_iconst (v := 1) hx hb dX8_isUnder_29 (by decide) ?_
    refine lv_goto (tgt := 34) hx hb dX8_isUnder_30 (by decide) ?_
    exact z_rz X hw (Or.inr rfl) (zret h) dX8_isUnder_34
  · replace h := zif_f c1 h
    refine lv_iload_n hx hb dX8_isUnder_4 rfl (lv_at hl 0 rfl) ?_
    refine lv_iload_n hx hb dX8_isUnder_5 rfl (lv_at hl 1 rfl) ?_
    refine lv_icmp_eq (tgt := 29) hx hb dX8_isUnder_6 (by decide) (fun c2 => ?_) (fun c2 => ?_)
    · replace h := zif_t c2 h
      refine lv_iconst (v := 1) hx hb dX8_isUnder_29 (by decide) ?_
      refine lv_goto (tgt := 34) hx hb dX8_isUnder_30 (by decide) ?_
      exact z_rz X hw (Or.inr rfl) (zret h) dX8_isUnder_34
    · replace h := zif_f c2 h
      refine lv_iload_n hx hb dX8_isUnder_9 rfl (lv_at hl 1 rfl) ?_
      refine lv_iconst (v := 1) hx hb dX8_isUnder_10 (by decide) ?_
      refine lv_icmp_ne (tgt := 19) hx hb dX8_isUnder_11 (by decide) (fun c3 => ?_) (fun c3 => ?_)
      · replace h := zif_f c3 h
        refine lv_iload_n hx hb dX8_isUnder_19 rfl (lv_at hl 1 rfl) ?_
        refine lv_iconst (v := 3) hx hb dX8_isUnder_20 (by decide) ?_
        refine lv_icmp_ne (tgt := 33) hx hb dX8_isUnder_21 (by decide) (fun c4 => ?_) (fun c4 => ?_)
        · replace h := zif_f c4 h
          refine lv_iconst (v := 0) hx hb dX8_isUnder_33 (by decide) ?_
          exact z_rz X hw (Or.inl rfl) (zret h) dX8_isUnder_34
        · replace h := zif_t c4 h
          refine lv_iload_n hx hb dX8_isUnder_24 rfl (lv_at hl 0 rfl) ?_
          refine lv_iconst (v := 5) hx hb dX8_isUnder_25 (by decide) ?_
          refine lv_icmp_ne (tgt := 33) hx hb dX8_isUnder_26 (by decide) (fun c5 => ?_) (fun c5 => ?_)
          · replace h := zif_f c5 h
            refine lv_iconst (v := 0) hx hb dX8_isUnder_33 (by decide) ?_
            exact z_rz X hw (Or.inl rfl) (zret h) dX8_isUnder_34
          · replace h := zif_t c5 h
            refine lv_iconst (v := 1) hx hb dX8_isUnder_29 (by decide) ?_
            refine lv_goto (tgt := 34) hx hb dX8_isUnder_30 (by decide) ?_
            exact z_rz X hw (Or.inr rfl) (zret h) dX8_isUnder_34
      · replace h := zif_t c3 h
        refine lv_iload_n hx hb dX8_isUnder_14 rfl (lv_at hl 0 rfl) ?_
        refine lv_iconst (v := 4) hx hb dX8_isUnder_15 (by decide) ?_
        refine lv_icmp_eq (tgt := 29) hx hb dX8_isUnder_16 (by decide) (fun c6 => ?_) (fun c6 => ?_)
        · replace h := zif_t c6 h
          refine lv_iconst (v := 1) hx hb dX8_isUnder_29 (by decide) ?_
          refine lv_goto (tgt := 34) hx hb dX8_isUnder_30 (by decide) ?_
          exact z_rz X hw (Or.inr rfl) (zret h) dX8_isUnder_34
        · replace h := zif_f c6 h
          refine lv_iload_n hx hb dX8_isUnder_19 rfl (lv_at hl 1 rfl) ?_
          refine lv_iconst (v := 3) hx hb dX8_isUnder_20 (by decide) ?_
          refine lv_icmp_ne (tgt := 33) hx hb dX8_isUnder_21 (by decide) (fun c7 => ?_) (fun c7 => ?_)
          · replace h := zif_f c7 h
            refine lv_iconst (v := 0) hx hb dX8_isUnder_33 (by decide) ?_
            exact z_rz X hw (Or.inl rfl) (zret h) dX8_isUnder_34
          · replace h := zif_t c7 h
            refine lv_iload_n hx hb dX8_isUnder_24 rfl (lv_at hl 0 rfl) ?_
            refine lv_iconst (v := 5) hx hb dX8_isUnder_25 (by decide) ?_
            refine lv_icmp_ne (tgt := 33) hx hb dX8_isUnder_26 (by decide) (fun c8 => ?_) (fun c8 => ?_)
            · replace h := zif_f c8 h
              refine lv_iconst (v := 0) hx hb dX8_isUnder_33 (by decide) ?_
              exact z_rz X hw (Or.inl rfl) (zret h) dX8_isUnder_34
            · replace h := zif_t c8 h
              refine lv_iconst (v := 1) hx hb dX8_isUnder_29 (by decide) ?_
              refine lv_goto (tgt := 34) hx hb dX8_isUnder_30 (by decide) ?_
              exact z_rz X hw (Or.inr rfl) (zret h) dX8_isUnder_34
def fX8_as (p0 : Int32) (p1 : Int32) (M : zM) : Option (Int32 × zM) := zbi (fX8_isWheel p0 M) (fun r1 M2 => if r1 = 0 then (zbi (fX8_error (1 : Int32) M2) (fun r5 M6 => some (r5, M6))) else (zbi (fX8_in p1 (0 : Int32) (6 : Int32) M2) (fun r8 M9 => if r8 = 0 then (zbi (fX8_error (1 : Int32) M9) (fun r25 M26 => some (r25, M26))) else (zbi (fX8_its p0 (0 : Int32) M9) (fun r12 M13 => zbi (fX8_isUnder r12 p1 M13) (fun r15 M16 => if r15 = 0 then (zbi (fX8_error (5 : Int32) M16) (fun r19 M20 => some (r19, M20))) else (zbi (fX8_its p0 (5 : Int32) M16) (fun r22 M23 => some (r22, M23)))))))))
set_option maxRecDepth 100000 in
set_option maxHeartbeats 4000000 in
theorem kX8_as (l : Launch) (D : va_G) (cy : Nat → ClassId) (a : Nat → Nat) (p0 : Int32) (p1 : Int32) (M : zM) (r0 : Int32) (M0 : zM) (h : fX8_as p0 p1 M = some (r0, M0)) : zCi l D cy a yX8_as cX8_as 3 (some .int) (zRm 2 43) [.ref (a 87), .int p0, .int p1] M (fun r u => r = r0 ∧ u = M0) := by
  intro sz
  refine zent_i sz (by decide) (Nat.le_of_ble_eq_true rfl) rfl (fun p e s m args below meth c ls H locs X hw hl => ?_)
  obtain ⟨hx, hb, hr, hml, hown, hW, hlocks⟩ := id X
  have hE := hw.2.2.2.2.1
  have hcs : 0 ≤ ((zRm 2 43)).cells ∧ 0 ≤ ((zRm 2 43)).slots := ⟨Nat.zero_le _, Nat.zero_le _⟩
  rw [fX8_as] at h
  refine lv_aload_n hx hb dX8_as_0 rfl (lv_at hl 0 rfl) ?_
  refine lv_iload_n hx hb dX8_as_1 rfl (lv_at hl 1 rfl) ?_
  obtain ⟨r1, M2, f3, h⟩ := zbi_e h
  refine z_qVi (As := [.int p0]) (rest := []) X hw (kX8_isWheel l D cy a p0 M r1 M2 f3) (cwX8_112 X.2.2.2.2.2.1 rfl rfl (zroomO (Nat.le_of_ble_eq_true rfl) (Nat.le_of_ble_eq_true rfl))) (zX8_lt (rfl : zX8 87)) (zS8 (rfl : zX8 87) cy a (M 87)) rfl rfl rfl (Nat.le_of_ble_eq_true rfl) hl.1 hcs dX8_as_2 (fun H locs hw => ?_)
  refine lv_if_eq (tgt := 18) hx hb dX8_as_5 (by decide) (fun c4 => ?_) (fun c4 => ?_)
  · replace h := zif_t c4 h
    refine lv_aload_n hx hb dX8_as_18 rfl (lv_at hl 0 rfl) ?_
    refine lv_iconst (v := 1) hx hb dX8_as_19 (by decide) ?_
    obtain ⟨r5, M6, f7, h⟩ := zbi_e h
    refine z_qVi (As := [.int (1 : Int32)]) (rest := []) X hw (kX8_error l D cy a (1 : Int32) M2 r5 M6 f7) (cwX8_76 X.2.2.2.2.2.1 rfl rfl (zroomO (Nat.le_of_ble_eq_true rfl) (Nat.le_of_ble_eq_true rfl))) (zX8_lt (rfl : zX8 87)) (zS8 (rfl : zX8 87) cy a (M2 87)) rfl rfl rfl (Nat.le_of_ble_eq_true rfl) hl.1 hcs dX8_as_20 (fun H locs hw => ?_)
    exact z_ri X hw (zret h) dX8_as_23
  · replace h := zif_f c4 h
    refine lv_iload_n hx hb dX8_as_8 rfl (lv_at hl 2 rfl) ?_
    refine lv_iconst (v := 0) hx hb dX8_as_9 (by decide) ?_
    refine lv_bipush (v := 6) hx hb dX8_as_10 (by decide) ?_
    obtain ⟨r8, M9, f10, h⟩ := zbi_e h
    refine z_qSi (As := [.int p1, .int (0 : Int32), .int (6 : Int32)]) (rest := []) X hw (kX8_in l D cy a p1 (0 : Int32) (6 : Int32) M2 r8 M9 f10) (cwX8_56 X.2.2.2.2.2.1 rfl rfl (zroomO (Nat.le_of_ble_eq_true rfl) (Nat.le_of_ble_eq_true rfl))) rfl rfl (Nat.le_of_ble_eq_true rfl) hl.1 hcs dX8_as_12 (fun H locs hw => ?_)
    refine lv_if_ne (tgt := 24) hx hb dX8_as_15 (by decide) (fun c11 => ?_) (fun c11 => ?_)
    · replace h := zif_f c11 h
      refine lv_aload_n hx hb dX8_as_24 rfl (lv_at hl 0 rfl) ?_
      refine lv_iload_n hx hb dX8_as_25 rfl (lv_at hl 1 rfl) ?_
      refine lv_iconst (v := 0) hx hb dX8_as_26 (by decide) ?_
      obtain ⟨r12, M13, f14, h⟩ := zbi_e h
      refine z_qVi (As := [.int p0, .int (0 : Int32)]) (rest := []) X hw (kX8_its l D cy a p0 (0 : Int32) M9 r12 M13 f14) (cwX8_90 X.2.2.2.2.2.1 rfl rfl (zroomO (Nat.le_of_ble_eq_true rfl) (Nat.le_of_ble_eq_true rfl))) (zX8_lt (rfl : zX8 87)) (zS8 (rfl : zX8 87) cy a (M9 87)) rfl rfl rfl (Nat.le_of_ble_eq_true rfl) hl.1 hcs dX8_as_27 (fun H locs hw => ?_)
      refine lv_iload_n hx hb dX8_as_30 rfl (lv_at hl 2 rfl) ?_
      obtain ⟨r15, M16, f17, h⟩ := zbi_e h
      refine z_qSi (As := [.int r12, .int p1]) (rest := []) X hw (kX8_isUnder l D cy a r12 p1 M13 r15 M16 f17) (cwX8_118 X.2.2.2.2.2.1 rfl rfl (zroomO (Nat.le_of_ble_eq_true rfl) (Nat.le_of_ble_eq_true rfl))) rfl rfl (Nat.le_of_ble_eq_true rfl) hl.1 hcs dX8_as_31 (fun H locs hw => ?_)
      refine lv_if_eq (tgt := 46) hx hb dX8_as_34 (by decide) (fun c18 => ?_) (fun c18 => ?_)
      · replace h := zif_t c18 h
        refine lv_aload_n hx hb dX8_as_46 rfl (lv_at hl 0 rfl) ?_
        refine lv_iconst (v := 5) hx hb dX8_as_47 (by decide) ?_
        obtain ⟨r19, M20, f21, h⟩ := zbi_e h
        refine z_qVi (As := [.int (5 : Int32)]) (rest := []) X hw (kX8_error l D cy a (5 : Int32) M16 r19 M20 f21) (cwX8_76 X.2.2.2.2.2.1 rfl rfl (zroomO (Nat.le_of_ble_eq_true rfl) (Nat.le_of_ble_eq_true rfl))) (zX8_lt (rfl : zX8 87)) (zS8 (rfl : zX8 87) cy a (M16 87)) rfl rfl rfl (Nat.le_of_ble_eq_true rfl) hl.1 hcs dX8_as_48 (fun H locs hw => ?_)
        exact z_ri X hw (zret h) dX8_as_51
      · replace h := zif_f c18 h
        refine lv_aload_n hx hb dX8_as_37 rfl (lv_at hl 0 rfl) ?_
        refine lv_iload_n hx hb dX8_as_38 rfl (lv_at hl 1 rfl) ?_
        refine lv_iconst (v := 5) hx hb dX8_as_39 (by decide) ?_
        obtain ⟨r22, M23, f24, h⟩ := zbi_e h
        refine z_qVi (As := [.int p0, .int (5 : Int32)]) (rest := []) X hw (kX8_its l D cy a p0 (5 : Int32) M16 r22 M23 f24) (cwX8_90 X.2.2.2.2.2.1 rfl rfl (zroomO (Nat.le_of_ble_eq_true rfl) (Nat.le_of_ble_eq_true rfl))) (zX8_lt (rfl : zX8 87)) (zS8 (rfl : zX8 87) cy a (M16 87)) rfl rfl rfl (Nat.le_of_ble_eq_true rfl) hl.1 hcs dX8_as_40 (fun H locs hw => ?_)
        refine lv_goto (tgt := 51) hx hb dX8_as_43 (by decide) ?_
        exact z_ri X hw (zret h) dX8_as_51
    · replace h := zif_t c11 h
      refine lv_aload_n hx hb dX8_as_18 rfl (lv_at hl 0 rfl) ?_
      refine lv_iconst (v := 1) hx hb dX8_as_19 (by decide) ?_
      obtain ⟨r25, M26, f27, h⟩ := zbi_e h
      refine z_qVi (As := [.int (1 : Int32)]) (rest := []) X hw (kX8_error l D cy a (1 : Int32) M9 r25 M26 f27) (cwX8_76 X.2.2.2.2.2.1 rfl rfl (zroomO (Nat.le_of_ble_eq_true rfl) (Nat.le_of_ble_eq_true rfl))) (zX8_lt (rfl : zX8 87)) (zS8 (rfl : zX8 87) cy a (M9 87)) rfl rfl rfl (Nat.le_of_ble_eq_true rfl) hl.1 hcs dX8_as_20 (fun H locs hw => ?_)
      exact z_ri X hw (zret h) dX8_as_23
def fX8_most (p0 : Int32) (M : zM) : Option (Int32 × zM) := if p0 = 0 then (some ((6 : Int32), M)) else (if p0 = (1 : Int32) then (some ((9 : Int32), M)) else (if p0 = (2 : Int32) then (some ((11 : Int32), M)) else (if p0 = (3 : Int32) then (some ((4 : Int32), M)) else (if p0 = (4 : Int32) then (some ((1 : Int32), M)) else (some ((999999 : Int32), M))))))
set_option maxRecDepth 100000 in
set_option maxHeartbeats 4000000 in
theorem kX8_most (l : Launch) (D : va_G) (cy : Nat → ClassId) (a : Nat → Nat) (p0 : Int32) (M : zM) (r0 : Int32) (M0 : zM) (h : fX8_most p0 M = some (r0, M0)) : zCi l D cy a yX8_most cX8_most 1 (some .int) (zRm 0 0) [.int p0] M (fun r u => r = r0 ∧ u = M0) := by
  intro sz
  refine zent_i sz (by decide) (Nat.le_of_ble_eq_true rfl) rfl (fun p e s m args below meth c ls H locs X hw hl => ?_)
  obtain ⟨hx, hb, hr, hml, hown, hW, hlocks⟩ := id X
  have hE := hw.2.2.2.2.1
  have hcs : 0 ≤ ((zRm 0 0)).cells ∧ 0 ≤ ((zRm 0 0)).slots := ⟨Nat.zero_le _, Nat.zero_le _⟩
  rw [fX8_most] at h
  refine lv_iload_n hx hb dX8_most_0 rfl (lv_at hl 0 rfl) ?_
  refine lv_if_ne (tgt := 9) hx hb dX8_most_1 (by decide) (fun c1 => ?_) (fun c1 => ?_)
  · replace h := zif_f c1 h
    refine lv_iload_n hx hb dX8_most_9 rfl (lv_at hl 0 rfl) ?_
    refine lv_iconst (v := 1) hx hb dX8_most_10 (by decide) ?_
    refine lv_icmp_ne (tgt := 19) hx hb dX8_most_11 (by decide) (fun c2 => ?_) (fun c2 => ?_)
    · replace h := zif_f c2 h
      refine lv_iload_n hx hb dX8_most_19 rfl (lv_at hl 0 rfl) ?_
      refine lv_iconst (v := 2) hx hb dX8_most_20 (by decide) ?_
      refine lv_icmp_ne (tgt := 29) hx hb dX8_most_21 (by decide) (fun c3 => ?_) (fun c3 => ?_)
      · replace h := zif_f c3 h
        refine lv_iload_n hx hb dX8_most_29 rfl (lv_at hl 0 rfl) ?_
        refine lv_iconst (v := 3) hx hb dX8_most_30 (by decide) ?_
        refine lv_icmp_ne (tgt := 38) hx hb dX8_most_31 (by decide) (fun c4 => ?_) (fun c4 => ?_)
        · replace h := zif_f c4 h
          refine lv_iload_n hx hb dX8_most_38 rfl (lv_at hl 0 rfl) ?_
          refine lv_iconst (v := 4) hx hb dX8_most_39 (by decide) ?_
          refine lv_icmp_ne (tgt := 47) hx hb dX8_most_40 (by decide) (fun c5 => ?_) (fun c5 => ?_)
          · replace h := zif_f c5 h
            refine z_ldc (v := 999999) X zm_18_4 dX8_most_47 ?_
            exact z_ri X hw (zret h) dX8_most_49
          · replace h := zif_t c5 h
            refine lv_iconst (v := 1) hx hb dX8_most_43 (by decide) ?_
            refine lv_goto (tgt := 49) hx hb dX8_most_44 (by decide) ?_
            exact z_ri X hw (zret h) dX8_most_49
        · replace h := zif_t c4 h
          refine lv_iconst (v := 4) hx hb dX8_most_34 (by decide) ?_
          refine lv_goto (tgt := 49) hx hb dX8_most_35 (by decide) ?_
          exact z_ri X hw (zret h) dX8_most_49
      · replace h := zif_t c3 h
        refine lv_bipush (v := 11) hx hb dX8_most_24 (by decide) ?_
        refine lv_goto (tgt := 49) hx hb dX8_most_26 (by decide) ?_
        exact z_ri X hw (zret h) dX8_most_49
    · replace h := zif_t c2 h
      refine lv_bipush (v := 9) hx hb dX8_most_14 (by decide) ?_
      refine lv_goto (tgt := 49) hx hb dX8_most_16 (by decide) ?_
      exact z_ri X hw (zret h) dX8_most_49
  · replace h := zif_t c1 h
    refine lv_bipush (v := 6) hx hb dX8_most_4 (by decide) ?_
    refine lv_goto (tgt := 49) hx hb dX8_most_6 (by decide) ?_
    exact z_ri X hw (zret h) dX8_most_49
def fX8_set (p0 : Int32) (p1 : Int32) (p2 : Int32) (M : zM) : Option (Int32 × zM) := zbi (fX8_isWheel p0 M) (fun r1 M2 => if r1 = 0 then (zbi (fX8_error (1 : Int32) M2) (fun r5 M6 => some (r5, M6))) else (zbi (fX8_in p1 (0 : Int32) (5 : Int32) M2) (fun r8 M9 => if r8 = 0 then (zbi (fX8_error (1 : Int32) M9) (fun r12 M13 => some (r12, M13))) else (zbi (fX8_most p1 M9) (fun r15 M16 => zbi (fX8_in p2 (0 : Int32) r15 M16) (fun r18 M19 => if r18 = 0 then (zbi (fX8_error (1 : Int32) M19) (fun r25 M26 => some (r25, M26))) else (zbi (fX8_change (((52 : Int32) + ((7 : Int32) * p0)) + p1) p2 M19) (fun r22 M23 => some (r22, M23)))))))))
set_option maxRecDepth 100000 in
set_option maxHeartbeats 4000000 in
theorem kX8_set (l : Launch) (D : va_G) (cy : Nat → ClassId) (a : Nat → Nat) (p0 : Int32) (p1 : Int32) (p2 : Int32) (M : zM) (r0 : Int32) (M0 : zM) (h : fX8_set p0 p1 p2 M = some (r0, M0)) : zCi l D cy a yX8_set cX8_set 4 (some .int) (zRm 2 43) [.ref (a 87), .int p0, .int p1, .int p2] M (fun r u => r = r0 ∧ u = M0) := by
  intro sz
  refine zent_i sz (by decide) (Nat.le_of_ble_eq_true rfl) rfl (fun p e s m args below meth c ls H locs X hw hl => ?_)
  obtain ⟨hx, hb, hr, hml, hown, hW, hlocks⟩ := id X
  have hE := hw.2.2.2.2.1
  have hcs : 0 ≤ ((zRm 2 43)).cells ∧ 0 ≤ ((zRm 2 43)).slots := ⟨Nat.zero_le _, Nat.zero_le _⟩
  rw [fX8_set] at h
  refine lv_aload_n hx hb dX8_set_0 rfl (lv_at hl 0 rfl) ?_
  refine lv_iload_n hx hb dX8_set_1 rfl (lv_at hl 1 rfl) ?_
  obtain ⟨r1, M2, f3, h⟩ := zbi_e h
  refine z_qVi (As := [.int p0]) (rest := []) X hw (kX8_isWheel l D cy a p0 M r1 M2 f3) (cwX8_112 X.2.2.2.2.2.1 rfl rfl (zroomO (Nat.le_of_ble_eq_true rfl) (Nat.le_of_ble_eq_true rfl))) (zX8_lt (rfl : zX8 87)) (zS8 (rfl : zX8 87) cy a (M 87)) rfl rfl rfl (Nat.le_of_ble_eq_true rfl) hl.1 hcs dX8_set_2 (fun H locs hw => ?_)
  refine lv_if_eq (tgt := 29) hx hb dX8_set_5 (by decide) (fun c4 => ?_) (fun c4 => ?_)
  · replace h := zif_t c4 h
    refine lv_aload_n hx hb dX8_set_29 rfl (lv_at hl 0 rfl) ?_
    refine lv_iconst (v := 1) hx hb dX8_set_30 (by decide) ?_
    obtain ⟨r5, M6, f7, h⟩ := zbi_e h
    refine z_qVi (As := [.int (1 : Int32)]) (rest := []) X hw (kX8_error l D cy a (1 : Int32) M2 r5 M6 f7) (cwX8_76 X.2.2.2.2.2.1 rfl rfl (zroomO (Nat.le_of_ble_eq_true rfl) (Nat.le_of_ble_eq_true rfl))) (zX8_lt (rfl : zX8 87)) (zS8 (rfl : zX8 87) cy a (M2 87)) rfl rfl rfl (Nat.le_of_ble_eq_true rfl) hl.1 hcs dX8_set_31 (fun H locs hw => ?_)
    exact z_ri X hw (zret h) dX8_set_34
  · replace h := zif_f c4 h
    refine lv_iload_n hx hb dX8_set_8 rfl (lv_at hl 2 rfl) ?_
    refine lv_iconst (v := 0) hx hb dX8_set_9 (by decide) ?_
    refine lv_iconst (v := 5) hx hb dX8_set_10 (by decide) ?_
    obtain ⟨r8, M9, f10, h⟩ := zbi_e h
    refine z_qSi (As := [.int p1, .int (0 : Int32), .int (5 : Int32)]) (rest := []) X hw (kX8_in l D cy a p1 (0 : Int32) (5 : Int32) M2 r8 M9 f10) (cwX8_56 X.2.2.2.2.2.1 rfl rfl (zroomO (Nat.le_of_ble_eq_true rfl) (Nat.le_of_ble_eq_true rfl))) rfl rfl (Nat.le_of_ble_eq_true rfl) hl.1 hcs dX8_set_11 (fun H locs hw => ?_)
    refine lv_if_eq (tgt := 29) hx hb dX8_set_14 (by decide) (fun c11 => ?_) (fun c11 => ?_)
    · replace h := zif_t c11 h
      refine lv_aload_n hx hb dX8_set_29 rfl (lv_at hl 0 rfl) ?_
      refine lv_iconst (v := 1) hx hb dX8_set_30 (by decide) ?_
      obtain ⟨r12, M13, f14, h⟩ := zbi_e h
      refine z_qVi (As := [.int (1 : Int32)]) (rest := []) X hw (kX8_error l D cy a (1 : Int32) M9 r12 M13 f14) (cwX8_76 X.2.2.2.2.2.1 rfl rfl (zroomO (Nat.le_of_ble_eq_true rfl) (Nat.le_of_ble_eq_true rfl))) (zX8_lt (rfl : zX8 87)) (zS8 (rfl : zX8 87) cy a (M9 87)) rfl rfl rfl (Nat.le_of_ble_eq_true rfl) hl.1 hcs dX8_set_31 (fun H locs hw => ?_)
      exact z_ri X hw (zret h) dX8_set_34
    · replace h := zif_f c11 h
      refine lv_iload_n hx hb dX8_set_17 rfl (lv_at hl 3 rfl) ?_
      refine lv_iconst (v := 0) hx hb dX8_set_18 (by decide) ?_
      refine lv_iload_n hx hb dX8_set_19 rfl (lv_at hl 2 rfl) ?_
      obtain ⟨r15, M16, f17, h⟩ := zbi_e h
      refine z_qSi (As := [.int p1]) (rest := [.int (0 : Int32), .int p2]) X hw (kX8_most l D cy a p1 M9 r15 M16 f17) (cwX8_122 X.2.2.2.2.2.1 rfl rfl (zroomO (Nat.le_of_ble_eq_true rfl) (Nat.le_of_ble_eq_true rfl))) rfl rfl (Nat.le_of_ble_eq_true rfl) hl.1 hcs dX8_set_20 (fun H locs hw => ?_)
      obtain ⟨r18, M19, f20, h⟩ := zbi_e h
      refine z_qSi (As := [.int p2, .int (0 : Int32), .int r15]) (rest := []) X hw (kX8_in l D cy a p2 (0 : Int32) r15 M16 r18 M19 f20) (cwX8_56 X.2.2.2.2.2.1 rfl rfl (zroomO (Nat.le_of_ble_eq_true rfl) (Nat.le_of_ble_eq_true rfl))) rfl rfl (Nat.le_of_ble_eq_true rfl) hl.1 hcs dX8_set_23 (fun H locs hw => ?_)
      refine lv_if_ne (tgt := 35) hx hb dX8_set_26 (by decide) (fun c21 => ?_) (fun c21 => ?_)
      · replace h := zif_f c21 h
        refine lv_aload_n hx hb dX8_set_35 rfl (lv_at hl 0 rfl) ?_
        refine lv_bipush (v := 52) hx hb dX8_set_36 (by decide) ?_
        refine lv_bipush (v := 7) hx hb dX8_set_38 (by decide) ?_
        refine lv_iload_n hx hb dX8_set_40 rfl (lv_at hl 1 rfl) ?_
        refine lv_imul hx hb dX8_set_41 ?_
        refine lv_iadd hx hb dX8_set_42 ?_
        refine lv_iload_n hx hb dX8_set_43 rfl (lv_at hl 2 rfl) ?_
        refine lv_iadd hx hb dX8_set_44 ?_
        refine lv_iload_n hx hb dX8_set_45 rfl (lv_at hl 3 rfl) ?_
        obtain ⟨r22, M23, f24, h⟩ := zbi_e h
        refine z_qVi (As := [.int (((52 : Int32) + ((7 : Int32) * p0)) + p1), .int p2]) (rest := []) X hw (kX8_change l D cy a (((52 : Int32) + ((7 : Int32) * p0)) + p1) p2 M19 r22 M23 f24) (cwX8_72 X.2.2.2.2.2.1 rfl rfl (zroomO (Nat.le_of_ble_eq_true rfl) (Nat.le_of_ble_eq_true rfl))) (zX8_lt (rfl : zX8 87)) (zS8 (rfl : zX8 87) cy a (M19 87)) rfl rfl rfl (Nat.le_of_ble_eq_true rfl) hl.1 hcs dX8_set_46 (fun H locs hw => ?_)
        exact z_ri X hw (zret h) dX8_set_49
      · replace h := zif_t c21 h
        refine lv_aload_n hx hb dX8_set_29 rfl (lv_at hl 0 rfl) ?_
        refine lv_iconst (v := 1) hx hb dX8_set_30 (by decide) ?_
        obtain ⟨r25, M26, f27, h⟩ := zbi_e h
        refine z_qVi (As := [.int (1 : Int32)]) (rest := []) X hw (kX8_error l D cy a (1 : Int32) M19 r25 M26 f27) (cwX8_76 X.2.2.2.2.2.1 rfl rfl (zroomO (Nat.le_of_ble_eq_true rfl) (Nat.le_of_ble_eq_true rfl))) (zX8_lt (rfl : zX8 87)) (zS8 (rfl : zX8 87) cy a (M19 87)) rfl rfl rfl (Nat.le_of_ble_eq_true rfl) hl.1 hcs dX8_set_31 (fun H locs hw => ?_)
        exact z_ri X hw (zret h) dX8_set_34
def fX8_feed_38 (y1 : Int64) (y3 : Int32) (k : zM → Option (Int32 × zM)) : Nat → Int32 → zM → Option (Int32 × zM)
  | 0, _, _ => none
  | n + 1, v4, M => if y3 ≤ v4 then (k  M) else (zlt (zlshr y1 ((8 : Int32) * v4)) (fun x7 => zgd ((365 : Int32) + (M 88 (3)) < 0 ∨ 449 ≤ ((365 : Int32) + (M 88 (3))).toNatClampNeg) (zlt (zst M 88 (((365 : Int32) + (M 88 (3))).toNatClampNeg) ((x7 &&& (255 : Int64)).toInt32)) (fun M8 => zlt (zst M8 88 (3) ((M8 88 (3)) + (1 : Int32))) (fun M10 => zlt (v4 + (1 : Int32)) (fun x11 => fX8_feed_38 y1 y3 k n x11 M10))))))
set_option maxRecDepth 100000 in
set_option maxHeartbeats 4000000 in
theorem lX8_feed_38 {p : Program} {l : Launch} {e : Env} {s : State} {m : MethodId} {args : Array Value} {below : List Frame} {meth : Method} {c : Code} {D : va_G} {cy : Nat → ClassId} {a : Nat → Nat} {r0 : Int32} {M0 : zM} (X : zCX p s m meth c args cX8_feed 5 (some .int) RX8) (y1 : Int64) (y3 : Int32) (k : zM → Option (Int32 × zM)) : ∀ (n : Nat) (v4 : Int32) (M : zM) (H : Heap) (locs : List Loc) (ls : Array Slot), zWD D cy a (zfr a s.heap.size) M H locs s → lv_has ls 5 [(0, .ref (a 87)), (1, .long y1), (3, .int y3), (4, .int v4)] → fX8_feed_38 y1 y3 k n v4 M = some (r0, M0) →
    (∀ (M' : zM) (H' : Heap) (locs' : List Loc) (ls' : Array Slot), zWD D cy a (zfr a s.heap.size) M' H' locs' s → lv_has ls' 5 [(0, .ref (a 87))] → k M' = some (r0, M0) → W p l e (zRm 1 22) s m args below meth c H' locs' 0 0 (zQi D cy a s args below r0 M0) (F0 m 87 ls' [])) →
    W p l e (zRm 1 22) s m args below meth c H locs 0 0 (zQi D cy a s args below r0 M0) (F0 m 38 ls []) := by
  obtain ⟨hx, hb, hr, hml, hown, hW, hlocks⟩ := id X
  have hcs : 0 ≤ ((zRm 1 22)).cells ∧ 0 ≤ ((zRm 1 22)).slots := ⟨Nat.zero_le _, Nat.zero_le _⟩
  intro n
  induction n with
  | zero =>
    intro v4 M H locs ls hw hl h hk
    cases h
  | succ n ih =>
    intro v4 M H locs ls hw hl h hk
    have hE := hw.2.2.2.2.1
    rw [fX8_feed_38] at h
    refine lv_iload hx hb dX8_feed_38 (lv_at hl 3 rfl) ?_
    refine lv_iload_n hx hb dX8_feed_40 rfl (lv_at hl 2 rfl) ?_
    refine lv_icmp_ge (tgt := 87) hx hb dX8_feed_41 (by decide) (fun c6 => ?_) (fun c6 => ?_)
    · replace h := zif_t c6 h
      exact hk  M H locs _ hw (lv_sub hl [0] rfl) h
    · replace h := zif_f c6 h
      refine lv_aload_n hx hb dX8_feed_44 rfl (lv_at hl 0 rfl) ?_
      refine gtX8_7 X hw dX8_feed_45 ?_
      refine lv_sipush (v := 365) hx hb dX8_feed_48 (by decide) ?_
      refine lv_aload_n hx hb dX8_feed_51 rfl (lv_at hl 0 rfl) ?_
      refine gtX8_7 X hw dX8_feed_52 ?_
      refine lv_iconst (v := 3) hx hb dX8_feed_55 (by decide) ?_
      refine z_aldK (k := 3) X hw zI_88 (by decide) (by decide) (by decide) dX8_feed_56 ?_
      refine lv_iadd hx hb dX8_feed_57 ?_
      refine lv_lload_n hx hb dX8_feed_58 rfl (lv_at hl 1 rfl) ?_
      refine lv_bipush (v := 8) hx hb dX8_feed_59 (by decide) ?_
      refine lv_iload hx hb dX8_feed_61 (lv_at hl 3 rfl) ?_
      refine lv_imul hx hb dX8_feed_63 ?_
      refine lv_lshr hx hb dX8_feed_64 rfl ?_
      refine lv_topl (fun x7 ex7 => ?_)
      replace h := zlt_s ex7 h
      refine z_ldc2_w (v := 255) X zm_19_5 dX8_feed_65 ?_
      refine lv_land hx hb dX8_feed_68 ?_
      refine lv_l2i hx hb dX8_feed_69 rfl ?_
      obtain ⟨g9, h⟩ := zgd_e h
      refine z_ast X hw zI_88 g9 dX8_feed_70 (fun M8 H locs eM8 hw => ?_)
      replace h := zlt_s eM8 h
      refine lv_aload_n hx hb dX8_feed_71 rfl (lv_at hl 0 rfl) ?_
      refine gtX8_7 X hw dX8_feed_72 ?_
      refine lv_iconst (v := 3) hx hb dX8_feed_75 (by decide) ?_
      refine lv_dup2_11 hx hb dX8_feed_76 rfl rfl ?_
      refine z_aldK (k := 3) X hw zI_88 (by decide) (by decide) (by decide) dX8_feed_77 ?_
      refine lv_iconst (v := 1) hx hb dX8_feed_78 (by decide) ?_
      refine lv_iadd hx hb dX8_feed_79 ?_
      refine z_astK (k := 3) X hw zI_88 (by decide) (by decide) (by decide) dX8_feed_80 (fun M10 H locs eM10 hw => ?_)
      replace h := zlt_s eM10 h
      obtain ⟨x11, ex11⟩ : ∃ y : Int32, y = v4 + (1 : Int32) := ⟨_, rfl⟩
      replace h := zlt_s ex11 h
      refine lv_iinc (v := x11) (lv' := [(4, .int x11), (0, .ref (a 87)), (1, .long y1), (3, .int y3)]) hx hb dX8_feed_81 hl (k := 3) rfl (by rw [ex11]; rfl) (by decide) rfl (fun ls hl => ?_)
      refine lv_goto (tgt := 38) hx hb dX8_feed_84 (by decide) ?_
      exact ih x11 M10 H locs _ hw (lv_sub hl [1, 2, 3, 0] rfl) h hk
def fX8_feed (p0 : Int64) (p1 : Int32) (M : zM) : Option (Int32 × zM) := zbi (fX8_in p1 (1 : Int32) (8 : Int32) M) (fun r1 M2 => if r1 = 0 then (zbi (fX8_error (1 : Int32) M2) (fun r16 M17 => some (r16, M17))) else (if (M2 88 (3)) + p1 ≤ (60 : Int32) then (fX8_feed_38 p0 p1 (fun  M12 => some (M12 88 (3), M12)) zF (0 : Int32) M2) else (zbi (fX8_error (4 : Int32) M2) (fun r13 M14 => some (r13, M14)))))
set_option maxRecDepth 100000 in
set_option maxHeartbeats 4000000 in
theorem kX8_feed (l : Launch) (D : va_G) (cy : Nat → ClassId) (a : Nat → Nat) (p0 : Int64) (p1 : Int32) (M : zM) (r0 : Int32) (M0 : zM) (h : fX8_feed p0 p1 M = some (r0, M0)) : zCi l D cy a yX8_feed cX8_feed 5 (some .int) (zRm 1 22) [.ref (a 87), .long p0, .int p1] M (fun r u => r = r0 ∧ u = M0) := by
  intro sz
  refine zent_i sz (by decide) (Nat.le_of_ble_eq_true rfl) rfl (fun p e s m args below meth c ls H locs X hw hl => ?_)
  obtain ⟨hx, hb, hr, hml, hown, hW, hlocks⟩ := id X
  have hE := hw.2.2.2.2.1
  have hcs : 0 ≤ ((zRm 1 22)).cells ∧ 0 ≤ ((zRm 1 22)).slots := ⟨Nat.zero_le _, Nat.zero_le _⟩
  rw [fX8_feed] at h
  refine lv_iload_n hx hb dX8_feed_0 rfl (lv_at hl 2 rfl) ?_
  refine lv_iconst (v := 1) hx hb dX8_feed_1 (by decide) ?_
  refine lv_bipush (v := 8) hx hb dX8_feed_2 (by decide) ?_
  obtain ⟨r1, M2, f3, h⟩ := zbi_e h
  refine z_qSi (As := [.int p1, .int (1 : Int32), .int (8 : Int32)]) (rest := []) X hw (kX8_in l D cy a p1 (1 : Int32) (8 : Int32) M r1 M2 f3) (cwX8_56 X.2.2.2.2.2.1 rfl rfl (zroomO (Nat.le_of_ble_eq_true rfl) (Nat.le_of_ble_eq_true rfl))) rfl rfl (Nat.le_of_ble_eq_true rfl) hl.1 hcs dX8_feed_4 (fun H locs hw => ?_)
  refine lv_if_ne (tgt := 16) hx hb dX8_feed_7 (by decide) (fun c4 => ?_) (fun c4 => ?_)
  · replace h := zif_f c4 h
    refine lv_aload_n hx hb dX8_feed_16 rfl (lv_at hl 0 rfl) ?_
    refine gtX8_7 X hw dX8_feed_17 ?_
    refine lv_iconst (v := 3) hx hb dX8_feed_20 (by decide) ?_
    refine z_aldK (k := 3) X hw zI_88 (by decide) (by decide) (by decide) dX8_feed_21 ?_
    refine lv_iload_n hx hb dX8_feed_22 rfl (lv_at hl 2 rfl) ?_
    refine lv_iadd hx hb dX8_feed_23 ?_
    refine lv_bipush (v := 60) hx hb dX8_feed_24 (by decide) ?_
    refine lv_icmp_le (tgt := 35) hx hb dX8_feed_26 (by decide) (fun c5 => ?_) (fun c5 => ?_)
    · replace h := zif_t c5 h
      refine lv_iconst (v := 0) hx hb dX8_feed_35 (by decide) ?_
      refine lv_istore (lv' := [(4, .int (0 : Int32)), (0, .ref (a 87)), (1, .long p0), (3, .int p1)]) hx hb dX8_feed_36 hl (by decide) rfl (fun ls hl => ?_)
      refine lX8_feed_38 X p0 p1 _ zF (0 : Int32) M2 H locs _ hw (lv_sub hl [1, 2, 3, 0] rfl) h (fun  M12 H locs ls hw hl h => ?_)
      refine lv_aload_n hx hb dX8_feed_87 rfl (lv_at hl 0 rfl) ?_
      refine gtX8_7 X hw dX8_feed_88 ?_
      refine lv_iconst (v := 3) hx hb dX8_feed_91 (by decide) ?_
      refine z_aldK (k := 3) X hw zI_88 (by decide) (by decide) (by decide) dX8_feed_92 ?_
      exact z_ri X hw (zret h) dX8_feed_93
    · replace h := zif_f c5 h
      refine lv_aload_n hx hb dX8_feed_29 rfl (lv_at hl 0 rfl) ?_
      refine lv_iconst (v := 4) hx hb dX8_feed_30 (by decide) ?_
      obtain ⟨r13, M14, f15, h⟩ := zbi_e h
      refine z_qVi (As := [.int (4 : Int32)]) (rest := []) X hw (kX8_error l D cy a (4 : Int32) M2 r13 M14 f15) (cwX8_76 X.2.2.2.2.2.1 rfl rfl (zroomO (Nat.le_of_ble_eq_true rfl) (Nat.le_of_ble_eq_true rfl))) (zX8_lt (rfl : zX8 87)) (zS8 (rfl : zX8 87) cy a (M2 87)) rfl rfl rfl (Nat.le_of_ble_eq_true rfl) hl.1 hcs dX8_feed_31 (fun H locs hw => ?_)
      exact z_ri X hw (zret h) dX8_feed_34
  · replace h := zif_t c4 h
    refine lv_aload_n hx hb dX8_feed_10 rfl (lv_at hl 0 rfl) ?_
    refine lv_iconst (v := 1) hx hb dX8_feed_11 (by decide) ?_
    obtain ⟨r16, M17, f18, h⟩ := zbi_e h
    refine z_qVi (As := [.int (1 : Int32)]) (rest := []) X hw (kX8_error l D cy a (1 : Int32) M2 r16 M17 f18) (cwX8_76 X.2.2.2.2.2.1 rfl rfl (zroomO (Nat.le_of_ble_eq_true rfl) (Nat.le_of_ble_eq_true rfl))) (zX8_lt (rfl : zX8 87)) (zS8 (rfl : zX8 87) cy a (M2 87)) rfl rfl rfl (Nat.le_of_ble_eq_true rfl) hl.1 hcs dX8_feed_12 (fun H locs hw => ?_)
    exact z_ri X hw (zret h) dX8_feed_15
def fX8_look (M : zM) : Option (Int32 × zM) := if M 88 (3) ≤ M 87 5 then (some ((-1 : Int32), M)) else (zgd ((365 : Int32) + (M 87 5) < 0 ∨ 449 ≤ ((365 : Int32) + (M 87 5)).toNatClampNeg) (some (M 88 (((365 : Int32) + (M 87 5)).toNatClampNeg), M)))
set_option maxRecDepth 100000 in
set_option maxHeartbeats 4000000 in
theorem kX8_look (l : Launch) (D : va_G) (cy : Nat → ClassId) (a : Nat → Nat) (M : zM) (r0 : Int32) (M0 : zM) (h : fX8_look  M = some (r0, M0)) : zCi l D cy a yX8_look cX8_look 1 (some .int) (zRm 0 0) [.ref (a 87)] M (fun r u => r = r0 ∧ u = M0) := by
  intro sz
  refine zent_i sz (by decide) (Nat.le_of_ble_eq_true rfl) rfl (fun p e s m args below meth c ls H locs X hw hl => ?_)
  obtain ⟨hx, hb, hr, hml, hown, hW, hlocks⟩ := id X
  have hE := hw.2.2.2.2.1
  have hcs : 0 ≤ ((zRm 0 0)).cells ∧ 0 ≤ ((zRm 0 0)).slots := ⟨Nat.zero_le _, Nat.zero_le _⟩
  rw [fX8_look] at h
  refine lv_aload_n hx hb dX8_look_0 rfl (lv_at hl 0 rfl) ?_
  refine gtX8_127 X hw dX8_look_1 ?_
  refine lv_aload_n hx hb dX8_look_4 rfl (lv_at hl 0 rfl) ?_
  refine gtX8_7 X hw dX8_look_5 ?_
  refine lv_iconst (v := 3) hx hb dX8_look_8 (by decide) ?_
  refine z_aldK (k := 3) X hw zI_88 (by decide) (by decide) (by decide) dX8_look_9 ?_
  refine lv_icmp_ge (tgt := 29) hx hb dX8_look_10 (by decide) (fun c1 => ?_) (fun c1 => ?_)
  · replace h := zif_t c1 h
    refine lv_iconst (v := (-1)) hx hb dX8_look_29 (by decide) ?_
    exact z_ri X hw (zret h) dX8_look_30
  · replace h := zif_f c1 h
    refine lv_aload_n hx hb dX8_look_13 rfl (lv_at hl 0 rfl) ?_
    refine gtX8_7 X hw dX8_look_14 ?_
    refine lv_sipush (v := 365) hx hb dX8_look_17 (by decide) ?_
    refine lv_aload_n hx hb dX8_look_20 rfl (lv_at hl 0 rfl) ?_
    refine gtX8_127 X hw dX8_look_21 ?_
    refine lv_iadd hx hb dX8_look_24 ?_
    obtain ⟨g2, h⟩ := zgd_e h
    refine z_ald X hw zI_88 g2 dX8_look_25 ?_
    refine lv_goto (tgt := 30) hx hb dX8_look_26 (by decide) ?_
    exact z_ri X hw (zret h) dX8_look_30
def fX8_isName (p0 : Int32) (M : zM) : Option (Int32 × zM) := if p0 = (109 : Int32) then (some ((1 : Int32), M)) else (if M 87 8 = 0 then (if p0 = (102 : Int32) then (some ((1 : Int32), M)) else (if p0 = (112 : Int32) then (some ((1 : Int32), M)) else (if p0 = (104 : Int32) then (some ((1 : Int32), M)) else (some ((0 : Int32), M))))) else (if p0 = (116 : Int32) then (some ((1 : Int32), M)) else (if p0 = (99 : Int32) then (some ((1 : Int32), M)) else (some ((0 : Int32), M)))))
set_option maxRecDepth 100000 in
set_option maxHeartbeats 4000000 in
theorem kX8_isName (l : Launch) (D : va_G) (cy : Nat → ClassId) (a : Nat → Nat) (p0 : Int32) (M : zM) (r0 : Int32) (M0 : zM) (h : fX8_isName p0 M = some (r0, M0)) : zCi l D cy a yX8_isName cX8_isName 2 (some .boolean) (zRm 0 0) [.ref (a 87), .int p0] M (fun r u => r = r0 ∧ u = M0) := by
  intro sz
  refine zent_i sz (by decide) (Nat.le_of_ble_eq_true rfl) rfl (fun p e s m args below meth c ls H locs X hw hl => ?_)
  obtain ⟨hx, hb, hr, hml, hown, hW, hlocks⟩ := id X
  have hE := hw.2.2.2.2.1
  have hcs : 0 ≤ ((zRm 0 0)).cells ∧ 0 ≤ ((zRm 0 0)).slots := ⟨Nat.zero_le _, Nat.zero_le _⟩
  rw [fX8_isName] at h
  refine lv_iload_n hx hb dX8_isName_0 rfl (lv_at hl 1 rfl) ?_
  refine lv_bipush (v := 109) hx hb dX8_isName_1 (by decide) ?_
  refine lv_icmp_ne (tgt := 8) hx hb dX8_isName_3 (by decide) (fun c1 => ?_) (fun c1 => ?_)
  · replace h := zif_f c1 h
    refine lv_aload_n hx hb dX8_isName_8 rfl (lv_at hl 0 rfl) ?_
    refine gtX8_131 X hw dX8_isName_9 ?_
    refine lv_if_ne (tgt := 41) hx hb dX8_isName_12 (by decide) (fun c2 => ?_) (fun c2 => ?_)
    · replace h := zif_f c2 h
      refine lv_iload_n hx hb dX8_isName_41 rfl (lv_at hl 1 rfl) ?_
      refine lv_bipush (v := 116) hx hb dX8_isName_42 (by decide) ?_
      refine lv_icmp_eq (tgt := 53) hx hb dX8_isName_44 (by decide) (fun c3 => ?_) (fun c3 => ?_)
      · replace h := zif_t c3 h
        refine lv_iconst (v := 1) hx hb dX8_isName_53 (by decide) ?_
        refine lv_goto (tgt := 58) hx hb dX8_isName_54 (by decide) ?_
        exact z_rz X hw (Or.inr rfl) (zret h) dX8_isName_58
      · replace h := zif_f c3 h
        refine lv_iload_n hx hb dX8_isName_47 rfl (lv_at hl 1 rfl) ?_
        refine lv_bipush (v := 99) hx hb dX8_isName_48 (by decide) ?_
        refine lv_icmp_ne (tgt := 57) hx hb dX8_isName_50 (by decide) (fun c4 => ?_) (fun c4 => ?_)
        · replace h := zif_f c4 h
          refine lv_iconst (v := 0) hx hb dX8_isName_57 (by decide) ?_
          exact z_rz X hw (Or.inl rfl) (zret h) dX8_isName_58
        · replace h := zif_t c4 h
          refine lv_iconst (v := 1) hx hb dX8_isName_53 (by decide) ?_
          refine lv_goto (tgt := 58) hx hb dX8_isName_54 (by decide) ?_
          exact z_rz X hw (Or.inr rfl) (zret h) dX8_isName_58
    · replace h := zif_t c2 h
      refine lv_iload_n hx hb dX8_isName_15 rfl (lv_at hl 1 rfl) ?_
      refine lv_bipush (v := 102) hx hb dX8_isName_16 (by decide) ?_
      refine lv_icmp_eq (tgt := 33) hx hb dX8_isName_18 (by decide) (fun c5 => ?_) (fun c5 => ?_)
      · replace h := zif_t c5 h
        refine lv_iconst (v := 1) hx hb dX8_isName_33 (by decide) ?_
        refine lv_goto (tgt := 58) hx hb dX8_isName_34 (by decide) ?_
        exact z_rz X hw (Or.inr rfl) (zret h) dX8_isName_58
      · replace h := zif_f c5 h
        refine lv_iload_n hx hb dX8_isName_21 rfl (lv_at hl 1 rfl) ?_
        refine lv_bipush (v := 112) hx hb dX8_isName_22 (by decide) ?_
        refine lv_icmp_eq (tgt := 33) hx hb dX8_isName_24 (by decide) (fun c6 => ?_) (fun c6 => ?_)
        · replace h := zif_t c6 h
          refine lv_iconst (v := 1) hx hb dX8_isName_33 (by decide) ?_
          refine lv_goto (tgt := 58) hx hb dX8_isName_34 (by decide) ?_
          exact z_rz X hw (Or.inr rfl) (zret h) dX8_isName_58
        · replace h := zif_f c6 h
          refine lv_iload_n hx hb dX8_isName_27 rfl (lv_at hl 1 rfl) ?_
          refine lv_bipush (v := 104) hx hb dX8_isName_28 (by decide) ?_
          refine lv_icmp_ne (tgt := 37) hx hb dX8_isName_30 (by decide) (fun c7 => ?_) (fun c7 => ?_)
          · replace h := zif_f c7 h
            refine lv_iconst (v := 0) hx hb dX8_isName_37 (by decide) ?_
            refine lv_goto (tgt := 58) hx hb dX8_isName_38 (by decide) ?_
            exact z_rz X hw (Or.inl rfl) (zret h) dX8_isName_58
          · replace h := zif_t c7 h
            refine lv_iconst (v := 1) hx hb dX8_isName_33 (by decide) ?_
            refine lv_goto (tgt := 58) hx hb dX8_isName_34 (by decide) ?_
            exact z_rz X hw (Or.inr rfl) (zret h) dX8_isName_58
  · replace h := zif_t c1 h
    refine lv_iconst (v := 1) hx hb dX8_isName_6 (by decide) ?_
    exact z_rz X hw (Or.inr rfl) (zret h) dX8_isName_7
def fX8_step1 (p0 : Int32) (p1 : Int32) (M : zM) : Option (zM) := zgd ((2 : Int32) * (M 87 7) < 0 ∨ 124 ≤ ((2 : Int32) * (M 87 7)).toNatClampNeg) (zlt (zst M 92 (((2 : Int32) * (M 87 7)).toNatClampNeg) p0) (fun M1 => zgd (((2 : Int32) * (M1 87 7)) + (1 : Int32) < 0 ∨ 124 ≤ (((2 : Int32) * (M1 87 7)) + (1 : Int32)).toNatClampNeg) (zlt (zst M1 92 ((((2 : Int32) * (M1 87 7)) + (1 : Int32)).toNatClampNeg) p1) (fun M3 => zlt (zst M3 87 7 ((M3 87 7) + (1 : Int32))) (fun M5 => some M5)))))
set_option maxRecDepth 100000 in
set_option maxHeartbeats 4000000 in
theorem kX8_step1 (l : Launch) (D : va_G) (cy : Nat → ClassId) (a : Nat → Nat) (p0 : Int32) (p1 : Int32) (M : zM) (M0 : zM) (h : fX8_step1 p0 p1 M = some M0) : zCv l D cy a yX8_step1 cX8_step1 3 (zRm 0 0) [.ref (a 87), .int p0, .int p1] M (fun u => u = M0) := by
  intro sz
  refine zent_v sz (by decide) (Nat.le_of_ble_eq_true rfl) rfl (fun p e s m args below meth c ls H locs X hw hl => ?_)
  obtain ⟨hx, hb, hr, hml, hown, hW, hlocks⟩ := id X
  have hE := hw.2.2.2.2.1
  have hcs : 0 ≤ ((zRm 0 0)).cells ∧ 0 ≤ ((zRm 0 0)).slots := ⟨Nat.zero_le _, Nat.zero_le _⟩
  rw [fX8_step1] at h
  refine lv_aload_n hx hb dX8_step1_0 rfl (lv_at hl 0 rfl) ?_
  refine gtX8_22 X hw dX8_step1_1 ?_
  refine lv_iconst (v := 2) hx hb dX8_step1_4 (by decide) ?_
  refine lv_aload_n hx hb dX8_step1_5 rfl (lv_at hl 0 rfl) ?_
  refine gtX8_134 X hw dX8_step1_6 ?_
  refine lv_imul hx hb dX8_step1_9 ?_
  refine lv_iload_n hx hb dX8_step1_10 rfl (lv_at hl 1 rfl) ?_
  obtain ⟨g2, h⟩ := zgd_e h
  refine z_ast X hw zI_92 g2 dX8_step1_11 (fun M1 H locs eM1 hw => ?_)
  replace h := zlt_s eM1 h
  refine lv_aload_n hx hb dX8_step1_12 rfl (lv_at hl 0 rfl) ?_
  refine gtX8_22 X hw dX8_step1_13 ?_
  refine lv_iconst (v := 2) hx hb dX8_step1_16 (by decide) ?_
  refine lv_aload_n hx hb dX8_step1_17 rfl (lv_at hl 0 rfl) ?_
  refine gtX8_134 X hw dX8_step1_18 ?_
  refine lv_imul hx hb dX8_step1_21 ?_
  refine lv_iconst (v := 1) hx hb dX8_step1_22 (by decide) ?_
  refine lv_iadd hx hb dX8_step1_23 ?_
  refine lv_iload_n hx hb dX8_step1_24 rfl (lv_at hl 2 rfl) ?_
  obtain ⟨g4, h⟩ := zgd_e h
  refine z_ast X hw zI_92 g4 dX8_step1_25 (fun M3 H locs eM3 hw => ?_)
  replace h := zlt_s eM3 h
  refine lv_aload_n hx hb dX8_step1_26 rfl (lv_at hl 0 rfl) ?_
  refine lv_dup hx hb dX8_step1_27 rfl ?_
  refine gtX8_134 X hw dX8_step1_28 ?_
  refine lv_iconst (v := 1) hx hb dX8_step1_31 (by decide) ?_
  refine lv_iadd hx hb dX8_step1_32 ?_
  refine ptX8_134 X hw dX8_step1_33 (fun M5 H locs eM5 hw => ?_)
  replace h := zlt_s eM5 h
  exact z_rv X hw (zretv h) dX8_step1_36
def fX8_opens (M : zM) : Option (Int32 × zM) := if M 87 6 = (5 : Int32) then (some ((0 : Int32), M)) else (zlt (zst M 87 6 ((M 87 6) + (1 : Int32))) (fun M2 => zlt (zst M2 87 5 ((M2 87 5) + (1 : Int32))) (fun M3 => some ((1 : Int32), M3))))
set_option maxRecDepth 100000 in
set_option maxHeartbeats 4000000 in
theorem kX8_opens (l : Launch) (D : va_G) (cy : Nat → ClassId) (a : Nat → Nat) (M : zM) (r0 : Int32) (M0 : zM) (h : fX8_opens  M = some (r0, M0)) : zCi l D cy a yX8_opens cX8_opens 1 (some .boolean) (zRm 0 0) [.ref (a 87)] M (fun r u => r = r0 ∧ u = M0) := by
  intro sz
  refine zent_i sz (by decide) (Nat.le_of_ble_eq_true rfl) rfl (fun p e s m args below meth c ls H locs X hw hl => ?_)
  obtain ⟨hx, hb, hr, hml, hown, hW, hlocks⟩ := id X
  have hE := hw.2.2.2.2.1
  have hcs : 0 ≤ ((zRm 0 0)).cells ∧ 0 ≤ ((zRm 0 0)).slots := ⟨Nat.zero_le _, Nat.zero_le _⟩
  rw [fX8_opens] at h
  refine lv_aload_n hx hb dX8_opens_0 rfl (lv_at hl 0 rfl) ?_
  refine gtX8_161 X hw dX8_opens_1 ?_
  refine lv_iconst (v := 5) hx hb dX8_opens_4 (by decide) ?_
  refine lv_icmp_ne (tgt := 10) hx hb dX8_opens_5 (by decide) (fun c1 => ?_) (fun c1 => ?_)
  · replace h := zif_f c1 h
    refine lv_aload_n hx hb dX8_opens_10 rfl (lv_at hl 0 rfl) ?_
    refine lv_dup hx hb dX8_opens_11 rfl ?_
    refine gtX8_161 X hw dX8_opens_12 ?_
    refine lv_iconst (v := 1) hx hb dX8_opens_15 (by decide) ?_
    refine lv_iadd hx hb dX8_opens_16 ?_
    refine ptX8_161 X hw dX8_opens_17 (fun M2 H locs eM2 hw => ?_)
    replace h := zlt_s eM2 h
    refine lv_aload_n hx hb dX8_opens_20 rfl (lv_at hl 0 rfl) ?_
    refine lv_dup hx hb dX8_opens_21 rfl ?_
    refine gtX8_127 X hw dX8_opens_22 ?_
    refine lv_iconst (v := 1) hx hb dX8_opens_25 (by decide) ?_
    refine lv_iadd hx hb dX8_opens_26 ?_
    refine ptX8_127 X hw dX8_opens_27 (fun M3 H locs eM3 hw => ?_)
    replace h := zlt_s eM3 h
    refine lv_iconst (v := 1) hx hb dX8_opens_30 (by decide) ?_
    exact z_rz X hw (Or.inr rfl) (zret h) dX8_opens_31
  · replace h := zif_t c1 h
    refine lv_iconst (v := 0) hx hb dX8_opens_8 (by decide) ?_
    exact z_rz X hw (Or.inl rfl) (zret h) dX8_opens_9
def fX8_product_9 (rec : zM → Option (Int32 × zM)) (k : zM → Option (Int32 × zM)) : Nat → zM → Option (Int32 × zM)
  | 0, _ => none
  | n + 1, M => zbi (fX8_look M) (fun r5 M6 => if r5 = (42 : Int32) then (zbi (fX8_look M6) (fun r9 M10 => zlt (zst M10 87 5 ((M10 87 5) + (1 : Int32))) (fun M12 => zbi (rec M12) (fun r13 M14 => if r13 = 0 then (some ((0 : Int32), M14)) else (zbv (fX8_step1 (3 : Int32) r9 M14) (fun M18 => fX8_product_9 rec k n  M18)))))) else (zbi (fX8_look M6) (fun r20 M21 => if r20 = (47 : Int32) then (zbi (fX8_look M21) (fun r24 M25 => zlt (zst M25 87 5 ((M25 87 5) + (1 : Int32))) (fun M27 => zbi (rec M27) (fun r28 M29 => if r28 = 0 then (some ((0 : Int32), M29)) else (zbv (fX8_step1 (3 : Int32) r24 M29) (fun M33 => fX8_product_9 rec k n  M33)))))) else (zbi (fX8_look M21) (fun r35 M36 => if r35 = (37 : Int32) then (zbi (fX8_look M36) (fun r39 M40 => zlt (zst M40 87 5 ((M40 87 5) + (1 : Int32))) (fun M42 => zbi (rec M42) (fun r43 M44 => if r43 = 0 then (some ((0 : Int32), M44)) else (zbv (fX8_step1 (3 : Int32) r39 M44) (fun M48 => fX8_product_9 rec k n  M48)))))) else (k  M36))))))
set_option maxRecDepth 100000 in
set_option maxHeartbeats 4000000 in
theorem lX8_product_9 {p : Program} {l : Launch} {e : Env} {s : State} {m : MethodId} {args : Array Value} {below : List Frame} {meth : Method} {c : Code} {D : va_G} {cy : Nat → ClassId} {a : Nat → Nat} {r0 : Int32} {M0 : zM} (rec : zM → Option (Int32 × zM)) (fr lo : Nat) (hrec : ∀ (M : zM) (r0 : Int32) (M0 : zM), rec M = some (r0, M0) → zCi l D cy a yX8_one cX8_one 4 (some .boolean) (zRm fr lo) [.ref (a 87)] M (fun r u => r = r0 ∧ u = M0)) (X : zCX p s m meth c args cX8_product 2 (some .boolean) RX8) (k : zM → Option (Int32 × zM)) : ∀ (n : Nat) (M : zM) (H : Heap) (locs : List Loc) (ls : Array Slot), zWD D cy a (zfr a s.heap.size) M H locs s → lv_has ls 2 [(0, .ref (a 87))] → fX8_product_9 rec k n M = some (r0, M0) →
    (∀ (M' : zM) (H' : Heap) (locs' : List Loc) (ls' : Array Slot), zWD D cy a (zfr a s.heap.size) M' H' locs' s → lv_has ls' 2 [] → k M' = some (r0, M0) → W p l e (zRm (fr + 1) (lo + 23)) s m args below meth c H' locs' 0 0 (zQi D cy a s args below r0 M0) (F0 m 69 ls' [])) →
    W p l e (zRm (fr + 1) (lo + 23)) s m args below meth c H locs 0 0 (zQi D cy a s args below r0 M0) (F0 m 9 ls []) := by
  obtain ⟨hx, hb, hr, hml, hown, hW, hlocks⟩ := id X
  have hcs : 0 ≤ ((zRm (fr + 1) (lo + 23))).cells ∧ 0 ≤ ((zRm (fr + 1) (lo + 23))).slots := ⟨Nat.zero_le _, Nat.zero_le _⟩
  intro n
  induction n with
  | zero =>
    intro M H locs ls hw hl h hk
    cases h
  | succ n ih =>
    intro M H locs ls hw hl h hk
    have hE := hw.2.2.2.2.1
    rw [fX8_product_9] at h
    refine lv_aload_n hx hb dX8_product_9 rfl (lv_at hl 0 rfl) ?_
    obtain ⟨r5, M6, f7, h⟩ := zbi_e h
    refine z_qVi (As := []) (rest := []) X hw (kX8_look l D cy a M r5 M6 f7) (cwX8_141 X.2.2.2.2.2.1 rfl rfl (zroomO (by omega) (by omega))) (zX8_lt (rfl : zX8 87)) (zS8 (rfl : zX8 87) cy a (M 87)) rfl rfl rfl (Nat.le_of_ble_eq_true rfl) hl.1 hcs dX8_product_10 (fun H locs hw => ?_)
    refine lv_bipush (v := 42) hx hb dX8_product_13 (by decide) ?_
    refine lv_icmp_eq (tgt := 36) hx hb dX8_product_15 (by decide) (fun c8 => ?_) (fun c8 => ?_)
    · replace h := zif_t c8 h
      refine lv_aload_n hx hb dX8_product_36 rfl (lv_at hl 0 rfl) ?_
      obtain ⟨r9, M10, f11, h⟩ := zbi_e h
      refine z_qVi (As := []) (rest := []) X hw (kX8_look l D cy a M6 r9 M10 f11) (cwX8_141 X.2.2.2.2.2.1 rfl rfl (zroomO (by omega) (by omega))) (zX8_lt (rfl : zX8 87)) (zS8 (rfl : zX8 87) cy a (M6 87)) rfl rfl rfl (Nat.le_of_ble_eq_true rfl) hl.1 hcs dX8_product_37 (fun H locs hw => ?_)
      refine lv_istore_n (lv' := [(1, .int r9), (0, .ref (a 87))]) hx hb dX8_product_40 rfl hl (by decide) rfl (fun ls hl => ?_)
      refine lv_aload_n hx hb dX8_product_41 rfl (lv_at hl 1 rfl) ?_
      refine lv_dup hx hb dX8_product_42 rfl ?_
      refine gtX8_127 X hw dX8_product_43 ?_
      refine lv_iconst (v := 1) hx hb dX8_product_46 (by decide) ?_
      refine lv_iadd hx hb dX8_product_47 ?_
      refine ptX8_127 X hw dX8_product_48 (fun M12 H locs eM12 hw => ?_)
      replace h := zlt_s eM12 h
      refine lv_aload_n hx hb dX8_product_51 rfl (lv_at hl 1 rfl) ?_
      obtain ⟨r13, M14, f15, h⟩ := zbi_e h
      refine z_qVi (As := []) (rest := []) X hw (hrec M12 r13 M14 f15) (cwX8_158 X.2.2.2.2.2.1 rfl rfl (zroomO (by omega) (by omega))) (zX8_lt (rfl : zX8 87)) (zS8 (rfl : zX8 87) cy a (M12 87)) rfl rfl rfl (Nat.le_of_ble_eq_true rfl) hl.1 hcs dX8_product_52 (fun H locs hw => ?_)
      refine lv_if_ne (tgt := 60) hx hb dX8_product_55 (by decide) (fun c16 => ?_) (fun c16 => ?_)
      · replace h := zif_f c16 h
        refine lv_aload_n hx hb dX8_product_60 rfl (lv_at hl 1 rfl) ?_
        refine lv_iconst (v := 3) hx hb dX8_product_61 (by decide) ?_
        refine lv_iload_n hx hb dX8_product_62 rfl (lv_at hl 0 rfl) ?_
        obtain ⟨M18, f19, h⟩ := zbv_e h
        refine z_qVv (As := [.int (3 : Int32), .int r9]) (rest := []) X hw (kX8_step1 l D cy a (3 : Int32) r9 M14 M18 f19) (cwX8_145 X.2.2.2.2.2.1 rfl rfl (zroomO (by omega) (by omega))) (zX8_lt (rfl : zX8 87)) (zS8 (rfl : zX8 87) cy a (M14 87)) rfl rfl rfl (Nat.le_of_ble_eq_true rfl) hl.1 hcs dX8_product_63 (fun H locs hw => ?_)
        refine lv_goto (tgt := 9) hx hb dX8_product_66 (by decide) ?_
        exact ih  M18 H locs _ hw (lv_sub hl [1] rfl) h hk
      · replace h := zif_t c16 h
        refine lv_iconst (v := 0) hx hb dX8_product_58 (by decide) ?_
        exact z_rz X hw (Or.inl rfl) (zret h) dX8_product_59
    · replace h := zif_f c8 h
      refine lv_aload_n hx hb dX8_product_18 rfl (lv_at hl 0 rfl) ?_
      obtain ⟨r20, M21, f22, h⟩ := zbi_e h
      refine z_qVi (As := []) (rest := []) X hw (kX8_look l D cy a M6 r20 M21 f22) (cwX8_141 X.2.2.2.2.2.1 rfl rfl (zroomO (by omega) (by omega))) (zX8_lt (rfl : zX8 87)) (zS8 (rfl : zX8 87) cy a (M6 87)) rfl rfl rfl (Nat.le_of_ble_eq_true rfl) hl.1 hcs dX8_product_19 (fun H locs hw => ?_)
      refine lv_bipush (v := 47) hx hb dX8_product_22 (by decide) ?_
      refine lv_icmp_eq (tgt := 36) hx hb dX8_product_24 (by decide) (fun c23 => ?_) (fun c23 => ?_)
      · replace h := zif_t c23 h
        refine lv_aload_n hx hb dX8_product_36 rfl (lv_at hl 0 rfl) ?_
        obtain ⟨r24, M25, f26, h⟩ := zbi_e h
        refine z_qVi (As := []) (rest := []) X hw (kX8_look l D cy a M21 r24 M25 f26) (cwX8_141 X.2.2.2.2.2.1 rfl rfl (zroomO (by omega) (by omega))) (zX8_lt (rfl : zX8 87)) (zS8 (rfl : zX8 87) cy a (M21 87)) rfl rfl rfl (Nat.le_of_ble_eq_true rfl) hl.1 hcs dX8_product_37 (fun H locs hw => ?_)
        refine lv_istore_n (lv' := [(1, .int r24), (0, .ref (a 87))]) hx hb dX8_product_40 rfl hl (by decide) rfl (fun ls hl => ?_)
        refine lv_aload_n hx hb dX8_product_41 rfl (lv_at hl 1 rfl) ?_
        refine lv_dup hx hb dX8_product_42 rfl ?_
        refine gtX8_127 X hw dX8_product_43 ?_
        refine lv_iconst (v := 1) hx hb dX8_product_46 (by decide) ?_
        refine lv_iadd hx hb dX8_product_47 ?_
        refine ptX8_127 X hw dX8_product_48 (fun M27 H locs eM27 hw => ?_)
        replace h := zlt_s eM27 h
        refine lv_aload_n hx hb dX8_product_51 rfl (lv_at hl 1 rfl) ?_
        obtain ⟨r28, M29, f30, h⟩ := zbi_e h
        refine z_qVi (As := []) (rest := []) X hw (hrec M27 r28 M29 f30) (cwX8_158 X.2.2.2.2.2.1 rfl rfl (zroomO (by omega) (by omega))) (zX8_lt (rfl : zX8 87)) (zS8 (rfl : zX8 87) cy a (M27 87)) rfl rfl rfl (Nat.le_of_ble_eq_true rfl) hl.1 hcs dX8_product_52 (fun H locs hw => ?_)
        refine lv_if_ne (tgt := 60) hx hb dX8_product_55 (by decide) (fun c31 => ?_) (fun c31 => ?_)
        · replace h := zif_f c31 h
          refine lv_aload_n hx hb dX8_product_60 rfl (lv_at hl 1 rfl) ?_
          refine lv_iconst (v := 3) hx hb dX8_product_61 (by decide) ?_
          refine lv_iload_n hx hb dX8_product_62 rfl (lv_at hl 0 rfl) ?_
          obtain ⟨M33, f34, h⟩ := zbv_e h
          refine z_qVv (As := [.int (3 : Int32), .int r24]) (rest := []) X hw (kX8_step1 l D cy a (3 : Int32) r24 M29 M33 f34) (cwX8_145 X.2.2.2.2.2.1 rfl rfl (zroomO (by omega) (by omega))) (zX8_lt (rfl : zX8 87)) (zS8 (rfl : zX8 87) cy a (M29 87)) rfl rfl rfl (Nat.le_of_ble_eq_true rfl) hl.1 hcs dX8_product_63 (fun H locs hw => ?_)
          refine lv_goto (tgt := 9) hx hb dX8_product_66 (by decide) ?_
          exact ih  M33 H locs _ hw (lv_sub hl [1] rfl) h hk
        · replace h := zif_t c31 h
          refine lv_iconst (v := 0) hx hb dX8_product_58 (by decide) ?_
          exact z_rz X hw (Or.inl rfl) (zret h) dX8_product_59
      · replace h := zif_f c23 h
        refine lv_aload_n hx hb dX8_product_27 rfl (lv_at hl 0 rfl) ?_
        obtain ⟨r35, M36, f37, h⟩ := zbi_e h
        refine z_qVi (As := []) (rest := []) X hw (kX8_look l D cy a M21 r35 M36 f37) (cwX8_141 X.2.2.2.2.2.1 rfl rfl (zroomO (by omega) (by omega))) (zX8_lt (rfl : zX8 87)) (zS8 (rfl : zX8 87) cy a (M21 87)) rfl rfl rfl (Nat.le_of_ble_eq_true rfl) hl.1 hcs dX8_product_28 (fun H locs hw => ?_)
        refine lv_bipush (v := 37) hx hb dX8_product_31 (by decide) ?_
        refine lv_icmp_ne (tgt := 69) hx hb dX8_product_33 (by decide) (fun c38 => ?_) (fun c38 => ?_)
        · replace h := zif_f c38 h
          exact hk  M36 H locs _ hw (lv_sub hl [] rfl) h
        · replace h := zif_t c38 h
          refine lv_aload_n hx hb dX8_product_36 rfl (lv_at hl 0 rfl) ?_
          obtain ⟨r39, M40, f41, h⟩ := zbi_e h
          refine z_qVi (As := []) (rest := []) X hw (kX8_look l D cy a M36 r39 M40 f41) (cwX8_141 X.2.2.2.2.2.1 rfl rfl (zroomO (by omega) (by omega))) (zX8_lt (rfl : zX8 87)) (zS8 (rfl : zX8 87) cy a (M36 87)) rfl rfl rfl (Nat.le_of_ble_eq_true rfl) hl.1 hcs dX8_product_37 (fun H locs hw => ?_)
          refine lv_istore_n (lv' := [(1, .int r39), (0, .ref (a 87))]) hx hb dX8_product_40 rfl hl (by decide) rfl (fun ls hl => ?_)
          refine lv_aload_n hx hb dX8_product_41 rfl (lv_at hl 1 rfl) ?_
          refine lv_dup hx hb dX8_product_42 rfl ?_
          refine gtX8_127 X hw dX8_product_43 ?_
          refine lv_iconst (v := 1) hx hb dX8_product_46 (by decide) ?_
          refine lv_iadd hx hb dX8_product_47 ?_
          refine ptX8_127 X hw dX8_product_48 (fun M42 H locs eM42 hw => ?_)
          replace h := zlt_s eM42 h
          refine lv_aload_n hx hb dX8_product_51 rfl (lv_at hl 1 rfl) ?_
          obtain ⟨r43, M44, f45, h⟩ := zbi_e h
          refine z_qVi (As := []) (rest := []) X hw (hrec M42 r43 M44 f45) (cwX8_158 X.2.2.2.2.2.1 rfl rfl (zroomO (by omega) (by omega))) (zX8_lt (rfl : zX8 87)) (zS8 (rfl : zX8 87) cy a (M42 87)) rfl rfl rfl (Nat.le_of_ble_eq_true rfl) hl.1 hcs dX8_product_52 (fun H locs hw => ?_)
          refine lv_if_ne (tgt := 60) hx hb dX8_product_55 (by decide) (fun c46 => ?_) (fun c46 => ?_)
          · replace h := zif_f c46 h
            refine lv_aload_n hx hb dX8_product_60 rfl (lv_at hl 1 rfl) ?_
            refine lv_iconst (v := 3) hx hb dX8_product_61 (by decide) ?_
            refine lv_iload_n hx hb dX8_product_62 rfl (lv_at hl 0 rfl) ?_
            obtain ⟨M48, f49, h⟩ := zbv_e h
            refine z_qVv (As := [.int (3 : Int32), .int r39]) (rest := []) X hw (kX8_step1 l D cy a (3 : Int32) r39 M44 M48 f49) (cwX8_145 X.2.2.2.2.2.1 rfl rfl (zroomO (by omega) (by omega))) (zX8_lt (rfl : zX8 87)) (zS8 (rfl : zX8 87) cy a (M44 87)) rfl rfl rfl (Nat.le_of_ble_eq_true rfl) hl.1 hcs dX8_product_63 (fun H locs hw => ?_)
            refine lv_goto (tgt := 9) hx hb dX8_product_66 (by decide) ?_
            exact ih  M48 H locs _ hw (lv_sub hl [1] rfl) h hk
          · replace h := zif_t c46 h
            refine lv_iconst (v := 0) hx hb dX8_product_58 (by decide) ?_
            exact z_rz X hw (Or.inl rfl) (zret h) dX8_product_59
def fX8_product (rec : zM → Option (Int32 × zM)) (M : zM) : Option (Int32 × zM) := zbi (rec M) (fun r1 M2 => if r1 = 0 then (some ((0 : Int32), M2)) else (fX8_product_9 rec (fun  M50 => some ((1 : Int32), M50)) zF  M2))
set_option maxRecDepth 100000 in
set_option maxHeartbeats 4000000 in
theorem kX8_product (l : Launch) (D : va_G) (cy : Nat → ClassId) (a : Nat → Nat) (rec : zM → Option (Int32 × zM)) (fr lo : Nat) (hrec : ∀ (M : zM) (r0 : Int32) (M0 : zM), rec M = some (r0, M0) → zCi l D cy a yX8_one cX8_one 4 (some .boolean) (zRm fr lo) [.ref (a 87)] M (fun r u => r = r0 ∧ u = M0)) (M : zM) (r0 : Int32) (M0 : zM) (h : fX8_product rec  M = some (r0, M0)) : zCi l D cy a yX8_product cX8_product 2 (some .boolean) (zRm (fr + 1) (lo + 23)) [.ref (a 87)] M (fun r u => r = r0 ∧ u = M0) := by
  intro sz
  refine zent_i sz (by decide) (Nat.le_of_ble_eq_true rfl) rfl (fun p e s m args below meth c ls H locs X hw hl => ?_)
  obtain ⟨hx, hb, hr, hml, hown, hW, hlocks⟩ := id X
  have hE := hw.2.2.2.2.1
  have hcs : 0 ≤ ((zRm (fr + 1) (lo + 23))).cells ∧ 0 ≤ ((zRm (fr + 1) (lo + 23))).slots := ⟨Nat.zero_le _, Nat.zero_le _⟩
  rw [fX8_product] at h
  refine lv_aload_n hx hb dX8_product_0 rfl (lv_at hl 0 rfl) ?_
  obtain ⟨r1, M2, f3, h⟩ := zbi_e h
  refine z_qVi (As := []) (rest := []) X hw (hrec M r1 M2 f3) (cwX8_158 X.2.2.2.2.2.1 rfl rfl (zroomO (by omega) (by omega))) (zX8_lt (rfl : zX8 87)) (zS8 (rfl : zX8 87) cy a (M 87)) rfl rfl rfl (Nat.le_of_ble_eq_true rfl) hl.1 hcs dX8_product_1 (fun H locs hw => ?_)
  refine lv_if_ne (tgt := 9) hx hb dX8_product_4 (by decide) (fun c4 => ?_) (fun c4 => ?_)
  · replace h := zif_f c4 h
    refine lX8_product_9 rec fr lo hrec X  _ zF  M2 H locs _ hw (lv_sub hl [0] rfl) h (fun  M50 H locs ls hw hl h => ?_)
    refine lv_iconst (v := 1) hx hb dX8_product_69 (by decide) ?_
    exact z_rz X hw (Or.inr rfl) (zret h) dX8_product_70
  · replace h := zif_t c4 h
    refine lv_iconst (v := 0) hx hb dX8_product_7 (by decide) ?_
    exact z_rz X hw (Or.inl rfl) (zret h) dX8_product_8
def fX8_sum_9 (rec : zM → Option (Int32 × zM)) (k : zM → Option (Int32 × zM)) : Nat → zM → Option (Int32 × zM)
  | 0, _ => none
  | n + 1, M => zbi (fX8_look M) (fun r5 M6 => if r5 = (43 : Int32) then (zbi (fX8_look M6) (fun r9 M10 => zlt (zst M10 87 5 ((M10 87 5) + (1 : Int32))) (fun M12 => zbi (fX8_product rec M12) (fun r13 M14 => if r13 = 0 then (some ((0 : Int32), M14)) else (zbv (fX8_step1 (3 : Int32) r9 M14) (fun M18 => fX8_sum_9 rec k n  M18)))))) else (zbi (fX8_look M6) (fun r20 M21 => if r20 = (45 : Int32) then (zbi (fX8_look M21) (fun r24 M25 => zlt (zst M25 87 5 ((M25 87 5) + (1 : Int32))) (fun M27 => zbi (fX8_product rec M27) (fun r28 M29 => if r28 = 0 then (some ((0 : Int32), M29)) else (zbv (fX8_step1 (3 : Int32) r24 M29) (fun M33 => fX8_sum_9 rec k n  M33)))))) else (k  M21))))
set_option maxRecDepth 100000 in
set_option maxHeartbeats 4000000 in
theorem lX8_sum_9 {p : Program} {l : Launch} {e : Env} {s : State} {m : MethodId} {args : Array Value} {below : List Frame} {meth : Method} {c : Code} {D : va_G} {cy : Nat → ClassId} {a : Nat → Nat} {r0 : Int32} {M0 : zM} (rec : zM → Option (Int32 × zM)) (fr lo : Nat) (hrec : ∀ (M : zM) (r0 : Int32) (M0 : zM), rec M = some (r0, M0) → zCi l D cy a yX8_one cX8_one 4 (some .boolean) (zRm fr lo) [.ref (a 87)] M (fun r u => r = r0 ∧ u = M0)) (X : zCX p s m meth c args cX8_sum 2 (some .boolean) RX8) (k : zM → Option (Int32 × zM)) : ∀ (n : Nat) (M : zM) (H : Heap) (locs : List Loc) (ls : Array Slot), zWD D cy a (zfr a s.heap.size) M H locs s → lv_has ls 2 [(0, .ref (a 87))] → fX8_sum_9 rec k n M = some (r0, M0) →
    (∀ (M' : zM) (H' : Heap) (locs' : List Loc) (ls' : Array Slot), zWD D cy a (zfr a s.heap.size) M' H' locs' s → lv_has ls' 2 [] → k M' = some (r0, M0) → W p l e (zRm (fr + 2) (lo + 44)) s m args below meth c H' locs' 0 0 (zQi D cy a s args below r0 M0) (F0 m 60 ls' [])) →
    W p l e (zRm (fr + 2) (lo + 44)) s m args below meth c H locs 0 0 (zQi D cy a s args below r0 M0) (F0 m 9 ls []) := by
  obtain ⟨hx, hb, hr, hml, hown, hW, hlocks⟩ := id X
  have hcs : 0 ≤ ((zRm (fr + 2) (lo + 44))).cells ∧ 0 ≤ ((zRm (fr + 2) (lo + 44))).slots := ⟨Nat.zero_le _, Nat.zero_le _⟩
  intro n
  induction n with
  | zero =>
    intro M H locs ls hw hl h hk
    cases h
  | succ n ih =>
    intro M H locs ls hw hl h hk
    have hE := hw.2.2.2.2.1
    rw [fX8_sum_9] at h
    refine lv_aload_n hx hb dX8_sum_9 rfl (lv_at hl 0 rfl) ?_
    obtain ⟨r5, M6, f7, h⟩ := zbi_e h
    refine z_qVi (As := []) (rest := []) X hw (kX8_look l D cy a M r5 M6 f7) (cwX8_141 X.2.2.2.2.2.1 rfl rfl (zroomO (by omega) (by omega))) (zX8_lt (rfl : zX8 87)) (zS8 (rfl : zX8 87) cy a (M 87)) rfl rfl rfl (Nat.le_of_ble_eq_true rfl) hl.1 hcs dX8_sum_10 (fun H locs hw => ?_)
    refine lv_bipush (v := 43) hx hb dX8_sum_13 (by decide) ?_
    refine lv_icmp_eq (tgt := 27) hx hb dX8_sum_15 (by decide) (fun c8 => ?_) (fun c8 => ?_)
    · replace h := zif_t c8 h
      refine lv_aload_n hx hb dX8_sum_27 rfl (lv_at hl 0 rfl) ?_
      obtain ⟨r9, M10, f11, h⟩ := zbi_e h
      refine z_qVi (As := []) (rest := []) X hw (kX8_look l D cy a M6 r9 M10 f11) (cwX8_141 X.2.2.2.2.2.1 rfl rfl (zroomO (by omega) (by omega))) (zX8_lt (rfl : zX8 87)) (zS8 (rfl : zX8 87) cy a (M6 87)) rfl rfl rfl (Nat.le_of_ble_eq_true rfl) hl.1 hcs dX8_sum_28 (fun H locs hw => ?_)
      refine lv_istore_n (lv' := [(1, .int r9), (0, .ref (a 87))]) hx hb dX8_sum_31 rfl hl (by decide) rfl (fun ls hl => ?_)
      refine lv_aload_n hx hb dX8_sum_32 rfl (lv_at hl 1 rfl) ?_
      refine lv_dup hx hb dX8_sum_33 rfl ?_
      refine gtX8_127 X hw dX8_sum_34 ?_
      refine lv_iconst (v := 1) hx hb dX8_sum_37 (by decide) ?_
      refine lv_iadd hx hb dX8_sum_38 ?_
      refine ptX8_127 X hw dX8_sum_39 (fun M12 H locs eM12 hw => ?_)
      replace h := zlt_s eM12 h
      refine lv_aload_n hx hb dX8_sum_42 rfl (lv_at hl 1 rfl) ?_
      obtain ⟨r13, M14, f15, h⟩ := zbi_e h
      refine z_qVi (As := []) (rest := []) X hw (kX8_product l D cy a rec _ _ hrec M12 r13 M14 f15) (cwX8_155 X.2.2.2.2.2.1 rfl rfl (zroomO (by omega) (by omega))) (zX8_lt (rfl : zX8 87)) (zS8 (rfl : zX8 87) cy a (M12 87)) rfl rfl rfl (Nat.le_of_ble_eq_true rfl) hl.1 hcs dX8_sum_43 (fun H locs hw => ?_)
      refine lv_if_ne (tgt := 51) hx hb dX8_sum_46 (by decide) (fun c16 => ?_) (fun c16 => ?_)
      · replace h := zif_f c16 h
        refine lv_aload_n hx hb dX8_sum_51 rfl (lv_at hl 1 rfl) ?_
        refine lv_iconst (v := 3) hx hb dX8_sum_52 (by decide) ?_
        refine lv_iload_n hx hb dX8_sum_53 rfl (lv_at hl 0 rfl) ?_
        obtain ⟨M18, f19, h⟩ := zbv_e h
        refine z_qVv (As := [.int (3 : Int32), .int r9]) (rest := []) X hw (kX8_step1 l D cy a (3 : Int32) r9 M14 M18 f19) (cwX8_145 X.2.2.2.2.2.1 rfl rfl (zroomO (by omega) (by omega))) (zX8_lt (rfl : zX8 87)) (zS8 (rfl : zX8 87) cy a (M14 87)) rfl rfl rfl (Nat.le_of_ble_eq_true rfl) hl.1 hcs dX8_sum_54 (fun H locs hw => ?_)
        refine lv_goto (tgt := 9) hx hb dX8_sum_57 (by decide) ?_
        exact ih  M18 H locs _ hw (lv_sub hl [1] rfl) h hk
      · replace h := zif_t c16 h
        refine lv_iconst (v := 0) hx hb dX8_sum_49 (by decide) ?_
        exact z_rz X hw (Or.inl rfl) (zret h) dX8_sum_50
    · replace h := zif_f c8 h
      refine lv_aload_n hx hb dX8_sum_18 rfl (lv_at hl 0 rfl) ?_
      obtain ⟨r20, M21, f22, h⟩ := zbi_e h
      refine z_qVi (As := []) (rest := []) X hw (kX8_look l D cy a M6 r20 M21 f22) (cwX8_141 X.2.2.2.2.2.1 rfl rfl (zroomO (by omega) (by omega))) (zX8_lt (rfl : zX8 87)) (zS8 (rfl : zX8 87) cy a (M6 87)) rfl rfl rfl (Nat.le_of_ble_eq_true rfl) hl.1 hcs dX8_sum_19 (fun H locs hw => ?_)
      refine lv_bipush (v := 45) hx hb dX8_sum_22 (by decide) ?_
      refine lv_icmp_ne (tgt := 60) hx hb dX8_sum_24 (by decide) (fun c23 => ?_) (fun c23 => ?_)
      · replace h := zif_f c23 h
        exact hk  M21 H locs _ hw (lv_sub hl [] rfl) h
      · replace h := zif_t c23 h
        refine lv_aload_n hx hb dX8_sum_27 rfl (lv_at hl 0 rfl) ?_
        obtain ⟨r24, M25, f26, h⟩ := zbi_e h
        refine z_qVi (As := []) (rest := []) X hw (kX8_look l D cy a M21 r24 M25 f26) (cwX8_141 X.2.2.2.2.2.1 rfl rfl (zroomO (by omega) (by omega))) (zX8_lt (rfl : zX8 87)) (zS8 (rfl : zX8 87) cy a (M21 87)) rfl rfl rfl (Nat.le_of_ble_eq_true rfl) hl.1 hcs dX8_sum_28 (fun H locs hw => ?_)
        refine lv_istore_n (lv' := [(1, .int r24), (0, .ref (a 87))]) hx hb dX8_sum_31 rfl hl (by decide) rfl (fun ls hl => ?_)
        refine lv_aload_n hx hb dX8_sum_32 rfl (lv_at hl 1 rfl) ?_
        refine lv_dup hx hb dX8_sum_33 rfl ?_
        refine gtX8_127 X hw dX8_sum_34 ?_
        refine lv_iconst (v := 1) hx hb dX8_sum_37 (by decide) ?_
        refine lv_iadd hx hb dX8_sum_38 ?_
        refine ptX8_127 X hw dX8_sum_39 (fun M27 H locs eM27 hw => ?_)
        replace h := zlt_s eM27 h
        refine lv_aload_n hx hb dX8_sum_42 rfl (lv_at hl 1 rfl) ?_
        obtain ⟨r28, M29, f30, h⟩ := zbi_e h
        refine z_qVi (As := []) (rest := []) X hw (kX8_product l D cy a rec _ _ hrec M27 r28 M29 f30) (cwX8_155 X.2.2.2.2.2.1 rfl rfl (zroomO (by omega) (by omega))) (zX8_lt (rfl : zX8 87)) (zS8 (rfl : zX8 87) cy a (M27 87)) rfl rfl rfl (Nat.le_of_ble_eq_true rfl) hl.1 hcs dX8_sum_43 (fun H locs hw => ?_)
        refine lv_if_ne (tgt := 51) hx hb dX8_sum_46 (by decide) (fun c31 => ?_) (fun c31 => ?_)
        · replace h := zif_f c31 h
          refine lv_aload_n hx hb dX8_sum_51 rfl (lv_at hl 1 rfl) ?_
          refine lv_iconst (v := 3) hx hb dX8_sum_52 (by decide) ?_
          refine lv_iload_n hx hb dX8_sum_53 rfl (lv_at hl 0 rfl) ?_
          obtain ⟨M33, f34, h⟩ := zbv_e h
          refine z_qVv (As := [.int (3 : Int32), .int r24]) (rest := []) X hw (kX8_step1 l D cy a (3 : Int32) r24 M29 M33 f34) (cwX8_145 X.2.2.2.2.2.1 rfl rfl (zroomO (by omega) (by omega))) (zX8_lt (rfl : zX8 87)) (zS8 (rfl : zX8 87) cy a (M29 87)) rfl rfl rfl (Nat.le_of_ble_eq_true rfl) hl.1 hcs dX8_sum_54 (fun H locs hw => ?_)
          refine lv_goto (tgt := 9) hx hb dX8_sum_57 (by decide) ?_
          exact ih  M33 H locs _ hw (lv_sub hl [1] rfl) h hk
        · replace h := zif_t c31 h
          refine lv_iconst (v := 0) hx hb dX8_sum_49 (by decide) ?_
          exact z_rz X hw (Or.inl rfl) (zret h) dX8_sum_50
def fX8_sum (rec : zM → Option (Int32 × zM)) (M : zM) : Option (Int32 × zM) := zbi (fX8_product rec M) (fun r1 M2 => if r1 = 0 then (some ((0 : Int32), M2)) else (fX8_sum_9 rec (fun  M35 => some ((1 : Int32), M35)) zF  M2))
set_option maxRecDepth 100000 in
set_option maxHeartbeats 4000000 in
theorem kX8_sum (l : Launch) (D : va_G) (cy : Nat → ClassId) (a : Nat → Nat) (rec : zM → Option (Int32 × zM)) (fr lo : Nat) (hrec : ∀ (M : zM) (r0 : Int32) (M0 : zM), rec M = some (r0, M0) → zCi l D cy a yX8_one cX8_one 4 (some .boolean) (zRm fr lo) [.ref (a 87)] M (fun r u => r = r0 ∧ u = M0)) (M : zM) (r0 : Int32) (M0 : zM) (h : fX8_sum rec  M = some (r0, M0)) : zCi l D cy a yX8_sum cX8_sum 2 (some .boolean) (zRm (fr + 2) (lo + 44)) [.ref (a 87)] M (fun r u => r = r0 ∧ u = M0) := by
  intro sz
  refine zent_i sz (by decide) (Nat.le_of_ble_eq_true rfl) rfl (fun p e s m args below meth c ls H locs X hw hl => ?_)
  obtain ⟨hx, hb, hr, hml, hown, hW, hlocks⟩ := id X
  have hE := hw.2.2.2.2.1
  have hcs : 0 ≤ ((zRm (fr + 2) (lo + 44))).cells ∧ 0 ≤ ((zRm (fr + 2) (lo + 44))).slots := ⟨Nat.zero_le _, Nat.zero_le _⟩
  rw [fX8_sum] at h
  refine lv_aload_n hx hb dX8_sum_0 rfl (lv_at hl 0 rfl) ?_
  obtain ⟨r1, M2, f3, h⟩ := zbi_e h
  refine z_qVi (As := []) (rest := []) X hw (kX8_product l D cy a rec _ _ hrec M r1 M2 f3) (cwX8_155 X.2.2.2.2.2.1 rfl rfl (zroomO (by omega) (by omega))) (zX8_lt (rfl : zX8 87)) (zS8 (rfl : zX8 87) cy a (M 87)) rfl rfl rfl (Nat.le_of_ble_eq_true rfl) hl.1 hcs dX8_sum_1 (fun H locs hw => ?_)
  refine lv_if_ne (tgt := 9) hx hb dX8_sum_4 (by decide) (fun c4 => ?_) (fun c4 => ?_)
  · replace h := zif_f c4 h
    refine lX8_sum_9 rec fr lo hrec X  _ zF  M2 H locs _ hw (lv_sub hl [0] rfl) h (fun  M35 H locs ls hw hl h => ?_)
    refine lv_iconst (v := 1) hx hb dX8_sum_60 (by decide) ?_
    exact z_rz X hw (Or.inr rfl) (zret h) dX8_sum_61
  · replace h := zif_t c4 h
    refine lv_iconst (v := 0) hx hb dX8_sum_7 (by decide) ?_
    exact z_rz X hw (Or.inl rfl) (zret h) dX8_sum_8
def fX8_compared (rec : zM → Option (Int32 × zM)) (M : zM) : Option (Int32 × zM) := zbi (fX8_sum rec M) (fun r1 M2 => if r1 = 0 then (some ((0 : Int32), M2)) else (zbi (fX8_look M2) (fun r5 M6 => if r5 = (60 : Int32) then (zlt (zst M6 87 5 ((M6 87 5) + (1 : Int32))) (fun M9 => zbi (fX8_sum rec M9) (fun r10 M11 => if r10 = 0 then (some ((0 : Int32), M11)) else (zbv (fX8_step1 (3 : Int32) r5 M11) (fun M15 => some ((1 : Int32), M15)))))) else (if r5 = (61 : Int32) then (zlt (zst M6 87 5 ((M6 87 5) + (1 : Int32))) (fun M18 => zbi (fX8_sum rec M18) (fun r19 M20 => if r19 = 0 then (some ((0 : Int32), M20)) else (zbv (fX8_step1 (3 : Int32) r5 M20) (fun M24 => some ((1 : Int32), M24)))))) else (if r5 = (62 : Int32) then (zlt (zst M6 87 5 ((M6 87 5) + (1 : Int32))) (fun M27 => zbi (fX8_sum rec M27) (fun r28 M29 => if r28 = 0 then (some ((0 : Int32), M29)) else (zbv (fX8_step1 (3 : Int32) r5 M29) (fun M33 => some ((1 : Int32), M33)))))) else (some ((1 : Int32), M6)))))))
set_option maxRecDepth 100000 in
set_option maxHeartbeats 4000000 in
theorem kX8_compared (l : Launch) (D : va_G) (cy : Nat → ClassId) (a : Nat → Nat) (rec : zM → Option (Int32 × zM)) (fr lo : Nat) (hrec : ∀ (M : zM) (r0 : Int32) (M0 : zM), rec M = some (r0, M0) → zCi l D cy a yX8_one cX8_one 4 (some .boolean) (zRm fr lo) [.ref (a 87)] M (fun r u => r = r0 ∧ u = M0)) (M : zM) (r0 : Int32) (M0 : zM) (h : fX8_compared rec  M = some (r0, M0)) : zCi l D cy a yX8_compared cX8_compared 2 (some .boolean) (zRm (fr + 3) (lo + 65)) [.ref (a 87)] M (fun r u => r = r0 ∧ u = M0) := by
  intro sz
  refine zent_i sz (by decide) (Nat.le_of_ble_eq_true rfl) rfl (fun p e s m args below meth c ls H locs X hw hl => ?_)
  obtain ⟨hx, hb, hr, hml, hown, hW, hlocks⟩ := id X
  have hE := hw.2.2.2.2.1
  have hcs : 0 ≤ ((zRm (fr + 3) (lo + 65))).cells ∧ 0 ≤ ((zRm (fr + 3) (lo + 65))).slots := ⟨Nat.zero_le _, Nat.zero_le _⟩
  rw [fX8_compared] at h
  refine lv_aload_n hx hb dX8_compared_0 rfl (lv_at hl 0 rfl) ?_
  obtain ⟨r1, M2, f3, h⟩ := zbi_e h
  refine z_qVi (As := []) (rest := []) X hw (kX8_sum l D cy a rec _ _ hrec M r1 M2 f3) (cwX8_152 X.2.2.2.2.2.1 rfl rfl (zroomO (by omega) (by omega))) (zX8_lt (rfl : zX8 87)) (zS8 (rfl : zX8 87) cy a (M 87)) rfl rfl rfl (Nat.le_of_ble_eq_true rfl) hl.1 hcs dX8_compared_1 (fun H locs hw => ?_)
  refine lv_if_ne (tgt := 9) hx hb dX8_compared_4 (by decide) (fun c4 => ?_) (fun c4 => ?_)
  · replace h := zif_f c4 h
    refine lv_aload_n hx hb dX8_compared_9 rfl (lv_at hl 0 rfl) ?_
    obtain ⟨r5, M6, f7, h⟩ := zbi_e h
    refine z_qVi (As := []) (rest := []) X hw (kX8_look l D cy a M2 r5 M6 f7) (cwX8_141 X.2.2.2.2.2.1 rfl rfl (zroomO (by omega) (by omega))) (zX8_lt (rfl : zX8 87)) (zS8 (rfl : zX8 87) cy a (M2 87)) rfl rfl rfl (Nat.le_of_ble_eq_true rfl) hl.1 hcs dX8_compared_10 (fun H locs hw => ?_)
    refine lv_istore_n (lv' := [(1, .int r5), (0, .ref (a 87))]) hx hb dX8_compared_13 rfl hl (by decide) rfl (fun ls hl => ?_)
    refine lv_iload_n hx hb dX8_compared_14 rfl (lv_at hl 0 rfl) ?_
    refine lv_bipush (v := 60) hx hb dX8_compared_15 (by decide) ?_
    refine lv_icmp_eq (tgt := 34) hx hb dX8_compared_17 (by decide) (fun c8 => ?_) (fun c8 => ?_)
    · replace h := zif_t c8 h
      refine lv_aload_n hx hb dX8_compared_34 rfl (lv_at hl 1 rfl) ?_
      refine lv_dup hx hb dX8_compared_35 rfl ?_
      refine gtX8_127 X hw dX8_compared_36 ?_
      refine lv_iconst (v := 1) hx hb dX8_compared_39 (by decide) ?_
      refine lv_iadd hx hb dX8_compared_40 ?_
      refine ptX8_127 X hw dX8_compared_41 (fun M9 H locs eM9 hw => ?_)
      replace h := zlt_s eM9 h
      refine lv_aload_n hx hb dX8_compared_44 rfl (lv_at hl 1 rfl) ?_
      obtain ⟨r10, M11, f12, h⟩ := zbi_e h
      refine z_qVi (As := []) (rest := []) X hw (kX8_sum l D cy a rec _ _ hrec M9 r10 M11 f12) (cwX8_152 X.2.2.2.2.2.1 rfl rfl (zroomO (by omega) (by omega))) (zX8_lt (rfl : zX8 87)) (zS8 (rfl : zX8 87) cy a (M9 87)) rfl rfl rfl (Nat.le_of_ble_eq_true rfl) hl.1 hcs dX8_compared_45 (fun H locs hw => ?_)
      refine lv_if_ne (tgt := 53) hx hb dX8_compared_48 (by decide) (fun c13 => ?_) (fun c13 => ?_)
      · replace h := zif_f c13 h
        refine lv_aload_n hx hb dX8_compared_53 rfl (lv_at hl 1 rfl) ?_
        refine lv_iconst (v := 3) hx hb dX8_compared_54 (by decide) ?_
        refine lv_iload_n hx hb dX8_compared_55 rfl (lv_at hl 0 rfl) ?_
        obtain ⟨M15, f16, h⟩ := zbv_e h
        refine z_qVv (As := [.int (3 : Int32), .int r5]) (rest := []) X hw (kX8_step1 l D cy a (3 : Int32) r5 M11 M15 f16) (cwX8_145 X.2.2.2.2.2.1 rfl rfl (zroomO (by omega) (by omega))) (zX8_lt (rfl : zX8 87)) (zS8 (rfl : zX8 87) cy a (M11 87)) rfl rfl rfl (Nat.le_of_ble_eq_true rfl) hl.1 hcs dX8_compared_56 (fun H locs hw => ?_)
        refine lv_iconst (v := 1) hx hb dX8_compared_59 (by decide) ?_
        exact z_rz X hw (Or.inr rfl) (zret h) dX8_compared_60
      · replace h := zif_t c13 h
        refine lv_iconst (v := 0) hx hb dX8_compared_51 (by decide) ?_
        exact z_rz X hw (Or.inl rfl) (zret h) dX8_compared_52
    · replace h := zif_f c8 h
      refine lv_iload_n hx hb dX8_compared_20 rfl (lv_at hl 0 rfl) ?_
      refine lv_bipush (v := 61) hx hb dX8_compared_21 (by decide) ?_
      refine lv_icmp_eq (tgt := 34) hx hb dX8_compared_23 (by decide) (fun c17 => ?_) (fun c17 => ?_)
      · replace h := zif_t c17 h
        refine lv_aload_n hx hb dX8_compared_34 rfl (lv_at hl 1 rfl) ?_
        refine lv_dup hx hb dX8_compared_35 rfl ?_
        refine gtX8_127 X hw dX8_compared_36 ?_
        refine lv_iconst (v := 1) hx hb dX8_compared_39 (by decide) ?_
        refine lv_iadd hx hb dX8_compared_40 ?_
        refine ptX8_127 X hw dX8_compared_41 (fun M18 H locs eM18 hw => ?_)
        replace h := zlt_s eM18 h
        refine lv_aload_n hx hb dX8_compared_44 rfl (lv_at hl 1 rfl) ?_
        obtain ⟨r19, M20, f21, h⟩ := zbi_e h
        refine z_qVi (As := []) (rest := []) X hw (kX8_sum l D cy a rec _ _ hrec M18 r19 M20 f21) (cwX8_152 X.2.2.2.2.2.1 rfl rfl (zroomO (by omega) (by omega))) (zX8_lt (rfl : zX8 87)) (zS8 (rfl : zX8 87) cy a (M18 87)) rfl rfl rfl (Nat.le_of_ble_eq_true rfl) hl.1 hcs dX8_compared_45 (fun H locs hw => ?_)
        refine lv_if_ne (tgt := 53) hx hb dX8_compared_48 (by decide) (fun c22 => ?_) (fun c22 => ?_)
        · replace h := zif_f c22 h
          refine lv_aload_n hx hb dX8_compared_53 rfl (lv_at hl 1 rfl) ?_
          refine lv_iconst (v := 3) hx hb dX8_compared_54 (by decide) ?_
          refine lv_iload_n hx hb dX8_compared_55 rfl (lv_at hl 0 rfl) ?_
          obtain ⟨M24, f25, h⟩ := zbv_e h
          refine z_qVv (As := [.int (3 : Int32), .int r5]) (rest := []) X hw (kX8_step1 l D cy a (3 : Int32) r5 M20 M24 f25) (cwX8_145 X.2.2.2.2.2.1 rfl rfl (zroomO (by omega) (by omega))) (zX8_lt (rfl : zX8 87)) (zS8 (rfl : zX8 87) cy a (M20 87)) rfl rfl rfl (Nat.le_of_ble_eq_true rfl) hl.1 hcs dX8_compared_56 (fun H locs hw => ?_)
          refine lv_iconst (v := 1) hx hb dX8_compared_59 (by decide) ?_
          exact z_rz X hw (Or.inr rfl) (zret h) dX8_compared_60
        · replace h := zif_t c22 h
          refine lv_iconst (v := 0) hx hb dX8_compared_51 (by decide) ?_
          exact z_rz X hw (Or.inl rfl) (zret h) dX8_compared_52
      · replace h := zif_f c17 h
        refine lv_iload_n hx hb dX8_compared_26 rfl (lv_at hl 0 rfl) ?_
        refine lv_bipush (v := 62) hx hb dX8_compared_27 (by decide) ?_
        refine lv_icmp_eq (tgt := 34) hx hb dX8_compared_29 (by decide) (fun c26 => ?_) (fun c26 => ?_)
        · replace h := zif_t c26 h
          refine lv_aload_n hx hb dX8_compared_34 rfl (lv_at hl 1 rfl) ?_
          refine lv_dup hx hb dX8_compared_35 rfl ?_
          refine gtX8_127 X hw dX8_compared_36 ?_
          refine lv_iconst (v := 1) hx hb dX8_compared_39 (by decide) ?_
          refine lv_iadd hx hb dX8_compared_40 ?_
          refine ptX8_127 X hw dX8_compared_41 (fun M27 H locs eM27 hw => ?_)
          replace h := zlt_s eM27 h
          refine lv_aload_n hx hb dX8_compared_44 rfl (lv_at hl 1 rfl) ?_
          obtain ⟨r28, M29, f30, h⟩ := zbi_e h
          refine z_qVi (As := []) (rest := []) X hw (kX8_sum l D cy a rec _ _ hrec M27 r28 M29 f30) (cwX8_152 X.2.2.2.2.2.1 rfl rfl (zroomO (by omega) (by omega))) (zX8_lt (rfl : zX8 87)) (zS8 (rfl : zX8 87) cy a (M27 87)) rfl rfl rfl (Nat.le_of_ble_eq_true rfl) hl.1 hcs dX8_compared_45 (fun H locs hw => ?_)
          refine lv_if_ne (tgt := 53) hx hb dX8_compared_48 (by decide) (fun c31 => ?_) (fun c31 => ?_)
          · replace h := zif_f c31 h
            refine lv_aload_n hx hb dX8_compared_53 rfl (lv_at hl 1 rfl) ?_
            refine lv_iconst (v := 3) hx hb dX8_compared_54 (by decide) ?_
            refine lv_iload_n hx hb dX8_compared_55 rfl (lv_at hl 0 rfl) ?_
            obtain ⟨M33, f34, h⟩ := zbv_e h
            refine z_qVv (As := [.int (3 : Int32), .int r5]) (rest := []) X hw (kX8_step1 l D cy a (3 : Int32) r5 M29 M33 f34) (cwX8_145 X.2.2.2.2.2.1 rfl rfl (zroomO (by omega) (by omega))) (zX8_lt (rfl : zX8 87)) (zS8 (rfl : zX8 87) cy a (M29 87)) rfl rfl rfl (Nat.le_of_ble_eq_true rfl) hl.1 hcs dX8_compared_56 (fun H locs hw => ?_)
            refine lv_iconst (v := 1) hx hb dX8_compared_59 (by decide) ?_
            exact z_rz X hw (Or.inr rfl) (zret h) dX8_compared_60
          · replace h := zif_t c31 h
            refine lv_iconst (v := 0) hx hb dX8_compared_51 (by decide) ?_
            exact z_rz X hw (Or.inl rfl) (zret h) dX8_compared_52
        · replace h := zif_f c26 h
          refine lv_iconst (v := 1) hx hb dX8_compared_32 (by decide) ?_
          exact z_rz X hw (Or.inr rfl) (zret h) dX8_compared_33
  · replace h := zif_t c4 h
    refine lv_iconst (v := 0) hx hb dX8_compared_7 (by decide) ?_
    exact z_rz X hw (Or.inl rfl) (zret h) dX8_compared_8
def fX8_both_9 (rec : zM → Option (Int32 × zM)) (k : zM → Option (Int32 × zM)) : Nat → zM → Option (Int32 × zM)
  | 0, _ => none
  | n + 1, M => zbi (fX8_look M) (fun r5 M6 => if r5 = (38 : Int32) then (zlt (zst M6 87 5 ((M6 87 5) + (1 : Int32))) (fun M9 => zbi (fX8_compared rec M9) (fun r10 M11 => if r10 = 0 then (some ((0 : Int32), M11)) else (zbv (fX8_step1 (3 : Int32) (38 : Int32) M11) (fun M15 => fX8_both_9 rec k n  M15))))) else (k  M6))
set_option maxRecDepth 100000 in
set_option maxHeartbeats 4000000 in
theorem lX8_both_9 {p : Program} {l : Launch} {e : Env} {s : State} {m : MethodId} {args : Array Value} {below : List Frame} {meth : Method} {c : Code} {D : va_G} {cy : Nat → ClassId} {a : Nat → Nat} {r0 : Int32} {M0 : zM} (rec : zM → Option (Int32 × zM)) (fr lo : Nat) (hrec : ∀ (M : zM) (r0 : Int32) (M0 : zM), rec M = some (r0, M0) → zCi l D cy a yX8_one cX8_one 4 (some .boolean) (zRm fr lo) [.ref (a 87)] M (fun r u => r = r0 ∧ u = M0)) (X : zCX p s m meth c args cX8_both 1 (some .boolean) RX8) (k : zM → Option (Int32 × zM)) : ∀ (n : Nat) (M : zM) (H : Heap) (locs : List Loc) (ls : Array Slot), zWD D cy a (zfr a s.heap.size) M H locs s → lv_has ls 1 [(0, .ref (a 87))] → fX8_both_9 rec k n M = some (r0, M0) →
    (∀ (M' : zM) (H' : Heap) (locs' : List Loc) (ls' : Array Slot), zWD D cy a (zfr a s.heap.size) M' H' locs' s → lv_has ls' 1 [] → k M' = some (r0, M0) → W p l e (zRm (fr + 4) (lo + 86)) s m args below meth c H' locs' 0 0 (zQi D cy a s args below r0 M0) (F0 m 47 ls' [])) →
    W p l e (zRm (fr + 4) (lo + 86)) s m args below meth c H locs 0 0 (zQi D cy a s args below r0 M0) (F0 m 9 ls []) := by
  obtain ⟨hx, hb, hr, hml, hown, hW, hlocks⟩ := id X
  have hcs : 0 ≤ ((zRm (fr + 4) (lo + 86))).cells ∧ 0 ≤ ((zRm (fr + 4) (lo + 86))).slots := ⟨Nat.zero_le _, Nat.zero_le _⟩
  intro n
  induction n with
  | zero =>
    intro M H locs ls hw hl h hk
    cases h
  | succ n ih =>
    intro M H locs ls hw hl h hk
    have hE := hw.2.2.2.2.1
    rw [fX8_both_9] at h
    refine lv_aload_n hx hb dX8_both_9 rfl (lv_at hl 0 rfl) ?_
    obtain ⟨r5, M6, f7, h⟩ := zbi_e h
    refine z_qVi (As := []) (rest := []) X hw (kX8_look l D cy a M r5 M6 f7) (cwX8_141 X.2.2.2.2.2.1 rfl rfl (zroomO (by omega) (by omega))) (zX8_lt (rfl : zX8 87)) (zS8 (rfl : zX8 87) cy a (M 87)) rfl rfl rfl (Nat.le_of_ble_eq_true rfl) hl.1 hcs dX8_both_10 (fun H locs hw => ?_)
    refine lv_bipush (v := 38) hx hb dX8_both_13 (by decide) ?_
    refine lv_icmp_ne (tgt := 47) hx hb dX8_both_15 (by decide) (fun c8 => ?_) (fun c8 => ?_)
    · replace h := zif_f c8 h
      exact hk  M6 H locs _ hw (lv_sub hl [] rfl) h
    · replace h := zif_t c8 h
      refine lv_aload_n hx hb dX8_both_18 rfl (lv_at hl 0 rfl) ?_
      refine lv_dup hx hb dX8_both_19 rfl ?_
      refine gtX8_127 X hw dX8_both_20 ?_
      refine lv_iconst (v := 1) hx hb dX8_both_23 (by decide) ?_
      refine lv_iadd hx hb dX8_both_24 ?_
      refine ptX8_127 X hw dX8_both_25 (fun M9 H locs eM9 hw => ?_)
      replace h := zlt_s eM9 h
      refine lv_aload_n hx hb dX8_both_28 rfl (lv_at hl 0 rfl) ?_
      obtain ⟨r10, M11, f12, h⟩ := zbi_e h
      refine z_qVi (As := []) (rest := []) X hw (kX8_compared l D cy a rec _ _ hrec M9 r10 M11 f12) (cwX8_149 X.2.2.2.2.2.1 rfl rfl (zroomO (by omega) (by omega))) (zX8_lt (rfl : zX8 87)) (zS8 (rfl : zX8 87) cy a (M9 87)) rfl rfl rfl (Nat.le_of_ble_eq_true rfl) hl.1 hcs dX8_both_29 (fun H locs hw => ?_)
      refine lv_if_ne (tgt := 37) hx hb dX8_both_32 (by decide) (fun c13 => ?_) (fun c13 => ?_)
      · replace h := zif_f c13 h
        refine lv_aload_n hx hb dX8_both_37 rfl (lv_at hl 0 rfl) ?_
        refine lv_iconst (v := 3) hx hb dX8_both_38 (by decide) ?_
        refine lv_bipush (v := 38) hx hb dX8_both_39 (by decide) ?_
        obtain ⟨M15, f16, h⟩ := zbv_e h
        refine z_qVv (As := [.int (3 : Int32), .int (38 : Int32)]) (rest := []) X hw (kX8_step1 l D cy a (3 : Int32) (38 : Int32) M11 M15 f16) (cwX8_145 X.2.2.2.2.2.1 rfl rfl (zroomO (by omega) (by omega))) (zX8_lt (rfl : zX8 87)) (zS8 (rfl : zX8 87) cy a (M11 87)) rfl rfl rfl (Nat.le_of_ble_eq_true rfl) hl.1 hcs dX8_both_41 (fun H locs hw => ?_)
        refine lv_goto (tgt := 9) hx hb dX8_both_44 (by decide) ?_
        exact ih  M15 H locs _ hw (lv_sub hl [0] rfl) h hk
      · replace h := zif_t c13 h
        refine lv_iconst (v := 0) hx hb dX8_both_35 (by decide) ?_
        exact z_rz X hw (Or.inl rfl) (zret h) dX8_both_36
def fX8_both (rec : zM → Option (Int32 × zM)) (M : zM) : Option (Int32 × zM) := zbi (fX8_compared rec M) (fun r1 M2 => if r1 = 0 then (some ((0 : Int32), M2)) else (fX8_both_9 rec (fun  M17 => some ((1 : Int32), M17)) zF  M2))
set_option maxRecDepth 100000 in
set_option maxHeartbeats 4000000 in
theorem kX8_both (l : Launch) (D : va_G) (cy : Nat → ClassId) (a : Nat → Nat) (rec : zM → Option (Int32 × zM)) (fr lo : Nat) (hrec : ∀ (M : zM) (r0 : Int32) (M0 : zM), rec M = some (r0, M0) → zCi l D cy a yX8_one cX8_one 4 (some .boolean) (zRm fr lo) [.ref (a 87)] M (fun r u => r = r0 ∧ u = M0)) (M : zM) (r0 : Int32) (M0 : zM) (h : fX8_both rec  M = some (r0, M0)) : zCi l D cy a yX8_both cX8_both 1 (some .boolean) (zRm (fr + 4) (lo + 86)) [.ref (a 87)] M (fun r u => r = r0 ∧ u = M0) := by
  intro sz
  refine zent_i sz (by decide) (Nat.le_of_ble_eq_true rfl) rfl (fun p e s m args below meth c ls H locs X hw hl => ?_)
  obtain ⟨hx, hb, hr, hml, hown, hW, hlocks⟩ := id X
  have hE := hw.2.2.2.2.1
  have hcs : 0 ≤ ((zRm (fr + 4) (lo + 86))).cells ∧ 0 ≤ ((zRm (fr + 4) (lo + 86))).slots := ⟨Nat.zero_le _, Nat.zero_le _⟩
  rw [fX8_both] at h
  refine lv_aload_n hx hb dX8_both_0 rfl (lv_at hl 0 rfl) ?_
  obtain ⟨r1, M2, f3, h⟩ := zbi_e h
  refine z_qVi (As := []) (rest := []) X hw (kX8_compared l D cy a rec _ _ hrec M r1 M2 f3) (cwX8_149 X.2.2.2.2.2.1 rfl rfl (zroomO (by omega) (by omega))) (zX8_lt (rfl : zX8 87)) (zS8 (rfl : zX8 87) cy a (M 87)) rfl rfl rfl (Nat.le_of_ble_eq_true rfl) hl.1 hcs dX8_both_1 (fun H locs hw => ?_)
  refine lv_if_ne (tgt := 9) hx hb dX8_both_4 (by decide) (fun c4 => ?_) (fun c4 => ?_)
  · replace h := zif_f c4 h
    refine lX8_both_9 rec fr lo hrec X  _ zF  M2 H locs _ hw (lv_sub hl [0] rfl) h (fun  M17 H locs ls hw hl h => ?_)
    refine lv_iconst (v := 1) hx hb dX8_both_47 (by decide) ?_
    exact z_rz X hw (Or.inr rfl) (zret h) dX8_both_48
  · replace h := zif_t c4 h
    refine lv_iconst (v := 0) hx hb dX8_both_7 (by decide) ?_
    exact z_rz X hw (Or.inl rfl) (zret h) dX8_both_8
def fX8_whole_9 (rec : zM → Option (Int32 × zM)) (k : zM → Option (Int32 × zM)) : Nat → zM → Option (Int32 × zM)
  | 0, _ => none
  | n + 1, M => zbi (fX8_look M) (fun r5 M6 => if r5 = (124 : Int32) then (zlt (zst M6 87 5 ((M6 87 5) + (1 : Int32))) (fun M9 => zbi (fX8_both rec M9) (fun r10 M11 => if r10 = 0 then (some ((0 : Int32), M11)) else (zbv (fX8_step1 (3 : Int32) (124 : Int32) M11) (fun M15 => fX8_whole_9 rec k n  M15))))) else (k  M6))
set_option maxRecDepth 100000 in
set_option maxHeartbeats 4000000 in
theorem lX8_whole_9 {p : Program} {l : Launch} {e : Env} {s : State} {m : MethodId} {args : Array Value} {below : List Frame} {meth : Method} {c : Code} {D : va_G} {cy : Nat → ClassId} {a : Nat → Nat} {r0 : Int32} {M0 : zM} (rec : zM → Option (Int32 × zM)) (fr lo : Nat) (hrec : ∀ (M : zM) (r0 : Int32) (M0 : zM), rec M = some (r0, M0) → zCi l D cy a yX8_one cX8_one 4 (some .boolean) (zRm fr lo) [.ref (a 87)] M (fun r u => r = r0 ∧ u = M0)) (X : zCX p s m meth c args cX8_whole 1 (some .boolean) RX8) (k : zM → Option (Int32 × zM)) : ∀ (n : Nat) (M : zM) (H : Heap) (locs : List Loc) (ls : Array Slot), zWD D cy a (zfr a s.heap.size) M H locs s → lv_has ls 1 [(0, .ref (a 87))] → fX8_whole_9 rec k n M = some (r0, M0) →
    (∀ (M' : zM) (H' : Heap) (locs' : List Loc) (ls' : Array Slot), zWD D cy a (zfr a s.heap.size) M' H' locs' s → lv_has ls' 1 [] → k M' = some (r0, M0) → W p l e (zRm (fr + 5) (lo + 106)) s m args below meth c H' locs' 0 0 (zQi D cy a s args below r0 M0) (F0 m 47 ls' [])) →
    W p l e (zRm (fr + 5) (lo + 106)) s m args below meth c H locs 0 0 (zQi D cy a s args below r0 M0) (F0 m 9 ls []) := by
  obtain ⟨hx, hb, hr, hml, hown, hW, hlocks⟩ := id X
  have hcs : 0 ≤ ((zRm (fr + 5) (lo + 106))).cells ∧ 0 ≤ ((zRm (fr + 5) (lo + 106))).slots := ⟨Nat.zero_le _, Nat.zero_le _⟩
  intro n
  induction n with
  | zero =>
    intro M H locs ls hw hl h hk
    cases h
  | succ n ih =>
    intro M H locs ls hw hl h hk
    have hE := hw.2.2.2.2.1
    rw [fX8_whole_9] at h
    refine lv_aload_n hx hb dX8_whole_9 rfl (lv_at hl 0 rfl) ?_
    obtain ⟨r5, M6, f7, h⟩ := zbi_e h
    refine z_qVi (As := []) (rest := []) X hw (kX8_look l D cy a M r5 M6 f7) (cwX8_141 X.2.2.2.2.2.1 rfl rfl (zroomO (by omega) (by omega))) (zX8_lt (rfl : zX8 87)) (zS8 (rfl : zX8 87) cy a (M 87)) rfl rfl rfl (Nat.le_of_ble_eq_true rfl) hl.1 hcs dX8_whole_10 (fun H locs hw => ?_)
    refine lv_bipush (v := 124) hx hb dX8_whole_13 (by decide) ?_
    refine lv_icmp_ne (tgt := 47) hx hb dX8_whole_15 (by decide) (fun c8 => ?_) (fun c8 => ?_)
    · replace h := zif_f c8 h
      exact hk  M6 H locs _ hw (lv_sub hl [] rfl) h
    · replace h := zif_t c8 h
      refine lv_aload_n hx hb dX8_whole_18 rfl (lv_at hl 0 rfl) ?_
      refine lv_dup hx hb dX8_whole_19 rfl ?_
      refine gtX8_127 X hw dX8_whole_20 ?_
      refine lv_iconst (v := 1) hx hb dX8_whole_23 (by decide) ?_
      refine lv_iadd hx hb dX8_whole_24 ?_
      refine ptX8_127 X hw dX8_whole_25 (fun M9 H locs eM9 hw => ?_)
      replace h := zlt_s eM9 h
      refine lv_aload_n hx hb dX8_whole_28 rfl (lv_at hl 0 rfl) ?_
      obtain ⟨r10, M11, f12, h⟩ := zbi_e h
      refine z_qVi (As := []) (rest := []) X hw (kX8_both l D cy a rec _ _ hrec M9 r10 M11 f12) (cwX8_137 X.2.2.2.2.2.1 rfl rfl (zroomO (by omega) (by omega))) (zX8_lt (rfl : zX8 87)) (zS8 (rfl : zX8 87) cy a (M9 87)) rfl rfl rfl (Nat.le_of_ble_eq_true rfl) hl.1 hcs dX8_whole_29 (fun H locs hw => ?_)
      refine lv_if_ne (tgt := 37) hx hb dX8_whole_32 (by decide) (fun c13 => ?_) (fun c13 => ?_)
      · replace h := zif_f c13 h
        refine lv_aload_n hx hb dX8_whole_37 rfl (lv_at hl 0 rfl) ?_
        refine lv_iconst (v := 3) hx hb dX8_whole_38 (by decide) ?_
        refine lv_bipush (v := 124) hx hb dX8_whole_39 (by decide) ?_
        obtain ⟨M15, f16, h⟩ := zbv_e h
        refine z_qVv (As := [.int (3 : Int32), .int (124 : Int32)]) (rest := []) X hw (kX8_step1 l D cy a (3 : Int32) (124 : Int32) M11 M15 f16) (cwX8_145 X.2.2.2.2.2.1 rfl rfl (zroomO (by omega) (by omega))) (zX8_lt (rfl : zX8 87)) (zS8 (rfl : zX8 87) cy a (M11 87)) rfl rfl rfl (Nat.le_of_ble_eq_true rfl) hl.1 hcs dX8_whole_41 (fun H locs hw => ?_)
        refine lv_goto (tgt := 9) hx hb dX8_whole_44 (by decide) ?_
        exact ih  M15 H locs _ hw (lv_sub hl [0] rfl) h hk
      · replace h := zif_t c13 h
        refine lv_iconst (v := 0) hx hb dX8_whole_35 (by decide) ?_
        exact z_rz X hw (Or.inl rfl) (zret h) dX8_whole_36
def fX8_whole (rec : zM → Option (Int32 × zM)) (M : zM) : Option (Int32 × zM) := zbi (fX8_both rec M) (fun r1 M2 => if r1 = 0 then (some ((0 : Int32), M2)) else (fX8_whole_9 rec (fun  M17 => some ((1 : Int32), M17)) zF  M2))
set_option maxRecDepth 100000 in
set_option maxHeartbeats 4000000 in
theorem kX8_whole (l : Launch) (D : va_G) (cy : Nat → ClassId) (a : Nat → Nat) (rec : zM → Option (Int32 × zM)) (fr lo : Nat) (hrec : ∀ (M : zM) (r0 : Int32) (M0 : zM), rec M = some (r0, M0) → zCi l D cy a yX8_one cX8_one 4 (some .boolean) (zRm fr lo) [.ref (a 87)] M (fun r u => r = r0 ∧ u = M0)) (M : zM) (r0 : Int32) (M0 : zM) (h : fX8_whole rec  M = some (r0, M0)) : zCi l D cy a yX8_whole cX8_whole 1 (some .boolean) (zRm (fr + 5) (lo + 106)) [.ref (a 87)] M (fun r u => r = r0 ∧ u = M0) := by
  intro sz
  refine zent_i sz (by decide) (Nat.le_of_ble_eq_true rfl) rfl (fun p e s m args below meth c ls H locs X hw hl => ?_)
  obtain ⟨hx, hb, hr, hml, hown, hW, hlocks⟩ := id X
  have hE := hw.2.2.2.2.1
  have hcs : 0 ≤ ((zRm (fr + 5) (lo + 106))).cells ∧ 0 ≤ ((zRm (fr + 5) (lo + 106))).slots := ⟨Nat.zero_le _, Nat.zero_le _⟩
  rw [fX8_whole] at h
  refine lv_aload_n hx hb dX8_whole_0 rfl (lv_at hl 0 rfl) ?_
  obtain ⟨r1, M2, f3, h⟩ := zbi_e h
  refine z_qVi (As := []) (rest := []) X hw (kX8_both l D cy a rec _ _ hrec M r1 M2 f3) (cwX8_137 X.2.2.2.2.2.1 rfl rfl (zroomO (by omega) (by omega))) (zX8_lt (rfl : zX8 87)) (zS8 (rfl : zX8 87) cy a (M 87)) rfl rfl rfl (Nat.le_of_ble_eq_true rfl) hl.1 hcs dX8_whole_1 (fun H locs hw => ?_)
  refine lv_if_ne (tgt := 9) hx hb dX8_whole_4 (by decide) (fun c4 => ?_) (fun c4 => ?_)
  · replace h := zif_f c4 h
    refine lX8_whole_9 rec fr lo hrec X  _ zF  M2 H locs _ hw (lv_sub hl [0] rfl) h (fun  M17 H locs ls hw hl h => ?_)
    refine lv_iconst (v := 1) hx hb dX8_whole_47 (by decide) ?_
    exact z_rz X hw (Or.inr rfl) (zret h) dX8_whole_48
  · replace h := zif_t c4 h
    refine lv_iconst (v := 0) hx hb dX8_whole_7 (by decide) ?_
    exact z_rz X hw (Or.inl rfl) (zret h) dX8_whole_8
def fX8_one_46 (k : Int32 → zM → Option (Int32 × zM)) : Nat → Int32 → Int32 → zM → Option (Int32 × zM)
  | 0, _, _, _ => none
  | n + 1, v2, v3, M => if (4 : Int32) ≤ v3 then (k v2 M) else (zbi (fX8_look M) (fun r41 M42 => zbi (fX8_in r41 (48 : Int32) (57 : Int32) M42) (fun r44 M45 => if r44 = 0 then (k v2 M45) else (zbi (fX8_look M45) (fun r48 M49 => zlt ((((10 : Int32) * v2) + r48) - (48 : Int32)) (fun x51 => zlt (zst M49 87 5 ((M49 87 5) + (1 : Int32))) (fun M52 => zlt (v3 + (1 : Int32)) (fun x53 => fX8_one_46 k n x51 x53 M52))))))))
set_option maxRecDepth 100000 in
set_option maxHeartbeats 4000000 in
theorem lX8_one_46 {p : Program} {l : Launch} {e : Env} {s : State} {m : MethodId} {args : Array Value} {below : List Frame} {meth : Method} {c : Code} {D : va_G} {cy : Nat → ClassId} {a : Nat → Nat} {r0 : Int32} {M0 : zM} {dd : Nat} (X : zCX p s m meth c args cX8_one 4 (some .boolean) RX8) (k : Int32 → zM → Option (Int32 × zM)) : ∀ (n : Nat) (v2 : Int32) (v3 : Int32) (M : zM) (H : Heap) (locs : List Loc) (ls : Array Slot), zWD D cy a (zfr a s.heap.size) M H locs s → lv_has ls 4 [(0, .ref (a 87)), (2, .int v2), (3, .int v3)] → fX8_one_46 k n v2 v3 M = some (r0, M0) →
    (∀ (u2 : Int32) (M' : zM) (H' : Heap) (locs' : List Loc) (ls' : Array Slot), zWD D cy a (zfr a s.heap.size) M' H' locs' s → lv_has ls' 4 [(0, .ref (a 87)), (2, .int u2)] → k u2 M' = some (r0, M0) → W p l e (zRm ((dd + 1) * 6 + 1) ((dd + 1) * 126 + 22)) s m args below meth c H' locs' 0 0 (zQi D cy a s args below r0 M0) (F0 m 94 ls' [])) →
    W p l e (zRm ((dd + 1) * 6 + 1) ((dd + 1) * 126 + 22)) s m args below meth c H locs 0 0 (zQi D cy a s args below r0 M0) (F0 m 46 ls []) := by
  obtain ⟨hx, hb, hr, hml, hown, hW, hlocks⟩ := id X
  have hcs : 0 ≤ ((zRm ((dd + 1) * 6 + 1) ((dd + 1) * 126 + 22))).cells ∧ 0 ≤ ((zRm ((dd + 1) * 6 + 1) ((dd + 1) * 126 + 22))).slots := ⟨Nat.zero_le _, Nat.zero_le _⟩
  intro n
  induction n with
  | zero =>
    intro v2 v3 M H locs ls hw hl h hk
    cases h
  | succ n ih =>
    intro v2 v3 M H locs ls hw hl h hk
    have hE := hw.2.2.2.2.1
    rw [fX8_one_46] at h
    refine lv_iload_n hx hb dX8_one_46 rfl (lv_at hl 2 rfl) ?_
    refine lv_iconst (v := 4) hx hb dX8_one_47 (by decide) ?_
    refine lv_icmp_ge (tgt := 94) hx hb dX8_one_48 (by decide) (fun c40 => ?_) (fun c40 => ?_)
    · replace h := zif_t c40 h
      exact hk v2 M H locs _ hw (lv_sub hl [0, 1] rfl) h
    · replace h := zif_f c40 h
      refine lv_aload_n hx hb dX8_one_51 rfl (lv_at hl 0 rfl) ?_
      obtain ⟨r41, M42, f43, h⟩ := zbi_e h
      refine z_qVi (As := []) (rest := []) X hw (kX8_look l D cy a M r41 M42 f43) (cwX8_141 X.2.2.2.2.2.1 rfl rfl (zroomO (by omega) (by omega))) (zX8_lt (rfl : zX8 87)) (zS8 (rfl : zX8 87) cy a (M 87)) rfl rfl rfl (Nat.le_of_ble_eq_true rfl) hl.1 hcs dX8_one_52 (fun H locs hw => ?_)
      refine lv_bipush (v := 48) hx hb dX8_one_55 (by decide) ?_
      refine lv_bipush (v := 57) hx hb dX8_one_57 (by decide) ?_
      obtain ⟨r44, M45, f46, h⟩ := zbi_e h
      refine z_qSi (As := [.int r41, .int (48 : Int32), .int (57 : Int32)]) (rest := []) X hw (kX8_in l D cy a r41 (48 : Int32) (57 : Int32) M42 r44 M45 f46) (cwX8_56 X.2.2.2.2.2.1 rfl rfl (zroomO (by omega) (by omega))) rfl rfl (Nat.le_of_ble_eq_true rfl) hl.1 hcs dX8_one_59 (fun H locs hw => ?_)
      refine lv_if_eq (tgt := 94) hx hb dX8_one_62 (by decide) (fun c47 => ?_) (fun c47 => ?_)
      · replace h := zif_t c47 h
        exact hk v2 M45 H locs _ hw (lv_sub hl [0, 1] rfl) h
      · replace h := zif_f c47 h
        refine lv_bipush (v := 10) hx hb dX8_one_65 (by decide) ?_
        refine lv_iload_n hx hb dX8_one_67 rfl (lv_at hl 1 rfl) ?_
        refine lv_imul hx hb dX8_one_68 ?_
        refine lv_aload_n hx hb dX8_one_69 rfl (lv_at hl 0 rfl) ?_
        obtain ⟨r48, M49, f50, h⟩ := zbi_e h
        refine z_qVi (As := []) (rest := [.int ((10 : Int32) * v2)]) X hw (kX8_look l D cy a M45 r48 M49 f50) (cwX8_141 X.2.2.2.2.2.1 rfl rfl (zroomO (by omega) (by omega))) (zX8_lt (rfl : zX8 87)) (zS8 (rfl : zX8 87) cy a (M45 87)) rfl rfl rfl (Nat.le_of_ble_eq_true rfl) hl.1 hcs dX8_one_70 (fun H locs hw => ?_)
        refine lv_iadd hx hb dX8_one_73 ?_
        refine lv_bipush (v := 48) hx hb dX8_one_74 (by decide) ?_
        refine lv_isub hx hb dX8_one_76 ?_
        refine lv_topi (fun x51 ex51 => ?_)
        replace h := zlt_s ex51 h
        refine lv_istore_n (lv' := [(2, .int x51), (0, .ref (a 87)), (3, .int v3)]) hx hb dX8_one_77 rfl hl (by decide) rfl (fun ls hl => ?_)
        refine lv_aload_n hx hb dX8_one_78 rfl (lv_at hl 1 rfl) ?_
        refine lv_dup hx hb dX8_one_79 rfl ?_
        refine gtX8_127 X hw dX8_one_80 ?_
        refine lv_iconst (v := 1) hx hb dX8_one_83 (by decide) ?_
        refine lv_iadd hx hb dX8_one_84 ?_
        refine ptX8_127 X hw dX8_one_85 (fun M52 H locs eM52 hw => ?_)
        replace h := zlt_s eM52 h
        obtain ⟨x53, ex53⟩ : ∃ y : Int32, y = v3 + (1 : Int32) := ⟨_, rfl⟩
        replace h := zlt_s ex53 h
        refine lv_iinc (v := x53) (lv' := [(3, .int x53), (2, .int x51), (0, .ref (a 87))]) hx hb dX8_one_88 hl (k := 2) rfl (by rw [ex53]; rfl) (by decide) rfl (fun ls hl => ?_)
        refine lv_goto (tgt := 46) hx hb dX8_one_91 (by decide) ?_
        exact ih x51 x53 M52 H locs _ hw (lv_sub hl [2, 1, 0] rfl) h hk
def fX8_one : Nat → zM → Option (Int32 × zM)
  | 0, _ => none
  | dd + 1, M => zbi (fX8_look M) (fun r1 M2 => zbi (fX8_isName r1 M2) (fun r4 M5 => if r4 = 0 then (zbi (fX8_in r1 (48 : Int32) (57 : Int32) M5) (fun r8 M9 => if r8 = 0 then (if r1 = (33 : Int32) then (zbi (fX8_opens M9) (fun r28 M29 => if r28 = 0 then (some ((0 : Int32), M29)) else (zbi (fX8_one dd M29) (fun r32 M33 => if r32 = 0 then (some ((0 : Int32), M33)) else (zlt (zst M33 87 6 ((M33 87 6) - (1 : Int32))) (fun M36 => zbv (fX8_step1 (2 : Int32) (0 : Int32) M36) (fun M38 => some ((1 : Int32), M38)))))))) else (if r1 = (40 : Int32) then (zbi (fX8_opens M9) (fun r14 M15 => if r14 = 0 then (some ((0 : Int32), M15)) else (zbi (fX8_whole (fX8_one dd) M15) (fun r18 M19 => if r18 = 0 then (some ((0 : Int32), M19)) else (zbi (fX8_look M19) (fun r22 M23 => if r22 = (41 : Int32) then (zlt (zst M23 87 5 ((M23 87 5) + (1 : Int32))) (fun M26 => zlt (zst M26 87 6 ((M26 87 6) - (1 : Int32))) (fun M27 => some ((1 : Int32), M27)))) else (some ((0 : Int32), M23)))))))) else (some ((0 : Int32), M9)))) else (fX8_one_46  (fun x54 M55 => zbv (fX8_step1 (0 : Int32) x54 M55) (fun M57 => some ((1 : Int32), M57))) zF (0 : Int32) (0 : Int32) M9))) else (zlt (zst M5 87 5 ((M5 87 5) + (1 : Int32))) (fun M59 => zbv (fX8_step1 (1 : Int32) r1 M59) (fun M61 => some ((1 : Int32), M61))))))
set_option maxRecDepth 100000 in
set_option maxHeartbeats 4000000 in
theorem kX8_one (l : Launch) (D : va_G) (cy : Nat → ClassId) (a : Nat → Nat) : ∀ (d : Nat) (M : zM) (r0 : Int32) (M0 : zM), fX8_one d  M = some (r0, M0) → zCi l D cy a yX8_one cX8_one 4 (some .boolean) (zRm (d * 6 + 1) (d * 126 + 22)) [.ref (a 87)] M (fun r u => r = r0 ∧ u = M0) := by
  intro d
  induction d with
  | zero =>
    intro  M r0 M0 h
    cases h
  | succ dd ih =>
    intro  M r0 M0 h
    intro sz
    refine zent_i sz (by decide) (Nat.le_of_ble_eq_true rfl) rfl (fun p e s m args below meth c ls H locs X hw hl => ?_)
    obtain ⟨hx, hb, hr, hml, hown, hW, hlocks⟩ := id X
    have hE := hw.2.2.2.2.1
    have hcs : 0 ≤ ((zRm ((dd + 1) * 6 + 1) ((dd + 1) * 126 + 22))).cells ∧ 0 ≤ ((zRm ((dd + 1) * 6 + 1) ((dd + 1) * 126 + 22))).slots := ⟨Nat.zero_le _, Nat.zero_le _⟩
    rw [fX8_one] at h
    refine lv_aload_n hx hb dX8_one_0 rfl (lv_at hl 0 rfl) ?_
    obtain ⟨r1, M2, f3, h⟩ := zbi_e h
    refine z_qVi (As := []) (rest := []) X hw (kX8_look l D cy a M r1 M2 f3) (cwX8_141 X.2.2.2.2.2.1 rfl rfl (zroomO (by omega) (by omega))) (zX8_lt (rfl : zX8 87)) (zS8 (rfl : zX8 87) cy a (M 87)) rfl rfl rfl (Nat.le_of_ble_eq_true rfl) hl.1 hcs dX8_one_1 (fun H locs hw => ?_)
    refine lv_istore_n (lv' := [(1, .int r1), (0, .ref (a 87))]) hx hb dX8_one_4 rfl hl (by decide) rfl (fun ls hl => ?_)
    refine lv_aload_n hx hb dX8_one_5 rfl (lv_at hl 1 rfl) ?_
    refine lv_iload_n hx hb dX8_one_6 rfl (lv_at hl 0 rfl) ?_
    obtain ⟨r4, M5, f6, h⟩ := zbi_e h
    refine z_qVi (As := [.int r1]) (rest := []) X hw (kX8_isName l D cy a r1 M2 r4 M5 f6) (cwX8_164 X.2.2.2.2.2.1 rfl rfl (zroomO (by omega) (by omega))) (zX8_lt (rfl : zX8 87)) (zS8 (rfl : zX8 87) cy a (M2 87)) rfl rfl rfl (Nat.le_of_ble_eq_true rfl) hl.1 hcs dX8_one_7 (fun H locs hw => ?_)
    refine lv_if_eq (tgt := 31) hx hb dX8_one_10 (by decide) (fun c7 => ?_) (fun c7 => ?_)
    · replace h := zif_t c7 h
      refine lv_iload_n hx hb dX8_one_31 rfl (lv_at hl 0 rfl) ?_
      refine lv_bipush (v := 48) hx hb dX8_one_32 (by decide) ?_
      refine lv_bipush (v := 57) hx hb dX8_one_34 (by decide) ?_
      obtain ⟨r8, M9, f10, h⟩ := zbi_e h
      refine z_qSi (As := [.int r1, .int (48 : Int32), .int (57 : Int32)]) (rest := []) X hw (kX8_in l D cy a r1 (48 : Int32) (57 : Int32) M5 r8 M9 f10) (cwX8_56 X.2.2.2.2.2.1 rfl rfl (zroomO (by omega) (by omega))) rfl rfl (Nat.le_of_ble_eq_true rfl) hl.1 hcs dX8_one_36 (fun H locs hw => ?_)
      refine lv_if_eq (tgt := 102) hx hb dX8_one_39 (by decide) (fun c11 => ?_) (fun c11 => ?_)
      · replace h := zif_t c11 h
        refine lv_iload_n hx hb dX8_one_102 rfl (lv_at hl 0 rfl) ?_
        refine lv_bipush (v := 33) hx hb dX8_one_103 (by decide) ?_
        refine lv_icmp_ne (tgt := 142) hx hb dX8_one_105 (by decide) (fun c12 => ?_) (fun c12 => ?_)
        · replace h := zif_f c12 h
          refine lv_iload_n hx hb dX8_one_142 rfl (lv_at hl 0 rfl) ?_
          refine lv_bipush (v := 40) hx hb dX8_one_143 (by decide) ?_
          refine lv_icmp_ne (tgt := 171) hx hb dX8_one_145 (by decide) (fun c13 => ?_) (fun c13 => ?_)
          · replace h := zif_f c13 h
            refine lv_iconst (v := 0) hx hb dX8_one_171 (by decide) ?_
            exact z_rz X hw (Or.inl rfl) (zret h) dX8_one_172
          · replace h := zif_t c13 h
            refine lv_aload_n hx hb dX8_one_148 rfl (lv_at hl 1 rfl) ?_
            obtain ⟨r14, M15, f16, h⟩ := zbi_e h
            refine z_qVi (As := []) (rest := []) X hw (kX8_opens l D cy a M9 r14 M15 f16) (cwX8_167 X.2.2.2.2.2.1 rfl rfl (zroomO (by omega) (by omega))) (zX8_lt (rfl : zX8 87)) (zS8 (rfl : zX8 87) cy a (M9 87)) rfl rfl rfl (Nat.le_of_ble_eq_true rfl) hl.1 hcs dX8_one_149 (fun H locs hw => ?_)
            refine lv_if_eq (tgt := 171) hx hb dX8_one_152 (by decide) (fun c17 => ?_) (fun c17 => ?_)
            · replace h := zif_t c17 h
              refine lv_iconst (v := 0) hx hb dX8_one_171 (by decide) ?_
              exact z_rz X hw (Or.inl rfl) (zret h) dX8_one_172
            · replace h := zif_f c17 h
              refine lv_aload_n hx hb dX8_one_155 rfl (lv_at hl 1 rfl) ?_
              obtain ⟨r18, M19, f20, h⟩ := zbi_e h
              refine z_qVi (As := []) (rest := []) X hw (kX8_whole l D cy a (fX8_one dd) _ _ ih M15 r18 M19 f20) (cwX8_170 X.2.2.2.2.2.1 rfl rfl (zroomO (by omega) (by omega))) (zX8_lt (rfl : zX8 87)) (zS8 (rfl : zX8 87) cy a (M15 87)) rfl rfl rfl (Nat.le_of_ble_eq_true rfl) hl.1 hcs dX8_one_156 (fun H locs hw => ?_)
              refine lv_if_eq (tgt := 171) hx hb dX8_one_159 (by decide) (fun c21 => ?_) (fun c21 => ?_)
              · replace h := zif_t c21 h
                refine lv_iconst (v := 0) hx hb dX8_one_171 (by decide) ?_
                exact z_rz X hw (Or.inl rfl) (zret h) dX8_one_172
              · replace h := zif_f c21 h
                refine lv_aload_n hx hb dX8_one_162 rfl (lv_at hl 1 rfl) ?_
                obtain ⟨r22, M23, f24, h⟩ := zbi_e h
                refine z_qVi (As := []) (rest := []) X hw (kX8_look l D cy a M19 r22 M23 f24) (cwX8_141 X.2.2.2.2.2.1 rfl rfl (zroomO (by omega) (by omega))) (zX8_lt (rfl : zX8 87)) (zS8 (rfl : zX8 87) cy a (M19 87)) rfl rfl rfl (Nat.le_of_ble_eq_true rfl) hl.1 hcs dX8_one_163 (fun H locs hw => ?_)
                refine lv_bipush (v := 41) hx hb dX8_one_166 (by decide) ?_
                refine lv_icmp_eq (tgt := 173) hx hb dX8_one_168 (by decide) (fun c25 => ?_) (fun c25 => ?_)
                · replace h := zif_t c25 h
                  refine lv_aload_n hx hb dX8_one_173 rfl (lv_at hl 1 rfl) ?_
                  refine lv_dup hx hb dX8_one_174 rfl ?_
                  refine gtX8_127 X hw dX8_one_175 ?_
                  refine lv_iconst (v := 1) hx hb dX8_one_178 (by decide) ?_
                  refine lv_iadd hx hb dX8_one_179 ?_
                  refine ptX8_127 X hw dX8_one_180 (fun M26 H locs eM26 hw => ?_)
                  replace h := zlt_s eM26 h
                  refine lv_aload_n hx hb dX8_one_183 rfl (lv_at hl 1 rfl) ?_
                  refine lv_dup hx hb dX8_one_184 rfl ?_
                  refine gtX8_161 X hw dX8_one_185 ?_
                  refine lv_iconst (v := 1) hx hb dX8_one_188 (by decide) ?_
                  refine lv_isub hx hb dX8_one_189 ?_
                  refine ptX8_161 X hw dX8_one_190 (fun M27 H locs eM27 hw => ?_)
                  replace h := zlt_s eM27 h
                  refine lv_iconst (v := 1) hx hb dX8_one_193 (by decide) ?_
                  exact z_rz X hw (Or.inr rfl) (zret h) dX8_one_194
                · replace h := zif_f c25 h
                  refine lv_iconst (v := 0) hx hb dX8_one_171 (by decide) ?_
                  exact z_rz X hw (Or.inl rfl) (zret h) dX8_one_172
        · replace h := zif_t c12 h
          refine lv_aload_n hx hb dX8_one_108 rfl (lv_at hl 1 rfl) ?_
          obtain ⟨r28, M29, f30, h⟩ := zbi_e h
          refine z_qVi (As := []) (rest := []) X hw (kX8_opens l D cy a M9 r28 M29 f30) (cwX8_167 X.2.2.2.2.2.1 rfl rfl (zroomO (by omega) (by omega))) (zX8_lt (rfl : zX8 87)) (zS8 (rfl : zX8 87) cy a (M9 87)) rfl rfl rfl (Nat.le_of_ble_eq_true rfl) hl.1 hcs dX8_one_109 (fun H locs hw => ?_)
          refine lv_if_eq (tgt := 122) hx hb dX8_one_112 (by decide) (fun c31 => ?_) (fun c31 => ?_)
          · replace h := zif_t c31 h
            refine lv_iconst (v := 0) hx hb dX8_one_122 (by decide) ?_
            exact z_rz X hw (Or.inl rfl) (zret h) dX8_one_123
          · replace h := zif_f c31 h
            refine lv_aload_n hx hb dX8_one_115 rfl (lv_at hl 1 rfl) ?_
            obtain ⟨r32, M33, f34, h⟩ := zbi_e h
            refine z_qVi (As := []) (rest := []) X hw (ih M29 r32 M33 f34) (cwX8_158 X.2.2.2.2.2.1 rfl rfl (zroomO (by omega) (by omega))) (zX8_lt (rfl : zX8 87)) (zS8 (rfl : zX8 87) cy a (M29 87)) rfl rfl rfl (Nat.le_of_ble_eq_true rfl) hl.1 hcs dX8_one_116 (fun H locs hw => ?_)
            refine lv_if_ne (tgt := 124) hx hb dX8_one_119 (by decide) (fun c35 => ?_) (fun c35 => ?_)
            · replace h := zif_f c35 h
              refine lv_aload_n hx hb dX8_one_124 rfl (lv_at hl 1 rfl) ?_
              refine lv_dup hx hb dX8_one_125 rfl ?_
              refine gtX8_161 X hw dX8_one_126 ?_
              refine lv_iconst (v := 1) hx hb dX8_one_129 (by decide) ?_
              refine lv_isub hx hb dX8_one_130 ?_
              refine ptX8_161 X hw dX8_one_131 (fun M36 H locs eM36 hw => ?_)
              replace h := zlt_s eM36 h
              refine lv_aload_n hx hb dX8_one_134 rfl (lv_at hl 1 rfl) ?_
              refine lv_iconst (v := 2) hx hb dX8_one_135 (by decide) ?_
              refine lv_iconst (v := 0) hx hb dX8_one_136 (by decide) ?_
              obtain ⟨M38, f39, h⟩ := zbv_e h
              refine z_qVv (As := [.int (2 : Int32), .int (0 : Int32)]) (rest := []) X hw (kX8_step1 l D cy a (2 : Int32) (0 : Int32) M36 M38 f39) (cwX8_145 X.2.2.2.2.2.1 rfl rfl (zroomO (by omega) (by omega))) (zX8_lt (rfl : zX8 87)) (zS8 (rfl : zX8 87) cy a (M36 87)) rfl rfl rfl (Nat.le_of_ble_eq_true rfl) hl.1 hcs dX8_one_137 (fun H locs hw => ?_)
              refine lv_iconst (v := 1) hx hb dX8_one_140 (by decide) ?_
              exact z_rz X hw (Or.inr rfl) (zret h) dX8_one_141
            · replace h := zif_t c35 h
              refine lv_iconst (v := 0) hx hb dX8_one_122 (by decide) ?_
              exact z_rz X hw (Or.inl rfl) (zret h) dX8_one_123
      · replace h := zif_f c11 h
        refine lv_iconst (v := 0) hx hb dX8_one_42 (by decide) ?_
        refine lv_istore_n (lv' := [(2, .int (0 : Int32)), (1, .int r1), (0, .ref (a 87))]) hx hb dX8_one_43 rfl hl (by decide) rfl (fun ls hl => ?_)
        refine lv_iconst (v := 0) hx hb dX8_one_44 (by decide) ?_
        refine lv_istore_n (lv' := [(3, .int (0 : Int32)), (2, .int (0 : Int32)), (1, .int r1), (0, .ref (a 87))]) hx hb dX8_one_45 rfl hl (by decide) rfl (fun ls hl => ?_)
        refine lX8_one_46 X  _ zF (0 : Int32) (0 : Int32) M9 H locs _ hw (lv_sub hl [3, 1, 0] rfl) h (fun x54 M55 H locs ls hw hl h => ?_)
        refine lv_aload_n hx hb dX8_one_94 rfl (lv_at hl 0 rfl) ?_
        refine lv_iconst (v := 0) hx hb dX8_one_95 (by decide) ?_
        refine lv_iload_n hx hb dX8_one_96 rfl (lv_at hl 1 rfl) ?_
        obtain ⟨M57, f58, h⟩ := zbv_e h
        refine z_qVv (As := [.int (0 : Int32), .int x54]) (rest := []) X hw (kX8_step1 l D cy a (0 : Int32) x54 M55 M57 f58) (cwX8_145 X.2.2.2.2.2.1 rfl rfl (zroomO (by omega) (by omega))) (zX8_lt (rfl : zX8 87)) (zS8 (rfl : zX8 87) cy a (M55 87)) rfl rfl rfl (Nat.le_of_ble_eq_true rfl) hl.1 hcs dX8_one_97 (fun H locs hw => ?_)
        refine lv_iconst (v := 1) hx hb dX8_one_100 (by decide) ?_
        exact z_rz X hw (Or.inr rfl) (zret h) dX8_one_101
    · replace h := zif_f c7 h
      refine lv_aload_n hx hb dX8_one_13 rfl (lv_at hl 1 rfl) ?_
      refine lv_dup hx hb dX8_one_14 rfl ?_
      refine gtX8_127 X hw dX8_one_15 ?_
      refine lv_iconst (v := 1) hx hb dX8_one_18 (by decide) ?_
      refine lv_iadd hx hb dX8_one_19 ?_
      refine ptX8_127 X hw dX8_one_20 (fun M59 H locs eM59 hw => ?_)
      replace h := zlt_s eM59 h
      refine lv_aload_n hx hb dX8_one_23 rfl (lv_at hl 1 rfl) ?_
      refine lv_iconst (v := 1) hx hb dX8_one_24 (by decide) ?_
      refine lv_iload_n hx hb dX8_one_25 rfl (lv_at hl 0 rfl) ?_
      obtain ⟨M61, f62, h⟩ := zbv_e h
      refine z_qVv (As := [.int (1 : Int32), .int r1]) (rest := []) X hw (kX8_step1 l D cy a (1 : Int32) r1 M59 M61 f62) (cwX8_145 X.2.2.2.2.2.1 rfl rfl (zroomO (by omega) (by omega))) (zX8_lt (rfl : zX8 87)) (zS8 (rfl : zX8 87) cy a (M59 87)) rfl rfl rfl (Nat.le_of_ble_eq_true rfl) hl.1 hcs dX8_one_26 (fun H locs hw => ?_)
      refine lv_iconst (v := 1) hx hb dX8_one_29 (by decide) ?_
      exact z_rz X hw (Or.inr rfl) (zret h) dX8_one_30
def fX8_text_101 (y3 : Int32) (k : zM → Option (Int32 × zM)) : Nat → Int32 → zM → Option (Int32 × zM)
  | 0, _, _ => none
  | n + 1, v4, M => if (2 : Int32) * (M 87 7) ≤ v4 then (k  M) else (zgd (v4 < 0 ∨ 124 ≤ v4.toNatClampNeg) (zgd ((y3 + (1 : Int32)) + v4 < 0 ∨ 449 ≤ ((y3 + (1 : Int32)) + v4).toNatClampNeg) (zlt (zst M 88 (((y3 + (1 : Int32)) + v4).toNatClampNeg) (M 92 (v4.toNatClampNeg))) (fun M20 => zlt (v4 + (1 : Int32)) (fun x22 => fX8_text_101 y3 k n x22 M20)))))
set_option maxRecDepth 100000 in
set_option maxHeartbeats 4000000 in
theorem lX8_text_101 {p : Program} {l : Launch} {e : Env} {s : State} {m : MethodId} {args : Array Value} {below : List Frame} {meth : Method} {c : Code} {D : va_G} {cy : Nat → ClassId} {a : Nat → Nat} {r0 : Int32} {M0 : zM} (X : zCX p s m meth c args cX8_text 5 (some .int) RX8) (y3 : Int32) (k : zM → Option (Int32 × zM)) : ∀ (n : Nat) (v4 : Int32) (M : zM) (H : Heap) (locs : List Loc) (ls : Array Slot), zWD D cy a (zfr a s.heap.size) M H locs s → lv_has ls 5 [(0, .ref (a 87)), (3, .int y3), (4, .int v4)] → fX8_text_101 y3 k n v4 M = some (r0, M0) →
    (∀ (M' : zM) (H' : Heap) (locs' : List Loc) (ls' : Array Slot), zWD D cy a (zfr a s.heap.size) M' H' locs' s → lv_has ls' 5 [] → k M' = some (r0, M0) → W p l e (zRm 127 2668) s m args below meth c H' locs' 0 0 (zQi D cy a s args below r0 M0) (F0 m 136 ls' [])) →
    W p l e (zRm 127 2668) s m args below meth c H locs 0 0 (zQi D cy a s args below r0 M0) (F0 m 101 ls []) := by
  obtain ⟨hx, hb, hr, hml, hown, hW, hlocks⟩ := id X
  have hcs : 0 ≤ ((zRm 127 2668)).cells ∧ 0 ≤ ((zRm 127 2668)).slots := ⟨Nat.zero_le _, Nat.zero_le _⟩
  intro n
  induction n with
  | zero =>
    intro v4 M H locs ls hw hl h hk
    cases h
  | succ n ih =>
    intro v4 M H locs ls hw hl h hk
    have hE := hw.2.2.2.2.1
    rw [fX8_text_101] at h
    refine lv_iload hx hb dX8_text_101 (lv_at hl 2 rfl) ?_
    refine lv_iconst (v := 2) hx hb dX8_text_103 (by decide) ?_
    refine lv_aload_n hx hb dX8_text_104 rfl (lv_at hl 0 rfl) ?_
    refine gtX8_134 X hw dX8_text_105 ?_
    refine lv_imul hx hb dX8_text_108 ?_
    refine lv_icmp_ge (tgt := 136) hx hb dX8_text_109 (by decide) (fun c18 => ?_) (fun c18 => ?_)
    · replace h := zif_t c18 h
      exact hk  M H locs _ hw (lv_sub hl [] rfl) h
    · replace h := zif_f c18 h
      refine lv_aload_n hx hb dX8_text_112 rfl (lv_at hl 0 rfl) ?_
      refine gtX8_7 X hw dX8_text_113 ?_
      refine lv_iload_n hx hb dX8_text_116 rfl (lv_at hl 1 rfl) ?_
      refine lv_iconst (v := 1) hx hb dX8_text_117 (by decide) ?_
      refine lv_iadd hx hb dX8_text_118 ?_
      refine lv_iload hx hb dX8_text_119 (lv_at hl 2 rfl) ?_
      refine lv_iadd hx hb dX8_text_121 ?_
      refine lv_aload_n hx hb dX8_text_122 rfl (lv_at hl 0 rfl) ?_
      refine gtX8_22 X hw dX8_text_123 ?_
      refine lv_iload hx hb dX8_text_126 (lv_at hl 2 rfl) ?_
      obtain ⟨g19, h⟩ := zgd_e h
      refine z_ald X hw zI_92 g19 dX8_text_128 ?_
      obtain ⟨g21, h⟩ := zgd_e h
      refine z_ast X hw zI_88 g21 dX8_text_129 (fun M20 H locs eM20 hw => ?_)
      replace h := zlt_s eM20 h
      obtain ⟨x22, ex22⟩ : ∃ y : Int32, y = v4 + (1 : Int32) := ⟨_, rfl⟩
      replace h := zlt_s ex22 h
      refine lv_iinc (v := x22) (lv' := [(4, .int x22), (0, .ref (a 87)), (3, .int y3)]) hx hb dX8_text_130 hl (k := 2) rfl (by rw [ex22]; rfl) (by decide) rfl (fun ls hl => ?_)
      refine lv_goto (tgt := 101) hx hb dX8_text_133 (by decide) ?_
      exact ih x22 M20 H locs _ hw (lv_sub hl [1, 2, 0] rfl) h hk
def fX8_text (p0 : Int32) (M : zM) : Option (Int32 × zM) := zbi (fX8_in p0 (0 : Int32) (1 : Int32) M) (fun r1 M2 => if r1 = 0 then (zbi (fX8_error (1 : Int32) M2) (fun r37 M38 => some (r37, M38))) else (zlt (zst M2 87 8 p0) (fun M5 => zlt (zst M5 87 5 (0 : Int32)) (fun M6 => zlt (zst M6 87 6 (0 : Int32)) (fun M7 => zlt (zst M7 87 7 (0 : Int32)) (fun M8 => zbi (fX8_whole (fX8_one 20) M8) (fun r9 M10 => if r9 = 0 then (zlt (zst M10 88 (3) (0 : Int32)) (fun M13 => if (0 : Int32) = 0 then (some ((-10 : Int32) - (M13 87 5), M13)) else (zlt ((115 : Int32) + ((125 : Int32) * p0)) (fun x15 => zgd (x15 < 0 ∨ 449 ≤ x15.toNatClampNeg) (zlt (zst M13 88 (x15.toNatClampNeg) (M13 87 7)) (fun M16 => fX8_text_101 x15 (fun  M23 => some ((1 : Int32), M23)) zF (0 : Int32) M16)))))) else (if M10 87 5 = M10 88 (3) then (zlt (zst M10 88 (3) (0 : Int32)) (fun M31 => if (1 : Int32) = 0 then (some ((-10 : Int32) - (M31 87 5), M31)) else (zlt ((115 : Int32) + ((125 : Int32) * p0)) (fun x33 => zgd (x33 < 0 ∨ 449 ≤ x33.toNatClampNeg) (zlt (zst M31 88 (x33.toNatClampNeg) (M31 87 7)) (fun M34 => fX8_text_101 x33 (fun  M36 => some ((1 : Int32), M36)) zF (0 : Int32) M34)))))) else (zlt (zst M10 88 (3) (0 : Int32)) (fun M25 => if (0 : Int32) = 0 then (some ((-10 : Int32) - (M25 87 5), M25)) else (zlt ((115 : Int32) + ((125 : Int32) * p0)) (fun x27 => zgd (x27 < 0 ∨ 449 ≤ x27.toNatClampNeg) (zlt (zst M25 88 (x27.toNatClampNeg) (M25 87 7)) (fun M28 => fX8_text_101 x27 (fun  M30 => some ((1 : Int32), M30)) zF (0 : Int32) M28))))))))))))))
set_option maxRecDepth 100000 in
set_option maxHeartbeats 4000000 in
theorem kX8_text (l : Launch) (D : va_G) (cy : Nat → ClassId) (a : Nat → Nat) (p0 : Int32) (M : zM) (r0 : Int32) (M0 : zM) (h : fX8_text p0 M = some (r0, M0)) : zCi l D cy a yX8_text cX8_text 5 (some .int) (zRm 127 2668) [.ref (a 87), .int p0] M (fun r u => r = r0 ∧ u = M0) := by
  intro sz
  refine zent_i sz (by decide) (Nat.le_of_ble_eq_true rfl) rfl (fun p e s m args below meth c ls H locs X hw hl => ?_)
  obtain ⟨hx, hb, hr, hml, hown, hW, hlocks⟩ := id X
  have hE := hw.2.2.2.2.1
  have hcs : 0 ≤ ((zRm 127 2668)).cells ∧ 0 ≤ ((zRm 127 2668)).slots := ⟨Nat.zero_le _, Nat.zero_le _⟩
  rw [fX8_text] at h
  refine lv_iload_n hx hb dX8_text_0 rfl (lv_at hl 1 rfl) ?_
  refine lv_iconst (v := 0) hx hb dX8_text_1 (by decide) ?_
  refine lv_iconst (v := 1) hx hb dX8_text_2 (by decide) ?_
  obtain ⟨r1, M2, f3, h⟩ := zbi_e h
  refine z_qSi (As := [.int p0, .int (0 : Int32), .int (1 : Int32)]) (rest := []) X hw (kX8_in l D cy a p0 (0 : Int32) (1 : Int32) M r1 M2 f3) (cwX8_56 X.2.2.2.2.2.1 rfl rfl (zroomO (Nat.le_of_ble_eq_true rfl) (Nat.le_of_ble_eq_true rfl))) rfl rfl (Nat.le_of_ble_eq_true rfl) hl.1 hcs dX8_text_3 (fun H locs hw => ?_)
  refine lv_if_ne (tgt := 15) hx hb dX8_text_6 (by decide) (fun c4 => ?_) (fun c4 => ?_)
  · replace h := zif_f c4 h
    refine lv_aload_n hx hb dX8_text_15 rfl (lv_at hl 0 rfl) ?_
    refine lv_iload_n hx hb dX8_text_16 rfl (lv_at hl 1 rfl) ?_
    refine ptX8_131 X hw dX8_text_17 (fun M5 H locs eM5 hw => ?_)
    replace h := zlt_s eM5 h
    refine lv_aload_n hx hb dX8_text_20 rfl (lv_at hl 0 rfl) ?_
    refine lv_iconst (v := 0) hx hb dX8_text_21 (by decide) ?_
    refine ptX8_127 X hw dX8_text_22 (fun M6 H locs eM6 hw => ?_)
    replace h := zlt_s eM6 h
    refine lv_aload_n hx hb dX8_text_25 rfl (lv_at hl 0 rfl) ?_
    refine lv_iconst (v := 0) hx hb dX8_text_26 (by decide) ?_
    refine ptX8_161 X hw dX8_text_27 (fun M7 H locs eM7 hw => ?_)
    replace h := zlt_s eM7 h
    refine lv_aload_n hx hb dX8_text_30 rfl (lv_at hl 0 rfl) ?_
    refine lv_iconst (v := 0) hx hb dX8_text_31 (by decide) ?_
    refine ptX8_134 X hw dX8_text_32 (fun M8 H locs eM8 hw => ?_)
    replace h := zlt_s eM8 h
    refine lv_aload_n hx hb dX8_text_35 rfl (lv_at hl 0 rfl) ?_
    obtain ⟨r9, M10, f11, h⟩ := zbi_e h
    refine z_qVi (As := []) (rest := []) X hw (kX8_whole l D cy a (fX8_one 20) _ _ (kX8_one l D cy a 20) M8 r9 M10 f11) (cwX8_170 X.2.2.2.2.2.1 rfl rfl (zroomO (Nat.le_of_ble_eq_true rfl) (Nat.le_of_ble_eq_true rfl))) (zX8_lt (rfl : zX8 87)) (zS8 (rfl : zX8 87) cy a (M8 87)) rfl rfl rfl (Nat.le_of_ble_eq_true rfl) hl.1 hcs dX8_text_36 (fun H locs hw => ?_)
    refine lv_if_eq (tgt := 59) hx hb dX8_text_39 (by decide) (fun c12 => ?_) (fun c12 => ?_)
    · replace h := zif_t c12 h
      refine lv_iconst (v := 0) hx hb dX8_text_59 (by decide) ?_
      refine lv_istore_n (lv' := [(2, .int (0 : Int32)), (0, .ref (a 87)), (1, .int p0)]) hx hb dX8_text_60 rfl hl (by decide) rfl (fun ls hl => ?_)
      refine lv_aload_n hx hb dX8_text_61 rfl (lv_at hl 1 rfl) ?_
      refine gtX8_7 X hw dX8_text_62 ?_
      refine lv_iconst (v := 3) hx hb dX8_text_65 (by decide) ?_
      refine lv_iconst (v := 0) hx hb dX8_text_66 (by decide) ?_
      refine z_astK (k := 3) X hw zI_88 (by decide) (by decide) (by decide) dX8_text_67 (fun M13 H locs eM13 hw => ?_)
      replace h := zlt_s eM13 h
      refine lv_iload_n hx hb dX8_text_68 rfl (lv_at hl 0 rfl) ?_
      refine lv_if_ne (tgt := 80) hx hb dX8_text_69 (by decide) (fun c14 => ?_) (fun c14 => ?_)
      · replace h := zif_f c14 h
        refine lv_bipush (v := 115) hx hb dX8_text_80 (by decide) ?_
        refine lv_bipush (v := 125) hx hb dX8_text_82 (by decide) ?_
        refine lv_iload_n hx hb dX8_text_84 rfl (lv_at hl 2 rfl) ?_
        refine lv_imul hx hb dX8_text_85 ?_
        refine lv_iadd hx hb dX8_text_86 ?_
        refine lv_topi (fun x15 ex15 => ?_)
        replace h := zlt_s ex15 h
        refine lv_istore_n (lv' := [(3, .int x15), (2, .int (0 : Int32)), (0, .ref (a 87)), (1, .int p0)]) hx hb dX8_text_87 rfl hl (by decide) rfl (fun ls hl => ?_)
        refine lv_aload_n hx hb dX8_text_88 rfl (lv_at hl 2 rfl) ?_
        refine gtX8_7 X hw dX8_text_89 ?_
        refine lv_iload_n hx hb dX8_text_92 rfl (lv_at hl 0 rfl) ?_
        refine lv_aload_n hx hb dX8_text_93 rfl (lv_at hl 2 rfl) ?_
        refine gtX8_134 X hw dX8_text_94 ?_
        obtain ⟨g17, h⟩ := zgd_e h
        refine z_ast X hw zI_88 g17 dX8_text_97 (fun M16 H locs eM16 hw => ?_)
        replace h := zlt_s eM16 h
        refine lv_iconst (v := 0) hx hb dX8_text_98 (by decide) ?_
        refine lv_istore (lv' := [(4, .int (0 : Int32)), (3, .int x15), (2, .int (0 : Int32)), (0, .ref (a 87)), (1, .int p0)]) hx hb dX8_text_99 hl (by decide) rfl (fun ls hl => ?_)
        refine lX8_text_101 X x15 _ zF (0 : Int32) M16 H locs _ hw (lv_sub hl [3, 1, 0] rfl) h (fun  M23 H locs ls hw hl h => ?_)
        refine lv_iconst (v := 1) hx hb dX8_text_136 (by decide) ?_
        exact z_ri X hw (zret h) dX8_text_137
      · replace h := zif_t c14 h
        refine lv_bipush (v := (-10)) hx hb dX8_text_72 (by decide) ?_
        refine lv_aload_n hx hb dX8_text_74 rfl (lv_at hl 1 rfl) ?_
        refine gtX8_127 X hw dX8_text_75 ?_
        refine lv_isub hx hb dX8_text_78 ?_
        exact z_ri X hw (zret h) dX8_text_79
    · replace h := zif_f c12 h
      refine lv_aload_n hx hb dX8_text_42 rfl (lv_at hl 0 rfl) ?_
      refine gtX8_127 X hw dX8_text_43 ?_
      refine lv_aload_n hx hb dX8_text_46 rfl (lv_at hl 0 rfl) ?_
      refine gtX8_7 X hw dX8_text_47 ?_
      refine lv_iconst (v := 3) hx hb dX8_text_50 (by decide) ?_
      refine z_aldK (k := 3) X hw zI_88 (by decide) (by decide) (by decide) dX8_text_51 ?_
      refine lv_icmp_ne (tgt := 59) hx hb dX8_text_52 (by decide) (fun c24 => ?_) (fun c24 => ?_)
      · replace h := zif_f c24 h
        refine lv_iconst (v := 0) hx hb dX8_text_59 (by decide) ?_
        refine lv_istore_n (lv' := [(2, .int (0 : Int32)), (0, .ref (a 87)), (1, .int p0)]) hx hb dX8_text_60 rfl hl (by decide) rfl (fun ls hl => ?_)
        refine lv_aload_n hx hb dX8_text_61 rfl (lv_at hl 1 rfl) ?_
        refine gtX8_7 X hw dX8_text_62 ?_
        refine lv_iconst (v := 3) hx hb dX8_text_65 (by decide) ?_
        refine lv_iconst (v := 0) hx hb dX8_text_66 (by decide) ?_
        refine z_astK (k := 3) X hw zI_88 (by decide) (by decide) (by decide) dX8_text_67 (fun M25 H locs eM25 hw => ?_)
        replace h := zlt_s eM25 h
        refine lv_iload_n hx hb dX8_text_68 rfl (lv_at hl 0 rfl) ?_
        refine lv_if_ne (tgt := 80) hx hb dX8_text_69 (by decide) (fun c26 => ?_) (fun c26 => ?_)
        · replace h := zif_f c26 h
          refine lv_bipush (v := 115) hx hb dX8_text_80 (by decide) ?_
          refine lv_bipush (v := 125) hx hb dX8_text_82 (by decide) ?_
          refine lv_iload_n hx hb dX8_text_84 rfl (lv_at hl 2 rfl) ?_
          refine lv_imul hx hb dX8_text_85 ?_
          refine lv_iadd hx hb dX8_text_86 ?_
          refine lv_topi (fun x27 ex27 => ?_)
          replace h := zlt_s ex27 h
          refine lv_istore_n (lv' := [(3, .int x27), (2, .int (0 : Int32)), (0, .ref (a 87)), (1, .int p0)]) hx hb dX8_text_87 rfl hl (by decide) rfl (fun ls hl => ?_)
          refine lv_aload_n hx hb dX8_text_88 rfl (lv_at hl 2 rfl) ?_
          refine gtX8_7 X hw dX8_text_89 ?_
          refine lv_iload_n hx hb dX8_text_92 rfl (lv_at hl 0 rfl) ?_
          refine lv_aload_n hx hb dX8_text_93 rfl (lv_at hl 2 rfl) ?_
          refine gtX8_134 X hw dX8_text_94 ?_
          obtain ⟨g29, h⟩ := zgd_e h
          refine z_ast X hw zI_88 g29 dX8_text_97 (fun M28 H locs eM28 hw => ?_)
          replace h := zlt_s eM28 h
          refine lv_iconst (v := 0) hx hb dX8_text_98 (by decide) ?_
          refine lv_istore (lv' := [(4, .int (0 : Int32)), (3, .int x27), (2, .int (0 : Int32)), (0, .ref (a 87)), (1, .int p0)]) hx hb dX8_text_99 hl (by decide) rfl (fun ls hl => ?_)
          refine lX8_text_101 X x27 _ zF (0 : Int32) M28 H locs _ hw (lv_sub hl [3, 1, 0] rfl) h (fun  M30 H locs ls hw hl h => ?_)
          refine lv_iconst (v := 1) hx hb dX8_text_136 (by decide) ?_
          exact z_ri X hw (zret h) dX8_text_137
        · replace h := zif_t c26 h
          refine lv_bipush (v := (-10)) hx hb dX8_text_72 (by decide) ?_
          refine lv_aload_n hx hb dX8_text_74 rfl (lv_at hl 1 rfl) ?_
          refine gtX8_127 X hw dX8_text_75 ?_
          refine lv_isub hx hb dX8_text_78 ?_
          exact z_ri X hw (zret h) dX8_text_79
      · replace h := zif_t c24 h
        refine lv_iconst (v := 1) hx hb dX8_text_55 (by decide) ?_
        refine lv_goto (tgt := 60) hx hb dX8_text_56 (by decide) ?_
        refine lv_istore_n (lv' := [(2, .int (1 : Int32)), (0, .ref (a 87)), (1, .int p0)]) hx hb dX8_text_60 rfl hl (by decide) rfl (fun ls hl => ?_)
        refine lv_aload_n hx hb dX8_text_61 rfl (lv_at hl 1 rfl) ?_
        refine gtX8_7 X hw dX8_text_62 ?_
        refine lv_iconst (v := 3) hx hb dX8_text_65 (by decide) ?_
        refine lv_iconst (v := 0) hx hb dX8_text_66 (by decide) ?_
        refine z_astK (k := 3) X hw zI_88 (by decide) (by decide) (by decide) dX8_text_67 (fun M31 H locs eM31 hw => ?_)
        replace h := zlt_s eM31 h
        refine lv_iload_n hx hb dX8_text_68 rfl (lv_at hl 0 rfl) ?_
        refine lv_if_ne (tgt := 80) hx hb dX8_text_69 (by decide) (fun c32 => ?_) (fun c32 => ?_)
        · replace h := zif_f c32 h
          refine lv_bipush (v := 115) hx hb dX8_text_80 (by decide) ?_
          refine lv_bipush (v := 125) hx hb dX8_text_82 (by decide) ?_
          refine lv_iload_n hx hb dX8_text_84 rfl (lv_at hl 2 rfl) ?_
          refine lv_imul hx hb dX8_text_85 ?_
          refine lv_iadd hx hb dX8_text_86 ?_
          refine lv_topi (fun x33 ex33 => ?_)
          replace h := zlt_s ex33 h
          refine lv_istore_n (lv' := [(3, .int x33), (2, .int (1 : Int32)), (0, .ref (a 87)), (1, .int p0)]) hx hb dX8_text_87 rfl hl (by decide) rfl (fun ls hl => ?_)
          refine lv_aload_n hx hb dX8_text_88 rfl (lv_at hl 2 rfl) ?_
          refine gtX8_7 X hw dX8_text_89 ?_
          refine lv_iload_n hx hb dX8_text_92 rfl (lv_at hl 0 rfl) ?_
          refine lv_aload_n hx hb dX8_text_93 rfl (lv_at hl 2 rfl) ?_
          refine gtX8_134 X hw dX8_text_94 ?_
          obtain ⟨g35, h⟩ := zgd_e h
          refine z_ast X hw zI_88 g35 dX8_text_97 (fun M34 H locs eM34 hw => ?_)
          replace h := zlt_s eM34 h
          refine lv_iconst (v := 0) hx hb dX8_text_98 (by decide) ?_
          refine lv_istore (lv' := [(4, .int (0 : Int32)), (3, .int x33), (2, .int (1 : Int32)), (0, .ref (a 87)), (1, .int p0)]) hx hb dX8_text_99 hl (by decide) rfl (fun ls hl => ?_)
          refine lX8_text_101 X x33 _ zF (0 : Int32) M34 H locs _ hw (lv_sub hl [3, 1, 0] rfl) h (fun  M36 H locs ls hw hl h => ?_)
          refine lv_iconst (v := 1) hx hb dX8_text_136 (by decide) ?_
          exact z_ri X hw (zret h) dX8_text_137
        · replace h := zif_t c32 h
          refine lv_bipush (v := (-10)) hx hb dX8_text_72 (by decide) ?_
          refine lv_aload_n hx hb dX8_text_74 rfl (lv_at hl 1 rfl) ?_
          refine gtX8_127 X hw dX8_text_75 ?_
          refine lv_isub hx hb dX8_text_78 ?_
          exact z_ri X hw (zret h) dX8_text_79
  · replace h := zif_t c4 h
    refine lv_aload_n hx hb dX8_text_9 rfl (lv_at hl 0 rfl) ?_
    refine lv_iconst (v := 1) hx hb dX8_text_10 (by decide) ?_
    obtain ⟨r37, M38, f39, h⟩ := zbi_e h
    refine z_qVi (As := [.int (1 : Int32)]) (rest := []) X hw (kX8_error l D cy a (1 : Int32) M2 r37 M38 f39) (cwX8_76 X.2.2.2.2.2.1 rfl rfl (zroomO (Nat.le_of_ble_eq_true rfl) (Nat.le_of_ble_eq_true rfl))) (zX8_lt (rfl : zX8 87)) (zS8 (rfl : zX8 87) cy a (M2 87)) rfl rfl rfl (Nat.le_of_ble_eq_true rfl) hl.1 hcs dX8_text_11 (fun H locs hw => ?_)
    exact z_ri X hw (zret h) dX8_text_14
def fX8_untell (p0 : Int32) (M : zM) : Option (Int32 × zM) := zbi (fX8_in p0 (0 : Int32) (1 : Int32) M) (fun r1 M2 => if r1 = 0 then (zbi (fX8_error (1 : Int32) M2) (fun r13 M14 => some (r13, M14))) else (zbi (fX8_hasText p0 M2) (fun r5 M6 => if r5 = 0 then (zgd ((115 : Int32) + ((125 : Int32) * p0) < 0 ∨ 449 ≤ ((115 : Int32) + ((125 : Int32) * p0)).toNatClampNeg) (zlt (zst M6 88 (((115 : Int32) + ((125 : Int32) * p0)).toNatClampNeg) (0 : Int32)) (fun M9 => some ((0 : Int32), M9)))) else (zgd ((115 : Int32) + ((125 : Int32) * p0) < 0 ∨ 449 ≤ ((115 : Int32) + ((125 : Int32) * p0)).toNatClampNeg) (zlt (zst M6 88 (((115 : Int32) + ((125 : Int32) * p0)).toNatClampNeg) (0 : Int32)) (fun M11 => some ((1 : Int32), M11)))))))
set_option maxRecDepth 100000 in
set_option maxHeartbeats 4000000 in
theorem kX8_untell (l : Launch) (D : va_G) (cy : Nat → ClassId) (a : Nat → Nat) (p0 : Int32) (M : zM) (r0 : Int32) (M0 : zM) (h : fX8_untell p0 M = some (r0, M0)) : zCi l D cy a yX8_untell cX8_untell 3 (some .int) (zRm 1 22) [.ref (a 87), .int p0] M (fun r u => r = r0 ∧ u = M0) := by
  intro sz
  refine zent_i sz (by decide) (Nat.le_of_ble_eq_true rfl) rfl (fun p e s m args below meth c ls H locs X hw hl => ?_)
  obtain ⟨hx, hb, hr, hml, hown, hW, hlocks⟩ := id X
  have hE := hw.2.2.2.2.1
  have hcs : 0 ≤ ((zRm 1 22)).cells ∧ 0 ≤ ((zRm 1 22)).slots := ⟨Nat.zero_le _, Nat.zero_le _⟩
  rw [fX8_untell] at h
  refine lv_iload_n hx hb dX8_untell_0 rfl (lv_at hl 1 rfl) ?_
  refine lv_iconst (v := 0) hx hb dX8_untell_1 (by decide) ?_
  refine lv_iconst (v := 1) hx hb dX8_untell_2 (by decide) ?_
  obtain ⟨r1, M2, f3, h⟩ := zbi_e h
  refine z_qSi (As := [.int p0, .int (0 : Int32), .int (1 : Int32)]) (rest := []) X hw (kX8_in l D cy a p0 (0 : Int32) (1 : Int32) M r1 M2 f3) (cwX8_56 X.2.2.2.2.2.1 rfl rfl (zroomO (Nat.le_of_ble_eq_true rfl) (Nat.le_of_ble_eq_true rfl))) rfl rfl (Nat.le_of_ble_eq_true rfl) hl.1 hcs dX8_untell_3 (fun H locs hw => ?_)
  refine lv_if_ne (tgt := 15) hx hb dX8_untell_6 (by decide) (fun c4 => ?_) (fun c4 => ?_)
  · replace h := zif_f c4 h
    refine lv_aload_n hx hb dX8_untell_15 rfl (lv_at hl 0 rfl) ?_
    refine lv_iload_n hx hb dX8_untell_16 rfl (lv_at hl 1 rfl) ?_
    obtain ⟨r5, M6, f7, h⟩ := zbi_e h
    refine z_qVi (As := [.int p0]) (rest := []) X hw (kX8_hasText l D cy a p0 M2 r5 M6 f7) (cwX8_173 X.2.2.2.2.2.1 rfl rfl (zroomO (Nat.le_of_ble_eq_true rfl) (Nat.le_of_ble_eq_true rfl))) (zX8_lt (rfl : zX8 87)) (zS8 (rfl : zX8 87) cy a (M2 87)) rfl rfl rfl (Nat.le_of_ble_eq_true rfl) hl.1 hcs dX8_untell_17 (fun H locs hw => ?_)
    refine lv_if_eq (tgt := 27) hx hb dX8_untell_20 (by decide) (fun c8 => ?_) (fun c8 => ?_)
    · replace h := zif_t c8 h
      refine lv_iconst (v := 0) hx hb dX8_untell_27 (by decide) ?_
      refine lv_istore_n (lv' := [(2, .int (0 : Int32)), (0, .ref (a 87)), (1, .int p0)]) hx hb dX8_untell_28 rfl hl (by decide) rfl (fun ls hl => ?_)
      refine lv_aload_n hx hb dX8_untell_29 rfl (lv_at hl 1 rfl) ?_
      refine gtX8_7 X hw dX8_untell_30 ?_
      refine lv_bipush (v := 115) hx hb dX8_untell_33 (by decide) ?_
      refine lv_bipush (v := 125) hx hb dX8_untell_35 (by decide) ?_
      refine lv_iload_n hx hb dX8_untell_37 rfl (lv_at hl 2 rfl) ?_
      refine lv_imul hx hb dX8_untell_38 ?_
      refine lv_iadd hx hb dX8_untell_39 ?_
      refine lv_iconst (v := 0) hx hb dX8_untell_40 (by decide) ?_
      obtain ⟨g10, h⟩ := zgd_e h
      refine z_ast X hw zI_88 g10 dX8_untell_41 (fun M9 H locs eM9 hw => ?_)
      replace h := zlt_s eM9 h
      refine lv_iload_n hx hb dX8_untell_42 rfl (lv_at hl 0 rfl) ?_
      exact z_ri X hw (zret h) dX8_untell_43
    · replace h := zif_f c8 h
      refine lv_iconst (v := 1) hx hb dX8_untell_23 (by decide) ?_
      refine lv_goto (tgt := 28) hx hb dX8_untell_24 (by decide) ?_
      refine lv_istore_n (lv' := [(2, .int (1 : Int32)), (0, .ref (a 87)), (1, .int p0)]) hx hb dX8_untell_28 rfl hl (by decide) rfl (fun ls hl => ?_)
      refine lv_aload_n hx hb dX8_untell_29 rfl (lv_at hl 1 rfl) ?_
      refine gtX8_7 X hw dX8_untell_30 ?_
      refine lv_bipush (v := 115) hx hb dX8_untell_33 (by decide) ?_
      refine lv_bipush (v := 125) hx hb dX8_untell_35 (by decide) ?_
      refine lv_iload_n hx hb dX8_untell_37 rfl (lv_at hl 2 rfl) ?_
      refine lv_imul hx hb dX8_untell_38 ?_
      refine lv_iadd hx hb dX8_untell_39 ?_
      refine lv_iconst (v := 0) hx hb dX8_untell_40 (by decide) ?_
      obtain ⟨g12, h⟩ := zgd_e h
      refine z_ast X hw zI_88 g12 dX8_untell_41 (fun M11 H locs eM11 hw => ?_)
      replace h := zlt_s eM11 h
      refine lv_iload_n hx hb dX8_untell_42 rfl (lv_at hl 0 rfl) ?_
      exact z_ri X hw (zret h) dX8_untell_43
  · replace h := zif_t c4 h
    refine lv_aload_n hx hb dX8_untell_9 rfl (lv_at hl 0 rfl) ?_
    refine lv_iconst (v := 1) hx hb dX8_untell_10 (by decide) ?_
    obtain ⟨r13, M14, f15, h⟩ := zbi_e h
    refine z_qVi (As := [.int (1 : Int32)]) (rest := []) X hw (kX8_error l D cy a (1 : Int32) M2 r13 M14 f15) (cwX8_76 X.2.2.2.2.2.1 rfl rfl (zroomO (Nat.le_of_ble_eq_true rfl) (Nat.le_of_ble_eq_true rfl))) (zX8_lt (rfl : zX8 87)) (zS8 (rfl : zX8 87) cy a (M2 87)) rfl rfl rfl (Nat.le_of_ble_eq_true rfl) hl.1 hcs dX8_untell_11 (fun H locs hw => ?_)
    exact z_ri X hw (zret h) dX8_untell_14
def fX8_flows (p0 : Int32) (M : zM) : Option (Int32 × zM) := zbi (fX8_isPlace p0 M) (fun r1 M2 => if r1 = 0 then (zbi (fX8_error (1 : Int32) M2) (fun r9 M10 => some (r9, M10))) else (zbv (fX8_flow M2) (fun M6 => zgd (p0 < 0 ∨ 13 ≤ p0.toNatClampNeg) (some (M6 95 (p0.toNatClampNeg), M6)))))
set_option maxRecDepth 100000 in
set_option maxHeartbeats 4000000 in
theorem kX8_flows (l : Launch) (D : va_G) (cy : Nat → ClassId) (a : Nat → Nat) (p0 : Int32) (M : zM) (r0 : Int32) (M0 : zM) (h : fX8_flows p0 M = some (r0, M0)) : zCi l D cy a yX8_flows cX8_flows 2 (some .int) (zRm 5 118) [.ref (a 87), .int p0] M (fun r u => r = r0 ∧ u = M0) := by
  intro sz
  refine zent_i sz (by decide) (Nat.le_of_ble_eq_true rfl) rfl (fun p e s m args below meth c ls H locs X hw hl => ?_)
  obtain ⟨hx, hb, hr, hml, hown, hW, hlocks⟩ := id X
  have hE := hw.2.2.2.2.1
  have hcs : 0 ≤ ((zRm 5 118)).cells ∧ 0 ≤ ((zRm 5 118)).slots := ⟨Nat.zero_le _, Nat.zero_le _⟩
  rw [fX8_flows] at h
  refine lv_iload_n hx hb dX8_flows_0 rfl (lv_at hl 1 rfl) ?_
  obtain ⟨r1, M2, f3, h⟩ := zbi_e h
  refine z_qSi (As := [.int p0]) (rest := []) X hw (kX8_isPlace l D cy a p0 M r1 M2 f3) (cwX8_79 X.2.2.2.2.2.1 rfl rfl (zroomO (Nat.le_of_ble_eq_true rfl) (Nat.le_of_ble_eq_true rfl))) rfl rfl (Nat.le_of_ble_eq_true rfl) hl.1 hcs dX8_flows_1 (fun H locs hw => ?_)
  refine lv_if_ne (tgt := 13) hx hb dX8_flows_4 (by decide) (fun c4 => ?_) (fun c4 => ?_)
  · replace h := zif_f c4 h
    refine lv_aload_n hx hb dX8_flows_13 rfl (lv_at hl 0 rfl) ?_
    obtain ⟨M6, f7, h⟩ := zbv_e h
    refine z_qVv (As := []) (rest := []) X hw (kX8_flow l D cy a M2 M6 f7) (cwX8_103 X.2.2.2.2.2.1 rfl rfl (zroomO (Nat.le_of_ble_eq_true rfl) (Nat.le_of_ble_eq_true rfl))) (zX8_lt (rfl : zX8 87)) (zS8 (rfl : zX8 87) cy a (M2 87)) rfl rfl rfl (Nat.le_of_ble_eq_true rfl) hl.1 hcs dX8_flows_14 (fun H locs hw => ?_)
    refine lv_aload_n hx hb dX8_flows_17 rfl (lv_at hl 0 rfl) ?_
    refine gtX8_31 X hw dX8_flows_18 ?_
    refine lv_iload_n hx hb dX8_flows_21 rfl (lv_at hl 1 rfl) ?_
    obtain ⟨g8, h⟩ := zgd_e h
    refine z_ald X hw zI_95 g8 dX8_flows_22 ?_
    exact z_ri X hw (zret h) dX8_flows_23
  · replace h := zif_t c4 h
    refine lv_aload_n hx hb dX8_flows_7 rfl (lv_at hl 0 rfl) ?_
    refine lv_iconst (v := 1) hx hb dX8_flows_8 (by decide) ?_
    obtain ⟨r9, M10, f11, h⟩ := zbi_e h
    refine z_qVi (As := [.int (1 : Int32)]) (rest := []) X hw (kX8_error l D cy a (1 : Int32) M2 r9 M10 f11) (cwX8_76 X.2.2.2.2.2.1 rfl rfl (zroomO (Nat.le_of_ble_eq_true rfl) (Nat.le_of_ble_eq_true rfl))) (zX8_lt (rfl : zX8 87)) (zS8 (rfl : zX8 87) cy a (M2 87)) rfl rfl rfl (Nat.le_of_ble_eq_true rfl) hl.1 hcs dX8_flows_9 (fun H locs hw => ?_)
    exact z_ri X hw (zret h) dX8_flows_12
def fX8_turn1 (p0 : Int32) (p1 : Int32) (M : zM) : Option (zM) := zbi (fX8_its p0 (6 : Int32) M) (fun r1 M2 => zbi (fX8_held (r1 + p1) (0 : Int32) (999999 : Int32) M2) (fun r4 M5 => zbv (fX8_lays1 p0 (6 : Int32) r4 M5) (fun M8 => zbi (fX8_its p0 (3 : Int32) M8) (fun r10 M11 => zbi (fX8_its p0 (3 : Int32) M11) (fun r13 M14 => zbi (fX8_prayed r13 M14) (fun r16 M17 => zbv (fX8_prays r10 (r16 + p1) M17) (fun M20 => some M20)))))))
set_option maxRecDepth 100000 in
set_option maxHeartbeats 4000000 in
theorem kX8_turn1 (l : Launch) (D : va_G) (cy : Nat → ClassId) (a : Nat → Nat) (p0 : Int32) (p1 : Int32) (M : zM) (M0 : zM) (h : fX8_turn1 p0 p1 M = some M0) : zCv l D cy a yX8_turn1 cX8_turn1 3 (zRm 2 44) [.ref (a 87), .int p0, .int p1] M (fun u => u = M0) := by
  intro sz
  refine zent_v sz (by decide) (Nat.le_of_ble_eq_true rfl) rfl (fun p e s m args below meth c ls H locs X hw hl => ?_)
  obtain ⟨hx, hb, hr, hml, hown, hW, hlocks⟩ := id X
  have hE := hw.2.2.2.2.1
  have hcs : 0 ≤ ((zRm 2 44)).cells ∧ 0 ≤ ((zRm 2 44)).slots := ⟨Nat.zero_le _, Nat.zero_le _⟩
  rw [fX8_turn1] at h
  refine lv_aload_n hx hb dX8_turn1_0 rfl (lv_at hl 0 rfl) ?_
  refine lv_iload_n hx hb dX8_turn1_1 rfl (lv_at hl 1 rfl) ?_
  refine lv_bipush (v := 6) hx hb dX8_turn1_2 (by decide) ?_
  refine lv_aload_n hx hb dX8_turn1_4 rfl (lv_at hl 0 rfl) ?_
  refine lv_iload_n hx hb dX8_turn1_5 rfl (lv_at hl 1 rfl) ?_
  refine lv_bipush (v := 6) hx hb dX8_turn1_6 (by decide) ?_
  obtain ⟨r1, M2, f3, h⟩ := zbi_e h
  refine z_qVi (As := [.int p0, .int (6 : Int32)]) (rest := [.int (6 : Int32), .int p0, .ref (a 87)]) X hw (kX8_its l D cy a p0 (6 : Int32) M r1 M2 f3) (cwX8_90 X.2.2.2.2.2.1 rfl rfl (zroomO (Nat.le_of_ble_eq_true rfl) (Nat.le_of_ble_eq_true rfl))) (zX8_lt (rfl : zX8 87)) (zS8 (rfl : zX8 87) cy a (M 87)) rfl rfl rfl (Nat.le_of_ble_eq_true rfl) hl.1 hcs dX8_turn1_8 (fun H locs hw => ?_)
  refine lv_iload_n hx hb dX8_turn1_11 rfl (lv_at hl 2 rfl) ?_
  refine lv_iadd hx hb dX8_turn1_12 ?_
  refine lv_iconst (v := 0) hx hb dX8_turn1_13 (by decide) ?_
  refine z_ldc (v := 999999) X zm_18_4 dX8_turn1_14 ?_
  obtain ⟨r4, M5, f6, h⟩ := zbi_e h
  refine z_qSi (As := [.int (r1 + p1), .int (0 : Int32), .int (999999 : Int32)]) (rest := [.int (6 : Int32), .int p0, .ref (a 87)]) X hw (kX8_held l D cy a (r1 + p1) (0 : Int32) (999999 : Int32) M2 r4 M5 f6) (cwX8_61 X.2.2.2.2.2.1 rfl rfl (zroomO (Nat.le_of_ble_eq_true rfl) (Nat.le_of_ble_eq_true rfl))) rfl rfl (Nat.le_of_ble_eq_true rfl) hl.1 hcs dX8_turn1_16 (fun H locs hw => ?_)
  obtain ⟨M8, f9, h⟩ := zbv_e h
  refine z_qVv (As := [.int p0, .int (6 : Int32), .int r4]) (rest := []) X hw (kX8_lays1 l D cy a p0 (6 : Int32) r4 M5 M8 f9) (cwX8_96 X.2.2.2.2.2.1 rfl rfl (zroomO (Nat.le_of_ble_eq_true rfl) (Nat.le_of_ble_eq_true rfl))) (zX8_lt (rfl : zX8 87)) (zS8 (rfl : zX8 87) cy a (M5 87)) rfl rfl rfl (Nat.le_of_ble_eq_true rfl) hl.1 hcs dX8_turn1_19 (fun H locs hw => ?_)
  refine lv_aload_n hx hb dX8_turn1_22 rfl (lv_at hl 0 rfl) ?_
  refine lv_aload_n hx hb dX8_turn1_23 rfl (lv_at hl 0 rfl) ?_
  refine lv_iload_n hx hb dX8_turn1_24 rfl (lv_at hl 1 rfl) ?_
  refine lv_iconst (v := 3) hx hb dX8_turn1_25 (by decide) ?_
  obtain ⟨r10, M11, f12, h⟩ := zbi_e h
  refine z_qVi (As := [.int p0, .int (3 : Int32)]) (rest := [.ref (a 87)]) X hw (kX8_its l D cy a p0 (3 : Int32) M8 r10 M11 f12) (cwX8_90 X.2.2.2.2.2.1 rfl rfl (zroomO (Nat.le_of_ble_eq_true rfl) (Nat.le_of_ble_eq_true rfl))) (zX8_lt (rfl : zX8 87)) (zS8 (rfl : zX8 87) cy a (M8 87)) rfl rfl rfl (Nat.le_of_ble_eq_true rfl) hl.1 hcs dX8_turn1_26 (fun H locs hw => ?_)
  refine lv_aload_n hx hb dX8_turn1_29 rfl (lv_at hl 0 rfl) ?_
  refine lv_aload_n hx hb dX8_turn1_30 rfl (lv_at hl 0 rfl) ?_
  refine lv_iload_n hx hb dX8_turn1_31 rfl (lv_at hl 1 rfl) ?_
  refine lv_iconst (v := 3) hx hb dX8_turn1_32 (by decide) ?_
  obtain ⟨r13, M14, f15, h⟩ := zbi_e h
  refine z_qVi (As := [.int p0, .int (3 : Int32)]) (rest := [.ref (a 87), .int r10, .ref (a 87)]) X hw (kX8_its l D cy a p0 (3 : Int32) M11 r13 M14 f15) (cwX8_90 X.2.2.2.2.2.1 rfl rfl (zroomO (Nat.le_of_ble_eq_true rfl) (Nat.le_of_ble_eq_true rfl))) (zX8_lt (rfl : zX8 87)) (zS8 (rfl : zX8 87) cy a (M11 87)) rfl rfl rfl (Nat.le_of_ble_eq_true rfl) hl.1 hcs dX8_turn1_33 (fun H locs hw => ?_)
  obtain ⟨r16, M17, f18, h⟩ := zbi_e h
  refine z_qVi (As := [.int r13]) (rest := [.int r10, .ref (a 87)]) X hw (kX8_prayed l D cy a r13 M14 r16 M17 f18) (cwX8_65 X.2.2.2.2.2.1 rfl rfl (zroomO (Nat.le_of_ble_eq_true rfl) (Nat.le_of_ble_eq_true rfl))) (zX8_lt (rfl : zX8 87)) (zS8 (rfl : zX8 87) cy a (M14 87)) rfl rfl rfl (Nat.le_of_ble_eq_true rfl) hl.1 hcs dX8_turn1_36 (fun H locs hw => ?_)
  refine lv_iload_n hx hb dX8_turn1_39 rfl (lv_at hl 2 rfl) ?_
  refine lv_iadd hx hb dX8_turn1_40 ?_
  obtain ⟨M20, f21, h⟩ := zbv_e h
  refine z_qVv (As := [.int r10, .int (r16 + p1)]) (rest := []) X hw (kX8_prays l D cy a r10 (r16 + p1) M17 M20 f21) (cwX8_203 X.2.2.2.2.2.1 rfl rfl (zroomO (Nat.le_of_ble_eq_true rfl) (Nat.le_of_ble_eq_true rfl))) (zX8_lt (rfl : zX8 87)) (zS8 (rfl : zX8 87) cy a (M17 87)) rfl rfl rfl (Nat.le_of_ble_eq_true rfl) hl.1 hcs dX8_turn1_41 (fun H locs hw => ?_)
  exact z_rv X hw (zretv h) dX8_turn1_44
def fX8_hour_6 (k : zM → Option (zM)) : Nat → Int32 → zM → Option (zM)
  | 0, _, _ => none
  | n + 1, v1, M => if M 88 (0) ≤ v1 then (k  M) else (zgd (v1 < 0 ∨ 9 ≤ v1.toNatClampNeg) (zbi (fX8_turns v1 (M 96 (v1.toNatClampNeg)) M) (fun r6 M7 => zgd (v1 < 0 ∨ 9 ≤ v1.toNatClampNeg) (zlt (zst M7 97 (v1.toNatClampNeg) r6) (fun M9 => zgd (v1 < 0 ∨ 9 ≤ v1.toNatClampNeg) (zgd (v1 < 0 ∨ 9 ≤ v1.toNatClampNeg) (zbi (fX8_showsBy v1 (M9 96 (v1.toNatClampNeg)) (M9 97 (v1.toNatClampNeg)) M9) (fun r13 M14 => zgd (v1 < 0 ∨ 9 ≤ v1.toNatClampNeg) (zbv (fX8_turn1 v1 (M14 97 (v1.toNatClampNeg)) M14) (fun M18 => zbi (fX8_its v1 (5 : Int32) M18) (fun r20 M21 => zbi (fX8_held (r20 + r13) (0 : Int32) (999999 : Int32) M21) (fun r23 M24 => zbv (fX8_lays1 v1 (5 : Int32) r23 M24) (fun M27 => zlt (v1 + (1 : Int32)) (fun x29 => fX8_hour_6 k n x29 M27))))))))))))))
set_option maxRecDepth 100000 in
set_option maxHeartbeats 4000000 in
theorem lX8_hour_6 {p : Program} {l : Launch} {e : Env} {s : State} {m : MethodId} {args : Array Value} {below : List Frame} {meth : Method} {c : Code} {D : va_G} {cy : Nat → ClassId} {a : Nat → Nat} {M0 : zM} (X : zCX p s m meth c args cX8_hour 3 none RX8) (k : zM → Option (zM)) : ∀ (n : Nat) (v1 : Int32) (M : zM) (H : Heap) (locs : List Loc) (ls : Array Slot), zWD D cy a (zfr a s.heap.size) M H locs s → lv_has ls 3 [(0, .ref (a 87)), (1, .int v1)] → fX8_hour_6 k n v1 M = some M0 →
    (∀ (M' : zM) (H' : Heap) (locs' : List Loc) (ls' : Array Slot), zWD D cy a (zfr a s.heap.size) M' H' locs' s → lv_has ls' 3 [(0, .ref (a 87))] → k M' = some M0 → W p l e (zRm 5 118) s m args below meth c H' locs' 0 0 (zQv D cy a s args below M0) (F0 m 88 ls' [])) →
    W p l e (zRm 5 118) s m args below meth c H locs 0 0 (zQv D cy a s args below M0) (F0 m 6 ls []) := by
  obtain ⟨hx, hb, hr, hml, hown, hW, hlocks⟩ := id X
  have hcs : 0 ≤ ((zRm 5 118)).cells ∧ 0 ≤ ((zRm 5 118)).slots := ⟨Nat.zero_le _, Nat.zero_le _⟩
  intro n
  induction n with
  | zero =>
    intro v1 M H locs ls hw hl h hk
    cases h
  | succ n ih =>
    intro v1 M H locs ls hw hl h hk
    have hE := hw.2.2.2.2.1
    rw [fX8_hour_6] at h
    refine lv_iload_n hx hb dX8_hour_6 rfl (lv_at hl 1 rfl) ?_
    refine lv_aload_n hx hb dX8_hour_7 rfl (lv_at hl 0 rfl) ?_
    refine gtX8_7 X hw dX8_hour_8 ?_
    refine lv_iconst (v := 0) hx hb dX8_hour_11 (by decide) ?_
    refine z_aldK (k := 0) X hw zI_88 (by decide) (by decide) (by decide) dX8_hour_12 ?_
    refine lv_icmp_ge (tgt := 88) hx hb dX8_hour_13 (by decide) (fun c4 => ?_) (fun c4 => ?_)
    · replace h := zif_t c4 h
      exact hk  M H locs _ hw (lv_sub hl [0] rfl) h
    · replace h := zif_f c4 h
      refine lv_aload_n hx hb dX8_hour_16 rfl (lv_at hl 0 rfl) ?_
      refine gtX8_37 X hw dX8_hour_17 ?_
      refine lv_iload_n hx hb dX8_hour_20 rfl (lv_at hl 1 rfl) ?_
      refine lv_aload_n hx hb dX8_hour_21 rfl (lv_at hl 0 rfl) ?_
      refine lv_iload_n hx hb dX8_hour_22 rfl (lv_at hl 1 rfl) ?_
      refine lv_aload_n hx hb dX8_hour_23 rfl (lv_at hl 0 rfl) ?_
      refine gtX8_34 X hw dX8_hour_24 ?_
      refine lv_iload_n hx hb dX8_hour_27 rfl (lv_at hl 1 rfl) ?_
      obtain ⟨g5, h⟩ := zgd_e h
      refine z_ald X hw zI_96 g5 dX8_hour_28 ?_
      obtain ⟨r6, M7, f8, h⟩ := zbi_e h
      refine z_qVi (As := [.int v1, .int (M 96 (v1.toNatClampNeg))]) (rest := [.int v1, .ref (a 97)]) X hw (kX8_turns l D cy a v1 (M 96 (v1.toNatClampNeg)) M r6 M7 f8) (cwX8_106 X.2.2.2.2.2.1 rfl rfl (zroomO (Nat.le_of_ble_eq_true rfl) (Nat.le_of_ble_eq_true rfl))) (zX8_lt (rfl : zX8 87)) (zS8 (rfl : zX8 87) cy a (M 87)) rfl rfl rfl (Nat.le_of_ble_eq_true rfl) hl.1 hcs dX8_hour_29 (fun H locs hw => ?_)
      obtain ⟨g10, h⟩ := zgd_e h
      refine z_ast X hw zI_97 g10 dX8_hour_32 (fun M9 H locs eM9 hw => ?_)
      replace h := zlt_s eM9 h
      refine lv_aload_n hx hb dX8_hour_33 rfl (lv_at hl 0 rfl) ?_
      refine lv_iload_n hx hb dX8_hour_34 rfl (lv_at hl 1 rfl) ?_
      refine lv_aload_n hx hb dX8_hour_35 rfl (lv_at hl 0 rfl) ?_
      refine gtX8_34 X hw dX8_hour_36 ?_
      refine lv_iload_n hx hb dX8_hour_39 rfl (lv_at hl 1 rfl) ?_
      obtain ⟨g11, h⟩ := zgd_e h
      refine z_ald X hw zI_96 g11 dX8_hour_40 ?_
      refine lv_aload_n hx hb dX8_hour_41 rfl (lv_at hl 0 rfl) ?_
      refine gtX8_37 X hw dX8_hour_42 ?_
      refine lv_iload_n hx hb dX8_hour_45 rfl (lv_at hl 1 rfl) ?_
      obtain ⟨g12, h⟩ := zgd_e h
      refine z_ald X hw zI_97 g12 dX8_hour_46 ?_
      obtain ⟨r13, M14, f15, h⟩ := zbi_e h
      refine z_qVi (As := [.int v1, .int (M9 96 (v1.toNatClampNeg)), .int (M9 97 (v1.toNatClampNeg))]) (rest := []) X hw (kX8_showsBy l D cy a v1 (M9 96 (v1.toNatClampNeg)) (M9 97 (v1.toNatClampNeg)) M9 r13 M14 f15) (cwX8_191 X.2.2.2.2.2.1 rfl rfl (zroomO (Nat.le_of_ble_eq_true rfl) (Nat.le_of_ble_eq_true rfl))) (zX8_lt (rfl : zX8 87)) (zS8 (rfl : zX8 87) cy a (M9 87)) rfl rfl rfl (Nat.le_of_ble_eq_true rfl) hl.1 hcs dX8_hour_47 (fun H locs hw => ?_)
      refine lv_istore_n (lv' := [(2, .int r13), (0, .ref (a 87)), (1, .int v1)]) hx hb dX8_hour_50 rfl hl (by decide) rfl (fun ls hl => ?_)
      refine lv_aload_n hx hb dX8_hour_51 rfl (lv_at hl 1 rfl) ?_
      refine lv_iload_n hx hb dX8_hour_52 rfl (lv_at hl 2 rfl) ?_
      refine lv_aload_n hx hb dX8_hour_53 rfl (lv_at hl 1 rfl) ?_
      refine gtX8_37 X hw dX8_hour_54 ?_
      refine lv_iload_n hx hb dX8_hour_57 rfl (lv_at hl 2 rfl) ?_
      obtain ⟨g16, h⟩ := zgd_e h
      refine z_ald X hw zI_97 g16 dX8_hour_58 ?_
      obtain ⟨M18, f19, h⟩ := zbv_e h
      refine z_qVv (As := [.int v1, .int (M14 97 (v1.toNatClampNeg))]) (rest := []) X hw (kX8_turn1 l D cy a v1 (M14 97 (v1.toNatClampNeg)) M14 M18 f19) (cwX8_206 X.2.2.2.2.2.1 rfl rfl (zroomO (Nat.le_of_ble_eq_true rfl) (Nat.le_of_ble_eq_true rfl))) (zX8_lt (rfl : zX8 87)) (zS8 (rfl : zX8 87) cy a (M14 87)) rfl rfl rfl (Nat.le_of_ble_eq_true rfl) hl.1 hcs dX8_hour_59 (fun H locs hw => ?_)
      refine lv_aload_n hx hb dX8_hour_62 rfl (lv_at hl 1 rfl) ?_
      refine lv_iload_n hx hb dX8_hour_63 rfl (lv_at hl 2 rfl) ?_
      refine lv_iconst (v := 5) hx hb dX8_hour_64 (by decide) ?_
      refine lv_aload_n hx hb dX8_hour_65 rfl (lv_at hl 1 rfl) ?_
      refine lv_iload_n hx hb dX8_hour_66 rfl (lv_at hl 2 rfl) ?_
      refine lv_iconst (v := 5) hx hb dX8_hour_67 (by decide) ?_
      obtain ⟨r20, M21, f22, h⟩ := zbi_e h
      refine z_qVi (As := [.int v1, .int (5 : Int32)]) (rest := [.int (5 : Int32), .int v1, .ref (a 87)]) X hw (kX8_its l D cy a v1 (5 : Int32) M18 r20 M21 f22) (cwX8_90 X.2.2.2.2.2.1 rfl rfl (zroomO (Nat.le_of_ble_eq_true rfl) (Nat.le_of_ble_eq_true rfl))) (zX8_lt (rfl : zX8 87)) (zS8 (rfl : zX8 87) cy a (M18 87)) rfl rfl rfl (Nat.le_of_ble_eq_true rfl) hl.1 hcs dX8_hour_68 (fun H locs hw => ?_)
      refine lv_iload_n hx hb dX8_hour_71 rfl (lv_at hl 0 rfl) ?_
      refine lv_iadd hx hb dX8_hour_72 ?_
      refine lv_iconst (v := 0) hx hb dX8_hour_73 (by decide) ?_
      refine z_ldc (v := 999999) X zm_18_4 dX8_hour_74 ?_
      obtain ⟨r23, M24, f25, h⟩ := zbi_e h
      refine z_qSi (As := [.int (r20 + r13), .int (0 : Int32), .int (999999 : Int32)]) (rest := [.int (5 : Int32), .int v1, .ref (a 87)]) X hw (kX8_held l D cy a (r20 + r13) (0 : Int32) (999999 : Int32) M21 r23 M24 f25) (cwX8_61 X.2.2.2.2.2.1 rfl rfl (zroomO (Nat.le_of_ble_eq_true rfl) (Nat.le_of_ble_eq_true rfl))) rfl rfl (Nat.le_of_ble_eq_true rfl) hl.1 hcs dX8_hour_76 (fun H locs hw => ?_)
      obtain ⟨M27, f28, h⟩ := zbv_e h
      refine z_qVv (As := [.int v1, .int (5 : Int32), .int r23]) (rest := []) X hw (kX8_lays1 l D cy a v1 (5 : Int32) r23 M24 M27 f28) (cwX8_96 X.2.2.2.2.2.1 rfl rfl (zroomO (Nat.le_of_ble_eq_true rfl) (Nat.le_of_ble_eq_true rfl))) (zX8_lt (rfl : zX8 87)) (zS8 (rfl : zX8 87) cy a (M24 87)) rfl rfl rfl (Nat.le_of_ble_eq_true rfl) hl.1 hcs dX8_hour_79 (fun H locs hw => ?_)
      obtain ⟨x29, ex29⟩ : ∃ y : Int32, y = v1 + (1 : Int32) := ⟨_, rfl⟩
      replace h := zlt_s ex29 h
      refine lv_iinc (v := x29) (lv' := [(1, .int x29), (2, .int r13), (0, .ref (a 87))]) hx hb dX8_hour_82 hl (k := 2) rfl (by rw [ex29]; rfl) (by decide) rfl (fun ls hl => ?_)
      refine lv_goto (tgt := 6) hx hb dX8_hour_85 (by decide) ?_
      exact ih x29 M27 H locs _ hw (lv_sub hl [2, 0] rfl) h hk
def fX8_hour (M : zM) : Option (zM) := zbv (fX8_flow M) (fun M2 => fX8_hour_6  (fun  M30 => zlt (zst M30 88 (1) ((M30 88 (1)) + (1 : Int32))) (fun M31 => some M31)) zF (0 : Int32) M2)
set_option maxRecDepth 100000 in
set_option maxHeartbeats 4000000 in
theorem kX8_hour (l : Launch) (D : va_G) (cy : Nat → ClassId) (a : Nat → Nat) (M : zM) (M0 : zM) (h : fX8_hour  M = some M0) : zCv l D cy a yX8_hour cX8_hour 3 (zRm 5 118) [.ref (a 87)] M (fun u => u = M0) := by
  intro sz
  refine zent_v sz (by decide) (Nat.le_of_ble_eq_true rfl) rfl (fun p e s m args below meth c ls H locs X hw hl => ?_)
  obtain ⟨hx, hb, hr, hml, hown, hW, hlocks⟩ := id X
  have hE := hw.2.2.2.2.1
  have hcs : 0 ≤ ((zRm 5 118)).cells ∧ 0 ≤ ((zRm 5 118)).slots := ⟨Nat.zero_le _, Nat.zero_le _⟩
  rw [fX8_hour] at h
  refine lv_aload_n hx hb dX8_hour_0 rfl (lv_at hl 0 rfl) ?_
  obtain ⟨M2, f3, h⟩ := zbv_e h
  refine z_qVv (As := []) (rest := []) X hw (kX8_flow l D cy a M M2 f3) (cwX8_103 X.2.2.2.2.2.1 rfl rfl (zroomO (Nat.le_of_ble_eq_true rfl) (Nat.le_of_ble_eq_true rfl))) (zX8_lt (rfl : zX8 87)) (zS8 (rfl : zX8 87) cy a (M 87)) rfl rfl rfl (Nat.le_of_ble_eq_true rfl) hl.1 hcs dX8_hour_1 (fun H locs hw => ?_)
  refine lv_iconst (v := 0) hx hb dX8_hour_4 (by decide) ?_
  refine lv_istore_n (lv' := [(1, .int (0 : Int32)), (0, .ref (a 87))]) hx hb dX8_hour_5 rfl hl (by decide) rfl (fun ls hl => ?_)
  refine lX8_hour_6 X  _ zF (0 : Int32) M2 H locs _ hw (lv_sub hl [1, 0] rfl) h (fun  M30 H locs ls hw hl h => ?_)
  refine lv_aload_n hx hb dX8_hour_88 rfl (lv_at hl 0 rfl) ?_
  refine gtX8_7 X hw dX8_hour_89 ?_
  refine lv_iconst (v := 1) hx hb dX8_hour_92 (by decide) ?_
  refine lv_dup2_11 hx hb dX8_hour_93 rfl rfl ?_
  refine z_aldK (k := 1) X hw zI_88 (by decide) (by decide) (by decide) dX8_hour_94 ?_
  refine lv_iconst (v := 1) hx hb dX8_hour_95 (by decide) ?_
  refine lv_iadd hx hb dX8_hour_96 ?_
  refine z_astK (k := 1) X hw zI_88 (by decide) (by decide) (by decide) dX8_hour_97 (fun M31 H locs eM31 hw => ?_)
  replace h := zlt_s eM31 h
  exact z_rv X hw (zretv h) dX8_hour_98
def fX8_go_2 (y1 : Int32) (k : zM → Option (zM)) : Nat → Int32 → zM → Option (zM)
  | 0, _, _ => none
  | n + 1, v2, M => if y1 ≤ v2 then (k  M) else (zbv (fX8_hour M) (fun M3 => zlt (v2 + (1 : Int32)) (fun x5 => fX8_go_2 y1 k n x5 M3)))
set_option maxRecDepth 100000 in
set_option maxHeartbeats 4000000 in
theorem lX8_go_2 {p : Program} {l : Launch} {e : Env} {s : State} {m : MethodId} {args : Array Value} {below : List Frame} {meth : Method} {c : Code} {D : va_G} {cy : Nat → ClassId} {a : Nat → Nat} {M0 : zM} (X : zCX p s m meth c args cX8_go 3 none RX8) (y1 : Int32) (k : zM → Option (zM)) : ∀ (n : Nat) (v2 : Int32) (M : zM) (H : Heap) (locs : List Loc) (ls : Array Slot), zWD D cy a (zfr a s.heap.size) M H locs s → lv_has ls 3 [(0, .ref (a 87)), (1, .int y1), (2, .int v2)] → fX8_go_2 y1 k n v2 M = some M0 →
    (∀ (M' : zM) (H' : Heap) (locs' : List Loc) (ls' : Array Slot), zWD D cy a (zfr a s.heap.size) M' H' locs' s → lv_has ls' 3 [] → k M' = some M0 → W p l e (zRm 6 140) s m args below meth c H' locs' 0 0 (zQv D cy a s args below M0) (F0 m 17 ls' [])) →
    W p l e (zRm 6 140) s m args below meth c H locs 0 0 (zQv D cy a s args below M0) (F0 m 2 ls []) := by
  obtain ⟨hx, hb, hr, hml, hown, hW, hlocks⟩ := id X
  have hcs : 0 ≤ ((zRm 6 140)).cells ∧ 0 ≤ ((zRm 6 140)).slots := ⟨Nat.zero_le _, Nat.zero_le _⟩
  intro n
  induction n with
  | zero =>
    intro v2 M H locs ls hw hl h hk
    cases h
  | succ n ih =>
    intro v2 M H locs ls hw hl h hk
    have hE := hw.2.2.2.2.1
    rw [fX8_go_2] at h
    refine lv_iload_n hx hb dX8_go_2 rfl (lv_at hl 2 rfl) ?_
    refine lv_iload_n hx hb dX8_go_3 rfl (lv_at hl 1 rfl) ?_
    refine lv_icmp_ge (tgt := 17) hx hb dX8_go_4 (by decide) (fun c1 => ?_) (fun c1 => ?_)
    · replace h := zif_t c1 h
      exact hk  M H locs _ hw (lv_sub hl [] rfl) h
    · replace h := zif_f c1 h
      refine lv_aload_n hx hb dX8_go_7 rfl (lv_at hl 0 rfl) ?_
      obtain ⟨M3, f4, h⟩ := zbv_e h
      refine z_qVv (As := []) (rest := []) X hw (kX8_hour l D cy a M M3 f4) (cwX8_209 X.2.2.2.2.2.1 rfl rfl (zroomO (Nat.le_of_ble_eq_true rfl) (Nat.le_of_ble_eq_true rfl))) (zX8_lt (rfl : zX8 87)) (zS8 (rfl : zX8 87) cy a (M 87)) rfl rfl rfl (Nat.le_of_ble_eq_true rfl) hl.1 hcs dX8_go_8 (fun H locs hw => ?_)
      obtain ⟨x5, ex5⟩ : ∃ y : Int32, y = v2 + (1 : Int32) := ⟨_, rfl⟩
      replace h := zlt_s ex5 h
      refine lv_iinc (v := x5) (lv' := [(2, .int x5), (0, .ref (a 87)), (1, .int y1)]) hx hb dX8_go_11 hl (k := 2) rfl (by rw [ex5]; rfl) (by decide) rfl (fun ls hl => ?_)
      refine lv_goto (tgt := 2) hx hb dX8_go_14 (by decide) ?_
      exact ih x5 M3 H locs _ hw (lv_sub hl [1, 2, 0] rfl) h hk
def fX8_go (p0 : Int32) (M : zM) : Option (zM) := fX8_go_2 p0 (fun  M6 => some M6) zF (0 : Int32) M
set_option maxRecDepth 100000 in
set_option maxHeartbeats 4000000 in
theorem kX8_go (l : Launch) (D : va_G) (cy : Nat → ClassId) (a : Nat → Nat) (p0 : Int32) (M : zM) (M0 : zM) (h : fX8_go p0 M = some M0) : zCv l D cy a yX8_go cX8_go 3 (zRm 6 140) [.ref (a 87), .int p0] M (fun u => u = M0) := by
  intro sz
  refine zent_v sz (by decide) (Nat.le_of_ble_eq_true rfl) rfl (fun p e s m args below meth c ls H locs X hw hl => ?_)
  obtain ⟨hx, hb, hr, hml, hown, hW, hlocks⟩ := id X
  have hE := hw.2.2.2.2.1
  have hcs : 0 ≤ ((zRm 6 140)).cells ∧ 0 ≤ ((zRm 6 140)).slots := ⟨Nat.zero_le _, Nat.zero_le _⟩
  rw [fX8_go] at h
  refine lv_iconst (v := 0) hx hb dX8_go_0 (by decide) ?_
  refine lv_istore_n (lv' := [(2, .int (0 : Int32)), (0, .ref (a 87)), (1, .int p0)]) hx hb dX8_go_1 rfl hl (by decide) rfl (fun ls hl => ?_)
  refine lX8_go_2 X p0 _ zF (0 : Int32) M H locs _ hw (lv_sub hl [1, 2, 0] rfl) h (fun  M6 H locs ls hw hl h => ?_)
  exact z_rv X hw (zretv h) dX8_go_17
def fX8_allPrayed_4 (k : Int32 → zM → Option (Int32 × zM)) : Nat → Int32 → Int32 → zM → Option (Int32 × zM)
  | 0, _, _, _ => none
  | n + 1, v1, v2, M => if (5 : Int32) ≤ v2 then (k v1 M) else (zbi (fX8_prayed v2 M) (fun r2 M3 => zlt (v1 + r2) (fun x5 => zlt (v2 + (1 : Int32)) (fun x6 => fX8_allPrayed_4 k n x5 x6 M3))))
set_option maxRecDepth 100000 in
set_option maxHeartbeats 4000000 in
theorem lX8_allPrayed_4 {p : Program} {l : Launch} {e : Env} {s : State} {m : MethodId} {args : Array Value} {below : List Frame} {meth : Method} {c : Code} {D : va_G} {cy : Nat → ClassId} {a : Nat → Nat} {r0 : Int32} {M0 : zM} (X : zCX p s m meth c args cX8_allPrayed 3 (some .int) RX8) (k : Int32 → zM → Option (Int32 × zM)) : ∀ (n : Nat) (v1 : Int32) (v2 : Int32) (M : zM) (H : Heap) (locs : List Loc) (ls : Array Slot), zWD D cy a (zfr a s.heap.size) M H locs s → lv_has ls 3 [(0, .ref (a 87)), (1, .int v1), (2, .int v2)] → fX8_allPrayed_4 k n v1 v2 M = some (r0, M0) →
    (∀ (u1 : Int32) (M' : zM) (H' : Heap) (locs' : List Loc) (ls' : Array Slot), zWD D cy a (zfr a s.heap.size) M' H' locs' s → lv_has ls' 3 [(1, .int u1)] → k u1 M' = some (r0, M0) → W p l e (zRm 1 21) s m args below meth c H' locs' 0 0 (zQi D cy a s args below r0 M0) (F0 m 23 ls' [])) →
    W p l e (zRm 1 21) s m args below meth c H locs 0 0 (zQi D cy a s args below r0 M0) (F0 m 4 ls []) := by
  obtain ⟨hx, hb, hr, hml, hown, hW, hlocks⟩ := id X
  have hcs : 0 ≤ ((zRm 1 21)).cells ∧ 0 ≤ ((zRm 1 21)).slots := ⟨Nat.zero_le _, Nat.zero_le _⟩
  intro n
  induction n with
  | zero =>
    intro v1 v2 M H locs ls hw hl h hk
    cases h
  | succ n ih =>
    intro v1 v2 M H locs ls hw hl h hk
    have hE := hw.2.2.2.2.1
    rw [fX8_allPrayed_4] at h
    refine lv_iload_n hx hb dX8_allPrayed_4 rfl (lv_at hl 2 rfl) ?_
    refine lv_iconst (v := 5) hx hb dX8_allPrayed_5 (by decide) ?_
    refine lv_icmp_ge (tgt := 23) hx hb dX8_allPrayed_6 (by decide) (fun c1 => ?_) (fun c1 => ?_)
    · replace h := zif_t c1 h
      exact hk v1 M H locs _ hw (lv_sub hl [1] rfl) h
    · replace h := zif_f c1 h
      refine lv_iload_n hx hb dX8_allPrayed_9 rfl (lv_at hl 1 rfl) ?_
      refine lv_aload_n hx hb dX8_allPrayed_10 rfl (lv_at hl 0 rfl) ?_
      refine lv_iload_n hx hb dX8_allPrayed_11 rfl (lv_at hl 2 rfl) ?_
      obtain ⟨r2, M3, f4, h⟩ := zbi_e h
      refine z_qVi (As := [.int v2]) (rest := [.int v1]) X hw (kX8_prayed l D cy a v2 M r2 M3 f4) (cwX8_65 X.2.2.2.2.2.1 rfl rfl (zroomO (Nat.le_of_ble_eq_true rfl) (Nat.le_of_ble_eq_true rfl))) (zX8_lt (rfl : zX8 87)) (zS8 (rfl : zX8 87) cy a (M 87)) rfl rfl rfl (Nat.le_of_ble_eq_true rfl) hl.1 hcs dX8_allPrayed_12 (fun H locs hw => ?_)
      refine lv_iadd hx hb dX8_allPrayed_15 ?_
      refine lv_topi (fun x5 ex5 => ?_)
      replace h := zlt_s ex5 h
      refine lv_istore_n (lv' := [(1, .int x5), (0, .ref (a 87)), (2, .int v2)]) hx hb dX8_allPrayed_16 rfl hl (by decide) rfl (fun ls hl => ?_)
      obtain ⟨x6, ex6⟩ : ∃ y : Int32, y = v2 + (1 : Int32) := ⟨_, rfl⟩
      replace h := zlt_s ex6 h
      refine lv_iinc (v := x6) (lv' := [(2, .int x6), (1, .int x5), (0, .ref (a 87))]) hx hb dX8_allPrayed_17 hl (k := 2) rfl (by rw [ex6]; rfl) (by decide) rfl (fun ls hl => ?_)
      refine lv_goto (tgt := 4) hx hb dX8_allPrayed_20 (by decide) ?_
      exact ih x5 x6 M3 H locs _ hw (lv_sub hl [2, 1, 0] rfl) h hk
def fX8_allPrayed (M : zM) : Option (Int32 × zM) := fX8_allPrayed_4  (fun x7 M8 => some (x7, M8)) zF (0 : Int32) (0 : Int32) M
set_option maxRecDepth 100000 in
set_option maxHeartbeats 4000000 in
theorem kX8_allPrayed (l : Launch) (D : va_G) (cy : Nat → ClassId) (a : Nat → Nat) (M : zM) (r0 : Int32) (M0 : zM) (h : fX8_allPrayed  M = some (r0, M0)) : zCi l D cy a yX8_allPrayed cX8_allPrayed 3 (some .int) (zRm 1 21) [.ref (a 87)] M (fun r u => r = r0 ∧ u = M0) := by
  intro sz
  refine zent_i sz (by decide) (Nat.le_of_ble_eq_true rfl) rfl (fun p e s m args below meth c ls H locs X hw hl => ?_)
  obtain ⟨hx, hb, hr, hml, hown, hW, hlocks⟩ := id X
  have hE := hw.2.2.2.2.1
  have hcs : 0 ≤ ((zRm 1 21)).cells ∧ 0 ≤ ((zRm 1 21)).slots := ⟨Nat.zero_le _, Nat.zero_le _⟩
  rw [fX8_allPrayed] at h
  refine lv_iconst (v := 0) hx hb dX8_allPrayed_0 (by decide) ?_
  refine lv_istore_n (lv' := [(1, .int (0 : Int32)), (0, .ref (a 87))]) hx hb dX8_allPrayed_1 rfl hl (by decide) rfl (fun ls hl => ?_)
  refine lv_iconst (v := 0) hx hb dX8_allPrayed_2 (by decide) ?_
  refine lv_istore_n (lv' := [(2, .int (0 : Int32)), (1, .int (0 : Int32)), (0, .ref (a 87))]) hx hb dX8_allPrayed_3 rfl hl (by decide) rfl (fun ls hl => ?_)
  refine lX8_allPrayed_4 X  _ zF (0 : Int32) (0 : Int32) M H locs _ hw (lv_sub hl [2, 1, 0] rfl) h (fun x7 M8 H locs ls hw hl h => ?_)
  refine lv_iload_n hx hb dX8_allPrayed_23 rfl (lv_at hl 0 rfl) ?_
  exact z_ri X hw (zret h) dX8_allPrayed_24
def fX8_hours (p0 : Int32) (M : zM) : Option (Int32 × zM) := zbi (fX8_in p0 (1 : Int32) (240 : Int32) M) (fun r1 M2 => if r1 = 0 then (zbi (fX8_error (1 : Int32) M2) (fun r15 M16 => some (r15, M16))) else (if (M2 88 (1)) + p0 ≤ (9999 : Int32) then (zbv (fX8_go p0 M2) (fun M7 => zbi (fX8_allPrayed M7) (fun r9 M10 => some (r9, M10)))) else (zbi (fX8_error (3 : Int32) M2) (fun r12 M13 => some (r12, M13)))))
set_option maxRecDepth 100000 in
set_option maxHeartbeats 4000000 in
theorem kX8_hours (l : Launch) (D : va_G) (cy : Nat → ClassId) (a : Nat → Nat) (p0 : Int32) (M : zM) (r0 : Int32) (M0 : zM) (h : fX8_hours p0 M = some (r0, M0)) : zCi l D cy a yX8_hours cX8_hours 2 (some .int) (zRm 7 162) [.ref (a 87), .int p0] M (fun r u => r = r0 ∧ u = M0) := by
  intro sz
  refine zent_i sz (by decide) (Nat.le_of_ble_eq_true rfl) rfl (fun p e s m args below meth c ls H locs X hw hl => ?_)
  obtain ⟨hx, hb, hr, hml, hown, hW, hlocks⟩ := id X
  have hE := hw.2.2.2.2.1
  have hcs : 0 ≤ ((zRm 7 162)).cells ∧ 0 ≤ ((zRm 7 162)).slots := ⟨Nat.zero_le _, Nat.zero_le _⟩
  rw [fX8_hours] at h
  refine lv_iload_n hx hb dX8_hours_0 rfl (lv_at hl 1 rfl) ?_
  refine lv_iconst (v := 1) hx hb dX8_hours_1 (by decide) ?_
  refine lv_sipush (v := 240) hx hb dX8_hours_2 (by decide) ?_
  obtain ⟨r1, M2, f3, h⟩ := zbi_e h
  refine z_qSi (As := [.int p0, .int (1 : Int32), .int (240 : Int32)]) (rest := []) X hw (kX8_in l D cy a p0 (1 : Int32) (240 : Int32) M r1 M2 f3) (cwX8_56 X.2.2.2.2.2.1 rfl rfl (zroomO (Nat.le_of_ble_eq_true rfl) (Nat.le_of_ble_eq_true rfl))) rfl rfl (Nat.le_of_ble_eq_true rfl) hl.1 hcs dX8_hours_5 (fun H locs hw => ?_)
  refine lv_if_ne (tgt := 17) hx hb dX8_hours_8 (by decide) (fun c4 => ?_) (fun c4 => ?_)
  · replace h := zif_f c4 h
    refine lv_aload_n hx hb dX8_hours_17 rfl (lv_at hl 0 rfl) ?_
    refine gtX8_7 X hw dX8_hours_18 ?_
    refine lv_iconst (v := 1) hx hb dX8_hours_21 (by decide) ?_
    refine z_aldK (k := 1) X hw zI_88 (by decide) (by decide) (by decide) dX8_hours_22 ?_
    refine lv_iload_n hx hb dX8_hours_23 rfl (lv_at hl 1 rfl) ?_
    refine lv_iadd hx hb dX8_hours_24 ?_
    refine lv_sipush (v := 9999) hx hb dX8_hours_25 (by decide) ?_
    refine lv_icmp_le (tgt := 37) hx hb dX8_hours_28 (by decide) (fun c5 => ?_) (fun c5 => ?_)
    · replace h := zif_t c5 h
      refine lv_aload_n hx hb dX8_hours_37 rfl (lv_at hl 0 rfl) ?_
      refine lv_iload_n hx hb dX8_hours_38 rfl (lv_at hl 1 rfl) ?_
      obtain ⟨M7, f8, h⟩ := zbv_e h
      refine z_qVv (As := [.int p0]) (rest := []) X hw (kX8_go l D cy a p0 M2 M7 f8) (cwX8_212 X.2.2.2.2.2.1 rfl rfl (zroomO (Nat.le_of_ble_eq_true rfl) (Nat.le_of_ble_eq_true rfl))) (zX8_lt (rfl : zX8 87)) (zS8 (rfl : zX8 87) cy a (M2 87)) rfl rfl rfl (Nat.le_of_ble_eq_true rfl) hl.1 hcs dX8_hours_39 (fun H locs hw => ?_)
      refine lv_aload_n hx hb dX8_hours_42 rfl (lv_at hl 0 rfl) ?_
      obtain ⟨r9, M10, f11, h⟩ := zbi_e h
      refine z_qVi (As := []) (rest := []) X hw (kX8_allPrayed l D cy a M7 r9 M10 f11) (cwX8_216 X.2.2.2.2.2.1 rfl rfl (zroomO (Nat.le_of_ble_eq_true rfl) (Nat.le_of_ble_eq_true rfl))) (zX8_lt (rfl : zX8 87)) (zS8 (rfl : zX8 87) cy a (M7 87)) rfl rfl rfl (Nat.le_of_ble_eq_true rfl) hl.1 hcs dX8_hours_43 (fun H locs hw => ?_)
      exact z_ri X hw (zret h) dX8_hours_46
    · replace h := zif_f c5 h
      refine lv_aload_n hx hb dX8_hours_31 rfl (lv_at hl 0 rfl) ?_
      refine lv_iconst (v := 3) hx hb dX8_hours_32 (by decide) ?_
      obtain ⟨r12, M13, f14, h⟩ := zbi_e h
      refine z_qVi (As := [.int (3 : Int32)]) (rest := []) X hw (kX8_error l D cy a (3 : Int32) M2 r12 M13 f14) (cwX8_76 X.2.2.2.2.2.1 rfl rfl (zroomO (Nat.le_of_ble_eq_true rfl) (Nat.le_of_ble_eq_true rfl))) (zX8_lt (rfl : zX8 87)) (zS8 (rfl : zX8 87) cy a (M2 87)) rfl rfl rfl (Nat.le_of_ble_eq_true rfl) hl.1 hcs dX8_hours_33 (fun H locs hw => ?_)
      exact z_ri X hw (zret h) dX8_hours_36
  · replace h := zif_t c4 h
    refine lv_aload_n hx hb dX8_hours_11 rfl (lv_at hl 0 rfl) ?_
    refine lv_iconst (v := 1) hx hb dX8_hours_12 (by decide) ?_
    obtain ⟨r15, M16, f17, h⟩ := zbi_e h
    refine z_qVi (As := [.int (1 : Int32)]) (rest := []) X hw (kX8_error l D cy a (1 : Int32) M2 r15 M16 f17) (cwX8_76 X.2.2.2.2.2.1 rfl rfl (zroomO (Nat.le_of_ble_eq_true rfl) (Nat.le_of_ble_eq_true rfl))) (zX8_lt (rfl : zX8 87)) (zS8 (rfl : zX8 87) cy a (M2 87)) rfl rfl rfl (Nat.le_of_ble_eq_true rfl) hl.1 hcs dX8_hours_13 (fun H locs hw => ?_)
    exact z_ri X hw (zret h) dX8_hours_16
def fX8_draw (M : zM) : Option (Int32 × zM) := zlt (zst M 88 (5) (((M 88 (5)) * (1103515245 : Int32)) + (12345 : Int32))) (fun M1 => zlt (zushr (M1 88 (5)) (8 : Int32)) (fun x2 => some (x2, M1)))
set_option maxRecDepth 100000 in
set_option maxHeartbeats 4000000 in
theorem kX8_draw (l : Launch) (D : va_G) (cy : Nat → ClassId) (a : Nat → Nat) (M : zM) (r0 : Int32) (M0 : zM) (h : fX8_draw  M = some (r0, M0)) : zCi l D cy a yX8_draw cX8_draw 1 (some .int) (zRm 0 0) [.ref (a 87)] M (fun r u => r = r0 ∧ u = M0) := by
  intro sz
  refine zent_i sz (by decide) (Nat.le_of_ble_eq_true rfl) rfl (fun p e s m args below meth c ls H locs X hw hl => ?_)
  obtain ⟨hx, hb, hr, hml, hown, hW, hlocks⟩ := id X
  have hE := hw.2.2.2.2.1
  have hcs : 0 ≤ ((zRm 0 0)).cells ∧ 0 ≤ ((zRm 0 0)).slots := ⟨Nat.zero_le _, Nat.zero_le _⟩
  rw [fX8_draw] at h
  refine lv_aload_n hx hb dX8_draw_0 rfl (lv_at hl 0 rfl) ?_
  refine gtX8_7 X hw dX8_draw_1 ?_
  refine lv_iconst (v := 5) hx hb dX8_draw_4 (by decide) ?_
  refine lv_aload_n hx hb dX8_draw_5 rfl (lv_at hl 0 rfl) ?_
  refine gtX8_7 X hw dX8_draw_6 ?_
  refine lv_iconst (v := 5) hx hb dX8_draw_9 (by decide) ?_
  refine z_aldK (k := 5) X hw zI_88 (by decide) (by decide) (by decide) dX8_draw_10 ?_
  refine z_ldc (v := 1103515245) X zm_30_17 dX8_draw_11 ?_
  refine lv_imul hx hb dX8_draw_13 ?_
  refine lv_sipush (v := 12345) hx hb dX8_draw_14 (by decide) ?_
  refine lv_iadd hx hb dX8_draw_17 ?_
  refine z_astK (k := 5) X hw zI_88 (by decide) (by decide) (by decide) dX8_draw_18 (fun M1 H locs eM1 hw => ?_)
  replace h := zlt_s eM1 h
  refine lv_aload_n hx hb dX8_draw_19 rfl (lv_at hl 0 rfl) ?_
  refine gtX8_7 X hw dX8_draw_20 ?_
  refine lv_iconst (v := 5) hx hb dX8_draw_23 (by decide) ?_
  refine z_aldK (k := 5) X hw zI_88 (by decide) (by decide) (by decide) dX8_draw_24 ?_
  refine lv_bipush (v := 8) hx hb dX8_draw_25 (by decide) ?_
  refine lv_iushr hx hb dX8_draw_27 rfl ?_
  refine lv_topi (fun x2 ex2 => ?_)
  replace h := zlt_s ex2 h
  exact z_ri X hw (zret h) dX8_draw_28
def fX8_draws_70 (y1 : Int32) (y2 : Int32) (y3 : Int32) (y4 : Int32) (k : zM → Option (Int32 × zM)) : Nat → Int32 → zM → Option (Int32 × zM)
  | 0, _, _ => none
  | n + 1, v5, M => if M 88 (0) ≤ v5 then (k  M) else (if y4 = 0 then (zbi (fX8_its v5 (4 : Int32) M) (fun r15 M16 => if r15 = (1 : Int32) then (zbi (fX8_its v5 (1 : Int32) M16) (fun r23 M24 => zbv (fX8_turn1 v5 r23 M24) (fun M27 => zlt (v5 + (1 : Int32)) (fun x29 => fX8_draws_70 y1 y2 y3 y4 k n x29 M27)))) else (zbv (fX8_turn1 v5 (0 : Int32) M16) (fun M20 => zlt (v5 + (1 : Int32)) (fun x22 => fX8_draws_70 y1 y2 y3 y4 k n x22 M20))))) else (k  M))
set_option maxRecDepth 100000 in
set_option maxHeartbeats 4000000 in
theorem lX8_draws_70 {p : Program} {l : Launch} {e : Env} {s : State} {m : MethodId} {args : Array Value} {below : List Frame} {meth : Method} {c : Code} {D : va_G} {cy : Nat → ClassId} {a : Nat → Nat} {r0 : Int32} {M0 : zM} (X : zCX p s m meth c args cX8_draws 6 (some .int) RX8) (y1 : Int32) (y2 : Int32) (y3 : Int32) (y4 : Int32) (k : zM → Option (Int32 × zM)) : ∀ (n : Nat) (v5 : Int32) (M : zM) (H : Heap) (locs : List Loc) (ls : Array Slot), zWD D cy a (zfr a s.heap.size) M H locs s → lv_has ls 6 [(0, .ref (a 87)), (1, .int y1), (2, .int y2), (3, .int y3), (4, .int y4), (5, .int v5)] → fX8_draws_70 y1 y2 y3 y4 k n v5 M = some (r0, M0) →
    (∀ (M' : zM) (H' : Heap) (locs' : List Loc) (ls' : Array Slot), zWD D cy a (zfr a s.heap.size) M' H' locs' s → lv_has ls' 6 [(0, .ref (a 87)), (1, .int y1), (2, .int y2), (3, .int y3), (4, .int y4)] → k M' = some (r0, M0) → W p l e (zRm 6 140) s m args below meth c H' locs' 0 0 (zQi D cy a s args below r0 M0) (F0 m 120 ls' [])) →
    W p l e (zRm 6 140) s m args below meth c H locs 0 0 (zQi D cy a s args below r0 M0) (F0 m 70 ls []) := by
  obtain ⟨hx, hb, hr, hml, hown, hW, hlocks⟩ := id X
  have hcs : 0 ≤ ((zRm 6 140)).cells ∧ 0 ≤ ((zRm 6 140)).slots := ⟨Nat.zero_le _, Nat.zero_le _⟩
  intro n
  induction n with
  | zero =>
    intro v5 M H locs ls hw hl h hk
    cases h
  | succ n ih =>
    intro v5 M H locs ls hw hl h hk
    have hE := hw.2.2.2.2.1
    rw [fX8_draws_70] at h
    refine lv_iload hx hb dX8_draws_70 (lv_at hl 5 rfl) ?_
    refine lv_aload_n hx hb dX8_draws_72 rfl (lv_at hl 0 rfl) ?_
    refine gtX8_7 X hw dX8_draws_73 ?_
    refine lv_iconst (v := 0) hx hb dX8_draws_76 (by decide) ?_
    refine z_aldK (k := 0) X hw zI_88 (by decide) (by decide) (by decide) dX8_draws_77 ?_
    refine lv_icmp_ge (tgt := 120) hx hb dX8_draws_78 (by decide) (fun c13 => ?_) (fun c13 => ?_)
    · replace h := zif_t c13 h
      exact hk  M H locs _ hw (lv_sub hl [0, 1, 2, 3, 4] rfl) h
    · replace h := zif_f c13 h
      refine lv_iload hx hb dX8_draws_81 (lv_at hl 4 rfl) ?_
      refine lv_if_ne (tgt := 120) hx hb dX8_draws_83 (by decide) (fun c14 => ?_) (fun c14 => ?_)
      · replace h := zif_f c14 h
        exact hk  M H locs _ hw (lv_sub hl [0, 1, 2, 3, 4] rfl) h
      · replace h := zif_t c14 h
        refine lv_aload_n hx hb dX8_draws_86 rfl (lv_at hl 0 rfl) ?_
        refine lv_iload hx hb dX8_draws_87 (lv_at hl 5 rfl) ?_
        refine lv_aload_n hx hb dX8_draws_89 rfl (lv_at hl 0 rfl) ?_
        refine lv_iload hx hb dX8_draws_90 (lv_at hl 5 rfl) ?_
        refine lv_iconst (v := 4) hx hb dX8_draws_92 (by decide) ?_
        obtain ⟨r15, M16, f17, h⟩ := zbi_e h
        refine z_qVi (As := [.int v5, .int (4 : Int32)]) (rest := [.int v5, .ref (a 87)]) X hw (kX8_its l D cy a v5 (4 : Int32) M r15 M16 f17) (cwX8_90 X.2.2.2.2.2.1 rfl rfl (zroomO (Nat.le_of_ble_eq_true rfl) (Nat.le_of_ble_eq_true rfl))) (zX8_lt (rfl : zX8 87)) (zS8 (rfl : zX8 87) cy a (M 87)) rfl rfl rfl (Nat.le_of_ble_eq_true rfl) hl.1 hcs dX8_draws_93 (fun H locs hw => ?_)
        refine lv_iconst (v := 1) hx hb dX8_draws_96 (by decide) ?_
        refine lv_icmp_ne (tgt := 110) hx hb dX8_draws_97 (by decide) (fun c18 => ?_) (fun c18 => ?_)
        · replace h := zif_f c18 h
          refine lv_iconst (v := 0) hx hb dX8_draws_110 (by decide) ?_
          obtain ⟨M20, f21, h⟩ := zbv_e h
          refine z_qVv (As := [.int v5, .int (0 : Int32)]) (rest := []) X hw (kX8_turn1 l D cy a v5 (0 : Int32) M16 M20 f21) (cwX8_206 X.2.2.2.2.2.1 rfl rfl (zroomO (Nat.le_of_ble_eq_true rfl) (Nat.le_of_ble_eq_true rfl))) (zX8_lt (rfl : zX8 87)) (zS8 (rfl : zX8 87) cy a (M16 87)) rfl rfl rfl (Nat.le_of_ble_eq_true rfl) hl.1 hcs dX8_draws_111 (fun H locs hw => ?_)
          obtain ⟨x22, ex22⟩ : ∃ y : Int32, y = v5 + (1 : Int32) := ⟨_, rfl⟩
          replace h := zlt_s ex22 h
          refine lv_iinc (v := x22) (lv' := [(5, .int x22), (0, .ref (a 87)), (1, .int y1), (2, .int y2), (3, .int y3), (4, .int y4)]) hx hb dX8_draws_114 hl (k := 5) rfl (by rw [ex22]; rfl) (by decide) rfl (fun ls hl => ?_)
          refine lv_goto (tgt := 70) hx hb dX8_draws_117 (by decide) ?_
          exact ih x22 M20 H locs _ hw (lv_sub hl [1, 2, 3, 4, 5, 0] rfl) h hk
        · replace h := zif_t c18 h
          refine lv_aload_n hx hb dX8_draws_100 rfl (lv_at hl 0 rfl) ?_
          refine lv_iload hx hb dX8_draws_101 (lv_at hl 5 rfl) ?_
          refine lv_iconst (v := 1) hx hb dX8_draws_103 (by decide) ?_
          obtain ⟨r23, M24, f25, h⟩ := zbi_e h
          refine z_qVi (As := [.int v5, .int (1 : Int32)]) (rest := [.int v5, .ref (a 87)]) X hw (kX8_its l D cy a v5 (1 : Int32) M16 r23 M24 f25) (cwX8_90 X.2.2.2.2.2.1 rfl rfl (zroomO (Nat.le_of_ble_eq_true rfl) (Nat.le_of_ble_eq_true rfl))) (zX8_lt (rfl : zX8 87)) (zS8 (rfl : zX8 87) cy a (M16 87)) rfl rfl rfl (Nat.le_of_ble_eq_true rfl) hl.1 hcs dX8_draws_104 (fun H locs hw => ?_)
          refine lv_goto (tgt := 111) hx hb dX8_draws_107 (by decide) ?_
          obtain ⟨M27, f28, h⟩ := zbv_e h
          refine z_qVv (As := [.int v5, .int r23]) (rest := []) X hw (kX8_turn1 l D cy a v5 r23 M24 M27 f28) (cwX8_206 X.2.2.2.2.2.1 rfl rfl (zroomO (Nat.le_of_ble_eq_true rfl) (Nat.le_of_ble_eq_true rfl))) (zX8_lt (rfl : zX8 87)) (zS8 (rfl : zX8 87) cy a (M24 87)) rfl rfl rfl (Nat.le_of_ble_eq_true rfl) hl.1 hcs dX8_draws_111 (fun H locs hw => ?_)
          obtain ⟨x29, ex29⟩ : ∃ y : Int32, y = v5 + (1 : Int32) := ⟨_, rfl⟩
          replace h := zlt_s ex29 h
          refine lv_iinc (v := x29) (lv' := [(5, .int x29), (0, .ref (a 87)), (1, .int y1), (2, .int y2), (3, .int y3), (4, .int y4)]) hx hb dX8_draws_114 hl (k := 5) rfl (by rw [ex29]; rfl) (by decide) rfl (fun ls hl => ?_)
          refine lv_goto (tgt := 70) hx hb dX8_draws_117 (by decide) ?_
          exact ih x29 M27 H locs _ hw (lv_sub hl [1, 2, 3, 4, 5, 0] rfl) h hk
def fX8_draws_40 (y1 : Int32) (k : Int32 → zM → Option (Int32 × zM)) : Nat → Int32 → Int32 → zM → Option (Int32 × zM)
  | 0, _, _, _ => none
  | n + 1, v2, v3, M => if y1 ≤ v3 then (k v2 M) else (zbi (fX8_draw M) (fun r7 M8 => zlt (zrem r7 (16 : Int32)) (fun x10 => if x10 = 0 then (zlt (v2 + (1 : Int32)) (fun x63 => fX8_draws_70 y1 x63 v3 x10 (fun  M64 => zbi (fX8_in x10 (1 : Int32) (3 : Int32) M64) (fun r65 M66 => if r65 = 0 then (zbi (fX8_in x10 (4 : Int32) (6 : Int32) M66) (fun r69 M70 => if r69 = 0 then (zbi (fX8_held ((M64 88 (2)) + (0 : Int32)) (0 : Int32) (9 : Int32) M70) (fun r73 M74 => zlt (zst M74 88 (2) r73) (fun M76 => zbv (fX8_hour M76) (fun M78 => zlt (v3 + (1 : Int32)) (fun x80 => fX8_draws_40 y1 k n x63 x80 M78))))) else (zbi (fX8_held ((M64 88 (2)) + (-1 : Int32)) (0 : Int32) (9 : Int32) M70) (fun r81 M82 => zlt (zst M82 88 (2) r81) (fun M84 => zbv (fX8_hour M84) (fun M86 => zlt (v3 + (1 : Int32)) (fun x88 => fX8_draws_40 y1 k n x63 x88 M86))))))) else (zbi (fX8_held ((M64 88 (2)) + (1 : Int32)) (0 : Int32) (9 : Int32) M66) (fun r89 M90 => zlt (zst M90 88 (2) r89) (fun M92 => zbv (fX8_hour M92) (fun M94 => zlt (v3 + (1 : Int32)) (fun x96 => fX8_draws_40 y1 k n x63 x96 M94))))))) zF (0 : Int32) M8)) else (zlt (v2 + (0 : Int32)) (fun x12 => fX8_draws_70 y1 x12 v3 x10 (fun  M30 => zbi (fX8_in x10 (1 : Int32) (3 : Int32) M30) (fun r31 M32 => if r31 = 0 then (zbi (fX8_in x10 (4 : Int32) (6 : Int32) M32) (fun r35 M36 => if r35 = 0 then (zbi (fX8_held ((M30 88 (2)) + (0 : Int32)) (0 : Int32) (9 : Int32) M36) (fun r39 M40 => zlt (zst M40 88 (2) r39) (fun M42 => zbv (fX8_hour M42) (fun M44 => zlt (v3 + (1 : Int32)) (fun x46 => fX8_draws_40 y1 k n x12 x46 M44))))) else (zbi (fX8_held ((M30 88 (2)) + (-1 : Int32)) (0 : Int32) (9 : Int32) M36) (fun r47 M48 => zlt (zst M48 88 (2) r47) (fun M50 => zbv (fX8_hour M50) (fun M52 => zlt (v3 + (1 : Int32)) (fun x54 => fX8_draws_40 y1 k n x12 x54 M52))))))) else (zbi (fX8_held ((M30 88 (2)) + (1 : Int32)) (0 : Int32) (9 : Int32) M32) (fun r55 M56 => zlt (zst M56 88 (2) r55) (fun M58 => zbv (fX8_hour M58) (fun M60 => zlt (v3 + (1 : Int32)) (fun x62 => fX8_draws_40 y1 k n x12 x62 M60))))))) zF (0 : Int32) M8)))))
set_option maxRecDepth 100000 in
set_option maxHeartbeats 4000000 in
theorem lX8_draws_40 {p : Program} {l : Launch} {e : Env} {s : State} {m : MethodId} {args : Array Value} {below : List Frame} {meth : Method} {c : Code} {D : va_G} {cy : Nat → ClassId} {a : Nat → Nat} {r0 : Int32} {M0 : zM} (X : zCX p s m meth c args cX8_draws 6 (some .int) RX8) (y1 : Int32) (k : Int32 → zM → Option (Int32 × zM)) : ∀ (n : Nat) (v2 : Int32) (v3 : Int32) (M : zM) (H : Heap) (locs : List Loc) (ls : Array Slot), zWD D cy a (zfr a s.heap.size) M H locs s → lv_has ls 6 [(0, .ref (a 87)), (1, .int y1), (2, .int v2), (3, .int v3)] → fX8_draws_40 y1 k n v2 v3 M = some (r0, M0) →
    (∀ (u2 : Int32) (M' : zM) (H' : Heap) (locs' : List Loc) (ls' : Array Slot), zWD D cy a (zfr a s.heap.size) M' H' locs' s → lv_has ls' 6 [(2, .int u2)] → k u2 M' = some (r0, M0) → W p l e (zRm 6 140) s m args below meth c H' locs' 0 0 (zQi D cy a s args below r0 M0) (F0 m 179 ls' [])) →
    W p l e (zRm 6 140) s m args below meth c H locs 0 0 (zQi D cy a s args below r0 M0) (F0 m 40 ls []) := by
  obtain ⟨hx, hb, hr, hml, hown, hW, hlocks⟩ := id X
  have hcs : 0 ≤ ((zRm 6 140)).cells ∧ 0 ≤ ((zRm 6 140)).slots := ⟨Nat.zero_le _, Nat.zero_le _⟩
  intro n
  induction n with
  | zero =>
    intro v2 v3 M H locs ls hw hl h hk
    cases h
  | succ n ih =>
    intro v2 v3 M H locs ls hw hl h hk
    have hE := hw.2.2.2.2.1
    rw [fX8_draws_40] at h
    refine lv_iload_n hx hb dX8_draws_40 rfl (lv_at hl 3 rfl) ?_
    refine lv_iload_n hx hb dX8_draws_41 rfl (lv_at hl 1 rfl) ?_
    refine lv_icmp_ge (tgt := 179) hx hb dX8_draws_42 (by decide) (fun c6 => ?_) (fun c6 => ?_)
    · replace h := zif_t c6 h
      exact hk v2 M H locs _ hw (lv_sub hl [2] rfl) h
    · replace h := zif_f c6 h
      refine lv_aload_n hx hb dX8_draws_45 rfl (lv_at hl 0 rfl) ?_
      obtain ⟨r7, M8, f9, h⟩ := zbi_e h
      refine z_qVi (As := []) (rest := []) X hw (kX8_draw l D cy a M r7 M8 f9) (cwX8_220 X.2.2.2.2.2.1 rfl rfl (zroomO (Nat.le_of_ble_eq_true rfl) (Nat.le_of_ble_eq_true rfl))) (zX8_lt (rfl : zX8 87)) (zS8 (rfl : zX8 87) cy a (M 87)) rfl rfl rfl (Nat.le_of_ble_eq_true rfl) hl.1 hcs dX8_draws_46 (fun H locs hw => ?_)
      refine lv_bipush (v := 16) hx hb dX8_draws_49 (by decide) ?_
      refine lv_irem hx hb dX8_draws_51 (by decide) ?_
      refine lv_topi (fun x10 ex10 => ?_)
      replace h := zlt_s ex10 h
      refine lv_istore (lv' := [(4, .int x10), (0, .ref (a 87)), (1, .int y1), (2, .int v2), (3, .int v3)]) hx hb dX8_draws_52 hl (by decide) rfl (fun ls hl => ?_)
      refine lv_iload_n hx hb dX8_draws_54 rfl (lv_at hl 3 rfl) ?_
      refine lv_iload hx hb dX8_draws_55 (lv_at hl 0 rfl) ?_
      refine lv_if_ne (tgt := 64) hx hb dX8_draws_57 (by decide) (fun c11 => ?_) (fun c11 => ?_)
      · replace h := zif_f c11 h
        refine lv_iconst (v := 0) hx hb dX8_draws_64 (by decide) ?_
        refine lv_iadd hx hb dX8_draws_65 ?_
        refine lv_topi (fun x12 ex12 => ?_)
        replace h := zlt_s ex12 h
        refine lv_istore_n (lv' := [(2, .int x12), (4, .int x10), (0, .ref (a 87)), (1, .int y1), (3, .int v3)]) hx hb dX8_draws_66 rfl hl (by decide) rfl (fun ls hl => ?_)
        refine lv_iconst (v := 0) hx hb dX8_draws_67 (by decide) ?_
        refine lv_istore (lv' := [(5, .int (0 : Int32)), (2, .int x12), (4, .int x10), (0, .ref (a 87)), (1, .int y1), (3, .int v3)]) hx hb dX8_draws_68 hl (by decide) rfl (fun ls hl => ?_)
        refine lX8_draws_70 X y1 x12 v3 x10 _ zF (0 : Int32) M8 H locs _ hw (lv_sub hl [3, 4, 1, 5, 2, 0] rfl) h (fun  M30 H locs ls hw hl h => ?_)
        refine lv_aload_n hx hb dX8_draws_120 rfl (lv_at hl 0 rfl) ?_
        refine gtX8_7 X hw dX8_draws_121 ?_
        refine lv_iconst (v := 2) hx hb dX8_draws_124 (by decide) ?_
        refine lv_aload_n hx hb dX8_draws_125 rfl (lv_at hl 0 rfl) ?_
        refine gtX8_7 X hw dX8_draws_126 ?_
        refine lv_iconst (v := 2) hx hb dX8_draws_129 (by decide) ?_
        refine z_aldK (k := 2) X hw zI_88 (by decide) (by decide) (by decide) dX8_draws_130 ?_
        refine lv_iload hx hb dX8_draws_131 (lv_at hl 4 rfl) ?_
        refine lv_iconst (v := 1) hx hb dX8_draws_133 (by decide) ?_
        refine lv_iconst (v := 3) hx hb dX8_draws_134 (by decide) ?_
        obtain ⟨r31, M32, f33, h⟩ := zbi_e h
        refine z_qSi (As := [.int x10, .int (1 : Int32), .int (3 : Int32)]) (rest := [.int (M30 88 (2)), .int (2 : Int32), .ref (a 88)]) X hw (kX8_in l D cy a x10 (1 : Int32) (3 : Int32) M30 r31 M32 f33) (cwX8_56 X.2.2.2.2.2.1 rfl rfl (zroomO (Nat.le_of_ble_eq_true rfl) (Nat.le_of_ble_eq_true rfl))) rfl rfl (Nat.le_of_ble_eq_true rfl) hl.1 hcs dX8_draws_135 (fun H locs hw => ?_)
        refine lv_if_eq (tgt := 145) hx hb dX8_draws_138 (by decide) (fun c34 => ?_) (fun c34 => ?_)
        · replace h := zif_t c34 h
          refine lv_iload hx hb dX8_draws_145 (lv_at hl 4 rfl) ?_
          refine lv_iconst (v := 4) hx hb dX8_draws_147 (by decide) ?_
          refine lv_bipush (v := 6) hx hb dX8_draws_148 (by decide) ?_
          obtain ⟨r35, M36, f37, h⟩ := zbi_e h
          refine z_qSi (As := [.int x10, .int (4 : Int32), .int (6 : Int32)]) (rest := [.int (M30 88 (2)), .int (2 : Int32), .ref (a 88)]) X hw (kX8_in l D cy a x10 (4 : Int32) (6 : Int32) M32 r35 M36 f37) (cwX8_56 X.2.2.2.2.2.1 rfl rfl (zroomO (Nat.le_of_ble_eq_true rfl) (Nat.le_of_ble_eq_true rfl))) rfl rfl (Nat.le_of_ble_eq_true rfl) hl.1 hcs dX8_draws_150 (fun H locs hw => ?_)
          refine lv_if_eq (tgt := 160) hx hb dX8_draws_153 (by decide) (fun c38 => ?_) (fun c38 => ?_)
          · replace h := zif_t c38 h
            refine lv_iconst (v := 0) hx hb dX8_draws_160 (by decide) ?_
            refine lv_iadd hx hb dX8_draws_161 ?_
            refine lv_iconst (v := 0) hx hb dX8_draws_162 (by decide) ?_
            refine lv_bipush (v := 9) hx hb dX8_draws_163 (by decide) ?_
            obtain ⟨r39, M40, f41, h⟩ := zbi_e h
            refine z_qSi (As := [.int ((M30 88 (2)) + (0 : Int32)), .int (0 : Int32), .int (9 : Int32)]) (rest := [.int (2 : Int32), .ref (a 88)]) X hw (kX8_held l D cy a ((M30 88 (2)) + (0 : Int32)) (0 : Int32) (9 : Int32) M36 r39 M40 f41) (cwX8_61 X.2.2.2.2.2.1 rfl rfl (zroomO (Nat.le_of_ble_eq_true rfl) (Nat.le_of_ble_eq_true rfl))) rfl rfl (Nat.le_of_ble_eq_true rfl) hl.1 hcs dX8_draws_165 (fun H locs hw => ?_)
            refine z_astK (k := 2) X hw zI_88 (by decide) (by decide) (by decide) dX8_draws_168 (fun M42 H locs eM42 hw => ?_)
            replace h := zlt_s eM42 h
            refine lv_aload_n hx hb dX8_draws_169 rfl (lv_at hl 0 rfl) ?_
            obtain ⟨M44, f45, h⟩ := zbv_e h
            refine z_qVv (As := []) (rest := []) X hw (kX8_hour l D cy a M42 M44 f45) (cwX8_209 X.2.2.2.2.2.1 rfl rfl (zroomO (Nat.le_of_ble_eq_true rfl) (Nat.le_of_ble_eq_true rfl))) (zX8_lt (rfl : zX8 87)) (zS8 (rfl : zX8 87) cy a (M42 87)) rfl rfl rfl (Nat.le_of_ble_eq_true rfl) hl.1 hcs dX8_draws_170 (fun H locs hw => ?_)
            obtain ⟨x46, ex46⟩ : ∃ y : Int32, y = v3 + (1 : Int32) := ⟨_, rfl⟩
            replace h := zlt_s ex46 h
            refine lv_iinc (v := x46) (lv' := [(3, .int x46), (0, .ref (a 87)), (1, .int y1), (2, .int x12), (4, .int x10)]) hx hb dX8_draws_173 hl (k := 3) rfl (by rw [ex46]; rfl) (by decide) rfl (fun ls hl => ?_)
            refine lv_goto (tgt := 40) hx hb dX8_draws_176 (by decide) ?_
            exact ih x12 x46 M44 H locs _ hw (lv_sub hl [1, 2, 3, 0] rfl) h hk
          · replace h := zif_f c38 h
            refine lv_iconst (v := (-1)) hx hb dX8_draws_156 (by decide) ?_
            refine lv_goto (tgt := 161) hx hb dX8_draws_157 (by decide) ?_
            refine lv_iadd hx hb dX8_draws_161 ?_
            refine lv_iconst (v := 0) hx hb dX8_draws_162 (by decide) ?_
            refine lv_bipush (v := 9) hx hb dX8_draws_163 (by decide) ?_
            obtain ⟨r47, M48, f49, h⟩ := zbi_e h
            refine z_qSi (As := [.int ((M30 88 (2)) + (-1 : Int32)), .int (0 : Int32), .int (9 : Int32)]) (rest := [.int (2 : Int32), .ref (a 88)]) X hw (kX8_held l D cy a ((M30 88 (2)) + (-1 : Int32)) (0 : Int32) (9 : Int32) M36 r47 M48 f49) (cwX8_61 X.2.2.2.2.2.1 rfl rfl (zroomO (Nat.le_of_ble_eq_true rfl) (Nat.le_of_ble_eq_true rfl))) rfl rfl (Nat.le_of_ble_eq_true rfl) hl.1 hcs dX8_draws_165 (fun H locs hw => ?_)
            refine z_astK (k := 2) X hw zI_88 (by decide) (by decide) (by decide) dX8_draws_168 (fun M50 H locs eM50 hw => ?_)
            replace h := zlt_s eM50 h
            refine lv_aload_n hx hb dX8_draws_169 rfl (lv_at hl 0 rfl) ?_
            obtain ⟨M52, f53, h⟩ := zbv_e h
            refine z_qVv (As := []) (rest := []) X hw (kX8_hour l D cy a M50 M52 f53) (cwX8_209 X.2.2.2.2.2.1 rfl rfl (zroomO (Nat.le_of_ble_eq_true rfl) (Nat.le_of_ble_eq_true rfl))) (zX8_lt (rfl : zX8 87)) (zS8 (rfl : zX8 87) cy a (M50 87)) rfl rfl rfl (Nat.le_of_ble_eq_true rfl) hl.1 hcs dX8_draws_170 (fun H locs hw => ?_)
            obtain ⟨x54, ex54⟩ : ∃ y : Int32, y = v3 + (1 : Int32) := ⟨_, rfl⟩
            replace h := zlt_s ex54 h
            refine lv_iinc (v := x54) (lv' := [(3, .int x54), (0, .ref (a 87)), (1, .int y1), (2, .int x12), (4, .int x10)]) hx hb dX8_draws_173 hl (k := 3) rfl (by rw [ex54]; rfl) (by decide) rfl (fun ls hl => ?_)
            refine lv_goto (tgt := 40) hx hb dX8_draws_176 (by decide) ?_
            exact ih x12 x54 M52 H locs _ hw (lv_sub hl [1, 2, 3, 0] rfl) h hk
        · replace h := zif_f c34 h
          refine lv_iconst (v := 1) hx hb dX8_draws_141 (by decide) ?_
          refine lv_goto (tgt := 161) hx hb dX8_draws_142 (by decide) ?_
          refine lv_iadd hx hb dX8_draws_161 ?_
          refine lv_iconst (v := 0) hx hb dX8_draws_162 (by decide) ?_
          refine lv_bipush (v := 9) hx hb dX8_draws_163 (by decide) ?_
          obtain ⟨r55, M56, f57, h⟩ := zbi_e h
          refine z_qSi (As := [.int ((M30 88 (2)) + (1 : Int32)), .int (0 : Int32), .int (9 : Int32)]) (rest := [.int (2 : Int32), .ref (a 88)]) X hw (kX8_held l D cy a ((M30 88 (2)) + (1 : Int32)) (0 : Int32) (9 : Int32) M32 r55 M56 f57) (cwX8_61 X.2.2.2.2.2.1 rfl rfl (zroomO (Nat.le_of_ble_eq_true rfl) (Nat.le_of_ble_eq_true rfl))) rfl rfl (Nat.le_of_ble_eq_true rfl) hl.1 hcs dX8_draws_165 (fun H locs hw => ?_)
          refine z_astK (k := 2) X hw zI_88 (by decide) (by decide) (by decide) dX8_draws_168 (fun M58 H locs eM58 hw => ?_)
          replace h := zlt_s eM58 h
          refine lv_aload_n hx hb dX8_draws_169 rfl (lv_at hl 0 rfl) ?_
          obtain ⟨M60, f61, h⟩ := zbv_e h
          refine z_qVv (As := []) (rest := []) X hw (kX8_hour l D cy a M58 M60 f61) (cwX8_209 X.2.2.2.2.2.1 rfl rfl (zroomO (Nat.le_of_ble_eq_true rfl) (Nat.le_of_ble_eq_true rfl))) (zX8_lt (rfl : zX8 87)) (zS8 (rfl : zX8 87) cy a (M58 87)) rfl rfl rfl (Nat.le_of_ble_eq_true rfl) hl.1 hcs dX8_draws_170 (fun H locs hw => ?_)
          obtain ⟨x62, ex62⟩ : ∃ y : Int32, y = v3 + (1 : Int32) := ⟨_, rfl⟩
          replace h := zlt_s ex62 h
          refine lv_iinc (v := x62) (lv' := [(3, .int x62), (0, .ref (a 87)), (1, .int y1), (2, .int x12), (4, .int x10)]) hx hb dX8_draws_173 hl (k := 3) rfl (by rw [ex62]; rfl) (by decide) rfl (fun ls hl => ?_)
          refine lv_goto (tgt := 40) hx hb dX8_draws_176 (by decide) ?_
          exact ih x12 x62 M60 H locs _ hw (lv_sub hl [1, 2, 3, 0] rfl) h hk
      · replace h := zif_t c11 h
        refine lv_iconst (v := 1) hx hb dX8_draws_60 (by decide) ?_
        refine lv_goto (tgt := 65) hx hb dX8_draws_61 (by decide) ?_
        refine lv_iadd hx hb dX8_draws_65 ?_
        refine lv_topi (fun x63 ex63 => ?_)
        replace h := zlt_s ex63 h
        refine lv_istore_n (lv' := [(2, .int x63), (4, .int x10), (0, .ref (a 87)), (1, .int y1), (3, .int v3)]) hx hb dX8_draws_66 rfl hl (by decide) rfl (fun ls hl => ?_)
        refine lv_iconst (v := 0) hx hb dX8_draws_67 (by decide) ?_
        refine lv_istore (lv' := [(5, .int (0 : Int32)), (2, .int x63), (4, .int x10), (0, .ref (a 87)), (1, .int y1), (3, .int v3)]) hx hb dX8_draws_68 hl (by decide) rfl (fun ls hl => ?_)
        refine lX8_draws_70 X y1 x63 v3 x10 _ zF (0 : Int32) M8 H locs _ hw (lv_sub hl [3, 4, 1, 5, 2, 0] rfl) h (fun  M64 H locs ls hw hl h => ?_)
        refine lv_aload_n hx hb dX8_draws_120 rfl (lv_at hl 0 rfl) ?_
        refine gtX8_7 X hw dX8_draws_121 ?_
        refine lv_iconst (v := 2) hx hb dX8_draws_124 (by decide) ?_
        refine lv_aload_n hx hb dX8_draws_125 rfl (lv_at hl 0 rfl) ?_
        refine gtX8_7 X hw dX8_draws_126 ?_
        refine lv_iconst (v := 2) hx hb dX8_draws_129 (by decide) ?_
        refine z_aldK (k := 2) X hw zI_88 (by decide) (by decide) (by decide) dX8_draws_130 ?_
        refine lv_iload hx hb dX8_draws_131 (lv_at hl 4 rfl) ?_
        refine lv_iconst (v := 1) hx hb dX8_draws_133 (by decide) ?_
        refine lv_iconst (v := 3) hx hb dX8_draws_134 (by decide) ?_
        obtain ⟨r65, M66, f67, h⟩ := zbi_e h
        refine z_qSi (As := [.int x10, .int (1 : Int32), .int (3 : Int32)]) (rest := [.int (M64 88 (2)), .int (2 : Int32), .ref (a 88)]) X hw (kX8_in l D cy a x10 (1 : Int32) (3 : Int32) M64 r65 M66 f67) (cwX8_56 X.2.2.2.2.2.1 rfl rfl (zroomO (Nat.le_of_ble_eq_true rfl) (Nat.le_of_ble_eq_true rfl))) rfl rfl (Nat.le_of_ble_eq_true rfl) hl.1 hcs dX8_draws_135 (fun H locs hw => ?_)
        refine lv_if_eq (tgt := 145) hx hb dX8_draws_138 (by decide) (fun c68 => ?_) (fun c68 => ?_)
        · replace h := zif_t c68 h
          refine lv_iload hx hb dX8_draws_145 (lv_at hl 4 rfl) ?_
          refine lv_iconst (v := 4) hx hb dX8_draws_147 (by decide) ?_
          refine lv_bipush (v := 6) hx hb dX8_draws_148 (by decide) ?_
          obtain ⟨r69, M70, f71, h⟩ := zbi_e h
          refine z_qSi (As := [.int x10, .int (4 : Int32), .int (6 : Int32)]) (rest := [.int (M64 88 (2)), .int (2 : Int32), .ref (a 88)]) X hw (kX8_in l D cy a x10 (4 : Int32) (6 : Int32) M66 r69 M70 f71) (cwX8_56 X.2.2.2.2.2.1 rfl rfl (zroomO (Nat.le_of_ble_eq_true rfl) (Nat.le_of_ble_eq_true rfl))) rfl rfl (Nat.le_of_ble_eq_true rfl) hl.1 hcs dX8_draws_150 (fun H locs hw => ?_)
          refine lv_if_eq (tgt := 160) hx hb dX8_draws_153 (by decide) (fun c72 => ?_) (fun c72 => ?_)
          · replace h := zif_t c72 h
            refine lv_iconst (v := 0) hx hb dX8_draws_160 (by decide) ?_
            refine lv_iadd hx hb dX8_draws_161 ?_
            refine lv_iconst (v := 0) hx hb dX8_draws_162 (by decide) ?_
            refine lv_bipush (v := 9) hx hb dX8_draws_163 (by decide) ?_
            obtain ⟨r73, M74, f75, h⟩ := zbi_e h
            refine z_qSi (As := [.int ((M64 88 (2)) + (0 : Int32)), .int (0 : Int32), .int (9 : Int32)]) (rest := [.int (2 : Int32), .ref (a 88)]) X hw (kX8_held l D cy a ((M64 88 (2)) + (0 : Int32)) (0 : Int32) (9 : Int32) M70 r73 M74 f75) (cwX8_61 X.2.2.2.2.2.1 rfl rfl (zroomO (Nat.le_of_ble_eq_true rfl) (Nat.le_of_ble_eq_true rfl))) rfl rfl (Nat.le_of_ble_eq_true rfl) hl.1 hcs dX8_draws_165 (fun H locs hw => ?_)
            refine z_astK (k := 2) X hw zI_88 (by decide) (by decide) (by decide) dX8_draws_168 (fun M76 H locs eM76 hw => ?_)
            replace h := zlt_s eM76 h
            refine lv_aload_n hx hb dX8_draws_169 rfl (lv_at hl 0 rfl) ?_
            obtain ⟨M78, f79, h⟩ := zbv_e h
            refine z_qVv (As := []) (rest := []) X hw (kX8_hour l D cy a M76 M78 f79) (cwX8_209 X.2.2.2.2.2.1 rfl rfl (zroomO (Nat.le_of_ble_eq_true rfl) (Nat.le_of_ble_eq_true rfl))) (zX8_lt (rfl : zX8 87)) (zS8 (rfl : zX8 87) cy a (M76 87)) rfl rfl rfl (Nat.le_of_ble_eq_true rfl) hl.1 hcs dX8_draws_170 (fun H locs hw => ?_)
            obtain ⟨x80, ex80⟩ : ∃ y : Int32, y = v3 + (1 : Int32) := ⟨_, rfl⟩
            replace h := zlt_s ex80 h
            refine lv_iinc (v := x80) (lv' := [(3, .int x80), (0, .ref (a 87)), (1, .int y1), (2, .int x63), (4, .int x10)]) hx hb dX8_draws_173 hl (k := 3) rfl (by rw [ex80]; rfl) (by decide) rfl (fun ls hl => ?_)
            refine lv_goto (tgt := 40) hx hb dX8_draws_176 (by decide) ?_
            exact ih x63 x80 M78 H locs _ hw (lv_sub hl [1, 2, 3, 0] rfl) h hk
          · replace h := zif_f c72 h
            refine lv_iconst (v := (-1)) hx hb dX8_draws_156 (by decide) ?_
            refine lv_goto (tgt := 161) hx hb dX8_draws_157 (by decide) ?_
            refine lv_iadd hx hb dX8_draws_161 ?_
            refine lv_iconst (v := 0) hx hb dX8_draws_162 (by decide) ?_
            refine lv_bipush (v := 9) hx hb dX8_draws_163 (by decide) ?_
            obtain ⟨r81, M82, f83, h⟩ := zbi_e h
            refine z_qSi (As := [.int ((M64 88 (2)) + (-1 : Int32)), .int (0 : Int32), .int (9 : Int32)]) (rest := [.int (2 : Int32), .ref (a 88)]) X hw (kX8_held l D cy a ((M64 88 (2)) + (-1 : Int32)) (0 : Int32) (9 : Int32) M70 r81 M82 f83) (cwX8_61 X.2.2.2.2.2.1 rfl rfl (zroomO (Nat.le_of_ble_eq_true rfl) (Nat.le_of_ble_eq_true rfl))) rfl rfl (Nat.le_of_ble_eq_true rfl) hl.1 hcs dX8_draws_165 (fun H locs hw => ?_)
            refine z_astK (k := 2) X hw zI_88 (by decide) (by decide) (by decide) dX8_draws_168 (fun M84 H locs eM84 hw => ?_)
            replace h := zlt_s eM84 h
            refine lv_aload_n hx hb dX8_draws_169 rfl (lv_at hl 0 rfl) ?_
            obtain ⟨M86, f87, h⟩ := zbv_e h
            refine z_qVv (As := []) (rest := []) X hw (kX8_hour l D cy a M84 M86 f87) (cwX8_209 X.2.2.2.2.2.1 rfl rfl (zroomO (Nat.le_of_ble_eq_true rfl) (Nat.le_of_ble_eq_true rfl))) (zX8_lt (rfl : zX8 87)) (zS8 (rfl : zX8 87) cy a (M84 87)) rfl rfl rfl (Nat.le_of_ble_eq_true rfl) hl.1 hcs dX8_draws_170 (fun H locs hw => ?_)
            obtain ⟨x88, ex88⟩ : ∃ y : Int32, y = v3 + (1 : Int32) := ⟨_, rfl⟩
            replace h := zlt_s ex88 h
            refine lv_iinc (v := x88) (lv' := [(3, .int x88), (0, .ref (a 87)), (1, .int y1), (2, .int x63), (4, .int x10)]) hx hb dX8_draws_173 hl (k := 3) rfl (by rw [ex88]; rfl) (by decide) rfl (fun ls hl => ?_)
            refine lv_goto (tgt := 40) hx hb dX8_draws_176 (by decide) ?_
            exact ih x63 x88 M86 H locs _ hw (lv_sub hl [1, 2, 3, 0] rfl) h hk
        · replace h := zif_f c68 h
          refine lv_iconst (v := 1) hx hb dX8_draws_141 (by decide) ?_
          refine lv_goto (tgt := 161) hx hb dX8_draws_142 (by decide) ?_
          refine lv_iadd hx hb dX8_draws_161 ?_
          refine lv_iconst (v := 0) hx hb dX8_draws_162 (by decide) ?_
          refine lv_bipush (v := 9) hx hb dX8_draws_163 (by decide) ?_
          obtain ⟨r89, M90, f91, h⟩ := zbi_e h
          refine z_qSi (As := [.int ((M64 88 (2)) + (1 : Int32)), .int (0 : Int32), .int (9 : Int32)]) (rest := [.int (2 : Int32), .ref (a 88)]) X hw (kX8_held l D cy a ((M64 88 (2)) + (1 : Int32)) (0 : Int32) (9 : Int32) M66 r89 M90 f91) (cwX8_61 X.2.2.2.2.2.1 rfl rfl (zroomO (Nat.le_of_ble_eq_true rfl) (Nat.le_of_ble_eq_true rfl))) rfl rfl (Nat.le_of_ble_eq_true rfl) hl.1 hcs dX8_draws_165 (fun H locs hw => ?_)
          refine z_astK (k := 2) X hw zI_88 (by decide) (by decide) (by decide) dX8_draws_168 (fun M92 H locs eM92 hw => ?_)
          replace h := zlt_s eM92 h
          refine lv_aload_n hx hb dX8_draws_169 rfl (lv_at hl 0 rfl) ?_
          obtain ⟨M94, f95, h⟩ := zbv_e h
          refine z_qVv (As := []) (rest := []) X hw (kX8_hour l D cy a M92 M94 f95) (cwX8_209 X.2.2.2.2.2.1 rfl rfl (zroomO (Nat.le_of_ble_eq_true rfl) (Nat.le_of_ble_eq_true rfl))) (zX8_lt (rfl : zX8 87)) (zS8 (rfl : zX8 87) cy a (M92 87)) rfl rfl rfl (Nat.le_of_ble_eq_true rfl) hl.1 hcs dX8_draws_170 (fun H locs hw => ?_)
          obtain ⟨x96, ex96⟩ : ∃ y : Int32, y = v3 + (1 : Int32) := ⟨_, rfl⟩
          replace h := zlt_s ex96 h
          refine lv_iinc (v := x96) (lv' := [(3, .int x96), (0, .ref (a 87)), (1, .int y1), (2, .int x63), (4, .int x10)]) hx hb dX8_draws_173 hl (k := 3) rfl (by rw [ex96]; rfl) (by decide) rfl (fun ls hl => ?_)
          refine lv_goto (tgt := 40) hx hb dX8_draws_176 (by decide) ?_
          exact ih x63 x96 M94 H locs _ hw (lv_sub hl [1, 2, 3, 0] rfl) h hk
def fX8_draws (p0 : Int32) (M : zM) : Option (Int32 × zM) := zbi (fX8_in p0 (1 : Int32) (60 : Int32) M) (fun r1 M2 => if r1 = 0 then (zbi (fX8_error (1 : Int32) M2) (fun r102 M103 => some (r102, M103))) else (if (M2 88 (1)) + p0 ≤ (9999 : Int32) then (fX8_draws_40 p0 (fun x97 M98 => some (x97, M98)) zF (0 : Int32) (0 : Int32) M2) else (zbi (fX8_error (3 : Int32) M2) (fun r99 M100 => some (r99, M100)))))
set_option maxRecDepth 100000 in
set_option maxHeartbeats 4000000 in
theorem kX8_draws (l : Launch) (D : va_G) (cy : Nat → ClassId) (a : Nat → Nat) (p0 : Int32) (M : zM) (r0 : Int32) (M0 : zM) (h : fX8_draws p0 M = some (r0, M0)) : zCi l D cy a yX8_draws cX8_draws 6 (some .int) (zRm 6 140) [.ref (a 87), .int p0] M (fun r u => r = r0 ∧ u = M0) := by
  intro sz
  refine zent_i sz (by decide) (Nat.le_of_ble_eq_true rfl) rfl (fun p e s m args below meth c ls H locs X hw hl => ?_)
  obtain ⟨hx, hb, hr, hml, hown, hW, hlocks⟩ := id X
  have hE := hw.2.2.2.2.1
  have hcs : 0 ≤ ((zRm 6 140)).cells ∧ 0 ≤ ((zRm 6 140)).slots := ⟨Nat.zero_le _, Nat.zero_le _⟩
  rw [fX8_draws] at h
  refine lv_iload_n hx hb dX8_draws_0 rfl (lv_at hl 1 rfl) ?_
  refine lv_iconst (v := 1) hx hb dX8_draws_1 (by decide) ?_
  refine lv_bipush (v := 60) hx hb dX8_draws_2 (by decide) ?_
  obtain ⟨r1, M2, f3, h⟩ := zbi_e h
  refine z_qSi (As := [.int p0, .int (1 : Int32), .int (60 : Int32)]) (rest := []) X hw (kX8_in l D cy a p0 (1 : Int32) (60 : Int32) M r1 M2 f3) (cwX8_56 X.2.2.2.2.2.1 rfl rfl (zroomO (Nat.le_of_ble_eq_true rfl) (Nat.le_of_ble_eq_true rfl))) rfl rfl (Nat.le_of_ble_eq_true rfl) hl.1 hcs dX8_draws_4 (fun H locs hw => ?_)
  refine lv_if_ne (tgt := 16) hx hb dX8_draws_7 (by decide) (fun c4 => ?_) (fun c4 => ?_)
  · replace h := zif_f c4 h
    refine lv_aload_n hx hb dX8_draws_16 rfl (lv_at hl 0 rfl) ?_
    refine gtX8_7 X hw dX8_draws_17 ?_
    refine lv_iconst (v := 1) hx hb dX8_draws_20 (by decide) ?_
    refine z_aldK (k := 1) X hw zI_88 (by decide) (by decide) (by decide) dX8_draws_21 ?_
    refine lv_iload_n hx hb dX8_draws_22 rfl (lv_at hl 1 rfl) ?_
    refine lv_iadd hx hb dX8_draws_23 ?_
    refine lv_sipush (v := 9999) hx hb dX8_draws_24 (by decide) ?_
    refine lv_icmp_le (tgt := 36) hx hb dX8_draws_27 (by decide) (fun c5 => ?_) (fun c5 => ?_)
    · replace h := zif_t c5 h
      refine lv_iconst (v := 0) hx hb dX8_draws_36 (by decide) ?_
      refine lv_istore_n (lv' := [(2, .int (0 : Int32)), (0, .ref (a 87)), (1, .int p0)]) hx hb dX8_draws_37 rfl hl (by decide) rfl (fun ls hl => ?_)
      refine lv_iconst (v := 0) hx hb dX8_draws_38 (by decide) ?_
      refine lv_istore_n (lv' := [(3, .int (0 : Int32)), (2, .int (0 : Int32)), (0, .ref (a 87)), (1, .int p0)]) hx hb dX8_draws_39 rfl hl (by decide) rfl (fun ls hl => ?_)
      refine lX8_draws_40 X p0 _ zF (0 : Int32) (0 : Int32) M2 H locs _ hw (lv_sub hl [2, 3, 1, 0] rfl) h (fun x97 M98 H locs ls hw hl h => ?_)
      refine lv_iload_n hx hb dX8_draws_179 rfl (lv_at hl 0 rfl) ?_
      exact z_ri X hw (zret h) dX8_draws_180
    · replace h := zif_f c5 h
      refine lv_aload_n hx hb dX8_draws_30 rfl (lv_at hl 0 rfl) ?_
      refine lv_iconst (v := 3) hx hb dX8_draws_31 (by decide) ?_
      obtain ⟨r99, M100, f101, h⟩ := zbi_e h
      refine z_qVi (As := [.int (3 : Int32)]) (rest := []) X hw (kX8_error l D cy a (3 : Int32) M2 r99 M100 f101) (cwX8_76 X.2.2.2.2.2.1 rfl rfl (zroomO (Nat.le_of_ble_eq_true rfl) (Nat.le_of_ble_eq_true rfl))) (zX8_lt (rfl : zX8 87)) (zS8 (rfl : zX8 87) cy a (M2 87)) rfl rfl rfl (Nat.le_of_ble_eq_true rfl) hl.1 hcs dX8_draws_32 (fun H locs hw => ?_)
      exact z_ri X hw (zret h) dX8_draws_35
  · replace h := zif_t c4 h
    refine lv_aload_n hx hb dX8_draws_10 rfl (lv_at hl 0 rfl) ?_
    refine lv_iconst (v := 1) hx hb dX8_draws_11 (by decide) ?_
    obtain ⟨r102, M103, f104, h⟩ := zbi_e h
    refine z_qVi (As := [.int (1 : Int32)]) (rest := []) X hw (kX8_error l D cy a (1 : Int32) M2 r102 M103 f104) (cwX8_76 X.2.2.2.2.2.1 rfl rfl (zroomO (Nat.le_of_ble_eq_true rfl) (Nat.le_of_ble_eq_true rfl))) (zX8_lt (rfl : zX8 87)) (zS8 (rfl : zX8 87) cy a (M2 87)) rfl rfl rfl (Nat.le_of_ble_eq_true rfl) hl.1 hcs dX8_draws_12 (fun H locs hw => ?_)
    exact z_ri X hw (zret h) dX8_draws_15
def fX8_seed (p0 : Int32) (M : zM) : Option (Int32 × zM) := zbi (fX8_change (5 : Int32) p0 M) (fun r1 M2 => some (r1, M2))
set_option maxRecDepth 100000 in
set_option maxHeartbeats 4000000 in
theorem kX8_seed (l : Launch) (D : va_G) (cy : Nat → ClassId) (a : Nat → Nat) (p0 : Int32) (M : zM) (r0 : Int32) (M0 : zM) (h : fX8_seed p0 M = some (r0, M0)) : zCi l D cy a yX8_seed cX8_seed 2 (some .int) (zRm 1 23) [.ref (a 87), .int p0] M (fun r u => r = r0 ∧ u = M0) := by
  intro sz
  refine zent_i sz (by decide) (Nat.le_of_ble_eq_true rfl) rfl (fun p e s m args below meth c ls H locs X hw hl => ?_)
  obtain ⟨hx, hb, hr, hml, hown, hW, hlocks⟩ := id X
  have hE := hw.2.2.2.2.1
  have hcs : 0 ≤ ((zRm 1 23)).cells ∧ 0 ≤ ((zRm 1 23)).slots := ⟨Nat.zero_le _, Nat.zero_le _⟩
  rw [fX8_seed] at h
  refine lv_aload_n hx hb dX8_seed_0 rfl (lv_at hl 0 rfl) ?_
  refine lv_iconst (v := 5) hx hb dX8_seed_1 (by decide) ?_
  refine lv_iload_n hx hb dX8_seed_2 rfl (lv_at hl 1 rfl) ?_
  obtain ⟨r1, M2, f3, h⟩ := zbi_e h
  refine z_qVi (As := [.int (5 : Int32), .int p0]) (rest := []) X hw (kX8_change l D cy a (5 : Int32) p0 M r1 M2 f3) (cwX8_72 X.2.2.2.2.2.1 rfl rfl (zroomO (Nat.le_of_ble_eq_true rfl) (Nat.le_of_ble_eq_true rfl))) (zX8_lt (rfl : zX8 87)) (zS8 (rfl : zX8 87) cy a (M 87)) rfl rfl rfl (Nat.le_of_ble_eq_true rfl) hl.1 hcs dX8_seed_3 (fun H locs hw => ?_)
  exact z_ri X hw (zret h) dX8_seed_6
def fX8_sell (p0 : Int32) (p1 : Int32) (p2 : Int32) (M : zM) : Option (Int32 × zM) := zbi (fX8_isFamily p0 M) (fun r1 M2 => if r1 = 0 then (zbi (fX8_error (1 : Int32) M2) (fun r5 M6 => some (r5, M6))) else (zbi (fX8_isFamily p1 M2) (fun r8 M9 => if r8 = 0 then (zbi (fX8_error (1 : Int32) M9) (fun r12 M13 => some (r12, M13))) else (if p0 = p1 then (zbi (fX8_error (1 : Int32) M9) (fun r16 M17 => some (r16, M17))) else (zbi (fX8_in p2 (1 : Int32) (9999 : Int32) M9) (fun r19 M20 => if r19 = 0 then (zbi (fX8_error (1 : Int32) M20) (fun r45 M46 => some (r45, M46))) else (zbi (fX8_prayed p0 M20) (fun r23 M24 => if p2 ≤ r23 then (zbi (fX8_prayed p0 M24) (fun r27 M28 => zbv (fX8_prays p0 (r27 - p2) M28) (fun M31 => zbi (fX8_prayed p1 M31) (fun r33 M34 => zbv (fX8_prays p1 (r33 + p2) M34) (fun M37 => zbi (fX8_prayed p1 M37) (fun r39 M40 => some (r39, M40))))))) else (zbi (fX8_error (3 : Int32) M24) (fun r42 M43 => some (r42, M43)))))))))))
set_option maxRecDepth 100000 in
set_option maxHeartbeats 4000000 in
theorem kX8_sell (l : Launch) (D : va_G) (cy : Nat → ClassId) (a : Nat → Nat) (p0 : Int32) (p1 : Int32) (p2 : Int32) (M : zM) (r0 : Int32) (M0 : zM) (h : fX8_sell p0 p1 p2 M = some (r0, M0)) : zCi l D cy a yX8_sell cX8_sell 4 (some .int) (zRm 2 44) [.ref (a 87), .int p0, .int p1, .int p2] M (fun r u => r = r0 ∧ u = M0) := by
  intro sz
  refine zent_i sz (by decide) (Nat.le_of_ble_eq_true rfl) rfl (fun p e s m args below meth c ls H locs X hw hl => ?_)
  obtain ⟨hx, hb, hr, hml, hown, hW, hlocks⟩ := id X
  have hE := hw.2.2.2.2.1
  have hcs : 0 ≤ ((zRm 2 44)).cells ∧ 0 ≤ ((zRm 2 44)).slots := ⟨Nat.zero_le _, Nat.zero_le _⟩
  rw [fX8_sell] at h
  refine lv_iload_n hx hb dX8_sell_0 rfl (lv_at hl 1 rfl) ?_
  obtain ⟨r1, M2, f3, h⟩ := zbi_e h
  refine z_qSi (As := [.int p0]) (rest := []) X hw (kX8_isFamily l D cy a p0 M r1 M2 f3) (cwX8_83 X.2.2.2.2.2.1 rfl rfl (zroomO (Nat.le_of_ble_eq_true rfl) (Nat.le_of_ble_eq_true rfl))) rfl rfl (Nat.le_of_ble_eq_true rfl) hl.1 hcs dX8_sell_1 (fun H locs hw => ?_)
  refine lv_if_eq (tgt := 30) hx hb dX8_sell_4 (by decide) (fun c4 => ?_) (fun c4 => ?_)
  · replace h := zif_t c4 h
    refine lv_aload_n hx hb dX8_sell_30 rfl (lv_at hl 0 rfl) ?_
    refine lv_iconst (v := 1) hx hb dX8_sell_31 (by decide) ?_
    obtain ⟨r5, M6, f7, h⟩ := zbi_e h
    refine z_qVi (As := [.int (1 : Int32)]) (rest := []) X hw (kX8_error l D cy a (1 : Int32) M2 r5 M6 f7) (cwX8_76 X.2.2.2.2.2.1 rfl rfl (zroomO (Nat.le_of_ble_eq_true rfl) (Nat.le_of_ble_eq_true rfl))) (zX8_lt (rfl : zX8 87)) (zS8 (rfl : zX8 87) cy a (M2 87)) rfl rfl rfl (Nat.le_of_ble_eq_true rfl) hl.1 hcs dX8_sell_32 (fun H locs hw => ?_)
    exact z_ri X hw (zret h) dX8_sell_35
  · replace h := zif_f c4 h
    refine lv_iload_n hx hb dX8_sell_7 rfl (lv_at hl 2 rfl) ?_
    obtain ⟨r8, M9, f10, h⟩ := zbi_e h
    refine z_qSi (As := [.int p1]) (rest := []) X hw (kX8_isFamily l D cy a p1 M2 r8 M9 f10) (cwX8_83 X.2.2.2.2.2.1 rfl rfl (zroomO (Nat.le_of_ble_eq_true rfl) (Nat.le_of_ble_eq_true rfl))) rfl rfl (Nat.le_of_ble_eq_true rfl) hl.1 hcs dX8_sell_8 (fun H locs hw => ?_)
    refine lv_if_eq (tgt := 30) hx hb dX8_sell_11 (by decide) (fun c11 => ?_) (fun c11 => ?_)
    · replace h := zif_t c11 h
      refine lv_aload_n hx hb dX8_sell_30 rfl (lv_at hl 0 rfl) ?_
      refine lv_iconst (v := 1) hx hb dX8_sell_31 (by decide) ?_
      obtain ⟨r12, M13, f14, h⟩ := zbi_e h
      refine z_qVi (As := [.int (1 : Int32)]) (rest := []) X hw (kX8_error l D cy a (1 : Int32) M9 r12 M13 f14) (cwX8_76 X.2.2.2.2.2.1 rfl rfl (zroomO (Nat.le_of_ble_eq_true rfl) (Nat.le_of_ble_eq_true rfl))) (zX8_lt (rfl : zX8 87)) (zS8 (rfl : zX8 87) cy a (M9 87)) rfl rfl rfl (Nat.le_of_ble_eq_true rfl) hl.1 hcs dX8_sell_32 (fun H locs hw => ?_)
      exact z_ri X hw (zret h) dX8_sell_35
    · replace h := zif_f c11 h
      refine lv_iload_n hx hb dX8_sell_14 rfl (lv_at hl 1 rfl) ?_
      refine lv_iload_n hx hb dX8_sell_15 rfl (lv_at hl 2 rfl) ?_
      refine lv_icmp_eq (tgt := 30) hx hb dX8_sell_16 (by decide) (fun c15 => ?_) (fun c15 => ?_)
      · replace h := zif_t c15 h
        refine lv_aload_n hx hb dX8_sell_30 rfl (lv_at hl 0 rfl) ?_
        refine lv_iconst (v := 1) hx hb dX8_sell_31 (by decide) ?_
        obtain ⟨r16, M17, f18, h⟩ := zbi_e h
        refine z_qVi (As := [.int (1 : Int32)]) (rest := []) X hw (kX8_error l D cy a (1 : Int32) M9 r16 M17 f18) (cwX8_76 X.2.2.2.2.2.1 rfl rfl (zroomO (Nat.le_of_ble_eq_true rfl) (Nat.le_of_ble_eq_true rfl))) (zX8_lt (rfl : zX8 87)) (zS8 (rfl : zX8 87) cy a (M9 87)) rfl rfl rfl (Nat.le_of_ble_eq_true rfl) hl.1 hcs dX8_sell_32 (fun H locs hw => ?_)
        exact z_ri X hw (zret h) dX8_sell_35
      · replace h := zif_f c15 h
        refine lv_iload_n hx hb dX8_sell_19 rfl (lv_at hl 3 rfl) ?_
        refine lv_iconst (v := 1) hx hb dX8_sell_20 (by decide) ?_
        refine lv_sipush (v := 9999) hx hb dX8_sell_21 (by decide) ?_
        obtain ⟨r19, M20, f21, h⟩ := zbi_e h
        refine z_qSi (As := [.int p2, .int (1 : Int32), .int (9999 : Int32)]) (rest := []) X hw (kX8_in l D cy a p2 (1 : Int32) (9999 : Int32) M9 r19 M20 f21) (cwX8_56 X.2.2.2.2.2.1 rfl rfl (zroomO (Nat.le_of_ble_eq_true rfl) (Nat.le_of_ble_eq_true rfl))) rfl rfl (Nat.le_of_ble_eq_true rfl) hl.1 hcs dX8_sell_24 (fun H locs hw => ?_)
        refine lv_if_ne (tgt := 36) hx hb dX8_sell_27 (by decide) (fun c22 => ?_) (fun c22 => ?_)
        · replace h := zif_f c22 h
          refine lv_aload_n hx hb dX8_sell_36 rfl (lv_at hl 0 rfl) ?_
          refine lv_iload_n hx hb dX8_sell_37 rfl (lv_at hl 1 rfl) ?_
          obtain ⟨r23, M24, f25, h⟩ := zbi_e h
          refine z_qVi (As := [.int p0]) (rest := []) X hw (kX8_prayed l D cy a p0 M20 r23 M24 f25) (cwX8_65 X.2.2.2.2.2.1 rfl rfl (zroomO (Nat.le_of_ble_eq_true rfl) (Nat.le_of_ble_eq_true rfl))) (zX8_lt (rfl : zX8 87)) (zS8 (rfl : zX8 87) cy a (M20 87)) rfl rfl rfl (Nat.le_of_ble_eq_true rfl) hl.1 hcs dX8_sell_38 (fun H locs hw => ?_)
          refine lv_iload_n hx hb dX8_sell_41 rfl (lv_at hl 3 rfl) ?_
          refine lv_icmp_ge (tgt := 51) hx hb dX8_sell_42 (by decide) (fun c26 => ?_) (fun c26 => ?_)
          · replace h := zif_t c26 h
            refine lv_aload_n hx hb dX8_sell_51 rfl (lv_at hl 0 rfl) ?_
            refine lv_iload_n hx hb dX8_sell_52 rfl (lv_at hl 1 rfl) ?_
            refine lv_aload_n hx hb dX8_sell_53 rfl (lv_at hl 0 rfl) ?_
            refine lv_iload_n hx hb dX8_sell_54 rfl (lv_at hl 1 rfl) ?_
            obtain ⟨r27, M28, f29, h⟩ := zbi_e h
            refine z_qVi (As := [.int p0]) (rest := [.int p0, .ref (a 87)]) X hw (kX8_prayed l D cy a p0 M24 r27 M28 f29) (cwX8_65 X.2.2.2.2.2.1 rfl rfl (zroomO (Nat.le_of_ble_eq_true rfl) (Nat.le_of_ble_eq_true rfl))) (zX8_lt (rfl : zX8 87)) (zS8 (rfl : zX8 87) cy a (M24 87)) rfl rfl rfl (Nat.le_of_ble_eq_true rfl) hl.1 hcs dX8_sell_55 (fun H locs hw => ?_)
            refine lv_iload_n hx hb dX8_sell_58 rfl (lv_at hl 3 rfl) ?_
            refine lv_isub hx hb dX8_sell_59 ?_
            obtain ⟨M31, f32, h⟩ := zbv_e h
            refine z_qVv (As := [.int p0, .int (r27 - p2)]) (rest := []) X hw (kX8_prays l D cy a p0 (r27 - p2) M28 M31 f32) (cwX8_203 X.2.2.2.2.2.1 rfl rfl (zroomO (Nat.le_of_ble_eq_true rfl) (Nat.le_of_ble_eq_true rfl))) (zX8_lt (rfl : zX8 87)) (zS8 (rfl : zX8 87) cy a (M28 87)) rfl rfl rfl (Nat.le_of_ble_eq_true rfl) hl.1 hcs dX8_sell_60 (fun H locs hw => ?_)
            refine lv_aload_n hx hb dX8_sell_63 rfl (lv_at hl 0 rfl) ?_
            refine lv_iload_n hx hb dX8_sell_64 rfl (lv_at hl 2 rfl) ?_
            refine lv_aload_n hx hb dX8_sell_65 rfl (lv_at hl 0 rfl) ?_
            refine lv_iload_n hx hb dX8_sell_66 rfl (lv_at hl 2 rfl) ?_
            obtain ⟨r33, M34, f35, h⟩ := zbi_e h
            refine z_qVi (As := [.int p1]) (rest := [.int p1, .ref (a 87)]) X hw (kX8_prayed l D cy a p1 M31 r33 M34 f35) (cwX8_65 X.2.2.2.2.2.1 rfl rfl (zroomO (Nat.le_of_ble_eq_true rfl) (Nat.le_of_ble_eq_true rfl))) (zX8_lt (rfl : zX8 87)) (zS8 (rfl : zX8 87) cy a (M31 87)) rfl rfl rfl (Nat.le_of_ble_eq_true rfl) hl.1 hcs dX8_sell_67 (fun H locs hw => ?_)
            refine lv_iload_n hx hb dX8_sell_70 rfl (lv_at hl 3 rfl) ?_
            refine lv_iadd hx hb dX8_sell_71 ?_
            obtain ⟨M37, f38, h⟩ := zbv_e h
            refine z_qVv (As := [.int p1, .int (r33 + p2)]) (rest := []) X hw (kX8_prays l D cy a p1 (r33 + p2) M34 M37 f38) (cwX8_203 X.2.2.2.2.2.1 rfl rfl (zroomO (Nat.le_of_ble_eq_true rfl) (Nat.le_of_ble_eq_true rfl))) (zX8_lt (rfl : zX8 87)) (zS8 (rfl : zX8 87) cy a (M34 87)) rfl rfl rfl (Nat.le_of_ble_eq_true rfl) hl.1 hcs dX8_sell_72 (fun H locs hw => ?_)
            refine lv_aload_n hx hb dX8_sell_75 rfl (lv_at hl 0 rfl) ?_
            refine lv_iload_n hx hb dX8_sell_76 rfl (lv_at hl 2 rfl) ?_
            obtain ⟨r39, M40, f41, h⟩ := zbi_e h
            refine z_qVi (As := [.int p1]) (rest := []) X hw (kX8_prayed l D cy a p1 M37 r39 M40 f41) (cwX8_65 X.2.2.2.2.2.1 rfl rfl (zroomO (Nat.le_of_ble_eq_true rfl) (Nat.le_of_ble_eq_true rfl))) (zX8_lt (rfl : zX8 87)) (zS8 (rfl : zX8 87) cy a (M37 87)) rfl rfl rfl (Nat.le_of_ble_eq_true rfl) hl.1 hcs dX8_sell_77 (fun H locs hw => ?_)
            exact z_ri X hw (zret h) dX8_sell_80
          · replace h := zif_f c26 h
            refine lv_aload_n hx hb dX8_sell_45 rfl (lv_at hl 0 rfl) ?_
            refine lv_iconst (v := 3) hx hb dX8_sell_46 (by decide) ?_
            obtain ⟨r42, M43, f44, h⟩ := zbi_e h
            refine z_qVi (As := [.int (3 : Int32)]) (rest := []) X hw (kX8_error l D cy a (3 : Int32) M24 r42 M43 f44) (cwX8_76 X.2.2.2.2.2.1 rfl rfl (zroomO (Nat.le_of_ble_eq_true rfl) (Nat.le_of_ble_eq_true rfl))) (zX8_lt (rfl : zX8 87)) (zS8 (rfl : zX8 87) cy a (M24 87)) rfl rfl rfl (Nat.le_of_ble_eq_true rfl) hl.1 hcs dX8_sell_47 (fun H locs hw => ?_)
            exact z_ri X hw (zret h) dX8_sell_50
        · replace h := zif_t c22 h
          refine lv_aload_n hx hb dX8_sell_30 rfl (lv_at hl 0 rfl) ?_
          refine lv_iconst (v := 1) hx hb dX8_sell_31 (by decide) ?_
          obtain ⟨r45, M46, f47, h⟩ := zbi_e h
          refine z_qVi (As := [.int (1 : Int32)]) (rest := []) X hw (kX8_error l D cy a (1 : Int32) M20 r45 M46 f47) (cwX8_76 X.2.2.2.2.2.1 rfl rfl (zroomO (Nat.le_of_ble_eq_true rfl) (Nat.le_of_ble_eq_true rfl))) (zX8_lt (rfl : zX8 87)) (zS8 (rfl : zX8 87) cy a (M20 87)) rfl rfl rfl (Nat.le_of_ble_eq_true rfl) hl.1 hcs dX8_sell_32 (fun H locs hw => ?_)
          exact z_ri X hw (zret h) dX8_sell_35
def fX8_fair (p0 : Int32) (p1 : Int32) (M : zM) : Option (Int32 × zM) := zbi (fX8_isFamily p0 M) (fun r1 M2 => if r1 = 0 then (zbi (fX8_error (1 : Int32) M2) (fun r5 M6 => some (r5, M6))) else (zbi (fX8_isFamily p1 M2) (fun r8 M9 => if r8 = 0 then (zbi (fX8_error (1 : Int32) M9) (fun r12 M13 => some (r12, M13))) else (if p0 = p1 then (zbi (fX8_error (1 : Int32) M9) (fun r28 M29 => some (r28, M29))) else (zbi (fX8_prayed p0 M9) (fun r16 M17 => zbi (fX8_owed p0 M17) (fun r19 M20 => zbi (fX8_prayed p1 M20) (fun r22 M23 => zbi (fX8_owed p1 M23) (fun r25 M26 => some ((((r16 - r19) - r22) + r25) / (2 : Int32), M26))))))))))
set_option maxRecDepth 100000 in
set_option maxHeartbeats 4000000 in
theorem kX8_fair (l : Launch) (D : va_G) (cy : Nat → ClassId) (a : Nat → Nat) (p0 : Int32) (p1 : Int32) (M : zM) (r0 : Int32) (M0 : zM) (h : fX8_fair p0 p1 M = some (r0, M0)) : zCi l D cy a yX8_fair cX8_fair 3 (some .int) (zRm 2 42) [.ref (a 87), .int p0, .int p1] M (fun r u => r = r0 ∧ u = M0) := by
  intro sz
  refine zent_i sz (by decide) (Nat.le_of_ble_eq_true rfl) rfl (fun p e s m args below meth c ls H locs X hw hl => ?_)
  obtain ⟨hx, hb, hr, hml, hown, hW, hlocks⟩ := id X
  have hE := hw.2.2.2.2.1
  have hcs : 0 ≤ ((zRm 2 42)).cells ∧ 0 ≤ ((zRm 2 42)).slots := ⟨Nat.zero_le _, Nat.zero_le _⟩
  rw [fX8_fair] at h
  refine lv_iload_n hx hb dX8_fair_0 rfl (lv_at hl 1 rfl) ?_
  obtain ⟨r1, M2, f3, h⟩ := zbi_e h
  refine z_qSi (As := [.int p0]) (rest := []) X hw (kX8_isFamily l D cy a p0 M r1 M2 f3) (cwX8_83 X.2.2.2.2.2.1 rfl rfl (zroomO (Nat.le_of_ble_eq_true rfl) (Nat.le_of_ble_eq_true rfl))) rfl rfl (Nat.le_of_ble_eq_true rfl) hl.1 hcs dX8_fair_1 (fun H locs hw => ?_)
  refine lv_if_eq (tgt := 19) hx hb dX8_fair_4 (by decide) (fun c4 => ?_) (fun c4 => ?_)
  · replace h := zif_t c4 h
    refine lv_aload_n hx hb dX8_fair_19 rfl (lv_at hl 0 rfl) ?_
    refine lv_iconst (v := 1) hx hb dX8_fair_20 (by decide) ?_
    obtain ⟨r5, M6, f7, h⟩ := zbi_e h
    refine z_qVi (As := [.int (1 : Int32)]) (rest := []) X hw (kX8_error l D cy a (1 : Int32) M2 r5 M6 f7) (cwX8_76 X.2.2.2.2.2.1 rfl rfl (zroomO (Nat.le_of_ble_eq_true rfl) (Nat.le_of_ble_eq_true rfl))) (zX8_lt (rfl : zX8 87)) (zS8 (rfl : zX8 87) cy a (M2 87)) rfl rfl rfl (Nat.le_of_ble_eq_true rfl) hl.1 hcs dX8_fair_21 (fun H locs hw => ?_)
    exact z_ri X hw (zret h) dX8_fair_24
  · replace h := zif_f c4 h
    refine lv_iload_n hx hb dX8_fair_7 rfl (lv_at hl 2 rfl) ?_
    obtain ⟨r8, M9, f10, h⟩ := zbi_e h
    refine z_qSi (As := [.int p1]) (rest := []) X hw (kX8_isFamily l D cy a p1 M2 r8 M9 f10) (cwX8_83 X.2.2.2.2.2.1 rfl rfl (zroomO (Nat.le_of_ble_eq_true rfl) (Nat.le_of_ble_eq_true rfl))) rfl rfl (Nat.le_of_ble_eq_true rfl) hl.1 hcs dX8_fair_8 (fun H locs hw => ?_)
    refine lv_if_eq (tgt := 19) hx hb dX8_fair_11 (by decide) (fun c11 => ?_) (fun c11 => ?_)
    · replace h := zif_t c11 h
      refine lv_aload_n hx hb dX8_fair_19 rfl (lv_at hl 0 rfl) ?_
      refine lv_iconst (v := 1) hx hb dX8_fair_20 (by decide) ?_
      obtain ⟨r12, M13, f14, h⟩ := zbi_e h
      refine z_qVi (As := [.int (1 : Int32)]) (rest := []) X hw (kX8_error l D cy a (1 : Int32) M9 r12 M13 f14) (cwX8_76 X.2.2.2.2.2.1 rfl rfl (zroomO (Nat.le_of_ble_eq_true rfl) (Nat.le_of_ble_eq_true rfl))) (zX8_lt (rfl : zX8 87)) (zS8 (rfl : zX8 87) cy a (M9 87)) rfl rfl rfl (Nat.le_of_ble_eq_true rfl) hl.1 hcs dX8_fair_21 (fun H locs hw => ?_)
      exact z_ri X hw (zret h) dX8_fair_24
    · replace h := zif_f c11 h
      refine lv_iload_n hx hb dX8_fair_14 rfl (lv_at hl 1 rfl) ?_
      refine lv_iload_n hx hb dX8_fair_15 rfl (lv_at hl 2 rfl) ?_
      refine lv_icmp_ne (tgt := 25) hx hb dX8_fair_16 (by decide) (fun c15 => ?_) (fun c15 => ?_)
      · replace h := zif_f c15 h
        refine lv_aload_n hx hb dX8_fair_25 rfl (lv_at hl 0 rfl) ?_
        refine lv_iload_n hx hb dX8_fair_26 rfl (lv_at hl 1 rfl) ?_
        obtain ⟨r16, M17, f18, h⟩ := zbi_e h
        refine z_qVi (As := [.int p0]) (rest := []) X hw (kX8_prayed l D cy a p0 M9 r16 M17 f18) (cwX8_65 X.2.2.2.2.2.1 rfl rfl (zroomO (Nat.le_of_ble_eq_true rfl) (Nat.le_of_ble_eq_true rfl))) (zX8_lt (rfl : zX8 87)) (zS8 (rfl : zX8 87) cy a (M9 87)) rfl rfl rfl (Nat.le_of_ble_eq_true rfl) hl.1 hcs dX8_fair_27 (fun H locs hw => ?_)
        refine lv_aload_n hx hb dX8_fair_30 rfl (lv_at hl 0 rfl) ?_
        refine lv_iload_n hx hb dX8_fair_31 rfl (lv_at hl 1 rfl) ?_
        obtain ⟨r19, M20, f21, h⟩ := zbi_e h
        refine z_qVi (As := [.int p0]) (rest := [.int r16]) X hw (kX8_owed l D cy a p0 M17 r19 M20 f21) (cwX8_69 X.2.2.2.2.2.1 rfl rfl (zroomO (Nat.le_of_ble_eq_true rfl) (Nat.le_of_ble_eq_true rfl))) (zX8_lt (rfl : zX8 87)) (zS8 (rfl : zX8 87) cy a (M17 87)) rfl rfl rfl (Nat.le_of_ble_eq_true rfl) hl.1 hcs dX8_fair_32 (fun H locs hw => ?_)
        refine lv_isub hx hb dX8_fair_35 ?_
        refine lv_aload_n hx hb dX8_fair_36 rfl (lv_at hl 0 rfl) ?_
        refine lv_iload_n hx hb dX8_fair_37 rfl (lv_at hl 2 rfl) ?_
        obtain ⟨r22, M23, f24, h⟩ := zbi_e h
        refine z_qVi (As := [.int p1]) (rest := [.int (r16 - r19)]) X hw (kX8_prayed l D cy a p1 M20 r22 M23 f24) (cwX8_65 X.2.2.2.2.2.1 rfl rfl (zroomO (Nat.le_of_ble_eq_true rfl) (Nat.le_of_ble_eq_true rfl))) (zX8_lt (rfl : zX8 87)) (zS8 (rfl : zX8 87) cy a (M20 87)) rfl rfl rfl (Nat.le_of_ble_eq_true rfl) hl.1 hcs dX8_fair_38 (fun H locs hw => ?_)
        refine lv_isub hx hb dX8_fair_41 ?_
        refine lv_aload_n hx hb dX8_fair_42 rfl (lv_at hl 0 rfl) ?_
        refine lv_iload_n hx hb dX8_fair_43 rfl (lv_at hl 2 rfl) ?_
        obtain ⟨r25, M26, f27, h⟩ := zbi_e h
        refine z_qVi (As := [.int p1]) (rest := [.int ((r16 - r19) - r22)]) X hw (kX8_owed l D cy a p1 M23 r25 M26 f27) (cwX8_69 X.2.2.2.2.2.1 rfl rfl (zroomO (Nat.le_of_ble_eq_true rfl) (Nat.le_of_ble_eq_true rfl))) (zX8_lt (rfl : zX8 87)) (zS8 (rfl : zX8 87) cy a (M23 87)) rfl rfl rfl (Nat.le_of_ble_eq_true rfl) hl.1 hcs dX8_fair_44 (fun H locs hw => ?_)
        refine lv_iadd hx hb dX8_fair_47 ?_
        refine lv_iconst (v := 2) hx hb dX8_fair_48 (by decide) ?_
        refine lv_idiv hx hb dX8_fair_49 (by decide) ?_
        exact z_ri X hw (zret h) dX8_fair_50
      · replace h := zif_t c15 h
        refine lv_aload_n hx hb dX8_fair_19 rfl (lv_at hl 0 rfl) ?_
        refine lv_iconst (v := 1) hx hb dX8_fair_20 (by decide) ?_
        obtain ⟨r28, M29, f30, h⟩ := zbi_e h
        refine z_qVi (As := [.int (1 : Int32)]) (rest := []) X hw (kX8_error l D cy a (1 : Int32) M9 r28 M29 f30) (cwX8_76 X.2.2.2.2.2.1 rfl rfl (zroomO (Nat.le_of_ble_eq_true rfl) (Nat.le_of_ble_eq_true rfl))) (zX8_lt (rfl : zX8 87)) (zS8 (rfl : zX8 87) cy a (M9 87)) rfl rfl rfl (Nat.le_of_ble_eq_true rfl) hl.1 hcs dX8_fair_21 (fun H locs hw => ?_)
        exact z_ri X hw (zret h) dX8_fair_24
def fX8_isAhead (p0 : Int32) (M : zM) : Option (Int32 × zM) := zbi (fX8_in p0 (0 : Int32) (240 : Int32) M) (fun r1 M2 => zgd (¬ (r1 = 0 ∨ r1 = 1)) (some (r1, M2)))
set_option maxRecDepth 100000 in
set_option maxHeartbeats 4000000 in
theorem kX8_isAhead (l : Launch) (D : va_G) (cy : Nat → ClassId) (a : Nat → Nat) (p0 : Int32) (M : zM) (r0 : Int32) (M0 : zM) (h : fX8_isAhead p0 M = some (r0, M0)) : zCi l D cy a yX8_isAhead cX8_isAhead 1 (some .boolean) (zRm 1 22) [.int p0] M (fun r u => r = r0 ∧ u = M0) := by
  intro sz
  refine zent_i sz (by decide) (Nat.le_of_ble_eq_true rfl) rfl (fun p e s m args below meth c ls H locs X hw hl => ?_)
  obtain ⟨hx, hb, hr, hml, hown, hW, hlocks⟩ := id X
  have hE := hw.2.2.2.2.1
  have hcs : 0 ≤ ((zRm 1 22)).cells ∧ 0 ≤ ((zRm 1 22)).slots := ⟨Nat.zero_le _, Nat.zero_le _⟩
  rw [fX8_isAhead] at h
  refine lv_iload_n hx hb dX8_isAhead_0 rfl (lv_at hl 0 rfl) ?_
  refine lv_iconst (v := 0) hx hb dX8_isAhead_1 (by decide) ?_
  refine lv_sipush (v := 240) hx hb dX8_isAhead_2 (by decide) ?_
  obtain ⟨r1, M2, f3, h⟩ := zbi_e h
  refine z_qSi (As := [.int p0, .int (0 : Int32), .int (240 : Int32)]) (rest := []) X hw (kX8_in l D cy a p0 (0 : Int32) (240 : Int32) M r1 M2 f3) (cwX8_56 X.2.2.2.2.2.1 rfl rfl (zroomO (Nat.le_of_ble_eq_true rfl) (Nat.le_of_ble_eq_true rfl))) rfl rfl (Nat.le_of_ble_eq_true rfl) hl.1 hcs dX8_isAhead_5 (fun H locs hw => ?_)
  obtain ⟨g4, h⟩ := zgd_e h
  exact z_rz X hw (Decidable.not_not.mp g4) (zret h) dX8_isAhead_8
def fX8_then (p0 : Int32) (p1 : Int32) (p2 : Int32) (M : zM) : Option (Int32 × zM) := zbi (fX8_isAhead p0 M) (fun r1 M2 => if r1 = 0 then (zbi (fX8_error (1 : Int32) M2) (fun r5 M6 => some (r5, M6))) else (zbi (fX8_isWheel p1 M2) (fun r8 M9 => if r8 = 0 then (zbi (fX8_error (1 : Int32) M9) (fun r12 M13 => some (r12, M13))) else (zbi (fX8_in p2 (0 : Int32) (9 : Int32) M9) (fun r15 M16 => if r15 = 0 then (zbi (fX8_error (1 : Int32) M16) (fun r31 M32 => some (r31, M32))) else (zbv (fX8_carry 88 90 M16) (fun M20 => zbv (fX8_go p0 M20) (fun M23 => zbi (fX8_toldWheel p1 p2 M23) (fun r25 M26 => zbv (fX8_carry 90 88 M26) (fun M29 => some (r25, M29)))))))))))
set_option maxRecDepth 100000 in
set_option maxHeartbeats 4000000 in
theorem kX8_then (l : Launch) (D : va_G) (cy : Nat → ClassId) (a : Nat → Nat) (p0 : Int32) (p1 : Int32) (p2 : Int32) (M : zM) (r0 : Int32) (M0 : zM) (h : fX8_then p0 p1 p2 M = some (r0, M0)) : zCi l D cy a yX8_then cX8_then 5 (some .int) (zRm 7 162) [.ref (a 87), .int p0, .int p1, .int p2] M (fun r u => r = r0 ∧ u = M0) := by
  intro sz
  refine zent_i sz (by decide) (Nat.le_of_ble_eq_true rfl) rfl (fun p e s m args below meth c ls H locs X hw hl => ?_)
  obtain ⟨hx, hb, hr, hml, hown, hW, hlocks⟩ := id X
  have hE := hw.2.2.2.2.1
  have hcs : 0 ≤ ((zRm 7 162)).cells ∧ 0 ≤ ((zRm 7 162)).slots := ⟨Nat.zero_le _, Nat.zero_le _⟩
  rw [fX8_then] at h
  refine lv_iload_n hx hb dX8_then_0 rfl (lv_at hl 1 rfl) ?_
  obtain ⟨r1, M2, f3, h⟩ := zbi_e h
  refine z_qSi (As := [.int p0]) (rest := []) X hw (kX8_isAhead l D cy a p0 M r1 M2 f3) (cwX8_223 X.2.2.2.2.2.1 rfl rfl (zroomO (Nat.le_of_ble_eq_true rfl) (Nat.le_of_ble_eq_true rfl))) rfl rfl (Nat.le_of_ble_eq_true rfl) hl.1 hcs dX8_then_1 (fun H locs hw => ?_)
  refine lv_if_eq (tgt := 25) hx hb dX8_then_4 (by decide) (fun c4 => ?_) (fun c4 => ?_)
  · replace h := zif_t c4 h
    refine lv_aload_n hx hb dX8_then_25 rfl (lv_at hl 0 rfl) ?_
    refine lv_iconst (v := 1) hx hb dX8_then_26 (by decide) ?_
    obtain ⟨r5, M6, f7, h⟩ := zbi_e h
    refine z_qVi (As := [.int (1 : Int32)]) (rest := []) X hw (kX8_error l D cy a (1 : Int32) M2 r5 M6 f7) (cwX8_76 X.2.2.2.2.2.1 rfl rfl (zroomO (Nat.le_of_ble_eq_true rfl) (Nat.le_of_ble_eq_true rfl))) (zX8_lt (rfl : zX8 87)) (zS8 (rfl : zX8 87) cy a (M2 87)) rfl rfl rfl (Nat.le_of_ble_eq_true rfl) hl.1 hcs dX8_then_27 (fun H locs hw => ?_)
    exact z_ri X hw (zret h) dX8_then_30
  · replace h := zif_f c4 h
    refine lv_aload_n hx hb dX8_then_7 rfl (lv_at hl 0 rfl) ?_
    refine lv_iload_n hx hb dX8_then_8 rfl (lv_at hl 2 rfl) ?_
    obtain ⟨r8, M9, f10, h⟩ := zbi_e h
    refine z_qVi (As := [.int p1]) (rest := []) X hw (kX8_isWheel l D cy a p1 M2 r8 M9 f10) (cwX8_112 X.2.2.2.2.2.1 rfl rfl (zroomO (Nat.le_of_ble_eq_true rfl) (Nat.le_of_ble_eq_true rfl))) (zX8_lt (rfl : zX8 87)) (zS8 (rfl : zX8 87) cy a (M2 87)) rfl rfl rfl (Nat.le_of_ble_eq_true rfl) hl.1 hcs dX8_then_9 (fun H locs hw => ?_)
    refine lv_if_eq (tgt := 25) hx hb dX8_then_12 (by decide) (fun c11 => ?_) (fun c11 => ?_)
    · replace h := zif_t c11 h
      refine lv_aload_n hx hb dX8_then_25 rfl (lv_at hl 0 rfl) ?_
      refine lv_iconst (v := 1) hx hb dX8_then_26 (by decide) ?_
      obtain ⟨r12, M13, f14, h⟩ := zbi_e h
      refine z_qVi (As := [.int (1 : Int32)]) (rest := []) X hw (kX8_error l D cy a (1 : Int32) M9 r12 M13 f14) (cwX8_76 X.2.2.2.2.2.1 rfl rfl (zroomO (Nat.le_of_ble_eq_true rfl) (Nat.le_of_ble_eq_true rfl))) (zX8_lt (rfl : zX8 87)) (zS8 (rfl : zX8 87) cy a (M9 87)) rfl rfl rfl (Nat.le_of_ble_eq_true rfl) hl.1 hcs dX8_then_27 (fun H locs hw => ?_)
      exact z_ri X hw (zret h) dX8_then_30
    · replace h := zif_f c11 h
      refine lv_iload_n hx hb dX8_then_15 rfl (lv_at hl 3 rfl) ?_
      refine lv_iconst (v := 0) hx hb dX8_then_16 (by decide) ?_
      refine lv_bipush (v := 9) hx hb dX8_then_17 (by decide) ?_
      obtain ⟨r15, M16, f17, h⟩ := zbi_e h
      refine z_qSi (As := [.int p2, .int (0 : Int32), .int (9 : Int32)]) (rest := []) X hw (kX8_in l D cy a p2 (0 : Int32) (9 : Int32) M9 r15 M16 f17) (cwX8_56 X.2.2.2.2.2.1 rfl rfl (zroomO (Nat.le_of_ble_eq_true rfl) (Nat.le_of_ble_eq_true rfl))) rfl rfl (Nat.le_of_ble_eq_true rfl) hl.1 hcs dX8_then_19 (fun H locs hw => ?_)
      refine lv_if_ne (tgt := 31) hx hb dX8_then_22 (by decide) (fun c18 => ?_) (fun c18 => ?_)
      · replace h := zif_f c18 h
        refine lv_aload_n hx hb dX8_then_31 rfl (lv_at hl 0 rfl) ?_
        refine gtX8_7 X hw dX8_then_32 ?_
        refine lv_aload_n hx hb dX8_then_35 rfl (lv_at hl 0 rfl) ?_
        refine gtX8_16 X hw dX8_then_36 ?_
        obtain ⟨M20, f21, h⟩ := zbv_e h
        refine z_qSv (As := [.ref (a 88), .ref (a 90)]) (rest := []) X hw (kX8_carry l D cy a 88 zI_88 90 zI_90 M16 M20 f21) (cwX8_226 X.2.2.2.2.2.1 rfl rfl (zroomO (Nat.le_of_ble_eq_true rfl) (Nat.le_of_ble_eq_true rfl))) rfl rfl (Nat.le_of_ble_eq_true rfl) hl.1 hcs dX8_then_39 (fun H locs hw => ?_)
        refine lv_aload_n hx hb dX8_then_42 rfl (lv_at hl 0 rfl) ?_
        refine lv_iload_n hx hb dX8_then_43 rfl (lv_at hl 1 rfl) ?_
        obtain ⟨M23, f24, h⟩ := zbv_e h
        refine z_qVv (As := [.int p0]) (rest := []) X hw (kX8_go l D cy a p0 M20 M23 f24) (cwX8_212 X.2.2.2.2.2.1 rfl rfl (zroomO (Nat.le_of_ble_eq_true rfl) (Nat.le_of_ble_eq_true rfl))) (zX8_lt (rfl : zX8 87)) (zS8 (rfl : zX8 87) cy a (M20 87)) rfl rfl rfl (Nat.le_of_ble_eq_true rfl) hl.1 hcs dX8_then_44 (fun H locs hw => ?_)
        refine lv_aload_n hx hb dX8_then_47 rfl (lv_at hl 0 rfl) ?_
        refine lv_iload_n hx hb dX8_then_48 rfl (lv_at hl 2 rfl) ?_
        refine lv_iload_n hx hb dX8_then_49 rfl (lv_at hl 3 rfl) ?_
        obtain ⟨r25, M26, f27, h⟩ := zbi_e h
        refine z_qVi (As := [.int p1, .int p2]) (rest := []) X hw (kX8_toldWheel l D cy a p1 p2 M23 r25 M26 f27) (cwX8_115 X.2.2.2.2.2.1 rfl rfl (zroomO (Nat.le_of_ble_eq_true rfl) (Nat.le_of_ble_eq_true rfl))) (zX8_lt (rfl : zX8 87)) (zS8 (rfl : zX8 87) cy a (M23 87)) rfl rfl rfl (Nat.le_of_ble_eq_true rfl) hl.1 hcs dX8_then_50 (fun H locs hw => ?_)
        refine lv_istore (lv' := [(4, .int r25), (0, .ref (a 87)), (1, .int p0), (2, .int p1), (3, .int p2)]) hx hb dX8_then_53 hl (by decide) rfl (fun ls hl => ?_)
        refine lv_aload_n hx hb dX8_then_55 rfl (lv_at hl 1 rfl) ?_
        refine gtX8_16 X hw dX8_then_56 ?_
        refine lv_aload_n hx hb dX8_then_59 rfl (lv_at hl 1 rfl) ?_
        refine gtX8_7 X hw dX8_then_60 ?_
        obtain ⟨M29, f30, h⟩ := zbv_e h
        refine z_qSv (As := [.ref (a 90), .ref (a 88)]) (rest := []) X hw (kX8_carry l D cy a 90 zI_90 88 zI_88 M26 M29 f30) (cwX8_226 X.2.2.2.2.2.1 rfl rfl (zroomO (Nat.le_of_ble_eq_true rfl) (Nat.le_of_ble_eq_true rfl))) rfl rfl (Nat.le_of_ble_eq_true rfl) hl.1 hcs dX8_then_63 (fun H locs hw => ?_)
        refine lv_iload hx hb dX8_then_66 (lv_at hl 0 rfl) ?_
        exact z_ri X hw (zret h) dX8_then_68
      · replace h := zif_t c18 h
        refine lv_aload_n hx hb dX8_then_25 rfl (lv_at hl 0 rfl) ?_
        refine lv_iconst (v := 1) hx hb dX8_then_26 (by decide) ?_
        obtain ⟨r31, M32, f33, h⟩ := zbi_e h
        refine z_qVi (As := [.int (1 : Int32)]) (rest := []) X hw (kX8_error l D cy a (1 : Int32) M16 r31 M32 f33) (cwX8_76 X.2.2.2.2.2.1 rfl rfl (zroomO (Nat.le_of_ble_eq_true rfl) (Nat.le_of_ble_eq_true rfl))) (zX8_lt (rfl : zX8 87)) (zS8 (rfl : zX8 87) cy a (M16 87)) rfl rfl rfl (Nat.le_of_ble_eq_true rfl) hl.1 hcs dX8_then_27 (fun H locs hw => ?_)
        exact z_ri X hw (zret h) dX8_then_30
def fX8_thenFamily (p0 : Int32) (p1 : Int32) (p2 : Int32) (M : zM) : Option (Int32 × zM) := zbi (fX8_isAhead p0 M) (fun r1 M2 => if r1 = 0 then (zbi (fX8_error (1 : Int32) M2) (fun r5 M6 => some (r5, M6))) else (zbi (fX8_isFamily p1 M2) (fun r8 M9 => if r8 = 0 then (zbi (fX8_error (1 : Int32) M9) (fun r12 M13 => some (r12, M13))) else (zbi (fX8_in p2 (0 : Int32) (3 : Int32) M9) (fun r15 M16 => if r15 = 0 then (zbi (fX8_error (1 : Int32) M16) (fun r31 M32 => some (r31, M32))) else (zbv (fX8_carry 88 90 M16) (fun M20 => zbv (fX8_go p0 M20) (fun M23 => zbi (fX8_toldFamily p1 p2 M23) (fun r25 M26 => zbv (fX8_carry 90 88 M26) (fun M29 => some (r25, M29)))))))))))
set_option maxRecDepth 100000 in
set_option maxHeartbeats 4000000 in
theorem kX8_thenFamily (l : Launch) (D : va_G) (cy : Nat → ClassId) (a : Nat → Nat) (p0 : Int32) (p1 : Int32) (p2 : Int32) (M : zM) (r0 : Int32) (M0 : zM) (h : fX8_thenFamily p0 p1 p2 M = some (r0, M0)) : zCi l D cy a yX8_thenFamily cX8_thenFamily 5 (some .int) (zRm 7 162) [.ref (a 87), .int p0, .int p1, .int p2] M (fun r u => r = r0 ∧ u = M0) := by
  intro sz
  refine zent_i sz (by decide) (Nat.le_of_ble_eq_true rfl) rfl (fun p e s m args below meth c ls H locs X hw hl => ?_)
  obtain ⟨hx, hb, hr, hml, hown, hW, hlocks⟩ := id X
  have hE := hw.2.2.2.2.1
  have hcs : 0 ≤ ((zRm 7 162)).cells ∧ 0 ≤ ((zRm 7 162)).slots := ⟨Nat.zero_le _, Nat.zero_le _⟩
  rw [fX8_thenFamily] at h
  refine lv_iload_n hx hb dX8_thenFamily_0 rfl (lv_at hl 1 rfl) ?_
  obtain ⟨r1, M2, f3, h⟩ := zbi_e h
  refine z_qSi (As := [.int p0]) (rest := []) X hw (kX8_isAhead l D cy a p0 M r1 M2 f3) (cwX8_223 X.2.2.2.2.2.1 rfl rfl (zroomO (Nat.le_of_ble_eq_true rfl) (Nat.le_of_ble_eq_true rfl))) rfl rfl (Nat.le_of_ble_eq_true rfl) hl.1 hcs dX8_thenFamily_1 (fun H locs hw => ?_)
  refine lv_if_eq (tgt := 23) hx hb dX8_thenFamily_4 (by decide) (fun c4 => ?_) (fun c4 => ?_)
  · replace h := zif_t c4 h
    refine lv_aload_n hx hb dX8_thenFamily_23 rfl (lv_at hl 0 rfl) ?_
    refine lv_iconst (v := 1) hx hb dX8_thenFamily_24 (by decide) ?_
    obtain ⟨r5, M6, f7, h⟩ := zbi_e h
    refine z_qVi (As := [.int (1 : Int32)]) (rest := []) X hw (kX8_error l D cy a (1 : Int32) M2 r5 M6 f7) (cwX8_76 X.2.2.2.2.2.1 rfl rfl (zroomO (Nat.le_of_ble_eq_true rfl) (Nat.le_of_ble_eq_true rfl))) (zX8_lt (rfl : zX8 87)) (zS8 (rfl : zX8 87) cy a (M2 87)) rfl rfl rfl (Nat.le_of_ble_eq_true rfl) hl.1 hcs dX8_thenFamily_25 (fun H locs hw => ?_)
    exact z_ri X hw (zret h) dX8_thenFamily_28
  · replace h := zif_f c4 h
    refine lv_iload_n hx hb dX8_thenFamily_7 rfl (lv_at hl 2 rfl) ?_
    obtain ⟨r8, M9, f10, h⟩ := zbi_e h
    refine z_qSi (As := [.int p1]) (rest := []) X hw (kX8_isFamily l D cy a p1 M2 r8 M9 f10) (cwX8_83 X.2.2.2.2.2.1 rfl rfl (zroomO (Nat.le_of_ble_eq_true rfl) (Nat.le_of_ble_eq_true rfl))) rfl rfl (Nat.le_of_ble_eq_true rfl) hl.1 hcs dX8_thenFamily_8 (fun H locs hw => ?_)
    refine lv_if_eq (tgt := 23) hx hb dX8_thenFamily_11 (by decide) (fun c11 => ?_) (fun c11 => ?_)
    · replace h := zif_t c11 h
      refine lv_aload_n hx hb dX8_thenFamily_23 rfl (lv_at hl 0 rfl) ?_
      refine lv_iconst (v := 1) hx hb dX8_thenFamily_24 (by decide) ?_
      obtain ⟨r12, M13, f14, h⟩ := zbi_e h
      refine z_qVi (As := [.int (1 : Int32)]) (rest := []) X hw (kX8_error l D cy a (1 : Int32) M9 r12 M13 f14) (cwX8_76 X.2.2.2.2.2.1 rfl rfl (zroomO (Nat.le_of_ble_eq_true rfl) (Nat.le_of_ble_eq_true rfl))) (zX8_lt (rfl : zX8 87)) (zS8 (rfl : zX8 87) cy a (M9 87)) rfl rfl rfl (Nat.le_of_ble_eq_true rfl) hl.1 hcs dX8_thenFamily_25 (fun H locs hw => ?_)
      exact z_ri X hw (zret h) dX8_thenFamily_28
    · replace h := zif_f c11 h
      refine lv_iload_n hx hb dX8_thenFamily_14 rfl (lv_at hl 3 rfl) ?_
      refine lv_iconst (v := 0) hx hb dX8_thenFamily_15 (by decide) ?_
      refine lv_iconst (v := 3) hx hb dX8_thenFamily_16 (by decide) ?_
      obtain ⟨r15, M16, f17, h⟩ := zbi_e h
      refine z_qSi (As := [.int p2, .int (0 : Int32), .int (3 : Int32)]) (rest := []) X hw (kX8_in l D cy a p2 (0 : Int32) (3 : Int32) M9 r15 M16 f17) (cwX8_56 X.2.2.2.2.2.1 rfl rfl (zroomO (Nat.le_of_ble_eq_true rfl) (Nat.le_of_ble_eq_true rfl))) rfl rfl (Nat.le_of_ble_eq_true rfl) hl.1 hcs dX8_thenFamily_17 (fun H locs hw => ?_)
      refine lv_if_ne (tgt := 29) hx hb dX8_thenFamily_20 (by decide) (fun c18 => ?_) (fun c18 => ?_)
      · replace h := zif_f c18 h
        refine lv_aload_n hx hb dX8_thenFamily_29 rfl (lv_at hl 0 rfl) ?_
        refine gtX8_7 X hw dX8_thenFamily_30 ?_
        refine lv_aload_n hx hb dX8_thenFamily_33 rfl (lv_at hl 0 rfl) ?_
        refine gtX8_16 X hw dX8_thenFamily_34 ?_
        obtain ⟨M20, f21, h⟩ := zbv_e h
        refine z_qSv (As := [.ref (a 88), .ref (a 90)]) (rest := []) X hw (kX8_carry l D cy a 88 zI_88 90 zI_90 M16 M20 f21) (cwX8_226 X.2.2.2.2.2.1 rfl rfl (zroomO (Nat.le_of_ble_eq_true rfl) (Nat.le_of_ble_eq_true rfl))) rfl rfl (Nat.le_of_ble_eq_true rfl) hl.1 hcs dX8_thenFamily_37 (fun H locs hw => ?_)
        refine lv_aload_n hx hb dX8_thenFamily_40 rfl (lv_at hl 0 rfl) ?_
        refine lv_iload_n hx hb dX8_thenFamily_41 rfl (lv_at hl 1 rfl) ?_
        obtain ⟨M23, f24, h⟩ := zbv_e h
        refine z_qVv (As := [.int p0]) (rest := []) X hw (kX8_go l D cy a p0 M20 M23 f24) (cwX8_212 X.2.2.2.2.2.1 rfl rfl (zroomO (Nat.le_of_ble_eq_true rfl) (Nat.le_of_ble_eq_true rfl))) (zX8_lt (rfl : zX8 87)) (zS8 (rfl : zX8 87) cy a (M20 87)) rfl rfl rfl (Nat.le_of_ble_eq_true rfl) hl.1 hcs dX8_thenFamily_42 (fun H locs hw => ?_)
        refine lv_aload_n hx hb dX8_thenFamily_45 rfl (lv_at hl 0 rfl) ?_
        refine lv_iload_n hx hb dX8_thenFamily_46 rfl (lv_at hl 2 rfl) ?_
        refine lv_iload_n hx hb dX8_thenFamily_47 rfl (lv_at hl 3 rfl) ?_
        obtain ⟨r25, M26, f27, h⟩ := zbi_e h
        refine z_qVi (As := [.int p1, .int p2]) (rest := []) X hw (kX8_toldFamily l D cy a p1 p2 M23 r25 M26 f27) (cwX8_93 X.2.2.2.2.2.1 rfl rfl (zroomO (Nat.le_of_ble_eq_true rfl) (Nat.le_of_ble_eq_true rfl))) (zX8_lt (rfl : zX8 87)) (zS8 (rfl : zX8 87) cy a (M23 87)) rfl rfl rfl (Nat.le_of_ble_eq_true rfl) hl.1 hcs dX8_thenFamily_48 (fun H locs hw => ?_)
        refine lv_istore (lv' := [(4, .int r25), (0, .ref (a 87)), (1, .int p0), (2, .int p1), (3, .int p2)]) hx hb dX8_thenFamily_51 hl (by decide) rfl (fun ls hl => ?_)
        refine lv_aload_n hx hb dX8_thenFamily_53 rfl (lv_at hl 1 rfl) ?_
        refine gtX8_16 X hw dX8_thenFamily_54 ?_
        refine lv_aload_n hx hb dX8_thenFamily_57 rfl (lv_at hl 1 rfl) ?_
        refine gtX8_7 X hw dX8_thenFamily_58 ?_
        obtain ⟨M29, f30, h⟩ := zbv_e h
        refine z_qSv (As := [.ref (a 90), .ref (a 88)]) (rest := []) X hw (kX8_carry l D cy a 90 zI_90 88 zI_88 M26 M29 f30) (cwX8_226 X.2.2.2.2.2.1 rfl rfl (zroomO (Nat.le_of_ble_eq_true rfl) (Nat.le_of_ble_eq_true rfl))) rfl rfl (Nat.le_of_ble_eq_true rfl) hl.1 hcs dX8_thenFamily_61 (fun H locs hw => ?_)
        refine lv_iload hx hb dX8_thenFamily_64 (lv_at hl 0 rfl) ?_
        exact z_ri X hw (zret h) dX8_thenFamily_66
      · replace h := zif_t c18 h
        refine lv_aload_n hx hb dX8_thenFamily_23 rfl (lv_at hl 0 rfl) ?_
        refine lv_iconst (v := 1) hx hb dX8_thenFamily_24 (by decide) ?_
        obtain ⟨r31, M32, f33, h⟩ := zbi_e h
        refine z_qVi (As := [.int (1 : Int32)]) (rest := []) X hw (kX8_error l D cy a (1 : Int32) M16 r31 M32 f33) (cwX8_76 X.2.2.2.2.2.1 rfl rfl (zroomO (Nat.le_of_ble_eq_true rfl) (Nat.le_of_ble_eq_true rfl))) (zX8_lt (rfl : zX8 87)) (zS8 (rfl : zX8 87) cy a (M16 87)) rfl rfl rfl (Nat.le_of_ble_eq_true rfl) hl.1 hcs dX8_thenFamily_25 (fun H locs hw => ?_)
        exact z_ri X hw (zret h) dX8_thenFamily_28
def fX8_when_33 (y1 : Int32) (y2 : Int32) (k : Int32 → zM → Option (Int32 × zM)) : Nat → Int32 → zM → Option (Int32 × zM)
  | 0, _, _ => none
  | n + 1, v3, M => if y2 ≤ v3 then (k v3 M) else (zbi (fX8_isPaid y1 M) (fun r16 M17 => if r16 = 0 then (zbv (fX8_hour M17) (fun M21 => zlt (v3 + (1 : Int32)) (fun x23 => fX8_when_33 y1 y2 k n x23 M21))) else (k v3 M17)))
set_option maxRecDepth 100000 in
set_option maxHeartbeats 4000000 in
theorem lX8_when_33 {p : Program} {l : Launch} {e : Env} {s : State} {m : MethodId} {args : Array Value} {below : List Frame} {meth : Method} {c : Code} {D : va_G} {cy : Nat → ClassId} {a : Nat → Nat} {r0 : Int32} {M0 : zM} (X : zCX p s m meth c args cX8_when 5 (some .int) RX8) (y1 : Int32) (y2 : Int32) (k : Int32 → zM → Option (Int32 × zM)) : ∀ (n : Nat) (v3 : Int32) (M : zM) (H : Heap) (locs : List Loc) (ls : Array Slot), zWD D cy a (zfr a s.heap.size) M H locs s → lv_has ls 5 [(0, .ref (a 87)), (1, .int y1), (2, .int y2), (3, .int v3)] → fX8_when_33 y1 y2 k n v3 M = some (r0, M0) →
    (∀ (u3 : Int32) (M' : zM) (H' : Heap) (locs' : List Loc) (ls' : Array Slot), zWD D cy a (zfr a s.heap.size) M' H' locs' s → lv_has ls' 5 [(0, .ref (a 87)), (1, .int y1), (3, .int u3)] → k u3 M' = some (r0, M0) → W p l e (zRm 6 140) s m args below meth c H' locs' 0 0 (zQi D cy a s args below r0 M0) (F0 m 56 ls' [])) →
    W p l e (zRm 6 140) s m args below meth c H locs 0 0 (zQi D cy a s args below r0 M0) (F0 m 33 ls []) := by
  obtain ⟨hx, hb, hr, hml, hown, hW, hlocks⟩ := id X
  have hcs : 0 ≤ ((zRm 6 140)).cells ∧ 0 ≤ ((zRm 6 140)).slots := ⟨Nat.zero_le _, Nat.zero_le _⟩
  intro n
  induction n with
  | zero =>
    intro v3 M H locs ls hw hl h hk
    cases h
  | succ n ih =>
    intro v3 M H locs ls hw hl h hk
    have hE := hw.2.2.2.2.1
    rw [fX8_when_33] at h
    refine lv_iload_n hx hb dX8_when_33 rfl (lv_at hl 3 rfl) ?_
    refine lv_iload_n hx hb dX8_when_34 rfl (lv_at hl 2 rfl) ?_
    refine lv_icmp_ge (tgt := 56) hx hb dX8_when_35 (by decide) (fun c15 => ?_) (fun c15 => ?_)
    · replace h := zif_t c15 h
      exact hk v3 M H locs _ hw (lv_sub hl [0, 1, 3] rfl) h
    · replace h := zif_f c15 h
      refine lv_aload_n hx hb dX8_when_38 rfl (lv_at hl 0 rfl) ?_
      refine lv_iload_n hx hb dX8_when_39 rfl (lv_at hl 1 rfl) ?_
      obtain ⟨r16, M17, f18, h⟩ := zbi_e h
      refine z_qVi (As := [.int y1]) (rest := []) X hw (kX8_isPaid l D cy a y1 M r16 M17 f18) (cwX8_87 X.2.2.2.2.2.1 rfl rfl (zroomO (Nat.le_of_ble_eq_true rfl) (Nat.le_of_ble_eq_true rfl))) (zX8_lt (rfl : zX8 87)) (zS8 (rfl : zX8 87) cy a (M 87)) rfl rfl rfl (Nat.le_of_ble_eq_true rfl) hl.1 hcs dX8_when_40 (fun H locs hw => ?_)
      refine lv_if_ne (tgt := 56) hx hb dX8_when_43 (by decide) (fun c19 => ?_) (fun c19 => ?_)
      · replace h := zif_f c19 h
        exact hk v3 M17 H locs _ hw (lv_sub hl [0, 1, 3] rfl) h
      · replace h := zif_t c19 h
        refine lv_aload_n hx hb dX8_when_46 rfl (lv_at hl 0 rfl) ?_
        obtain ⟨M21, f22, h⟩ := zbv_e h
        refine z_qVv (As := []) (rest := []) X hw (kX8_hour l D cy a M17 M21 f22) (cwX8_209 X.2.2.2.2.2.1 rfl rfl (zroomO (Nat.le_of_ble_eq_true rfl) (Nat.le_of_ble_eq_true rfl))) (zX8_lt (rfl : zX8 87)) (zS8 (rfl : zX8 87) cy a (M17 87)) rfl rfl rfl (Nat.le_of_ble_eq_true rfl) hl.1 hcs dX8_when_47 (fun H locs hw => ?_)
        obtain ⟨x23, ex23⟩ : ∃ y : Int32, y = v3 + (1 : Int32) := ⟨_, rfl⟩
        replace h := zlt_s ex23 h
        refine lv_iinc (v := x23) (lv' := [(3, .int x23), (0, .ref (a 87)), (1, .int y1), (2, .int y2)]) hx hb dX8_when_50 hl (k := 3) rfl (by rw [ex23]; rfl) (by decide) rfl (fun ls hl => ?_)
        refine lv_goto (tgt := 33) hx hb dX8_when_53 (by decide) ?_
        exact ih x23 M21 H locs _ hw (lv_sub hl [1, 2, 3, 0] rfl) h hk
def fX8_when (p0 : Int32) (p1 : Int32) (M : zM) : Option (Int32 × zM) := zbi (fX8_isFamily p0 M) (fun r1 M2 => if r1 = 0 then (zbi (fX8_error (1 : Int32) M2) (fun r5 M6 => some (r5, M6))) else (zbi (fX8_isAhead p1 M2) (fun r8 M9 => if r8 = 0 then (zbi (fX8_error (1 : Int32) M9) (fun r36 M37 => some (r36, M37))) else (zbv (fX8_carry 88 90 M9) (fun M13 => fX8_when_33 p0 p1 (fun x24 M25 => zbi (fX8_isPaid p0 M25) (fun r26 M27 => zbv (fX8_carry 90 88 M27) (fun M30 => if r26 = 0 then (zbi (fX8_error (2 : Int32) M30) (fun r33 M34 => some (r33, M34))) else (some (x24, M30))))) zF (0 : Int32) M13)))))
set_option maxRecDepth 100000 in
set_option maxHeartbeats 4000000 in
theorem kX8_when (l : Launch) (D : va_G) (cy : Nat → ClassId) (a : Nat → Nat) (p0 : Int32) (p1 : Int32) (M : zM) (r0 : Int32) (M0 : zM) (h : fX8_when p0 p1 M = some (r0, M0)) : zCi l D cy a yX8_when cX8_when 5 (some .int) (zRm 6 140) [.ref (a 87), .int p0, .int p1] M (fun r u => r = r0 ∧ u = M0) := by
  intro sz
  refine zent_i sz (by decide) (Nat.le_of_ble_eq_true rfl) rfl (fun p e s m args below meth c ls H locs X hw hl => ?_)
  obtain ⟨hx, hb, hr, hml, hown, hW, hlocks⟩ := id X
  have hE := hw.2.2.2.2.1
  have hcs : 0 ≤ ((zRm 6 140)).cells ∧ 0 ≤ ((zRm 6 140)).slots := ⟨Nat.zero_le _, Nat.zero_le _⟩
  rw [fX8_when] at h
  refine lv_iload_n hx hb dX8_when_0 rfl (lv_at hl 1 rfl) ?_
  obtain ⟨r1, M2, f3, h⟩ := zbi_e h
  refine z_qSi (As := [.int p0]) (rest := []) X hw (kX8_isFamily l D cy a p0 M r1 M2 f3) (cwX8_83 X.2.2.2.2.2.1 rfl rfl (zroomO (Nat.le_of_ble_eq_true rfl) (Nat.le_of_ble_eq_true rfl))) rfl rfl (Nat.le_of_ble_eq_true rfl) hl.1 hcs dX8_when_1 (fun H locs hw => ?_)
  refine lv_if_eq (tgt := 14) hx hb dX8_when_4 (by decide) (fun c4 => ?_) (fun c4 => ?_)
  · replace h := zif_t c4 h
    refine lv_aload_n hx hb dX8_when_14 rfl (lv_at hl 0 rfl) ?_
    refine lv_iconst (v := 1) hx hb dX8_when_15 (by decide) ?_
    obtain ⟨r5, M6, f7, h⟩ := zbi_e h
    refine z_qVi (As := [.int (1 : Int32)]) (rest := []) X hw (kX8_error l D cy a (1 : Int32) M2 r5 M6 f7) (cwX8_76 X.2.2.2.2.2.1 rfl rfl (zroomO (Nat.le_of_ble_eq_true rfl) (Nat.le_of_ble_eq_true rfl))) (zX8_lt (rfl : zX8 87)) (zS8 (rfl : zX8 87) cy a (M2 87)) rfl rfl rfl (Nat.le_of_ble_eq_true rfl) hl.1 hcs dX8_when_16 (fun H locs hw => ?_)
    exact z_ri X hw (zret h) dX8_when_19
  · replace h := zif_f c4 h
    refine lv_iload_n hx hb dX8_when_7 rfl (lv_at hl 2 rfl) ?_
    obtain ⟨r8, M9, f10, h⟩ := zbi_e h
    refine z_qSi (As := [.int p1]) (rest := []) X hw (kX8_isAhead l D cy a p1 M2 r8 M9 f10) (cwX8_223 X.2.2.2.2.2.1 rfl rfl (zroomO (Nat.le_of_ble_eq_true rfl) (Nat.le_of_ble_eq_true rfl))) rfl rfl (Nat.le_of_ble_eq_true rfl) hl.1 hcs dX8_when_8 (fun H locs hw => ?_)
    refine lv_if_ne (tgt := 20) hx hb dX8_when_11 (by decide) (fun c11 => ?_) (fun c11 => ?_)
    · replace h := zif_f c11 h
      refine lv_aload_n hx hb dX8_when_20 rfl (lv_at hl 0 rfl) ?_
      refine gtX8_7 X hw dX8_when_21 ?_
      refine lv_aload_n hx hb dX8_when_24 rfl (lv_at hl 0 rfl) ?_
      refine gtX8_16 X hw dX8_when_25 ?_
      obtain ⟨M13, f14, h⟩ := zbv_e h
      refine z_qSv (As := [.ref (a 88), .ref (a 90)]) (rest := []) X hw (kX8_carry l D cy a 88 zI_88 90 zI_90 M9 M13 f14) (cwX8_226 X.2.2.2.2.2.1 rfl rfl (zroomO (Nat.le_of_ble_eq_true rfl) (Nat.le_of_ble_eq_true rfl))) rfl rfl (Nat.le_of_ble_eq_true rfl) hl.1 hcs dX8_when_28 (fun H locs hw => ?_)
      refine lv_iconst (v := 0) hx hb dX8_when_31 (by decide) ?_
      refine lv_istore_n (lv' := [(3, .int (0 : Int32)), (0, .ref (a 87)), (1, .int p0), (2, .int p1)]) hx hb dX8_when_32 rfl hl (by decide) rfl (fun ls hl => ?_)
      refine lX8_when_33 X p0 p1 _ zF (0 : Int32) M13 H locs _ hw (lv_sub hl [1, 2, 3, 0] rfl) h (fun x24 M25 H locs ls hw hl h => ?_)
      refine lv_aload_n hx hb dX8_when_56 rfl (lv_at hl 0 rfl) ?_
      refine lv_iload_n hx hb dX8_when_57 rfl (lv_at hl 1 rfl) ?_
      obtain ⟨r26, M27, f28, h⟩ := zbi_e h
      refine z_qVi (As := [.int p0]) (rest := []) X hw (kX8_isPaid l D cy a p0 M25 r26 M27 f28) (cwX8_87 X.2.2.2.2.2.1 rfl rfl (zroomO (Nat.le_of_ble_eq_true rfl) (Nat.le_of_ble_eq_true rfl))) (zX8_lt (rfl : zX8 87)) (zS8 (rfl : zX8 87) cy a (M25 87)) rfl rfl rfl (Nat.le_of_ble_eq_true rfl) hl.1 hcs dX8_when_58 (fun H locs hw => ?_)
      refine lv_istore (lv' := [(4, .int r26), (0, .ref (a 87)), (1, .int p0), (3, .int x24)]) hx hb dX8_when_61 hl (by decide) rfl (fun ls hl => ?_)
      refine lv_aload_n hx hb dX8_when_63 rfl (lv_at hl 1 rfl) ?_
      refine gtX8_16 X hw dX8_when_64 ?_
      refine lv_aload_n hx hb dX8_when_67 rfl (lv_at hl 1 rfl) ?_
      refine gtX8_7 X hw dX8_when_68 ?_
      obtain ⟨M30, f31, h⟩ := zbv_e h
      refine z_qSv (As := [.ref (a 90), .ref (a 88)]) (rest := []) X hw (kX8_carry l D cy a 90 zI_90 88 zI_88 M27 M30 f31) (cwX8_226 X.2.2.2.2.2.1 rfl rfl (zroomO (Nat.le_of_ble_eq_true rfl) (Nat.le_of_ble_eq_true rfl))) rfl rfl (Nat.le_of_ble_eq_true rfl) hl.1 hcs dX8_when_71 (fun H locs hw => ?_)
      refine lv_iload hx hb dX8_when_74 (lv_at hl 0 rfl) ?_
      refine lv_if_eq (tgt := 83) hx hb dX8_when_76 (by decide) (fun c32 => ?_) (fun c32 => ?_)
      · replace h := zif_t c32 h
        refine lv_aload_n hx hb dX8_when_83 rfl (lv_at hl 1 rfl) ?_
        refine lv_iconst (v := 2) hx hb dX8_when_84 (by decide) ?_
        obtain ⟨r33, M34, f35, h⟩ := zbi_e h
        refine z_qVi (As := [.int (2 : Int32)]) (rest := []) X hw (kX8_error l D cy a (2 : Int32) M30 r33 M34 f35) (cwX8_76 X.2.2.2.2.2.1 rfl rfl (zroomO (Nat.le_of_ble_eq_true rfl) (Nat.le_of_ble_eq_true rfl))) (zX8_lt (rfl : zX8 87)) (zS8 (rfl : zX8 87) cy a (M30 87)) rfl rfl rfl (Nat.le_of_ble_eq_true rfl) hl.1 hcs dX8_when_85 (fun H locs hw => ?_)
        exact z_ri X hw (zret h) dX8_when_88
      · replace h := zif_f c32 h
        refine lv_iload_n hx hb dX8_when_79 rfl (lv_at hl 3 rfl) ?_
        refine lv_goto (tgt := 88) hx hb dX8_when_80 (by decide) ?_
        exact z_ri X hw (zret h) dX8_when_88
    · replace h := zif_t c11 h
      refine lv_aload_n hx hb dX8_when_14 rfl (lv_at hl 0 rfl) ?_
      refine lv_iconst (v := 1) hx hb dX8_when_15 (by decide) ?_
      obtain ⟨r36, M37, f38, h⟩ := zbi_e h
      refine z_qVi (As := [.int (1 : Int32)]) (rest := []) X hw (kX8_error l D cy a (1 : Int32) M9 r36 M37 f38) (cwX8_76 X.2.2.2.2.2.1 rfl rfl (zroomO (Nat.le_of_ble_eq_true rfl) (Nat.le_of_ble_eq_true rfl))) (zX8_lt (rfl : zX8 87)) (zS8 (rfl : zX8 87) cy a (M9 87)) rfl rfl rfl (Nat.le_of_ble_eq_true rfl) hl.1 hcs dX8_when_16 (fun H locs hw => ?_)
      exact z_ri X hw (zret h) dX8_when_19
def fX8_opens__2 (y1 : Int32) (k : zM → Option (zM)) : Nat → Int32 → zM → Option (zM)
  | 0, _, _ => none
  | n + 1, v2, M => if M 88 (0) ≤ v2 then (k  M) else (zlt (y1 >>> (v2 &&& 31)) (fun x2 => zbv (fX8_lays1 v2 (4 : Int32) (x2 &&& (1 : Int32)) M) (fun M4 => zlt (v2 + (1 : Int32)) (fun x6 => fX8_opens__2 y1 k n x6 M4))))
set_option maxRecDepth 100000 in
set_option maxHeartbeats 4000000 in
theorem lX8_opens__2 {p : Program} {l : Launch} {e : Env} {s : State} {m : MethodId} {args : Array Value} {below : List Frame} {meth : Method} {c : Code} {D : va_G} {cy : Nat → ClassId} {a : Nat → Nat} {M0 : zM} (X : zCX p s m meth c args cX8_opens_ 3 none RX8) (y1 : Int32) (k : zM → Option (zM)) : ∀ (n : Nat) (v2 : Int32) (M : zM) (H : Heap) (locs : List Loc) (ls : Array Slot), zWD D cy a (zfr a s.heap.size) M H locs s → lv_has ls 3 [(0, .ref (a 87)), (1, .int y1), (2, .int v2)] → fX8_opens__2 y1 k n v2 M = some M0 →
    (∀ (M' : zM) (H' : Heap) (locs' : List Loc) (ls' : Array Slot), zWD D cy a (zfr a s.heap.size) M' H' locs' s → lv_has ls' 3 [] → k M' = some M0 → W p l e (zRm 1 23) s m args below meth c H' locs' 0 0 (zQv D cy a s args below M0) (F0 m 29 ls' [])) →
    W p l e (zRm 1 23) s m args below meth c H locs 0 0 (zQv D cy a s args below M0) (F0 m 2 ls []) := by
  obtain ⟨hx, hb, hr, hml, hown, hW, hlocks⟩ := id X
  have hcs : 0 ≤ ((zRm 1 23)).cells ∧ 0 ≤ ((zRm 1 23)).slots := ⟨Nat.zero_le _, Nat.zero_le _⟩
  intro n
  induction n with
  | zero =>
    intro v2 M H locs ls hw hl h hk
    cases h
  | succ n ih =>
    intro v2 M H locs ls hw hl h hk
    have hE := hw.2.2.2.2.1
    rw [fX8_opens__2] at h
    refine lv_iload_n hx hb dX8_opens__2 rfl (lv_at hl 2 rfl) ?_
    refine lv_aload_n hx hb dX8_opens__3 rfl (lv_at hl 0 rfl) ?_
    refine gtX8_7 X hw dX8_opens__4 ?_
    refine lv_iconst (v := 0) hx hb dX8_opens__7 (by decide) ?_
    refine z_aldK (k := 0) X hw zI_88 (by decide) (by decide) (by decide) dX8_opens__8 ?_
    refine lv_icmp_ge (tgt := 29) hx hb dX8_opens__9 (by decide) (fun c1 => ?_) (fun c1 => ?_)
    · replace h := zif_t c1 h
      exact hk  M H locs _ hw (lv_sub hl [] rfl) h
    · replace h := zif_f c1 h
      refine lv_aload_n hx hb dX8_opens__12 rfl (lv_at hl 0 rfl) ?_
      refine lv_iload_n hx hb dX8_opens__13 rfl (lv_at hl 2 rfl) ?_
      refine lv_iconst (v := 4) hx hb dX8_opens__14 (by decide) ?_
      refine lv_iload_n hx hb dX8_opens__15 rfl (lv_at hl 1 rfl) ?_
      refine lv_iload_n hx hb dX8_opens__16 rfl (lv_at hl 2 rfl) ?_
      refine lv_ishr hx hb dX8_opens__17 ?_
      refine lv_topi (fun x2 ex2 => ?_)
      replace h := zlt_s ex2 h
      refine lv_iconst (v := 1) hx hb dX8_opens__18 (by decide) ?_
      refine lv_iand hx hb dX8_opens__19 ?_
      obtain ⟨M4, f5, h⟩ := zbv_e h
      refine z_qVv (As := [.int v2, .int (4 : Int32), .int (x2 &&& (1 : Int32))]) (rest := []) X hw (kX8_lays1 l D cy a v2 (4 : Int32) (x2 &&& (1 : Int32)) M M4 f5) (cwX8_96 X.2.2.2.2.2.1 rfl rfl (zroomO (Nat.le_of_ble_eq_true rfl) (Nat.le_of_ble_eq_true rfl))) (zX8_lt (rfl : zX8 87)) (zS8 (rfl : zX8 87) cy a (M 87)) rfl rfl rfl (Nat.le_of_ble_eq_true rfl) hl.1 hcs dX8_opens__20 (fun H locs hw => ?_)
      obtain ⟨x6, ex6⟩ : ∃ y : Int32, y = v2 + (1 : Int32) := ⟨_, rfl⟩
      replace h := zlt_s ex6 h
      refine lv_iinc (v := x6) (lv' := [(2, .int x6), (0, .ref (a 87)), (1, .int y1)]) hx hb dX8_opens__23 hl (k := 2) rfl (by rw [ex6]; rfl) (by decide) rfl (fun ls hl => ?_)
      refine lv_goto (tgt := 2) hx hb dX8_opens__26 (by decide) ?_
      exact ih x6 M4 H locs _ hw (lv_sub hl [1, 2, 0] rfl) h hk
def fX8_opens_ (p0 : Int32) (M : zM) : Option (zM) := fX8_opens__2 p0 (fun  M7 => some M7) zF (0 : Int32) M
set_option maxRecDepth 100000 in
set_option maxHeartbeats 4000000 in
theorem kX8_opens_ (l : Launch) (D : va_G) (cy : Nat → ClassId) (a : Nat → Nat) (p0 : Int32) (M : zM) (M0 : zM) (h : fX8_opens_ p0 M = some M0) : zCv l D cy a yX8_opens_ cX8_opens_ 3 (zRm 1 23) [.ref (a 87), .int p0] M (fun u => u = M0) := by
  intro sz
  refine zent_v sz (by decide) (Nat.le_of_ble_eq_true rfl) rfl (fun p e s m args below meth c ls H locs X hw hl => ?_)
  obtain ⟨hx, hb, hr, hml, hown, hW, hlocks⟩ := id X
  have hE := hw.2.2.2.2.1
  have hcs : 0 ≤ ((zRm 1 23)).cells ∧ 0 ≤ ((zRm 1 23)).slots := ⟨Nat.zero_le _, Nat.zero_le _⟩
  rw [fX8_opens_] at h
  refine lv_iconst (v := 0) hx hb dX8_opens__0 (by decide) ?_
  refine lv_istore_n (lv' := [(2, .int (0 : Int32)), (0, .ref (a 87)), (1, .int p0)]) hx hb dX8_opens__1 rfl hl (by decide) rfl (fun ls hl => ?_)
  refine lX8_opens__2 X p0 _ zF (0 : Int32) M H locs _ hw (lv_sub hl [1, 2, 0] rfl) h (fun  M7 H locs ls hw hl h => ?_)
  exact z_rv X hw (zretv h) dX8_opens__29
def fX8_areAllPaid_4 (k : Int32 → zM → Option (Int32 × zM)) : Nat → Int32 → Int32 → zM → Option (Int32 × zM)
  | 0, _, _, _ => none
  | n + 1, v1, v2, M => if (5 : Int32) ≤ v2 then (k v1 M) else (if v1 = 0 then (zlt (v2 + (1 : Int32)) (fun x3 => fX8_areAllPaid_4 k n (0 : Int32) x3 M)) else (zbi (fX8_isPaid v2 M) (fun r4 M5 => if r4 = 0 then (zlt (v2 + (1 : Int32)) (fun x8 => fX8_areAllPaid_4 k n (0 : Int32) x8 M5)) else (zlt (v2 + (1 : Int32)) (fun x9 => fX8_areAllPaid_4 k n (1 : Int32) x9 M5)))))
set_option maxRecDepth 100000 in
set_option maxHeartbeats 4000000 in
theorem lX8_areAllPaid_4 {p : Program} {l : Launch} {e : Env} {s : State} {m : MethodId} {args : Array Value} {below : List Frame} {meth : Method} {c : Code} {D : va_G} {cy : Nat → ClassId} {a : Nat → Nat} {r0 : Int32} {M0 : zM} (X : zCX p s m meth c args cX8_areAllPaid 3 (some .boolean) RX8) (k : Int32 → zM → Option (Int32 × zM)) : ∀ (n : Nat) (v1 : Int32) (v2 : Int32) (M : zM) (H : Heap) (locs : List Loc) (ls : Array Slot), zWD D cy a (zfr a s.heap.size) M H locs s → lv_has ls 3 [(0, .ref (a 87)), (1, .int v1), (2, .int v2)] → fX8_areAllPaid_4 k n v1 v2 M = some (r0, M0) →
    (∀ (u1 : Int32) (M' : zM) (H' : Heap) (locs' : List Loc) (ls' : Array Slot), zWD D cy a (zfr a s.heap.size) M' H' locs' s → lv_has ls' 3 [(1, .int u1)] → k u1 M' = some (r0, M0) → W p l e (zRm 2 42) s m args below meth c H' locs' 0 0 (zQi D cy a s args below r0 M0) (F0 m 33 ls' [])) →
    W p l e (zRm 2 42) s m args below meth c H locs 0 0 (zQi D cy a s args below r0 M0) (F0 m 4 ls []) := by
  obtain ⟨hx, hb, hr, hml, hown, hW, hlocks⟩ := id X
  have hcs : 0 ≤ ((zRm 2 42)).cells ∧ 0 ≤ ((zRm 2 42)).slots := ⟨Nat.zero_le _, Nat.zero_le _⟩
  intro n
  induction n with
  | zero =>
    intro v1 v2 M H locs ls hw hl h hk
    cases h
  | succ n ih =>
    intro v1 v2 M H locs ls hw hl h hk
    have hE := hw.2.2.2.2.1
    rw [fX8_areAllPaid_4] at h
    refine lv_iload_n hx hb dX8_areAllPaid_4 rfl (lv_at hl 2 rfl) ?_
    refine lv_iconst (v := 5) hx hb dX8_areAllPaid_5 (by decide) ?_
    refine lv_icmp_ge (tgt := 33) hx hb dX8_areAllPaid_6 (by decide) (fun c1 => ?_) (fun c1 => ?_)
    · replace h := zif_t c1 h
      exact hk v1 M H locs _ hw (lv_sub hl [1] rfl) h
    · replace h := zif_f c1 h
      refine lv_iload_n hx hb dX8_areAllPaid_9 rfl (lv_at hl 1 rfl) ?_
      refine lv_if_eq (tgt := 25) hx hb dX8_areAllPaid_10 (by decide) (fun c2 => ?_) (fun c2 => ?_)
      · replace h := zif_t c2 h
        refine lv_iconst (v := 0) hx hb dX8_areAllPaid_25 (by decide) ?_
        refine lv_istore_n (lv' := [(1, .int (0 : Int32)), (0, .ref (a 87)), (2, .int v2)]) hx hb dX8_areAllPaid_26 rfl hl (by decide) rfl (fun ls hl => ?_)
        obtain ⟨x3, ex3⟩ : ∃ y : Int32, y = v2 + (1 : Int32) := ⟨_, rfl⟩
        replace h := zlt_s ex3 h
        refine lv_iinc (v := x3) (lv' := [(2, .int x3), (1, .int (0 : Int32)), (0, .ref (a 87))]) hx hb dX8_areAllPaid_27 hl (k := 2) rfl (by rw [ex3]; rfl) (by decide) rfl (fun ls hl => ?_)
        refine lv_goto (tgt := 4) hx hb dX8_areAllPaid_30 (by decide) ?_
        exact ih (0 : Int32) x3 M H locs _ hw (lv_sub hl [2, 1, 0] rfl) h hk
      · replace h := zif_f c2 h
        refine lv_aload_n hx hb dX8_areAllPaid_13 rfl (lv_at hl 0 rfl) ?_
        refine lv_iload_n hx hb dX8_areAllPaid_14 rfl (lv_at hl 2 rfl) ?_
        obtain ⟨r4, M5, f6, h⟩ := zbi_e h
        refine z_qVi (As := [.int v2]) (rest := []) X hw (kX8_isPaid l D cy a v2 M r4 M5 f6) (cwX8_87 X.2.2.2.2.2.1 rfl rfl (zroomO (Nat.le_of_ble_eq_true rfl) (Nat.le_of_ble_eq_true rfl))) (zX8_lt (rfl : zX8 87)) (zS8 (rfl : zX8 87) cy a (M 87)) rfl rfl rfl (Nat.le_of_ble_eq_true rfl) hl.1 hcs dX8_areAllPaid_15 (fun H locs hw => ?_)
        refine lv_if_eq (tgt := 25) hx hb dX8_areAllPaid_18 (by decide) (fun c7 => ?_) (fun c7 => ?_)
        · replace h := zif_t c7 h
          refine lv_iconst (v := 0) hx hb dX8_areAllPaid_25 (by decide) ?_
          refine lv_istore_n (lv' := [(1, .int (0 : Int32)), (0, .ref (a 87)), (2, .int v2)]) hx hb dX8_areAllPaid_26 rfl hl (by decide) rfl (fun ls hl => ?_)
          obtain ⟨x8, ex8⟩ : ∃ y : Int32, y = v2 + (1 : Int32) := ⟨_, rfl⟩
          replace h := zlt_s ex8 h
          refine lv_iinc (v := x8) (lv' := [(2, .int x8), (1, .int (0 : Int32)), (0, .ref (a 87))]) hx hb dX8_areAllPaid_27 hl (k := 2) rfl (by rw [ex8]; rfl) (by decide) rfl (fun ls hl => ?_)
          refine lv_goto (tgt := 4) hx hb dX8_areAllPaid_30 (by decide) ?_
          exact ih (0 : Int32) x8 M5 H locs _ hw (lv_sub hl [2, 1, 0] rfl) h hk
        · replace h := zif_f c7 h
          refine lv_iconst (v := 1) hx hb dX8_areAllPaid_21 (by decide) ?_
          refine lv_goto (tgt := 26) hx hb dX8_areAllPaid_22 (by decide) ?_
          refine lv_istore_n (lv' := [(1, .int (1 : Int32)), (0, .ref (a 87)), (2, .int v2)]) hx hb dX8_areAllPaid_26 rfl hl (by decide) rfl (fun ls hl => ?_)
          obtain ⟨x9, ex9⟩ : ∃ y : Int32, y = v2 + (1 : Int32) := ⟨_, rfl⟩
          replace h := zlt_s ex9 h
          refine lv_iinc (v := x9) (lv' := [(2, .int x9), (1, .int (1 : Int32)), (0, .ref (a 87))]) hx hb dX8_areAllPaid_27 hl (k := 2) rfl (by rw [ex9]; rfl) (by decide) rfl (fun ls hl => ?_)
          refine lv_goto (tgt := 4) hx hb dX8_areAllPaid_30 (by decide) ?_
          exact ih (1 : Int32) x9 M5 H locs _ hw (lv_sub hl [2, 1, 0] rfl) h hk
def fX8_areAllPaid (M : zM) : Option (Int32 × zM) := fX8_areAllPaid_4  (fun x10 M11 => zgd (¬ (x10 = 0 ∨ x10 = 1)) (some (x10, M11))) zF (1 : Int32) (0 : Int32) M
set_option maxRecDepth 100000 in
set_option maxHeartbeats 4000000 in
theorem kX8_areAllPaid (l : Launch) (D : va_G) (cy : Nat → ClassId) (a : Nat → Nat) (M : zM) (r0 : Int32) (M0 : zM) (h : fX8_areAllPaid  M = some (r0, M0)) : zCi l D cy a yX8_areAllPaid cX8_areAllPaid 3 (some .boolean) (zRm 2 42) [.ref (a 87)] M (fun r u => r = r0 ∧ u = M0) := by
  intro sz
  refine zent_i sz (by decide) (Nat.le_of_ble_eq_true rfl) rfl (fun p e s m args below meth c ls H locs X hw hl => ?_)
  obtain ⟨hx, hb, hr, hml, hown, hW, hlocks⟩ := id X
  have hE := hw.2.2.2.2.1
  have hcs : 0 ≤ ((zRm 2 42)).cells ∧ 0 ≤ ((zRm 2 42)).slots := ⟨Nat.zero_le _, Nat.zero_le _⟩
  rw [fX8_areAllPaid] at h
  refine lv_iconst (v := 1) hx hb dX8_areAllPaid_0 (by decide) ?_
  refine lv_istore_n (lv' := [(1, .int (1 : Int32)), (0, .ref (a 87))]) hx hb dX8_areAllPaid_1 rfl hl (by decide) rfl (fun ls hl => ?_)
  refine lv_iconst (v := 0) hx hb dX8_areAllPaid_2 (by decide) ?_
  refine lv_istore_n (lv' := [(2, .int (0 : Int32)), (1, .int (1 : Int32)), (0, .ref (a 87))]) hx hb dX8_areAllPaid_3 rfl hl (by decide) rfl (fun ls hl => ?_)
  refine lX8_areAllPaid_4 X  _ zF (1 : Int32) (0 : Int32) M H locs _ hw (lv_sub hl [2, 1, 0] rfl) h (fun x10 M11 H locs ls hw hl h => ?_)
  refine lv_iload_n hx hb dX8_areAllPaid_33 rfl (lv_at hl 0 rfl) ?_
  obtain ⟨g12, h⟩ := zgd_e h
  exact z_rz X hw (Decidable.not_not.mp g12) (zret h) dX8_areAllPaid_34
def fX8_sluices_69 (y1 : Int32) (y2 : Int32) (y3 : Int32) (y4 : Int32) (y5 : Int32) (k : Int32 → zM → Option (Int32 × zM)) : Nat → Int32 → Int32 → zM → Option (Int32 × zM)
  | 0, _, _, _ => none
  | n + 1, v6, v7, M => if y1 ≤ v7 then (k v6 M) else (zbv (fX8_hour M) (fun M22 => zlt (v6 + (M22 87 15)) (fun x24 => zlt (v7 + (1 : Int32)) (fun x25 => fX8_sluices_69 y1 y2 y3 y4 y5 k n x24 x25 M22))))
set_option maxRecDepth 100000 in
set_option maxHeartbeats 4000000 in
theorem lX8_sluices_69 {p : Program} {l : Launch} {e : Env} {s : State} {m : MethodId} {args : Array Value} {below : List Frame} {meth : Method} {c : Code} {D : va_G} {cy : Nat → ClassId} {a : Nat → Nat} {r0 : Int32} {M0 : zM} (X : zCX p s m meth c args cX8_sluices 8 (some .int) RX8) (y1 : Int32) (y2 : Int32) (y3 : Int32) (y4 : Int32) (y5 : Int32) (k : Int32 → zM → Option (Int32 × zM)) : ∀ (n : Nat) (v6 : Int32) (v7 : Int32) (M : zM) (H : Heap) (locs : List Loc) (ls : Array Slot), zWD D cy a (zfr a s.heap.size) M H locs s → lv_has ls 8 [(0, .ref (a 87)), (1, .int y1), (2, .int y2), (3, .int y3), (4, .int y4), (5, .int y5), (6, .int v6), (7, .int v7)] → fX8_sluices_69 y1 y2 y3 y4 y5 k n v6 v7 M = some (r0, M0) →
    (∀ (u6 : Int32) (M' : zM) (H' : Heap) (locs' : List Loc) (ls' : Array Slot), zWD D cy a (zfr a s.heap.size) M' H' locs' s → lv_has ls' 8 [(0, .ref (a 87)), (1, .int y1), (2, .int y2), (3, .int y3), (4, .int y4), (5, .int y5), (6, .int u6)] → k u6 M' = some (r0, M0) → W p l e (zRm 6 140) s m args below meth c H' locs' 0 0 (zQi D cy a s args below r0 M0) (F0 m 94 ls' [])) →
    W p l e (zRm 6 140) s m args below meth c H locs 0 0 (zQi D cy a s args below r0 M0) (F0 m 69 ls []) := by
  obtain ⟨hx, hb, hr, hml, hown, hW, hlocks⟩ := id X
  have hcs : 0 ≤ ((zRm 6 140)).cells ∧ 0 ≤ ((zRm 6 140)).slots := ⟨Nat.zero_le _, Nat.zero_le _⟩
  intro n
  induction n with
  | zero =>
    intro v6 v7 M H locs ls hw hl h hk
    cases h
  | succ n ih =>
    intro v6 v7 M H locs ls hw hl h hk
    have hE := hw.2.2.2.2.1
    rw [fX8_sluices_69] at h
    refine lv_iload hx hb dX8_sluices_69 (lv_at hl 7 rfl) ?_
    refine lv_iload_n hx hb dX8_sluices_71 rfl (lv_at hl 1 rfl) ?_
    refine lv_icmp_ge (tgt := 94) hx hb dX8_sluices_72 (by decide) (fun c20 => ?_) (fun c20 => ?_)
    · replace h := zif_t c20 h
      exact hk v6 M H locs _ hw (lv_sub hl [0, 1, 2, 3, 4, 5, 6] rfl) h
    · replace h := zif_f c20 h
      refine lv_aload_n hx hb dX8_sluices_75 rfl (lv_at hl 0 rfl) ?_
      obtain ⟨M22, f23, h⟩ := zbv_e h
      refine z_qVv (As := []) (rest := []) X hw (kX8_hour l D cy a M M22 f23) (cwX8_209 X.2.2.2.2.2.1 rfl rfl (zroomO (Nat.le_of_ble_eq_true rfl) (Nat.le_of_ble_eq_true rfl))) (zX8_lt (rfl : zX8 87)) (zS8 (rfl : zX8 87) cy a (M 87)) rfl rfl rfl (Nat.le_of_ble_eq_true rfl) hl.1 hcs dX8_sluices_76 (fun H locs hw => ?_)
      refine lv_iload hx hb dX8_sluices_79 (lv_at hl 6 rfl) ?_
      refine lv_aload_n hx hb dX8_sluices_81 rfl (lv_at hl 0 rfl) ?_
      refine gtX8_197 X hw dX8_sluices_82 ?_
      refine lv_iadd hx hb dX8_sluices_85 ?_
      refine lv_topi (fun x24 ex24 => ?_)
      replace h := zlt_s ex24 h
      refine lv_istore (lv' := [(6, .int x24), (0, .ref (a 87)), (1, .int y1), (2, .int y2), (3, .int y3), (4, .int y4), (5, .int y5), (7, .int v7)]) hx hb dX8_sluices_86 hl (by decide) rfl (fun ls hl => ?_)
      obtain ⟨x25, ex25⟩ : ∃ y : Int32, y = v7 + (1 : Int32) := ⟨_, rfl⟩
      replace h := zlt_s ex25 h
      refine lv_iinc (v := x25) (lv' := [(7, .int x25), (6, .int x24), (0, .ref (a 87)), (1, .int y1), (2, .int y2), (3, .int y3), (4, .int y4), (5, .int y5)]) hx hb dX8_sluices_88 hl (k := 7) rfl (by rw [ex25]; rfl) (by decide) rfl (fun ls hl => ?_)
      refine lv_goto (tgt := 69) hx hb dX8_sluices_91 (by decide) ?_
      exact ih x24 x25 M22 H locs _ hw (lv_sub hl [2, 3, 4, 5, 6, 7, 1, 0] rfl) h hk
def fX8_sluices_33 (y1 : Int32) (y2 : Int32) (k : Int32 → Int32 → zM → Option (Int32 × zM)) : Nat → Int32 → Int32 → Int32 → zM → Option (Int32 × zM)
  | 0, _, _, _, _ => none
  | n + 1, v3, v4, v5, M => zlt ((1 : Int32) <<< ((M 88 (0)) &&& 31)) (fun x12 => if x12 ≤ v5 then (k v3 v4 M) else (zbv (fX8_carry 88 90 M) (fun M15 => zbv (fX8_opens_ v5 M15) (fun M18 => fX8_sluices_69 y1 y2 v3 v4 v5 (fun x26 M27 => zbi (fX8_areAllPaid M27) (fun r28 M29 => if r28 = 0 then (zbv (fX8_carry 90 88 M29) (fun M33 => zlt (v5 + (1 : Int32)) (fun x35 => fX8_sluices_33 y1 y2 k n v3 v4 x35 M33))) else (if v3 = (-1 : Int32) then (zbv (fX8_carry 90 88 M29) (fun M38 => zlt (v5 + (1 : Int32)) (fun x40 => fX8_sluices_33 y1 y2 k n v5 x26 x40 M38))) else (if v4 ≤ x26 then (zbv (fX8_carry 90 88 M29) (fun M43 => zlt (v5 + (1 : Int32)) (fun x45 => fX8_sluices_33 y1 y2 k n v3 v4 x45 M43))) else (zbv (fX8_carry 90 88 M29) (fun M47 => zlt (v5 + (1 : Int32)) (fun x49 => fX8_sluices_33 y1 y2 k n v5 x26 x49 M47))))))) zF (0 : Int32) (0 : Int32) M18))))
set_option maxRecDepth 100000 in
set_option maxHeartbeats 4000000 in
theorem lX8_sluices_33 {p : Program} {l : Launch} {e : Env} {s : State} {m : MethodId} {args : Array Value} {below : List Frame} {meth : Method} {c : Code} {D : va_G} {cy : Nat → ClassId} {a : Nat → Nat} {r0 : Int32} {M0 : zM} (X : zCX p s m meth c args cX8_sluices 8 (some .int) RX8) (y1 : Int32) (y2 : Int32) (k : Int32 → Int32 → zM → Option (Int32 × zM)) : ∀ (n : Nat) (v3 : Int32) (v4 : Int32) (v5 : Int32) (M : zM) (H : Heap) (locs : List Loc) (ls : Array Slot), zWD D cy a (zfr a s.heap.size) M H locs s → lv_has ls 8 [(0, .ref (a 87)), (1, .int y1), (2, .int y2), (3, .int v3), (4, .int v4), (5, .int v5)] → fX8_sluices_33 y1 y2 k n v3 v4 v5 M = some (r0, M0) →
    (∀ (u3 : Int32) (u4 : Int32) (M' : zM) (H' : Heap) (locs' : List Loc) (ls' : Array Slot), zWD D cy a (zfr a s.heap.size) M' H' locs' s → lv_has ls' 8 [(0, .ref (a 87)), (2, .int y2), (3, .int u3), (4, .int u4)] → k u3 u4 M' = some (r0, M0) → W p l e (zRm 6 140) s m args below meth c H' locs' 0 0 (zQi D cy a s args below r0 M0) (F0 m 137 ls' [])) →
    W p l e (zRm 6 140) s m args below meth c H locs 0 0 (zQi D cy a s args below r0 M0) (F0 m 33 ls []) := by
  obtain ⟨hx, hb, hr, hml, hown, hW, hlocks⟩ := id X
  have hcs : 0 ≤ ((zRm 6 140)).cells ∧ 0 ≤ ((zRm 6 140)).slots := ⟨Nat.zero_le _, Nat.zero_le _⟩
  intro n
  induction n with
  | zero =>
    intro v3 v4 v5 M H locs ls hw hl h hk
    cases h
  | succ n ih =>
    intro v3 v4 v5 M H locs ls hw hl h hk
    have hE := hw.2.2.2.2.1
    rw [fX8_sluices_33] at h
    refine lv_iload hx hb dX8_sluices_33 (lv_at hl 5 rfl) ?_
    refine lv_iconst (v := 1) hx hb dX8_sluices_35 (by decide) ?_
    refine lv_aload_n hx hb dX8_sluices_36 rfl (lv_at hl 0 rfl) ?_
    refine gtX8_7 X hw dX8_sluices_37 ?_
    refine lv_iconst (v := 0) hx hb dX8_sluices_40 (by decide) ?_
    refine z_aldK (k := 0) X hw zI_88 (by decide) (by decide) (by decide) dX8_sluices_41 ?_
    refine lv_ishl hx hb dX8_sluices_42 ?_
    refine lv_topi (fun x12 ex12 => ?_)
    replace h := zlt_s ex12 h
    refine lv_icmp_ge (tgt := 137) hx hb dX8_sluices_43 (by decide) (fun c13 => ?_) (fun c13 => ?_)
    · replace h := zif_t c13 h
      exact hk v3 v4 M H locs _ hw (lv_sub hl [0, 2, 3, 4] rfl) h
    · replace h := zif_f c13 h
      refine lv_aload_n hx hb dX8_sluices_46 rfl (lv_at hl 0 rfl) ?_
      refine gtX8_7 X hw dX8_sluices_47 ?_
      refine lv_aload_n hx hb dX8_sluices_50 rfl (lv_at hl 0 rfl) ?_
      refine gtX8_16 X hw dX8_sluices_51 ?_
      obtain ⟨M15, f16, h⟩ := zbv_e h
      refine z_qSv (As := [.ref (a 88), .ref (a 90)]) (rest := []) X hw (kX8_carry l D cy a 88 zI_88 90 zI_90 M M15 f16) (cwX8_226 X.2.2.2.2.2.1 rfl rfl (zroomO (Nat.le_of_ble_eq_true rfl) (Nat.le_of_ble_eq_true rfl))) rfl rfl (Nat.le_of_ble_eq_true rfl) hl.1 hcs dX8_sluices_54 (fun H locs hw => ?_)
      refine lv_aload_n hx hb dX8_sluices_57 rfl (lv_at hl 0 rfl) ?_
      refine lv_iload hx hb dX8_sluices_58 (lv_at hl 5 rfl) ?_
      obtain ⟨M18, f19, h⟩ := zbv_e h
      refine z_qVv (As := [.int v5]) (rest := []) X hw (kX8_opens_ l D cy a v5 M15 M18 f19) (cwX8_230 X.2.2.2.2.2.1 rfl rfl (zroomO (Nat.le_of_ble_eq_true rfl) (Nat.le_of_ble_eq_true rfl))) (zX8_lt (rfl : zX8 87)) (zS8 (rfl : zX8 87) cy a (M15 87)) rfl rfl rfl (Nat.le_of_ble_eq_true rfl) hl.1 hcs dX8_sluices_60 (fun H locs hw => ?_)
      refine lv_iconst (v := 0) hx hb dX8_sluices_63 (by decide) ?_
      refine lv_istore (lv' := [(6, .int (0 : Int32)), (0, .ref (a 87)), (1, .int y1), (2, .int y2), (3, .int v3), (4, .int v4), (5, .int v5)]) hx hb dX8_sluices_64 hl (by decide) rfl (fun ls hl => ?_)
      refine lv_iconst (v := 0) hx hb dX8_sluices_66 (by decide) ?_
      refine lv_istore (lv' := [(7, .int (0 : Int32)), (6, .int (0 : Int32)), (0, .ref (a 87)), (1, .int y1), (2, .int y2), (3, .int v3), (4, .int v4), (5, .int v5)]) hx hb dX8_sluices_67 hl (by decide) rfl (fun ls hl => ?_)
      refine lX8_sluices_69 X y1 y2 v3 v4 v5 _ zF (0 : Int32) (0 : Int32) M18 H locs _ hw (lv_sub hl [2, 3, 4, 5, 6, 7, 1, 0] rfl) h (fun x26 M27 H locs ls hw hl h => ?_)
      refine lv_aload_n hx hb dX8_sluices_94 rfl (lv_at hl 0 rfl) ?_
      obtain ⟨r28, M29, f30, h⟩ := zbi_e h
      refine z_qVi (As := []) (rest := []) X hw (kX8_areAllPaid l D cy a M27 r28 M29 f30) (cwX8_232 X.2.2.2.2.2.1 rfl rfl (zroomO (Nat.le_of_ble_eq_true rfl) (Nat.le_of_ble_eq_true rfl))) (zX8_lt (rfl : zX8 87)) (zS8 (rfl : zX8 87) cy a (M27 87)) rfl rfl rfl (Nat.le_of_ble_eq_true rfl) hl.1 hcs dX8_sluices_95 (fun H locs hw => ?_)
      refine lv_if_eq (tgt := 120) hx hb dX8_sluices_98 (by decide) (fun c31 => ?_) (fun c31 => ?_)
      · replace h := zif_t c31 h
        refine lv_aload_n hx hb dX8_sluices_120 rfl (lv_at hl 0 rfl) ?_
        refine gtX8_16 X hw dX8_sluices_121 ?_
        refine lv_aload_n hx hb dX8_sluices_124 rfl (lv_at hl 0 rfl) ?_
        refine gtX8_7 X hw dX8_sluices_125 ?_
        obtain ⟨M33, f34, h⟩ := zbv_e h
        refine z_qSv (As := [.ref (a 90), .ref (a 88)]) (rest := []) X hw (kX8_carry l D cy a 90 zI_90 88 zI_88 M29 M33 f34) (cwX8_226 X.2.2.2.2.2.1 rfl rfl (zroomO (Nat.le_of_ble_eq_true rfl) (Nat.le_of_ble_eq_true rfl))) rfl rfl (Nat.le_of_ble_eq_true rfl) hl.1 hcs dX8_sluices_128 (fun H locs hw => ?_)
        obtain ⟨x35, ex35⟩ : ∃ y : Int32, y = v5 + (1 : Int32) := ⟨_, rfl⟩
        replace h := zlt_s ex35 h
        refine lv_iinc (v := x35) (lv' := [(5, .int x35), (0, .ref (a 87)), (1, .int y1), (2, .int y2), (3, .int v3), (4, .int v4), (6, .int x26)]) hx hb dX8_sluices_131 hl (k := 5) rfl (by rw [ex35]; rfl) (by decide) rfl (fun ls hl => ?_)
        refine lv_goto (tgt := 33) hx hb dX8_sluices_134 (by decide) ?_
        exact ih v3 v4 x35 M33 H locs _ hw (lv_sub hl [1, 2, 3, 4, 5, 0] rfl) h hk
      · replace h := zif_f c31 h
        refine lv_iload_n hx hb dX8_sluices_101 rfl (lv_at hl 3 rfl) ?_
        refine lv_iconst (v := (-1)) hx hb dX8_sluices_102 (by decide) ?_
        refine lv_icmp_eq (tgt := 113) hx hb dX8_sluices_103 (by decide) (fun c36 => ?_) (fun c36 => ?_)
        · replace h := zif_t c36 h
          refine lv_iload hx hb dX8_sluices_113 (lv_at hl 5 rfl) ?_
          refine lv_istore_n (lv' := [(3, .int v5), (0, .ref (a 87)), (1, .int y1), (2, .int y2), (4, .int v4), (5, .int v5), (6, .int x26)]) hx hb dX8_sluices_115 rfl hl (by decide) rfl (fun ls hl => ?_)
          refine lv_iload hx hb dX8_sluices_116 (lv_at hl 6 rfl) ?_
          refine lv_istore (lv' := [(4, .int x26), (3, .int v5), (0, .ref (a 87)), (1, .int y1), (2, .int y2), (5, .int v5), (6, .int x26)]) hx hb dX8_sluices_118 hl (by decide) rfl (fun ls hl => ?_)
          refine lv_aload_n hx hb dX8_sluices_120 rfl (lv_at hl 2 rfl) ?_
          refine gtX8_16 X hw dX8_sluices_121 ?_
          refine lv_aload_n hx hb dX8_sluices_124 rfl (lv_at hl 2 rfl) ?_
          refine gtX8_7 X hw dX8_sluices_125 ?_
          obtain ⟨M38, f39, h⟩ := zbv_e h
          refine z_qSv (As := [.ref (a 90), .ref (a 88)]) (rest := []) X hw (kX8_carry l D cy a 90 zI_90 88 zI_88 M29 M38 f39) (cwX8_226 X.2.2.2.2.2.1 rfl rfl (zroomO (Nat.le_of_ble_eq_true rfl) (Nat.le_of_ble_eq_true rfl))) rfl rfl (Nat.le_of_ble_eq_true rfl) hl.1 hcs dX8_sluices_128 (fun H locs hw => ?_)
          obtain ⟨x40, ex40⟩ : ∃ y : Int32, y = v5 + (1 : Int32) := ⟨_, rfl⟩
          replace h := zlt_s ex40 h
          refine lv_iinc (v := x40) (lv' := [(5, .int x40), (4, .int x26), (3, .int v5), (0, .ref (a 87)), (1, .int y1), (2, .int y2), (6, .int x26)]) hx hb dX8_sluices_131 hl (k := 5) rfl (by rw [ex40]; rfl) (by decide) rfl (fun ls hl => ?_)
          refine lv_goto (tgt := 33) hx hb dX8_sluices_134 (by decide) ?_
          exact ih v5 x26 x40 M38 H locs _ hw (lv_sub hl [3, 4, 5, 2, 1, 0] rfl) h hk
        · replace h := zif_f c36 h
          refine lv_iload hx hb dX8_sluices_106 (lv_at hl 6 rfl) ?_
          refine lv_iload hx hb dX8_sluices_108 (lv_at hl 4 rfl) ?_
          refine lv_icmp_ge (tgt := 120) hx hb dX8_sluices_110 (by decide) (fun c41 => ?_) (fun c41 => ?_)
          · replace h := zif_t c41 h
            refine lv_aload_n hx hb dX8_sluices_120 rfl (lv_at hl 0 rfl) ?_
            refine gtX8_16 X hw dX8_sluices_121 ?_
            refine lv_aload_n hx hb dX8_sluices_124 rfl (lv_at hl 0 rfl) ?_
            refine gtX8_7 X hw dX8_sluices_125 ?_
            obtain ⟨M43, f44, h⟩ := zbv_e h
            refine z_qSv (As := [.ref (a 90), .ref (a 88)]) (rest := []) X hw (kX8_carry l D cy a 90 zI_90 88 zI_88 M29 M43 f44) (cwX8_226 X.2.2.2.2.2.1 rfl rfl (zroomO (Nat.le_of_ble_eq_true rfl) (Nat.le_of_ble_eq_true rfl))) rfl rfl (Nat.le_of_ble_eq_true rfl) hl.1 hcs dX8_sluices_128 (fun H locs hw => ?_)
            obtain ⟨x45, ex45⟩ : ∃ y : Int32, y = v5 + (1 : Int32) := ⟨_, rfl⟩
            replace h := zlt_s ex45 h
            refine lv_iinc (v := x45) (lv' := [(5, .int x45), (0, .ref (a 87)), (1, .int y1), (2, .int y2), (3, .int v3), (4, .int v4), (6, .int x26)]) hx hb dX8_sluices_131 hl (k := 5) rfl (by rw [ex45]; rfl) (by decide) rfl (fun ls hl => ?_)
            refine lv_goto (tgt := 33) hx hb dX8_sluices_134 (by decide) ?_
            exact ih v3 v4 x45 M43 H locs _ hw (lv_sub hl [1, 2, 3, 4, 5, 0] rfl) h hk
          · replace h := zif_f c41 h
            refine lv_iload hx hb dX8_sluices_113 (lv_at hl 5 rfl) ?_
            refine lv_istore_n (lv' := [(3, .int v5), (0, .ref (a 87)), (1, .int y1), (2, .int y2), (4, .int v4), (5, .int v5), (6, .int x26)]) hx hb dX8_sluices_115 rfl hl (by decide) rfl (fun ls hl => ?_)
            refine lv_iload hx hb dX8_sluices_116 (lv_at hl 6 rfl) ?_
            refine lv_istore (lv' := [(4, .int x26), (3, .int v5), (0, .ref (a 87)), (1, .int y1), (2, .int y2), (5, .int v5), (6, .int x26)]) hx hb dX8_sluices_118 hl (by decide) rfl (fun ls hl => ?_)
            refine lv_aload_n hx hb dX8_sluices_120 rfl (lv_at hl 2 rfl) ?_
            refine gtX8_16 X hw dX8_sluices_121 ?_
            refine lv_aload_n hx hb dX8_sluices_124 rfl (lv_at hl 2 rfl) ?_
            refine gtX8_7 X hw dX8_sluices_125 ?_
            obtain ⟨M47, f48, h⟩ := zbv_e h
            refine z_qSv (As := [.ref (a 90), .ref (a 88)]) (rest := []) X hw (kX8_carry l D cy a 90 zI_90 88 zI_88 M29 M47 f48) (cwX8_226 X.2.2.2.2.2.1 rfl rfl (zroomO (Nat.le_of_ble_eq_true rfl) (Nat.le_of_ble_eq_true rfl))) rfl rfl (Nat.le_of_ble_eq_true rfl) hl.1 hcs dX8_sluices_128 (fun H locs hw => ?_)
            obtain ⟨x49, ex49⟩ : ∃ y : Int32, y = v5 + (1 : Int32) := ⟨_, rfl⟩
            replace h := zlt_s ex49 h
            refine lv_iinc (v := x49) (lv' := [(5, .int x49), (4, .int x26), (3, .int v5), (0, .ref (a 87)), (1, .int y1), (2, .int y2), (6, .int x26)]) hx hb dX8_sluices_131 hl (k := 5) rfl (by rw [ex49]; rfl) (by decide) rfl (fun ls hl => ?_)
            refine lv_goto (tgt := 33) hx hb dX8_sluices_134 (by decide) ?_
            exact ih v5 x26 x49 M47 H locs _ hw (lv_sub hl [3, 4, 5, 2, 1, 0] rfl) h hk
def fX8_sluices (p0 : Int32) (p1 : Int32) (M : zM) : Option (Int32 × zM) := zbi (fX8_in p0 (1 : Int32) (6 : Int32) M) (fun r1 M2 => if r1 = 0 then (zbi (fX8_error (1 : Int32) M2) (fun r5 M6 => some (r5, M6))) else (zbi (fX8_in p1 (0 : Int32) (1 : Int32) M2) (fun r8 M9 => if r8 = 0 then (zbi (fX8_error (1 : Int32) M9) (fun r58 M59 => some (r58, M59))) else (fX8_sluices_33 p0 p1 (fun x50 x51 M52 => if x50 = (-1 : Int32) then (zbi (fX8_error (2 : Int32) M52) (fun r55 M56 => some (r55, M56))) else (if p1 = 0 then (some (x50, M52)) else (some (x51, M52)))) zF (-1 : Int32) (0 : Int32) (0 : Int32) M9))))
set_option maxRecDepth 100000 in
set_option maxHeartbeats 4000000 in
theorem kX8_sluices (l : Launch) (D : va_G) (cy : Nat → ClassId) (a : Nat → Nat) (p0 : Int32) (p1 : Int32) (M : zM) (r0 : Int32) (M0 : zM) (h : fX8_sluices p0 p1 M = some (r0, M0)) : zCi l D cy a yX8_sluices cX8_sluices 8 (some .int) (zRm 6 140) [.ref (a 87), .int p0, .int p1] M (fun r u => r = r0 ∧ u = M0) := by
  intro sz
  refine zent_i sz (by decide) (Nat.le_of_ble_eq_true rfl) rfl (fun p e s m args below meth c ls H locs X hw hl => ?_)
  obtain ⟨hx, hb, hr, hml, hown, hW, hlocks⟩ := id X
  have hE := hw.2.2.2.2.1
  have hcs : 0 ≤ ((zRm 6 140)).cells ∧ 0 ≤ ((zRm 6 140)).slots := ⟨Nat.zero_le _, Nat.zero_le _⟩
  rw [fX8_sluices] at h
  refine lv_iload_n hx hb dX8_sluices_0 rfl (lv_at hl 1 rfl) ?_
  refine lv_iconst (v := 1) hx hb dX8_sluices_1 (by decide) ?_
  refine lv_bipush (v := 6) hx hb dX8_sluices_2 (by decide) ?_
  obtain ⟨r1, M2, f3, h⟩ := zbi_e h
  refine z_qSi (As := [.int p0, .int (1 : Int32), .int (6 : Int32)]) (rest := []) X hw (kX8_in l D cy a p0 (1 : Int32) (6 : Int32) M r1 M2 f3) (cwX8_56 X.2.2.2.2.2.1 rfl rfl (zroomO (Nat.le_of_ble_eq_true rfl) (Nat.le_of_ble_eq_true rfl))) rfl rfl (Nat.le_of_ble_eq_true rfl) hl.1 hcs dX8_sluices_4 (fun H locs hw => ?_)
  refine lv_if_eq (tgt := 19) hx hb dX8_sluices_7 (by decide) (fun c4 => ?_) (fun c4 => ?_)
  · replace h := zif_t c4 h
    refine lv_aload_n hx hb dX8_sluices_19 rfl (lv_at hl 0 rfl) ?_
    refine lv_iconst (v := 1) hx hb dX8_sluices_20 (by decide) ?_
    obtain ⟨r5, M6, f7, h⟩ := zbi_e h
    refine z_qVi (As := [.int (1 : Int32)]) (rest := []) X hw (kX8_error l D cy a (1 : Int32) M2 r5 M6 f7) (cwX8_76 X.2.2.2.2.2.1 rfl rfl (zroomO (Nat.le_of_ble_eq_true rfl) (Nat.le_of_ble_eq_true rfl))) (zX8_lt (rfl : zX8 87)) (zS8 (rfl : zX8 87) cy a (M2 87)) rfl rfl rfl (Nat.le_of_ble_eq_true rfl) hl.1 hcs dX8_sluices_21 (fun H locs hw => ?_)
    exact z_ri X hw (zret h) dX8_sluices_24
  · replace h := zif_f c4 h
    refine lv_iload_n hx hb dX8_sluices_10 rfl (lv_at hl 2 rfl) ?_
    refine lv_iconst (v := 0) hx hb dX8_sluices_11 (by decide) ?_
    refine lv_iconst (v := 1) hx hb dX8_sluices_12 (by decide) ?_
    obtain ⟨r8, M9, f10, h⟩ := zbi_e h
    refine z_qSi (As := [.int p1, .int (0 : Int32), .int (1 : Int32)]) (rest := []) X hw (kX8_in l D cy a p1 (0 : Int32) (1 : Int32) M2 r8 M9 f10) (cwX8_56 X.2.2.2.2.2.1 rfl rfl (zroomO (Nat.le_of_ble_eq_true rfl) (Nat.le_of_ble_eq_true rfl))) rfl rfl (Nat.le_of_ble_eq_true rfl) hl.1 hcs dX8_sluices_13 (fun H locs hw => ?_)
    refine lv_if_ne (tgt := 25) hx hb dX8_sluices_16 (by decide) (fun c11 => ?_) (fun c11 => ?_)
    · replace h := zif_f c11 h
      refine lv_iconst (v := (-1)) hx hb dX8_sluices_25 (by decide) ?_
      refine lv_istore_n (lv' := [(3, .int (-1 : Int32)), (0, .ref (a 87)), (1, .int p0), (2, .int p1)]) hx hb dX8_sluices_26 rfl hl (by decide) rfl (fun ls hl => ?_)
      refine lv_iconst (v := 0) hx hb dX8_sluices_27 (by decide) ?_
      refine lv_istore (lv' := [(4, .int (0 : Int32)), (3, .int (-1 : Int32)), (0, .ref (a 87)), (1, .int p0), (2, .int p1)]) hx hb dX8_sluices_28 hl (by decide) rfl (fun ls hl => ?_)
      refine lv_iconst (v := 0) hx hb dX8_sluices_30 (by decide) ?_
      refine lv_istore (lv' := [(5, .int (0 : Int32)), (4, .int (0 : Int32)), (3, .int (-1 : Int32)), (0, .ref (a 87)), (1, .int p0), (2, .int p1)]) hx hb dX8_sluices_31 hl (by decide) rfl (fun ls hl => ?_)
      refine lX8_sluices_33 X p0 p1 _ zF (-1 : Int32) (0 : Int32) (0 : Int32) M9 H locs _ hw (lv_sub hl [3, 4, 5, 2, 1, 0] rfl) h (fun x50 x51 M52 H locs ls hw hl h => ?_)
      refine lv_iload_n hx hb dX8_sluices_137 rfl (lv_at hl 2 rfl) ?_
      refine lv_iconst (v := (-1)) hx hb dX8_sluices_138 (by decide) ?_
      refine lv_icmp_ne (tgt := 150) hx hb dX8_sluices_139 (by decide) (fun c53 => ?_) (fun c53 => ?_)
      · replace h := zif_f c53 h
        refine lv_iload_n hx hb dX8_sluices_150 rfl (lv_at hl 1 rfl) ?_
        refine lv_if_ne (tgt := 158) hx hb dX8_sluices_151 (by decide) (fun c54 => ?_) (fun c54 => ?_)
        · replace h := zif_f c54 h
          refine lv_iload hx hb dX8_sluices_158 (lv_at hl 3 rfl) ?_
          exact z_ri X hw (zret h) dX8_sluices_160
        · replace h := zif_t c54 h
          refine lv_iload_n hx hb dX8_sluices_154 rfl (lv_at hl 2 rfl) ?_
          refine lv_goto (tgt := 160) hx hb dX8_sluices_155 (by decide) ?_
          exact z_ri X hw (zret h) dX8_sluices_160
      · replace h := zif_t c53 h
        refine lv_aload_n hx hb dX8_sluices_142 rfl (lv_at hl 0 rfl) ?_
        refine lv_iconst (v := 2) hx hb dX8_sluices_143 (by decide) ?_
        obtain ⟨r55, M56, f57, h⟩ := zbi_e h
        refine z_qVi (As := [.int (2 : Int32)]) (rest := []) X hw (kX8_error l D cy a (2 : Int32) M52 r55 M56 f57) (cwX8_76 X.2.2.2.2.2.1 rfl rfl (zroomO (Nat.le_of_ble_eq_true rfl) (Nat.le_of_ble_eq_true rfl))) (zX8_lt (rfl : zX8 87)) (zS8 (rfl : zX8 87) cy a (M52 87)) rfl rfl rfl (Nat.le_of_ble_eq_true rfl) hl.1 hcs dX8_sluices_144 (fun H locs hw => ?_)
        refine lv_goto (tgt := 160) hx hb dX8_sluices_147 (by decide) ?_
        exact z_ri X hw (zret h) dX8_sluices_160
    · replace h := zif_t c11 h
      refine lv_aload_n hx hb dX8_sluices_19 rfl (lv_at hl 0 rfl) ?_
      refine lv_iconst (v := 1) hx hb dX8_sluices_20 (by decide) ?_
      obtain ⟨r58, M59, f60, h⟩ := zbi_e h
      refine z_qVi (As := [.int (1 : Int32)]) (rest := []) X hw (kX8_error l D cy a (1 : Int32) M9 r58 M59 f60) (cwX8_76 X.2.2.2.2.2.1 rfl rfl (zroomO (Nat.le_of_ble_eq_true rfl) (Nat.le_of_ble_eq_true rfl))) (zX8_lt (rfl : zX8 87)) (zS8 (rfl : zX8 87) cy a (M9 87)) rfl rfl rfl (Nat.le_of_ble_eq_true rfl) hl.1 hcs dX8_sluices_21 (fun H locs hw => ?_)
      exact z_ri X hw (zret h) dX8_sluices_24
def fX8_findTurns_24 (y1 : Int32) (y2 : Int32) (y3 : Int32) (k : zM → Option (zM)) : Nat → Int32 → zM → Option (zM)
  | 0, _, _ => none
  | n + 1, v4, M => if M 88 (0) ≤ v4 then (k  M) else (if y1 ≤ v4 then (zlt (zst M 87 17 ((M 87 17) + (0 : Int32))) (fun M9 => if y1 ≤ v4 then (zgd (v4 < 0 ∨ 9 ≤ v4.toNatClampNeg) (zlt (zst M9 87 18 ((M9 87 18) + (M9 97 (v4.toNatClampNeg)))) (fun M12 => zlt (v4 + (1 : Int32)) (fun x13 => fX8_findTurns_24 y1 y2 y3 k n x13 M12)))) else (zlt (zst M9 87 18 ((M9 87 18) + (0 : Int32))) (fun M14 => zlt (v4 + (1 : Int32)) (fun x15 => fX8_findTurns_24 y1 y2 y3 k n x15 M14))))) else (zgd (v4 < 0 ∨ 9 ≤ v4.toNatClampNeg) (zlt (zst M 87 17 ((M 87 17) + (M 97 (v4.toNatClampNeg)))) (fun M17 => if y1 ≤ v4 then (zgd (v4 < 0 ∨ 9 ≤ v4.toNatClampNeg) (zlt (zst M17 87 18 ((M17 87 18) + (M17 97 (v4.toNatClampNeg)))) (fun M20 => zlt (v4 + (1 : Int32)) (fun x21 => fX8_findTurns_24 y1 y2 y3 k n x21 M20)))) else (zlt (zst M17 87 18 ((M17 87 18) + (0 : Int32))) (fun M22 => zlt (v4 + (1 : Int32)) (fun x23 => fX8_findTurns_24 y1 y2 y3 k n x23 M22)))))))
set_option maxRecDepth 100000 in
set_option maxHeartbeats 4000000 in
theorem lX8_findTurns_24 {p : Program} {l : Launch} {e : Env} {s : State} {m : MethodId} {args : Array Value} {below : List Frame} {meth : Method} {c : Code} {D : va_G} {cy : Nat → ClassId} {a : Nat → Nat} {M0 : zM} (X : zCX p s m meth c args cX8_findTurns 5 none RX8) (y1 : Int32) (y2 : Int32) (y3 : Int32) (k : zM → Option (zM)) : ∀ (n : Nat) (v4 : Int32) (M : zM) (H : Heap) (locs : List Loc) (ls : Array Slot), zWD D cy a (zfr a s.heap.size) M H locs s → lv_has ls 5 [(0, .ref (a 87)), (1, .int y1), (2, .int y2), (3, .int y3), (4, .int v4)] → fX8_findTurns_24 y1 y2 y3 k n v4 M = some M0 →
    (∀ (M' : zM) (H' : Heap) (locs' : List Loc) (ls' : Array Slot), zWD D cy a (zfr a s.heap.size) M' H' locs' s → lv_has ls' 5 [(0, .ref (a 87)), (1, .int y1), (2, .int y2), (3, .int y3)] → k M' = some M0 → W p l e (zRm 6 140) s m args below meth c H' locs' 0 0 (zQv D cy a s args below M0) (F0 m 93 ls' [])) →
    W p l e (zRm 6 140) s m args below meth c H locs 0 0 (zQv D cy a s args below M0) (F0 m 24 ls []) := by
  obtain ⟨hx, hb, hr, hml, hown, hW, hlocks⟩ := id X
  have hcs : 0 ≤ ((zRm 6 140)).cells ∧ 0 ≤ ((zRm 6 140)).slots := ⟨Nat.zero_le _, Nat.zero_le _⟩
  intro n
  induction n with
  | zero =>
    intro v4 M H locs ls hw hl h hk
    cases h
  | succ n ih =>
    intro v4 M H locs ls hw hl h hk
    have hE := hw.2.2.2.2.1
    rw [fX8_findTurns_24] at h
    refine lv_iload hx hb dX8_findTurns_24 (lv_at hl 4 rfl) ?_
    refine lv_aload_n hx hb dX8_findTurns_26 rfl (lv_at hl 0 rfl) ?_
    refine gtX8_7 X hw dX8_findTurns_27 ?_
    refine lv_iconst (v := 0) hx hb dX8_findTurns_30 (by decide) ?_
    refine z_aldK (k := 0) X hw zI_88 (by decide) (by decide) (by decide) dX8_findTurns_31 ?_
    refine lv_icmp_ge (tgt := 93) hx hb dX8_findTurns_32 (by decide) (fun c7 => ?_) (fun c7 => ?_)
    · replace h := zif_t c7 h
      exact hk  M H locs _ hw (lv_sub hl [0, 1, 2, 3] rfl) h
    · replace h := zif_f c7 h
      refine lv_aload_n hx hb dX8_findTurns_35 rfl (lv_at hl 0 rfl) ?_
      refine lv_dup hx hb dX8_findTurns_36 rfl ?_
      refine gtX8_235 X hw dX8_findTurns_37 ?_
      refine lv_iload hx hb dX8_findTurns_40 (lv_at hl 4 rfl) ?_
      refine lv_iload_n hx hb dX8_findTurns_42 rfl (lv_at hl 1 rfl) ?_
      refine lv_icmp_ge (tgt := 56) hx hb dX8_findTurns_43 (by decide) (fun c8 => ?_) (fun c8 => ?_)
      · replace h := zif_t c8 h
        refine lv_iconst (v := 0) hx hb dX8_findTurns_56 (by decide) ?_
        refine lv_iadd hx hb dX8_findTurns_57 ?_
        refine ptX8_235 X hw dX8_findTurns_58 (fun M9 H locs eM9 hw => ?_)
        replace h := zlt_s eM9 h
        refine lv_aload_n hx hb dX8_findTurns_61 rfl (lv_at hl 0 rfl) ?_
        refine lv_dup hx hb dX8_findTurns_62 rfl ?_
        refine gtX8_238 X hw dX8_findTurns_63 ?_
        refine lv_iload hx hb dX8_findTurns_66 (lv_at hl 4 rfl) ?_
        refine lv_iload_n hx hb dX8_findTurns_68 rfl (lv_at hl 1 rfl) ?_
        refine lv_icmp_ge (tgt := 76) hx hb dX8_findTurns_69 (by decide) (fun c10 => ?_) (fun c10 => ?_)
        · replace h := zif_t c10 h
          refine lv_aload_n hx hb dX8_findTurns_76 rfl (lv_at hl 0 rfl) ?_
          refine gtX8_37 X hw dX8_findTurns_77 ?_
          refine lv_iload hx hb dX8_findTurns_80 (lv_at hl 4 rfl) ?_
          obtain ⟨g11, h⟩ := zgd_e h
          refine z_ald X hw zI_97 g11 dX8_findTurns_82 ?_
          refine lv_iadd hx hb dX8_findTurns_83 ?_
          refine ptX8_238 X hw dX8_findTurns_84 (fun M12 H locs eM12 hw => ?_)
          replace h := zlt_s eM12 h
          obtain ⟨x13, ex13⟩ : ∃ y : Int32, y = v4 + (1 : Int32) := ⟨_, rfl⟩
          replace h := zlt_s ex13 h
          refine lv_iinc (v := x13) (lv' := [(4, .int x13), (0, .ref (a 87)), (1, .int y1), (2, .int y2), (3, .int y3)]) hx hb dX8_findTurns_87 hl (k := 4) rfl (by rw [ex13]; rfl) (by decide) rfl (fun ls hl => ?_)
          refine lv_goto (tgt := 24) hx hb dX8_findTurns_90 (by decide) ?_
          exact ih x13 M12 H locs _ hw (lv_sub hl [1, 2, 3, 4, 0] rfl) h hk
        · replace h := zif_f c10 h
          refine lv_iconst (v := 0) hx hb dX8_findTurns_72 (by decide) ?_
          refine lv_goto (tgt := 83) hx hb dX8_findTurns_73 (by decide) ?_
          refine lv_iadd hx hb dX8_findTurns_83 ?_
          refine ptX8_238 X hw dX8_findTurns_84 (fun M14 H locs eM14 hw => ?_)
          replace h := zlt_s eM14 h
          obtain ⟨x15, ex15⟩ : ∃ y : Int32, y = v4 + (1 : Int32) := ⟨_, rfl⟩
          replace h := zlt_s ex15 h
          refine lv_iinc (v := x15) (lv' := [(4, .int x15), (0, .ref (a 87)), (1, .int y1), (2, .int y2), (3, .int y3)]) hx hb dX8_findTurns_87 hl (k := 4) rfl (by rw [ex15]; rfl) (by decide) rfl (fun ls hl => ?_)
          refine lv_goto (tgt := 24) hx hb dX8_findTurns_90 (by decide) ?_
          exact ih x15 M14 H locs _ hw (lv_sub hl [1, 2, 3, 4, 0] rfl) h hk
      · replace h := zif_f c8 h
        refine lv_aload_n hx hb dX8_findTurns_46 rfl (lv_at hl 0 rfl) ?_
        refine gtX8_37 X hw dX8_findTurns_47 ?_
        refine lv_iload hx hb dX8_findTurns_50 (lv_at hl 4 rfl) ?_
        obtain ⟨g16, h⟩ := zgd_e h
        refine z_ald X hw zI_97 g16 dX8_findTurns_52 ?_
        refine lv_goto (tgt := 57) hx hb dX8_findTurns_53 (by decide) ?_
        refine lv_iadd hx hb dX8_findTurns_57 ?_
        refine ptX8_235 X hw dX8_findTurns_58 (fun M17 H locs eM17 hw => ?_)
        replace h := zlt_s eM17 h
        refine lv_aload_n hx hb dX8_findTurns_61 rfl (lv_at hl 0 rfl) ?_
        refine lv_dup hx hb dX8_findTurns_62 rfl ?_
        refine gtX8_238 X hw dX8_findTurns_63 ?_
        refine lv_iload hx hb dX8_findTurns_66 (lv_at hl 4 rfl) ?_
        refine lv_iload_n hx hb dX8_findTurns_68 rfl (lv_at hl 1 rfl) ?_
        refine lv_icmp_ge (tgt := 76) hx hb dX8_findTurns_69 (by decide) (fun c18 => ?_) (fun c18 => ?_)
        · replace h := zif_t c18 h
          refine lv_aload_n hx hb dX8_findTurns_76 rfl (lv_at hl 0 rfl) ?_
          refine gtX8_37 X hw dX8_findTurns_77 ?_
          refine lv_iload hx hb dX8_findTurns_80 (lv_at hl 4 rfl) ?_
          obtain ⟨g19, h⟩ := zgd_e h
          refine z_ald X hw zI_97 g19 dX8_findTurns_82 ?_
          refine lv_iadd hx hb dX8_findTurns_83 ?_
          refine ptX8_238 X hw dX8_findTurns_84 (fun M20 H locs eM20 hw => ?_)
          replace h := zlt_s eM20 h
          obtain ⟨x21, ex21⟩ : ∃ y : Int32, y = v4 + (1 : Int32) := ⟨_, rfl⟩
          replace h := zlt_s ex21 h
          refine lv_iinc (v := x21) (lv' := [(4, .int x21), (0, .ref (a 87)), (1, .int y1), (2, .int y2), (3, .int y3)]) hx hb dX8_findTurns_87 hl (k := 4) rfl (by rw [ex21]; rfl) (by decide) rfl (fun ls hl => ?_)
          refine lv_goto (tgt := 24) hx hb dX8_findTurns_90 (by decide) ?_
          exact ih x21 M20 H locs _ hw (lv_sub hl [1, 2, 3, 4, 0] rfl) h hk
        · replace h := zif_f c18 h
          refine lv_iconst (v := 0) hx hb dX8_findTurns_72 (by decide) ?_
          refine lv_goto (tgt := 83) hx hb dX8_findTurns_73 (by decide) ?_
          refine lv_iadd hx hb dX8_findTurns_83 ?_
          refine ptX8_238 X hw dX8_findTurns_84 (fun M22 H locs eM22 hw => ?_)
          replace h := zlt_s eM22 h
          obtain ⟨x23, ex23⟩ : ∃ y : Int32, y = v4 + (1 : Int32) := ⟨_, rfl⟩
          replace h := zlt_s ex23 h
          refine lv_iinc (v := x23) (lv' := [(4, .int x23), (0, .ref (a 87)), (1, .int y1), (2, .int y2), (3, .int y3)]) hx hb dX8_findTurns_87 hl (k := 4) rfl (by rw [ex23]; rfl) (by decide) rfl (fun ls hl => ?_)
          refine lv_goto (tgt := 24) hx hb dX8_findTurns_90 (by decide) ?_
          exact ih x23 M22 H locs _ hw (lv_sub hl [1, 2, 3, 4, 0] rfl) h hk
def fX8_findTurns_12 (y1 : Int32) (y2 : Int32) (k : zM → Option (zM)) : Nat → Int32 → zM → Option (zM)
  | 0, _, _ => none
  | n + 1, v3, M => if y2 ≤ v3 then (k  M) else (zbv (fX8_hour M) (fun M5 => fX8_findTurns_24 y1 y2 v3 (fun  M24 => zlt (v3 + (1 : Int32)) (fun x25 => fX8_findTurns_12 y1 y2 k n x25 M24)) zF (0 : Int32) M5))
set_option maxRecDepth 100000 in
set_option maxHeartbeats 4000000 in
theorem lX8_findTurns_12 {p : Program} {l : Launch} {e : Env} {s : State} {m : MethodId} {args : Array Value} {below : List Frame} {meth : Method} {c : Code} {D : va_G} {cy : Nat → ClassId} {a : Nat → Nat} {M0 : zM} (X : zCX p s m meth c args cX8_findTurns 5 none RX8) (y1 : Int32) (y2 : Int32) (k : zM → Option (zM)) : ∀ (n : Nat) (v3 : Int32) (M : zM) (H : Heap) (locs : List Loc) (ls : Array Slot), zWD D cy a (zfr a s.heap.size) M H locs s → lv_has ls 5 [(0, .ref (a 87)), (1, .int y1), (2, .int y2), (3, .int v3)] → fX8_findTurns_12 y1 y2 k n v3 M = some M0 →
    (∀ (M' : zM) (H' : Heap) (locs' : List Loc) (ls' : Array Slot), zWD D cy a (zfr a s.heap.size) M' H' locs' s → lv_has ls' 5 [(0, .ref (a 87))] → k M' = some M0 → W p l e (zRm 6 140) s m args below meth c H' locs' 0 0 (zQv D cy a s args below M0) (F0 m 99 ls' [])) →
    W p l e (zRm 6 140) s m args below meth c H locs 0 0 (zQv D cy a s args below M0) (F0 m 12 ls []) := by
  obtain ⟨hx, hb, hr, hml, hown, hW, hlocks⟩ := id X
  have hcs : 0 ≤ ((zRm 6 140)).cells ∧ 0 ≤ ((zRm 6 140)).slots := ⟨Nat.zero_le _, Nat.zero_le _⟩
  intro n
  induction n with
  | zero =>
    intro v3 M H locs ls hw hl h hk
    cases h
  | succ n ih =>
    intro v3 M H locs ls hw hl h hk
    have hE := hw.2.2.2.2.1
    rw [fX8_findTurns_12] at h
    refine lv_iload_n hx hb dX8_findTurns_12 rfl (lv_at hl 3 rfl) ?_
    refine lv_iload_n hx hb dX8_findTurns_13 rfl (lv_at hl 2 rfl) ?_
    refine lv_icmp_ge (tgt := 99) hx hb dX8_findTurns_14 (by decide) (fun c3 => ?_) (fun c3 => ?_)
    · replace h := zif_t c3 h
      exact hk  M H locs _ hw (lv_sub hl [0] rfl) h
    · replace h := zif_f c3 h
      refine lv_aload_n hx hb dX8_findTurns_17 rfl (lv_at hl 0 rfl) ?_
      obtain ⟨M5, f6, h⟩ := zbv_e h
      refine z_qVv (As := []) (rest := []) X hw (kX8_hour l D cy a M M5 f6) (cwX8_209 X.2.2.2.2.2.1 rfl rfl (zroomO (Nat.le_of_ble_eq_true rfl) (Nat.le_of_ble_eq_true rfl))) (zX8_lt (rfl : zX8 87)) (zS8 (rfl : zX8 87) cy a (M 87)) rfl rfl rfl (Nat.le_of_ble_eq_true rfl) hl.1 hcs dX8_findTurns_18 (fun H locs hw => ?_)
      refine lv_iconst (v := 0) hx hb dX8_findTurns_21 (by decide) ?_
      refine lv_istore (lv' := [(4, .int (0 : Int32)), (0, .ref (a 87)), (1, .int y1), (2, .int y2), (3, .int v3)]) hx hb dX8_findTurns_22 hl (by decide) rfl (fun ls hl => ?_)
      refine lX8_findTurns_24 X y1 y2 v3 _ zF (0 : Int32) M5 H locs _ hw (lv_sub hl [1, 2, 3, 4, 0] rfl) h (fun  M24 H locs ls hw hl h => ?_)
      obtain ⟨x25, ex25⟩ : ∃ y : Int32, y = v3 + (1 : Int32) := ⟨_, rfl⟩
      replace h := zlt_s ex25 h
      refine lv_iinc (v := x25) (lv' := [(3, .int x25), (0, .ref (a 87)), (1, .int y1), (2, .int y2)]) hx hb dX8_findTurns_93 hl (k := 3) rfl (by rw [ex25]; rfl) (by decide) rfl (fun ls hl => ?_)
      refine lv_goto (tgt := 12) hx hb dX8_findTurns_96 (by decide) ?_
      exact ih x25 M24 H locs _ hw (lv_sub hl [1, 2, 3, 0] rfl) h hk
def fX8_findTurns (p0 : Int32) (p1 : Int32) (M : zM) : Option (zM) := zlt (zst M 87 17 (0 : Int32)) (fun M1 => zlt (zst M1 87 18 (0 : Int32)) (fun M2 => fX8_findTurns_12 p0 p1 (fun  M26 => zbv (fX8_carry 90 88 M26) (fun M28 => some M28)) zF (0 : Int32) M2))
set_option maxRecDepth 100000 in
set_option maxHeartbeats 4000000 in
theorem kX8_findTurns (l : Launch) (D : va_G) (cy : Nat → ClassId) (a : Nat → Nat) (p0 : Int32) (p1 : Int32) (M : zM) (M0 : zM) (h : fX8_findTurns p0 p1 M = some M0) : zCv l D cy a yX8_findTurns cX8_findTurns 5 (zRm 6 140) [.ref (a 87), .int p0, .int p1] M (fun u => u = M0) := by
  intro sz
  refine zent_v sz (by decide) (Nat.le_of_ble_eq_true rfl) rfl (fun p e s m args below meth c ls H locs X hw hl => ?_)
  obtain ⟨hx, hb, hr, hml, hown, hW, hlocks⟩ := id X
  have hE := hw.2.2.2.2.1
  have hcs : 0 ≤ ((zRm 6 140)).cells ∧ 0 ≤ ((zRm 6 140)).slots := ⟨Nat.zero_le _, Nat.zero_le _⟩
  rw [fX8_findTurns] at h
  refine lv_aload_n hx hb dX8_findTurns_0 rfl (lv_at hl 0 rfl) ?_
  refine lv_iconst (v := 0) hx hb dX8_findTurns_1 (by decide) ?_
  refine ptX8_235 X hw dX8_findTurns_2 (fun M1 H locs eM1 hw => ?_)
  replace h := zlt_s eM1 h
  refine lv_aload_n hx hb dX8_findTurns_5 rfl (lv_at hl 0 rfl) ?_
  refine lv_iconst (v := 0) hx hb dX8_findTurns_6 (by decide) ?_
  refine ptX8_238 X hw dX8_findTurns_7 (fun M2 H locs eM2 hw => ?_)
  replace h := zlt_s eM2 h
  refine lv_iconst (v := 0) hx hb dX8_findTurns_10 (by decide) ?_
  refine lv_istore_n (lv' := [(3, .int (0 : Int32)), (0, .ref (a 87)), (1, .int p0), (2, .int p1)]) hx hb dX8_findTurns_11 rfl hl (by decide) rfl (fun ls hl => ?_)
  refine lX8_findTurns_12 X p0 p1 _ zF (0 : Int32) M2 H locs _ hw (lv_sub hl [1, 2, 3, 0] rfl) h (fun  M26 H locs ls hw hl h => ?_)
  refine lv_aload_n hx hb dX8_findTurns_99 rfl (lv_at hl 0 rfl) ?_
  refine gtX8_16 X hw dX8_findTurns_100 ?_
  refine lv_aload_n hx hb dX8_findTurns_103 rfl (lv_at hl 0 rfl) ?_
  refine gtX8_7 X hw dX8_findTurns_104 ?_
  obtain ⟨M28, f29, h⟩ := zbv_e h
  refine z_qSv (As := [.ref (a 90), .ref (a 88)]) (rest := []) X hw (kX8_carry l D cy a 90 zI_90 88 zI_88 M26 M28 f29) (cwX8_226 X.2.2.2.2.2.1 rfl rfl (zroomO (Nat.le_of_ble_eq_true rfl) (Nat.le_of_ble_eq_true rfl))) rfl rfl (Nat.le_of_ble_eq_true rfl) hl.1 hcs dX8_findTurns_107 (fun H locs hw => ?_)
  exact z_rv X hw (zretv h) dX8_findTurns_110
def fX8_isTold (p0 : Int32) (p1 : Int32) (M : zM) : Option (Int32 × zM) := zbi (fX8_in p0 (0 : Int32) (69 : Int32) M) (fun r1 M2 => if r1 = 0 then (some ((0 : Int32), M2)) else (zbi (fX8_in p1 (1 : Int32) (48 : Int32) M2) (fun r5 M6 => if r5 = 0 then (some ((0 : Int32), M6)) else (some ((1 : Int32), M6)))))
set_option maxRecDepth 100000 in
set_option maxHeartbeats 4000000 in
theorem kX8_isTold (l : Launch) (D : va_G) (cy : Nat → ClassId) (a : Nat → Nat) (p0 : Int32) (p1 : Int32) (M : zM) (r0 : Int32) (M0 : zM) (h : fX8_isTold p0 p1 M = some (r0, M0)) : zCi l D cy a yX8_isTold cX8_isTold 3 (some .boolean) (zRm 1 22) [.ref (a 87), .int p0, .int p1] M (fun r u => r = r0 ∧ u = M0) := by
  intro sz
  refine zent_i sz (by decide) (Nat.le_of_ble_eq_true rfl) rfl (fun p e s m args below meth c ls H locs X hw hl => ?_)
  obtain ⟨hx, hb, hr, hml, hown, hW, hlocks⟩ := id X
  have hE := hw.2.2.2.2.1
  have hcs : 0 ≤ ((zRm 1 22)).cells ∧ 0 ≤ ((zRm 1 22)).slots := ⟨Nat.zero_le _, Nat.zero_le _⟩
  rw [fX8_isTold] at h
  refine lv_iload_n hx hb dX8_isTold_0 rfl (lv_at hl 1 rfl) ?_
  refine lv_iconst (v := 0) hx hb dX8_isTold_1 (by decide) ?_
  refine lv_bipush (v := 69) hx hb dX8_isTold_2 (by decide) ?_
  obtain ⟨r1, M2, f3, h⟩ := zbi_e h
  refine z_qSi (As := [.int p0, .int (0 : Int32), .int (69 : Int32)]) (rest := []) X hw (kX8_in l D cy a p0 (0 : Int32) (69 : Int32) M r1 M2 f3) (cwX8_56 X.2.2.2.2.2.1 rfl rfl (zroomO (Nat.le_of_ble_eq_true rfl) (Nat.le_of_ble_eq_true rfl))) rfl rfl (Nat.le_of_ble_eq_true rfl) hl.1 hcs dX8_isTold_4 (fun H locs hw => ?_)
  refine lv_if_eq (tgt := 24) hx hb dX8_isTold_7 (by decide) (fun c4 => ?_) (fun c4 => ?_)
  · replace h := zif_t c4 h
    refine lv_iconst (v := 0) hx hb dX8_isTold_24 (by decide) ?_
    exact z_rz X hw (Or.inl rfl) (zret h) dX8_isTold_25
  · replace h := zif_f c4 h
    refine lv_iload_n hx hb dX8_isTold_10 rfl (lv_at hl 2 rfl) ?_
    refine lv_iconst (v := 1) hx hb dX8_isTold_11 (by decide) ?_
    refine lv_bipush (v := 48) hx hb dX8_isTold_12 (by decide) ?_
    obtain ⟨r5, M6, f7, h⟩ := zbi_e h
    refine z_qSi (As := [.int p1, .int (1 : Int32), .int (48 : Int32)]) (rest := []) X hw (kX8_in l D cy a p1 (1 : Int32) (48 : Int32) M2 r5 M6 f7) (cwX8_56 X.2.2.2.2.2.1 rfl rfl (zroomO (Nat.le_of_ble_eq_true rfl) (Nat.le_of_ble_eq_true rfl))) rfl rfl (Nat.le_of_ble_eq_true rfl) hl.1 hcs dX8_isTold_14 (fun H locs hw => ?_)
    refine lv_if_eq (tgt := 24) hx hb dX8_isTold_17 (by decide) (fun c8 => ?_) (fun c8 => ?_)
    · replace h := zif_t c8 h
      refine lv_iconst (v := 0) hx hb dX8_isTold_24 (by decide) ?_
      exact z_rz X hw (Or.inl rfl) (zret h) dX8_isTold_25
    · replace h := zif_f c8 h
      refine lv_iconst (v := 1) hx hb dX8_isTold_20 (by decide) ?_
      refine lv_goto (tgt := 25) hx hb dX8_isTold_21 (by decide) ?_
      exact z_rz X hw (Or.inr rfl) (zret h) dX8_isTold_25
def fX8_fewer (p0 : Int32) (p1 : Int32) (p2 : Int32) (M : zM) : Option (Int32 × zM) := zbi (fX8_isTold p0 p2 M) (fun r1 M2 => if r1 = 0 then (zbi (fX8_error (1 : Int32) M2) (fun r5 M6 => some (r5, M6))) else (zbi (fX8_isPlace p1 M2) (fun r8 M9 => if r8 = 0 then (zbi (fX8_error (1 : Int32) M9) (fun r30 M31 => some (r30, M31))) else (if M9 88 (0) = (8 : Int32) then (zbi (fX8_error (4 : Int32) M9) (fun r27 M28 => some (r27, M28))) else (zlt (M9 88 (0)) (fun x13 => zbv (fX8_carry 88 90 M9) (fun M15 => zbv (fX8_findTurns x13 p2 M15) (fun M18 => zlt (M18 87 17) (fun x20 => zbi (fX8_adds p0 ((10 : Int32) * p1) M18) (fun r21 M22 => zbv (fX8_findTurns x13 p2 M22) (fun M25 => some (x20 - (M25 87 17), M25))))))))))))
set_option maxRecDepth 100000 in
set_option maxHeartbeats 4000000 in
theorem kX8_fewer (l : Launch) (D : va_G) (cy : Nat → ClassId) (a : Nat → Nat) (p0 : Int32) (p1 : Int32) (p2 : Int32) (M : zM) (r0 : Int32) (M0 : zM) (h : fX8_fewer p0 p1 p2 M = some (r0, M0)) : zCi l D cy a yX8_fewer cX8_fewer 7 (some .int) (zRm 7 164) [.ref (a 87), .int p0, .int p1, .int p2] M (fun r u => r = r0 ∧ u = M0) := by
  intro sz
  refine zent_i sz (by decide) (Nat.le_of_ble_eq_true rfl) rfl (fun p e s m args below meth c ls H locs X hw hl => ?_)
  obtain ⟨hx, hb, hr, hml, hown, hW, hlocks⟩ := id X
  have hE := hw.2.2.2.2.1
  have hcs : 0 ≤ ((zRm 7 164)).cells ∧ 0 ≤ ((zRm 7 164)).slots := ⟨Nat.zero_le _, Nat.zero_le _⟩
  rw [fX8_fewer] at h
  refine lv_aload_n hx hb dX8_fewer_0 rfl (lv_at hl 0 rfl) ?_
  refine lv_iload_n hx hb dX8_fewer_1 rfl (lv_at hl 1 rfl) ?_
  refine lv_iload_n hx hb dX8_fewer_2 rfl (lv_at hl 3 rfl) ?_
  obtain ⟨r1, M2, f3, h⟩ := zbi_e h
  refine z_qVi (As := [.int p0, .int p2]) (rest := []) X hw (kX8_isTold l D cy a p0 p2 M r1 M2 f3) (cwX8_241 X.2.2.2.2.2.1 rfl rfl (zroomO (Nat.le_of_ble_eq_true rfl) (Nat.le_of_ble_eq_true rfl))) (zX8_lt (rfl : zX8 87)) (zS8 (rfl : zX8 87) cy a (M 87)) rfl rfl rfl (Nat.le_of_ble_eq_true rfl) hl.1 hcs dX8_fewer_3 (fun H locs hw => ?_)
  refine lv_if_eq (tgt := 16) hx hb dX8_fewer_6 (by decide) (fun c4 => ?_) (fun c4 => ?_)
  · replace h := zif_t c4 h
    refine lv_aload_n hx hb dX8_fewer_16 rfl (lv_at hl 0 rfl) ?_
    refine lv_iconst (v := 1) hx hb dX8_fewer_17 (by decide) ?_
    obtain ⟨r5, M6, f7, h⟩ := zbi_e h
    refine z_qVi (As := [.int (1 : Int32)]) (rest := []) X hw (kX8_error l D cy a (1 : Int32) M2 r5 M6 f7) (cwX8_76 X.2.2.2.2.2.1 rfl rfl (zroomO (Nat.le_of_ble_eq_true rfl) (Nat.le_of_ble_eq_true rfl))) (zX8_lt (rfl : zX8 87)) (zS8 (rfl : zX8 87) cy a (M2 87)) rfl rfl rfl (Nat.le_of_ble_eq_true rfl) hl.1 hcs dX8_fewer_18 (fun H locs hw => ?_)
    exact z_ri X hw (zret h) dX8_fewer_21
  · replace h := zif_f c4 h
    refine lv_iload_n hx hb dX8_fewer_9 rfl (lv_at hl 2 rfl) ?_
    obtain ⟨r8, M9, f10, h⟩ := zbi_e h
    refine z_qSi (As := [.int p1]) (rest := []) X hw (kX8_isPlace l D cy a p1 M2 r8 M9 f10) (cwX8_79 X.2.2.2.2.2.1 rfl rfl (zroomO (Nat.le_of_ble_eq_true rfl) (Nat.le_of_ble_eq_true rfl))) rfl rfl (Nat.le_of_ble_eq_true rfl) hl.1 hcs dX8_fewer_10 (fun H locs hw => ?_)
    refine lv_if_ne (tgt := 22) hx hb dX8_fewer_13 (by decide) (fun c11 => ?_) (fun c11 => ?_)
    · replace h := zif_f c11 h
      refine lv_aload_n hx hb dX8_fewer_22 rfl (lv_at hl 0 rfl) ?_
      refine gtX8_7 X hw dX8_fewer_23 ?_
      refine lv_iconst (v := 0) hx hb dX8_fewer_26 (by decide) ?_
      refine z_aldK (k := 0) X hw zI_88 (by decide) (by decide) (by decide) dX8_fewer_27 ?_
      refine lv_bipush (v := 8) hx hb dX8_fewer_28 (by decide) ?_
      refine lv_icmp_ne (tgt := 39) hx hb dX8_fewer_30 (by decide) (fun c12 => ?_) (fun c12 => ?_)
      · replace h := zif_f c12 h
        refine lv_aload_n hx hb dX8_fewer_39 rfl (lv_at hl 0 rfl) ?_
        refine gtX8_7 X hw dX8_fewer_40 ?_
        refine lv_iconst (v := 0) hx hb dX8_fewer_43 (by decide) ?_
        refine z_aldK (k := 0) X hw zI_88 (by decide) (by decide) (by decide) dX8_fewer_44 ?_
        refine lv_topi (fun x13 ex13 => ?_)
        replace h := zlt_s ex13 h
        refine lv_istore (lv' := [(4, .int x13), (0, .ref (a 87)), (1, .int p0), (2, .int p1), (3, .int p2)]) hx hb dX8_fewer_45 hl (by decide) rfl (fun ls hl => ?_)
        refine lv_aload_n hx hb dX8_fewer_47 rfl (lv_at hl 1 rfl) ?_
        refine gtX8_7 X hw dX8_fewer_48 ?_
        refine lv_aload_n hx hb dX8_fewer_51 rfl (lv_at hl 1 rfl) ?_
        refine gtX8_16 X hw dX8_fewer_52 ?_
        obtain ⟨M15, f16, h⟩ := zbv_e h
        refine z_qSv (As := [.ref (a 88), .ref (a 90)]) (rest := []) X hw (kX8_carry l D cy a 88 zI_88 90 zI_90 M9 M15 f16) (cwX8_226 X.2.2.2.2.2.1 rfl rfl (zroomO (Nat.le_of_ble_eq_true rfl) (Nat.le_of_ble_eq_true rfl))) rfl rfl (Nat.le_of_ble_eq_true rfl) hl.1 hcs dX8_fewer_55 (fun H locs hw => ?_)
        refine lv_aload_n hx hb dX8_fewer_58 rfl (lv_at hl 1 rfl) ?_
        refine lv_iload hx hb dX8_fewer_59 (lv_at hl 0 rfl) ?_
        refine lv_iload_n hx hb dX8_fewer_61 rfl (lv_at hl 4 rfl) ?_
        obtain ⟨M18, f19, h⟩ := zbv_e h
        refine z_qVv (As := [.int x13, .int p2]) (rest := []) X hw (kX8_findTurns l D cy a x13 p2 M15 M18 f19) (cwX8_244 X.2.2.2.2.2.1 rfl rfl (zroomO (Nat.le_of_ble_eq_true rfl) (Nat.le_of_ble_eq_true rfl))) (zX8_lt (rfl : zX8 87)) (zS8 (rfl : zX8 87) cy a (M15 87)) rfl rfl rfl (Nat.le_of_ble_eq_true rfl) hl.1 hcs dX8_fewer_62 (fun H locs hw => ?_)
        refine lv_aload_n hx hb dX8_fewer_65 rfl (lv_at hl 1 rfl) ?_
        refine gtX8_235 X hw dX8_fewer_66 ?_
        refine lv_topi (fun x20 ex20 => ?_)
        replace h := zlt_s ex20 h
        refine lv_istore (lv' := [(5, .int x20), (4, .int x13), (0, .ref (a 87)), (1, .int p0), (2, .int p1), (3, .int p2)]) hx hb dX8_fewer_69 hl (by decide) rfl (fun ls hl => ?_)
        refine lv_aload_n hx hb dX8_fewer_71 rfl (lv_at hl 2 rfl) ?_
        refine lv_iload_n hx hb dX8_fewer_72 rfl (lv_at hl 3 rfl) ?_
        refine lv_bipush (v := 10) hx hb dX8_fewer_73 (by decide) ?_
        refine lv_iload_n hx hb dX8_fewer_75 rfl (lv_at hl 4 rfl) ?_
        refine lv_imul hx hb dX8_fewer_76 ?_
        obtain ⟨r21, M22, f23, h⟩ := zbi_e h
        refine z_qVi (As := [.int p0, .int ((10 : Int32) * p1)]) (rest := []) X hw (kX8_adds l D cy a p0 ((10 : Int32) * p1) M18 r21 M22 f23) (cwX8_100 X.2.2.2.2.2.1 rfl rfl (zroomO (Nat.le_of_ble_eq_true rfl) (Nat.le_of_ble_eq_true rfl))) (zX8_lt (rfl : zX8 87)) (zS8 (rfl : zX8 87) cy a (M18 87)) rfl rfl rfl (Nat.le_of_ble_eq_true rfl) hl.1 hcs dX8_fewer_77 (fun H locs hw => ?_)
        refine lv_istore (lv' := [(6, .int r21), (5, .int x20), (4, .int x13), (0, .ref (a 87)), (1, .int p0), (2, .int p1), (3, .int p2)]) hx hb dX8_fewer_80 hl (by decide) rfl (fun ls hl => ?_)
        refine lv_aload_n hx hb dX8_fewer_82 rfl (lv_at hl 3 rfl) ?_
        refine lv_iload hx hb dX8_fewer_83 (lv_at hl 2 rfl) ?_
        refine lv_iload_n hx hb dX8_fewer_85 rfl (lv_at hl 6 rfl) ?_
        obtain ⟨M25, f26, h⟩ := zbv_e h
        refine z_qVv (As := [.int x13, .int p2]) (rest := []) X hw (kX8_findTurns l D cy a x13 p2 M22 M25 f26) (cwX8_244 X.2.2.2.2.2.1 rfl rfl (zroomO (Nat.le_of_ble_eq_true rfl) (Nat.le_of_ble_eq_true rfl))) (zX8_lt (rfl : zX8 87)) (zS8 (rfl : zX8 87) cy a (M22 87)) rfl rfl rfl (Nat.le_of_ble_eq_true rfl) hl.1 hcs dX8_fewer_86 (fun H locs hw => ?_)
        refine lv_iload hx hb dX8_fewer_89 (lv_at hl 1 rfl) ?_
        refine lv_aload_n hx hb dX8_fewer_91 rfl (lv_at hl 3 rfl) ?_
        refine gtX8_235 X hw dX8_fewer_92 ?_
        refine lv_isub hx hb dX8_fewer_95 ?_
        exact z_ri X hw (zret h) dX8_fewer_96
      · replace h := zif_t c12 h
        refine lv_aload_n hx hb dX8_fewer_33 rfl (lv_at hl 0 rfl) ?_
        refine lv_iconst (v := 4) hx hb dX8_fewer_34 (by decide) ?_
        obtain ⟨r27, M28, f29, h⟩ := zbi_e h
        refine z_qVi (As := [.int (4 : Int32)]) (rest := []) X hw (kX8_error l D cy a (4 : Int32) M9 r27 M28 f29) (cwX8_76 X.2.2.2.2.2.1 rfl rfl (zroomO (Nat.le_of_ble_eq_true rfl) (Nat.le_of_ble_eq_true rfl))) (zX8_lt (rfl : zX8 87)) (zS8 (rfl : zX8 87) cy a (M9 87)) rfl rfl rfl (Nat.le_of_ble_eq_true rfl) hl.1 hcs dX8_fewer_35 (fun H locs hw => ?_)
        exact z_ri X hw (zret h) dX8_fewer_38
    · replace h := zif_t c11 h
      refine lv_aload_n hx hb dX8_fewer_16 rfl (lv_at hl 0 rfl) ?_
      refine lv_iconst (v := 1) hx hb dX8_fewer_17 (by decide) ?_
      obtain ⟨r30, M31, f32, h⟩ := zbi_e h
      refine z_qVi (As := [.int (1 : Int32)]) (rest := []) X hw (kX8_error l D cy a (1 : Int32) M9 r30 M31 f32) (cwX8_76 X.2.2.2.2.2.1 rfl rfl (zroomO (Nat.le_of_ble_eq_true rfl) (Nat.le_of_ble_eq_true rfl))) (zX8_lt (rfl : zX8 87)) (zS8 (rfl : zX8 87) cy a (M9 87)) rfl rfl rfl (Nat.le_of_ble_eq_true rfl) hl.1 hcs dX8_fewer_18 (fun H locs hw => ?_)
      exact z_ri X hw (zret h) dX8_fewer_21
def fX8_bestPlace_59 (y1 : Int32) (y2 : Int32) (y3 : Int32) (k : Int32 → zM → Option (Int32 × zM)) : Nat → Int32 → Int32 → Int32 → zM → Option (Int32 × zM)
  | 0, _, _, _, _ => none
  | n + 1, v4, v5, v6, M => if (12 : Int32) ≤ v6 then (k v4 M) else (zbi (fX8_adds y1 ((10 : Int32) * v6) M) (fun r11 M12 => zbv (fX8_findTurns y3 y2 M12) (fun M15 => if M15 87 18 ≤ v5 then (if M15 87 18 ≤ v5 then (zlt (v6 + (1 : Int32)) (fun x19 => fX8_bestPlace_59 y1 y2 y3 k n v4 v5 x19 M15)) else (zlt (M15 87 18) (fun x20 => zlt (v6 + (1 : Int32)) (fun x21 => fX8_bestPlace_59 y1 y2 y3 k n v4 x20 x21 M15)))) else (if M15 87 18 ≤ v5 then (zlt (v6 + (1 : Int32)) (fun x23 => fX8_bestPlace_59 y1 y2 y3 k n v6 v5 x23 M15)) else (zlt (M15 87 18) (fun x24 => zlt (v6 + (1 : Int32)) (fun x25 => fX8_bestPlace_59 y1 y2 y3 k n v6 x24 x25 M15)))))))
set_option maxRecDepth 100000 in
set_option maxHeartbeats 4000000 in
theorem lX8_bestPlace_59 {p : Program} {l : Launch} {e : Env} {s : State} {m : MethodId} {args : Array Value} {below : List Frame} {meth : Method} {c : Code} {D : va_G} {cy : Nat → ClassId} {a : Nat → Nat} {r0 : Int32} {M0 : zM} (X : zCX p s m meth c args cX8_bestPlace 8 (some .int) RX8) (y1 : Int32) (y2 : Int32) (y3 : Int32) (k : Int32 → zM → Option (Int32 × zM)) : ∀ (n : Nat) (v4 : Int32) (v5 : Int32) (v6 : Int32) (M : zM) (H : Heap) (locs : List Loc) (ls : Array Slot), zWD D cy a (zfr a s.heap.size) M H locs s → lv_has ls 8 [(0, .ref (a 87)), (1, .int y1), (2, .int y2), (3, .int y3), (4, .int v4), (5, .int v5), (6, .int v6)] → fX8_bestPlace_59 y1 y2 y3 k n v4 v5 v6 M = some (r0, M0) →
    (∀ (u4 : Int32) (M' : zM) (H' : Heap) (locs' : List Loc) (ls' : Array Slot), zWD D cy a (zfr a s.heap.size) M' H' locs' s → lv_has ls' 8 [(4, .int u4)] → k u4 M' = some (r0, M0) → W p l e (zRm 7 164) s m args below meth c H' locs' 0 0 (zQi D cy a s args below r0 M0) (F0 m 128 ls' [])) →
    W p l e (zRm 7 164) s m args below meth c H locs 0 0 (zQi D cy a s args below r0 M0) (F0 m 59 ls []) := by
  obtain ⟨hx, hb, hr, hml, hown, hW, hlocks⟩ := id X
  have hcs : 0 ≤ ((zRm 7 164)).cells ∧ 0 ≤ ((zRm 7 164)).slots := ⟨Nat.zero_le _, Nat.zero_le _⟩
  intro n
  induction n with
  | zero =>
    intro v4 v5 v6 M H locs ls hw hl h hk
    cases h
  | succ n ih =>
    intro v4 v5 v6 M H locs ls hw hl h hk
    have hE := hw.2.2.2.2.1
    rw [fX8_bestPlace_59] at h
    refine lv_iload hx hb dX8_bestPlace_59 (lv_at hl 6 rfl) ?_
    refine lv_bipush (v := 12) hx hb dX8_bestPlace_61 (by decide) ?_
    refine lv_icmp_ge (tgt := 128) hx hb dX8_bestPlace_63 (by decide) (fun c10 => ?_) (fun c10 => ?_)
    · replace h := zif_t c10 h
      exact hk v4 M H locs _ hw (lv_sub hl [4] rfl) h
    · replace h := zif_f c10 h
      refine lv_aload_n hx hb dX8_bestPlace_66 rfl (lv_at hl 0 rfl) ?_
      refine lv_iload_n hx hb dX8_bestPlace_67 rfl (lv_at hl 1 rfl) ?_
      refine lv_bipush (v := 10) hx hb dX8_bestPlace_68 (by decide) ?_
      refine lv_iload hx hb dX8_bestPlace_70 (lv_at hl 6 rfl) ?_
      refine lv_imul hx hb dX8_bestPlace_72 ?_
      obtain ⟨r11, M12, f13, h⟩ := zbi_e h
      refine z_qVi (As := [.int y1, .int ((10 : Int32) * v6)]) (rest := []) X hw (kX8_adds l D cy a y1 ((10 : Int32) * v6) M r11 M12 f13) (cwX8_100 X.2.2.2.2.2.1 rfl rfl (zroomO (Nat.le_of_ble_eq_true rfl) (Nat.le_of_ble_eq_true rfl))) (zX8_lt (rfl : zX8 87)) (zS8 (rfl : zX8 87) cy a (M 87)) rfl rfl rfl (Nat.le_of_ble_eq_true rfl) hl.1 hcs dX8_bestPlace_73 (fun H locs hw => ?_)
      refine lv_istore (lv' := [(7, .int r11), (0, .ref (a 87)), (1, .int y1), (2, .int y2), (3, .int y3), (4, .int v4), (5, .int v5), (6, .int v6)]) hx hb dX8_bestPlace_76 hl (by decide) rfl (fun ls hl => ?_)
      refine lv_aload_n hx hb dX8_bestPlace_78 rfl (lv_at hl 1 rfl) ?_
      refine lv_iload_n hx hb dX8_bestPlace_79 rfl (lv_at hl 4 rfl) ?_
      refine lv_iload_n hx hb dX8_bestPlace_80 rfl (lv_at hl 3 rfl) ?_
      obtain ⟨M15, f16, h⟩ := zbv_e h
      refine z_qVv (As := [.int y3, .int y2]) (rest := []) X hw (kX8_findTurns l D cy a y3 y2 M12 M15 f16) (cwX8_244 X.2.2.2.2.2.1 rfl rfl (zroomO (Nat.le_of_ble_eq_true rfl) (Nat.le_of_ble_eq_true rfl))) (zX8_lt (rfl : zX8 87)) (zS8 (rfl : zX8 87) cy a (M12 87)) rfl rfl rfl (Nat.le_of_ble_eq_true rfl) hl.1 hcs dX8_bestPlace_81 (fun H locs hw => ?_)
      refine lv_aload_n hx hb dX8_bestPlace_84 rfl (lv_at hl 1 rfl) ?_
      refine gtX8_238 X hw dX8_bestPlace_85 ?_
      refine lv_iload hx hb dX8_bestPlace_88 (lv_at hl 6 rfl) ?_
      refine lv_icmp_le (tgt := 98) hx hb dX8_bestPlace_90 (by decide) (fun c17 => ?_) (fun c17 => ?_)
      · replace h := zif_t c17 h
        refine lv_iload hx hb dX8_bestPlace_98 (lv_at hl 5 rfl) ?_
        refine lv_istore (lv' := [(4, .int v4), (7, .int r11), (0, .ref (a 87)), (1, .int y1), (2, .int y2), (3, .int y3), (5, .int v5), (6, .int v6)]) hx hb dX8_bestPlace_100 hl (by decide) rfl (fun ls hl => ?_)
        refine lv_aload_n hx hb dX8_bestPlace_102 rfl (lv_at hl 2 rfl) ?_
        refine gtX8_238 X hw dX8_bestPlace_103 ?_
        refine lv_iload hx hb dX8_bestPlace_106 (lv_at hl 6 rfl) ?_
        refine lv_icmp_le (tgt := 118) hx hb dX8_bestPlace_108 (by decide) (fun c18 => ?_) (fun c18 => ?_)
        · replace h := zif_t c18 h
          refine lv_iload hx hb dX8_bestPlace_118 (lv_at hl 6 rfl) ?_
          refine lv_istore (lv' := [(5, .int v5), (4, .int v4), (7, .int r11), (0, .ref (a 87)), (1, .int y1), (2, .int y2), (3, .int y3), (6, .int v6)]) hx hb dX8_bestPlace_120 hl (by decide) rfl (fun ls hl => ?_)
          obtain ⟨x19, ex19⟩ : ∃ y : Int32, y = v6 + (1 : Int32) := ⟨_, rfl⟩
          replace h := zlt_s ex19 h
          refine lv_iinc (v := x19) (lv' := [(6, .int x19), (5, .int v5), (4, .int v4), (7, .int r11), (0, .ref (a 87)), (1, .int y1), (2, .int y2), (3, .int y3)]) hx hb dX8_bestPlace_122 hl (k := 7) rfl (by rw [ex19]; rfl) (by decide) rfl (fun ls hl => ?_)
          refine lv_goto (tgt := 59) hx hb dX8_bestPlace_125 (by decide) ?_
          exact ih v4 v5 x19 M15 H locs _ hw (lv_sub hl [4, 5, 6, 7, 2, 1, 0] rfl) h hk
        · replace h := zif_f c18 h
          refine lv_aload_n hx hb dX8_bestPlace_111 rfl (lv_at hl 2 rfl) ?_
          refine gtX8_238 X hw dX8_bestPlace_112 ?_
          refine lv_goto (tgt := 120) hx hb dX8_bestPlace_115 (by decide) ?_
          refine lv_topi (fun x20 ex20 => ?_)
          replace h := zlt_s ex20 h
          refine lv_istore (lv' := [(5, .int x20), (4, .int v4), (7, .int r11), (0, .ref (a 87)), (1, .int y1), (2, .int y2), (3, .int y3), (6, .int v6)]) hx hb dX8_bestPlace_120 hl (by decide) rfl (fun ls hl => ?_)
          obtain ⟨x21, ex21⟩ : ∃ y : Int32, y = v6 + (1 : Int32) := ⟨_, rfl⟩
          replace h := zlt_s ex21 h
          refine lv_iinc (v := x21) (lv' := [(6, .int x21), (5, .int x20), (4, .int v4), (7, .int r11), (0, .ref (a 87)), (1, .int y1), (2, .int y2), (3, .int y3)]) hx hb dX8_bestPlace_122 hl (k := 7) rfl (by rw [ex21]; rfl) (by decide) rfl (fun ls hl => ?_)
          refine lv_goto (tgt := 59) hx hb dX8_bestPlace_125 (by decide) ?_
          exact ih v4 x20 x21 M15 H locs _ hw (lv_sub hl [4, 5, 6, 7, 2, 1, 0] rfl) h hk
      · replace h := zif_f c17 h
        refine lv_iload hx hb dX8_bestPlace_93 (lv_at hl 7 rfl) ?_
        refine lv_goto (tgt := 100) hx hb dX8_bestPlace_95 (by decide) ?_
        refine lv_istore (lv' := [(4, .int v6), (7, .int r11), (0, .ref (a 87)), (1, .int y1), (2, .int y2), (3, .int y3), (5, .int v5), (6, .int v6)]) hx hb dX8_bestPlace_100 hl (by decide) rfl (fun ls hl => ?_)
        refine lv_aload_n hx hb dX8_bestPlace_102 rfl (lv_at hl 2 rfl) ?_
        refine gtX8_238 X hw dX8_bestPlace_103 ?_
        refine lv_iload hx hb dX8_bestPlace_106 (lv_at hl 6 rfl) ?_
        refine lv_icmp_le (tgt := 118) hx hb dX8_bestPlace_108 (by decide) (fun c22 => ?_) (fun c22 => ?_)
        · replace h := zif_t c22 h
          refine lv_iload hx hb dX8_bestPlace_118 (lv_at hl 6 rfl) ?_
          refine lv_istore (lv' := [(5, .int v5), (4, .int v6), (7, .int r11), (0, .ref (a 87)), (1, .int y1), (2, .int y2), (3, .int y3), (6, .int v6)]) hx hb dX8_bestPlace_120 hl (by decide) rfl (fun ls hl => ?_)
          obtain ⟨x23, ex23⟩ : ∃ y : Int32, y = v6 + (1 : Int32) := ⟨_, rfl⟩
          replace h := zlt_s ex23 h
          refine lv_iinc (v := x23) (lv' := [(6, .int x23), (5, .int v5), (4, .int v6), (7, .int r11), (0, .ref (a 87)), (1, .int y1), (2, .int y2), (3, .int y3)]) hx hb dX8_bestPlace_122 hl (k := 7) rfl (by rw [ex23]; rfl) (by decide) rfl (fun ls hl => ?_)
          refine lv_goto (tgt := 59) hx hb dX8_bestPlace_125 (by decide) ?_
          exact ih v6 v5 x23 M15 H locs _ hw (lv_sub hl [4, 5, 6, 7, 2, 1, 0] rfl) h hk
        · replace h := zif_f c22 h
          refine lv_aload_n hx hb dX8_bestPlace_111 rfl (lv_at hl 2 rfl) ?_
          refine gtX8_238 X hw dX8_bestPlace_112 ?_
          refine lv_goto (tgt := 120) hx hb dX8_bestPlace_115 (by decide) ?_
          refine lv_topi (fun x24 ex24 => ?_)
          replace h := zlt_s ex24 h
          refine lv_istore (lv' := [(5, .int x24), (4, .int v6), (7, .int r11), (0, .ref (a 87)), (1, .int y1), (2, .int y2), (3, .int y3), (6, .int v6)]) hx hb dX8_bestPlace_120 hl (by decide) rfl (fun ls hl => ?_)
          obtain ⟨x25, ex25⟩ : ∃ y : Int32, y = v6 + (1 : Int32) := ⟨_, rfl⟩
          replace h := zlt_s ex25 h
          refine lv_iinc (v := x25) (lv' := [(6, .int x25), (5, .int x24), (4, .int v6), (7, .int r11), (0, .ref (a 87)), (1, .int y1), (2, .int y2), (3, .int y3)]) hx hb dX8_bestPlace_122 hl (k := 7) rfl (by rw [ex25]; rfl) (by decide) rfl (fun ls hl => ?_)
          refine lv_goto (tgt := 59) hx hb dX8_bestPlace_125 (by decide) ?_
          exact ih v6 x24 x25 M15 H locs _ hw (lv_sub hl [4, 5, 6, 7, 2, 1, 0] rfl) h hk
def fX8_bestPlace (p0 : Int32) (p1 : Int32) (M : zM) : Option (Int32 × zM) := zbi (fX8_isTold p0 p1 M) (fun r1 M2 => if r1 = 0 then (zbi (fX8_error (1 : Int32) M2) (fun r31 M32 => some (r31, M32))) else (if M2 88 (0) = (8 : Int32) then (zbi (fX8_error (4 : Int32) M2) (fun r28 M29 => some (r28, M29))) else (zlt (M2 88 (0)) (fun x6 => zbv (fX8_carry 88 90 M2) (fun M8 => fX8_bestPlace_59 p0 p1 x6 (fun x26 M27 => some (x26, M27)) zF (0 : Int32) (-1 : Int32) (0 : Int32) M8)))))
set_option maxRecDepth 100000 in
set_option maxHeartbeats 4000000 in
theorem kX8_bestPlace (l : Launch) (D : va_G) (cy : Nat → ClassId) (a : Nat → Nat) (p0 : Int32) (p1 : Int32) (M : zM) (r0 : Int32) (M0 : zM) (h : fX8_bestPlace p0 p1 M = some (r0, M0)) : zCi l D cy a yX8_bestPlace cX8_bestPlace 8 (some .int) (zRm 7 164) [.ref (a 87), .int p0, .int p1] M (fun r u => r = r0 ∧ u = M0) := by
  intro sz
  refine zent_i sz (by decide) (Nat.le_of_ble_eq_true rfl) rfl (fun p e s m args below meth c ls H locs X hw hl => ?_)
  obtain ⟨hx, hb, hr, hml, hown, hW, hlocks⟩ := id X
  have hE := hw.2.2.2.2.1
  have hcs : 0 ≤ ((zRm 7 164)).cells ∧ 0 ≤ ((zRm 7 164)).slots := ⟨Nat.zero_le _, Nat.zero_le _⟩
  rw [fX8_bestPlace] at h
  refine lv_aload_n hx hb dX8_bestPlace_0 rfl (lv_at hl 0 rfl) ?_
  refine lv_iload_n hx hb dX8_bestPlace_1 rfl (lv_at hl 1 rfl) ?_
  refine lv_iload_n hx hb dX8_bestPlace_2 rfl (lv_at hl 2 rfl) ?_
  obtain ⟨r1, M2, f3, h⟩ := zbi_e h
  refine z_qVi (As := [.int p0, .int p1]) (rest := []) X hw (kX8_isTold l D cy a p0 p1 M r1 M2 f3) (cwX8_241 X.2.2.2.2.2.1 rfl rfl (zroomO (Nat.le_of_ble_eq_true rfl) (Nat.le_of_ble_eq_true rfl))) (zX8_lt (rfl : zX8 87)) (zS8 (rfl : zX8 87) cy a (M 87)) rfl rfl rfl (Nat.le_of_ble_eq_true rfl) hl.1 hcs dX8_bestPlace_3 (fun H locs hw => ?_)
  refine lv_if_ne (tgt := 15) hx hb dX8_bestPlace_6 (by decide) (fun c4 => ?_) (fun c4 => ?_)
  · replace h := zif_f c4 h
    refine lv_aload_n hx hb dX8_bestPlace_15 rfl (lv_at hl 0 rfl) ?_
    refine gtX8_7 X hw dX8_bestPlace_16 ?_
    refine lv_iconst (v := 0) hx hb dX8_bestPlace_19 (by decide) ?_
    refine z_aldK (k := 0) X hw zI_88 (by decide) (by decide) (by decide) dX8_bestPlace_20 ?_
    refine lv_bipush (v := 8) hx hb dX8_bestPlace_21 (by decide) ?_
    refine lv_icmp_ne (tgt := 32) hx hb dX8_bestPlace_23 (by decide) (fun c5 => ?_) (fun c5 => ?_)
    · replace h := zif_f c5 h
      refine lv_aload_n hx hb dX8_bestPlace_32 rfl (lv_at hl 0 rfl) ?_
      refine gtX8_7 X hw dX8_bestPlace_33 ?_
      refine lv_iconst (v := 0) hx hb dX8_bestPlace_36 (by decide) ?_
      refine z_aldK (k := 0) X hw zI_88 (by decide) (by decide) (by decide) dX8_bestPlace_37 ?_
      refine lv_topi (fun x6 ex6 => ?_)
      replace h := zlt_s ex6 h
      refine lv_istore_n (lv' := [(3, .int x6), (0, .ref (a 87)), (1, .int p0), (2, .int p1)]) hx hb dX8_bestPlace_38 rfl hl (by decide) rfl (fun ls hl => ?_)
      refine lv_iconst (v := 0) hx hb dX8_bestPlace_39 (by decide) ?_
      refine lv_istore (lv' := [(4, .int (0 : Int32)), (3, .int x6), (0, .ref (a 87)), (1, .int p0), (2, .int p1)]) hx hb dX8_bestPlace_40 hl (by decide) rfl (fun ls hl => ?_)
      refine lv_iconst (v := (-1)) hx hb dX8_bestPlace_42 (by decide) ?_
      refine lv_istore (lv' := [(5, .int (-1 : Int32)), (4, .int (0 : Int32)), (3, .int x6), (0, .ref (a 87)), (1, .int p0), (2, .int p1)]) hx hb dX8_bestPlace_43 hl (by decide) rfl (fun ls hl => ?_)
      refine lv_aload_n hx hb dX8_bestPlace_45 rfl (lv_at hl 3 rfl) ?_
      refine gtX8_7 X hw dX8_bestPlace_46 ?_
      refine lv_aload_n hx hb dX8_bestPlace_49 rfl (lv_at hl 3 rfl) ?_
      refine gtX8_16 X hw dX8_bestPlace_50 ?_
      obtain ⟨M8, f9, h⟩ := zbv_e h
      refine z_qSv (As := [.ref (a 88), .ref (a 90)]) (rest := []) X hw (kX8_carry l D cy a 88 zI_88 90 zI_90 M2 M8 f9) (cwX8_226 X.2.2.2.2.2.1 rfl rfl (zroomO (Nat.le_of_ble_eq_true rfl) (Nat.le_of_ble_eq_true rfl))) rfl rfl (Nat.le_of_ble_eq_true rfl) hl.1 hcs dX8_bestPlace_53 (fun H locs hw => ?_)
      refine lv_iconst (v := 0) hx hb dX8_bestPlace_56 (by decide) ?_
      refine lv_istore (lv' := [(6, .int (0 : Int32)), (5, .int (-1 : Int32)), (4, .int (0 : Int32)), (3, .int x6), (0, .ref (a 87)), (1, .int p0), (2, .int p1)]) hx hb dX8_bestPlace_57 hl (by decide) rfl (fun ls hl => ?_)
      refine lX8_bestPlace_59 X p0 p1 x6 _ zF (0 : Int32) (-1 : Int32) (0 : Int32) M8 H locs _ hw (lv_sub hl [4, 5, 6, 3, 2, 1, 0] rfl) h (fun x26 M27 H locs ls hw hl h => ?_)
      refine lv_iload hx hb dX8_bestPlace_128 (lv_at hl 0 rfl) ?_
      exact z_ri X hw (zret h) dX8_bestPlace_130
    · replace h := zif_t c5 h
      refine lv_aload_n hx hb dX8_bestPlace_26 rfl (lv_at hl 0 rfl) ?_
      refine lv_iconst (v := 4) hx hb dX8_bestPlace_27 (by decide) ?_
      obtain ⟨r28, M29, f30, h⟩ := zbi_e h
      refine z_qVi (As := [.int (4 : Int32)]) (rest := []) X hw (kX8_error l D cy a (4 : Int32) M2 r28 M29 f30) (cwX8_76 X.2.2.2.2.2.1 rfl rfl (zroomO (Nat.le_of_ble_eq_true rfl) (Nat.le_of_ble_eq_true rfl))) (zX8_lt (rfl : zX8 87)) (zS8 (rfl : zX8 87) cy a (M2 87)) rfl rfl rfl (Nat.le_of_ble_eq_true rfl) hl.1 hcs dX8_bestPlace_28 (fun H locs hw => ?_)
      exact z_ri X hw (zret h) dX8_bestPlace_31
  · replace h := zif_t c4 h
    refine lv_aload_n hx hb dX8_bestPlace_9 rfl (lv_at hl 0 rfl) ?_
    refine lv_iconst (v := 1) hx hb dX8_bestPlace_10 (by decide) ?_
    obtain ⟨r31, M32, f33, h⟩ := zbi_e h
    refine z_qVi (As := [.int (1 : Int32)]) (rest := []) X hw (kX8_error l D cy a (1 : Int32) M2 r31 M32 f33) (cwX8_76 X.2.2.2.2.2.1 rfl rfl (zroomO (Nat.le_of_ble_eq_true rfl) (Nat.le_of_ble_eq_true rfl))) (zX8_lt (rfl : zX8 87)) (zS8 (rfl : zX8 87) cy a (M2 87)) rfl rfl rfl (Nat.le_of_ble_eq_true rfl) hl.1 hcs dX8_bestPlace_11 (fun H locs hw => ?_)
    exact z_ri X hw (zret h) dX8_bestPlace_14
def fX8_who_62 (y1 : Int32) (y2 : Int32) (y3 : Int32) (k : Int32 → Int32 → Int32 → Int32 → zM → Option (Int32 × zM)) : Nat → Int32 → Int32 → Int32 → Int32 → Int32 → zM → Option (Int32 × zM)
  | 0, _, _, _, _, _, _ => none
  | n + 1, v4, v5, v6, v7, v8, M => if y3 < v8 then (k v4 v5 v6 v7 M) else (zbv (fX8_opens_ v8 M) (fun M19 => zbv (fX8_flow M19) (fun M22 => if M22 95 (12) = y1 then (zlt (v4 + (1 : Int32)) (fun x26 => if v5 = (-1 : Int32) then (zlt (v6 &&& v8) (fun x31 => zlt (v7 ||| v8) (fun x32 => zlt (v8 + (1 : Int32)) (fun x33 => fX8_who_62 y1 y2 y3 k n x26 v8 x31 x32 x33 M22)))) else (zlt (v6 &&& v8) (fun x28 => zlt (v7 ||| v8) (fun x29 => zlt (v8 + (1 : Int32)) (fun x30 => fX8_who_62 y1 y2 y3 k n x26 v5 x28 x29 x30 M22)))))) else (zlt (v8 + (1 : Int32)) (fun x25 => fX8_who_62 y1 y2 y3 k n v4 v5 v6 v7 x25 M22)))))
set_option maxRecDepth 100000 in
set_option maxHeartbeats 4000000 in
theorem lX8_who_62 {p : Program} {l : Launch} {e : Env} {s : State} {m : MethodId} {args : Array Value} {below : List Frame} {meth : Method} {c : Code} {D : va_G} {cy : Nat → ClassId} {a : Nat → Nat} {r0 : Int32} {M0 : zM} (X : zCX p s m meth c args cX8_who 9 (some .int) RX8) (y1 : Int32) (y2 : Int32) (y3 : Int32) (k : Int32 → Int32 → Int32 → Int32 → zM → Option (Int32 × zM)) : ∀ (n : Nat) (v4 : Int32) (v5 : Int32) (v6 : Int32) (v7 : Int32) (v8 : Int32) (M : zM) (H : Heap) (locs : List Loc) (ls : Array Slot), zWD D cy a (zfr a s.heap.size) M H locs s → lv_has ls 9 [(0, .ref (a 87)), (1, .int y1), (2, .int y2), (3, .int y3), (4, .int v4), (5, .int v5), (6, .int v6), (7, .int v7), (8, .int v8)] → fX8_who_62 y1 y2 y3 k n v4 v5 v6 v7 v8 M = some (r0, M0) →
    (∀ (u4 : Int32) (u5 : Int32) (u6 : Int32) (u7 : Int32) (M' : zM) (H' : Heap) (locs' : List Loc) (ls' : Array Slot), zWD D cy a (zfr a s.heap.size) M' H' locs' s → lv_has ls' 9 [(0, .ref (a 87)), (2, .int y2), (4, .int u4), (5, .int u5), (6, .int u6), (7, .int u7)] → k u4 u5 u6 u7 M' = some (r0, M0) → W p l e (zRm 5 118) s m args below meth c H' locs' 0 0 (zQi D cy a s args below r0 M0) (F0 m 127 ls' [])) →
    W p l e (zRm 5 118) s m args below meth c H locs 0 0 (zQi D cy a s args below r0 M0) (F0 m 62 ls []) := by
  obtain ⟨hx, hb, hr, hml, hown, hW, hlocks⟩ := id X
  have hcs : 0 ≤ ((zRm 5 118)).cells ∧ 0 ≤ ((zRm 5 118)).slots := ⟨Nat.zero_le _, Nat.zero_le _⟩
  intro n
  induction n with
  | zero =>
    intro v4 v5 v6 v7 v8 M H locs ls hw hl h hk
    cases h
  | succ n ih =>
    intro v4 v5 v6 v7 v8 M H locs ls hw hl h hk
    have hE := hw.2.2.2.2.1
    rw [fX8_who_62] at h
    refine lv_iload hx hb dX8_who_62 (lv_at hl 8 rfl) ?_
    refine lv_iload_n hx hb dX8_who_64 rfl (lv_at hl 3 rfl) ?_
    refine lv_icmp_gt (tgt := 127) hx hb dX8_who_65 (by decide) (fun c17 => ?_) (fun c17 => ?_)
    · replace h := zif_t c17 h
      exact hk v4 v5 v6 v7 M H locs _ hw (lv_sub hl [0, 2, 4, 5, 6, 7] rfl) h
    · replace h := zif_f c17 h
      refine lv_aload_n hx hb dX8_who_68 rfl (lv_at hl 0 rfl) ?_
      refine lv_iload hx hb dX8_who_69 (lv_at hl 8 rfl) ?_
      obtain ⟨M19, f20, h⟩ := zbv_e h
      refine z_qVv (As := [.int v8]) (rest := []) X hw (kX8_opens_ l D cy a v8 M M19 f20) (cwX8_230 X.2.2.2.2.2.1 rfl rfl (zroomO (Nat.le_of_ble_eq_true rfl) (Nat.le_of_ble_eq_true rfl))) (zX8_lt (rfl : zX8 87)) (zS8 (rfl : zX8 87) cy a (M 87)) rfl rfl rfl (Nat.le_of_ble_eq_true rfl) hl.1 hcs dX8_who_71 (fun H locs hw => ?_)
      refine lv_aload_n hx hb dX8_who_74 rfl (lv_at hl 0 rfl) ?_
      obtain ⟨M22, f23, h⟩ := zbv_e h
      refine z_qVv (As := []) (rest := []) X hw (kX8_flow l D cy a M19 M22 f23) (cwX8_103 X.2.2.2.2.2.1 rfl rfl (zroomO (Nat.le_of_ble_eq_true rfl) (Nat.le_of_ble_eq_true rfl))) (zX8_lt (rfl : zX8 87)) (zS8 (rfl : zX8 87) cy a (M19 87)) rfl rfl rfl (Nat.le_of_ble_eq_true rfl) hl.1 hcs dX8_who_75 (fun H locs hw => ?_)
      refine lv_aload_n hx hb dX8_who_78 rfl (lv_at hl 0 rfl) ?_
      refine gtX8_31 X hw dX8_who_79 ?_
      refine lv_bipush (v := 12) hx hb dX8_who_82 (by decide) ?_
      refine z_aldK (k := 12) X hw zI_95 (by decide) (by decide) (by decide) dX8_who_84 ?_
      refine lv_iload_n hx hb dX8_who_85 rfl (lv_at hl 1 rfl) ?_
      refine lv_icmp_ne (tgt := 121) hx hb dX8_who_86 (by decide) (fun c24 => ?_) (fun c24 => ?_)
      · replace h := zif_f c24 h
        obtain ⟨x25, ex25⟩ : ∃ y : Int32, y = v8 + (1 : Int32) := ⟨_, rfl⟩
        replace h := zlt_s ex25 h
        refine lv_iinc (v := x25) (lv' := [(8, .int x25), (0, .ref (a 87)), (1, .int y1), (2, .int y2), (3, .int y3), (4, .int v4), (5, .int v5), (6, .int v6), (7, .int v7)]) hx hb dX8_who_121 hl (k := 8) rfl (by rw [ex25]; rfl) (by decide) rfl (fun ls hl => ?_)
        refine lv_goto (tgt := 62) hx hb dX8_who_124 (by decide) ?_
        exact ih v4 v5 v6 v7 x25 M22 H locs _ hw (lv_sub hl [1, 2, 3, 4, 5, 6, 7, 8, 0] rfl) h hk
      · replace h := zif_t c24 h
        obtain ⟨x26, ex26⟩ : ∃ y : Int32, y = v4 + (1 : Int32) := ⟨_, rfl⟩
        replace h := zlt_s ex26 h
        refine lv_iinc (v := x26) (lv' := [(4, .int x26), (0, .ref (a 87)), (1, .int y1), (2, .int y2), (3, .int y3), (5, .int v5), (6, .int v6), (7, .int v7), (8, .int v8)]) hx hb dX8_who_89 hl (k := 4) rfl (by rw [ex26]; rfl) (by decide) rfl (fun ls hl => ?_)
        refine lv_iload hx hb dX8_who_92 (lv_at hl 5 rfl) ?_
        refine lv_iconst (v := (-1)) hx hb dX8_who_94 (by decide) ?_
        refine lv_icmp_ne (tgt := 103) hx hb dX8_who_95 (by decide) (fun c27 => ?_) (fun c27 => ?_)
        · replace h := zif_f c27 h
          refine lv_iload hx hb dX8_who_103 (lv_at hl 5 rfl) ?_
          refine lv_istore (lv' := [(5, .int v5), (4, .int x26), (0, .ref (a 87)), (1, .int y1), (2, .int y2), (3, .int y3), (6, .int v6), (7, .int v7), (8, .int v8)]) hx hb dX8_who_105 hl (by decide) rfl (fun ls hl => ?_)
          refine lv_iload hx hb dX8_who_107 (lv_at hl 6 rfl) ?_
          refine lv_iload hx hb dX8_who_109 (lv_at hl 8 rfl) ?_
          refine lv_iand hx hb dX8_who_111 ?_
          refine lv_topi (fun x28 ex28 => ?_)
          replace h := zlt_s ex28 h
          refine lv_istore (lv' := [(6, .int x28), (5, .int v5), (4, .int x26), (0, .ref (a 87)), (1, .int y1), (2, .int y2), (3, .int y3), (7, .int v7), (8, .int v8)]) hx hb dX8_who_112 hl (by decide) rfl (fun ls hl => ?_)
          refine lv_iload hx hb dX8_who_114 (lv_at hl 7 rfl) ?_
          refine lv_iload hx hb dX8_who_116 (lv_at hl 8 rfl) ?_
          refine lv_ior hx hb dX8_who_118 ?_
          refine lv_topi (fun x29 ex29 => ?_)
          replace h := zlt_s ex29 h
          refine lv_istore (lv' := [(7, .int x29), (6, .int x28), (5, .int v5), (4, .int x26), (0, .ref (a 87)), (1, .int y1), (2, .int y2), (3, .int y3), (8, .int v8)]) hx hb dX8_who_119 hl (by decide) rfl (fun ls hl => ?_)
          obtain ⟨x30, ex30⟩ : ∃ y : Int32, y = v8 + (1 : Int32) := ⟨_, rfl⟩
          replace h := zlt_s ex30 h
          refine lv_iinc (v := x30) (lv' := [(8, .int x30), (7, .int x29), (6, .int x28), (5, .int v5), (4, .int x26), (0, .ref (a 87)), (1, .int y1), (2, .int y2), (3, .int y3)]) hx hb dX8_who_121 hl (k := 8) rfl (by rw [ex30]; rfl) (by decide) rfl (fun ls hl => ?_)
          refine lv_goto (tgt := 62) hx hb dX8_who_124 (by decide) ?_
          exact ih x26 v5 x28 x29 x30 M22 H locs _ hw (lv_sub hl [5, 6, 7, 8, 4, 3, 2, 1, 0] rfl) h hk
        · replace h := zif_t c27 h
          refine lv_iload hx hb dX8_who_98 (lv_at hl 8 rfl) ?_
          refine lv_goto (tgt := 105) hx hb dX8_who_100 (by decide) ?_
          refine lv_istore (lv' := [(5, .int v8), (4, .int x26), (0, .ref (a 87)), (1, .int y1), (2, .int y2), (3, .int y3), (6, .int v6), (7, .int v7), (8, .int v8)]) hx hb dX8_who_105 hl (by decide) rfl (fun ls hl => ?_)
          refine lv_iload hx hb dX8_who_107 (lv_at hl 6 rfl) ?_
          refine lv_iload hx hb dX8_who_109 (lv_at hl 8 rfl) ?_
          refine lv_iand hx hb dX8_who_111 ?_
          refine lv_topi (fun x31 ex31 => ?_)
          replace h := zlt_s ex31 h
          refine lv_istore (lv' := [(6, .int x31), (5, .int v8), (4, .int x26), (0, .ref (a 87)), (1, .int y1), (2, .int y2), (3, .int y3), (7, .int v7), (8, .int v8)]) hx hb dX8_who_112 hl (by decide) rfl (fun ls hl => ?_)
          refine lv_iload hx hb dX8_who_114 (lv_at hl 7 rfl) ?_
          refine lv_iload hx hb dX8_who_116 (lv_at hl 8 rfl) ?_
          refine lv_ior hx hb dX8_who_118 ?_
          refine lv_topi (fun x32 ex32 => ?_)
          replace h := zlt_s ex32 h
          refine lv_istore (lv' := [(7, .int x32), (6, .int x31), (5, .int v8), (4, .int x26), (0, .ref (a 87)), (1, .int y1), (2, .int y2), (3, .int y3), (8, .int v8)]) hx hb dX8_who_119 hl (by decide) rfl (fun ls hl => ?_)
          obtain ⟨x33, ex33⟩ : ∃ y : Int32, y = v8 + (1 : Int32) := ⟨_, rfl⟩
          replace h := zlt_s ex33 h
          refine lv_iinc (v := x33) (lv' := [(8, .int x33), (7, .int x32), (6, .int x31), (5, .int v8), (4, .int x26), (0, .ref (a 87)), (1, .int y1), (2, .int y2), (3, .int y3)]) hx hb dX8_who_121 hl (k := 8) rfl (by rw [ex33]; rfl) (by decide) rfl (fun ls hl => ?_)
          refine lv_goto (tgt := 62) hx hb dX8_who_124 (by decide) ?_
          exact ih x26 v8 x31 x32 x33 M22 H locs _ hw (lv_sub hl [5, 6, 7, 8, 4, 3, 2, 1, 0] rfl) h hk
def fX8_who (p0 : Int32) (p1 : Int32) (M : zM) : Option (Int32 × zM) := zbi (fX8_in p0 (0 : Int32) (99 : Int32) M) (fun r1 M2 => if r1 = 0 then (zbi (fX8_error (1 : Int32) M2) (fun r5 M6 => some (r5, M6))) else (zbi (fX8_in p1 (0 : Int32) (3 : Int32) M2) (fun r8 M9 => if r8 = 0 then (zbi (fX8_error (1 : Int32) M9) (fun r57 M58 => some (r57, M58))) else (zlt ((1 : Int32) <<< ((M9 88 (0)) &&& 31)) (fun x12 => zlt (x12 - (1 : Int32)) (fun x13 => zbv (fX8_carry 88 90 M9) (fun M15 => fX8_who_62 p0 p1 x13 (fun x34 x35 x36 x37 M38 => zbv (fX8_carry 90 88 M38) (fun M40 => if x34 = 0 then (if p1 = (1 : Int32) then (zbi (fX8_error (2 : Int32) M40) (fun r47 M48 => some (r47, M48))) else (if p1 = (2 : Int32) then (zbi (fX8_error (2 : Int32) M40) (fun r54 M55 => some (r54, M55))) else (if p1 = 0 then (some (x34, M40)) else (if p1 = (1 : Int32) then (some (x35, M40)) else (if p1 = (2 : Int32) then (some (x36, M40)) else (some (x37, M40))))))) else (if p1 = 0 then (some (x34, M40)) else (if p1 = (1 : Int32) then (some (x35, M40)) else (if p1 = (2 : Int32) then (some (x36, M40)) else (some (x37, M40))))))) zF (0 : Int32) (-1 : Int32) x13 (0 : Int32) (0 : Int32) M15)))))))
set_option maxRecDepth 100000 in
set_option maxHeartbeats 4000000 in
theorem kX8_who (l : Launch) (D : va_G) (cy : Nat → ClassId) (a : Nat → Nat) (p0 : Int32) (p1 : Int32) (M : zM) (r0 : Int32) (M0 : zM) (h : fX8_who p0 p1 M = some (r0, M0)) : zCi l D cy a yX8_who cX8_who 9 (some .int) (zRm 5 118) [.ref (a 87), .int p0, .int p1] M (fun r u => r = r0 ∧ u = M0) := by
  intro sz
  refine zent_i sz (by decide) (Nat.le_of_ble_eq_true rfl) rfl (fun p e s m args below meth c ls H locs X hw hl => ?_)
  obtain ⟨hx, hb, hr, hml, hown, hW, hlocks⟩ := id X
  have hE := hw.2.2.2.2.1
  have hcs : 0 ≤ ((zRm 5 118)).cells ∧ 0 ≤ ((zRm 5 118)).slots := ⟨Nat.zero_le _, Nat.zero_le _⟩
  rw [fX8_who] at h
  refine lv_iload_n hx hb dX8_who_0 rfl (lv_at hl 1 rfl) ?_
  refine lv_iconst (v := 0) hx hb dX8_who_1 (by decide) ?_
  refine lv_bipush (v := 99) hx hb dX8_who_2 (by decide) ?_
  obtain ⟨r1, M2, f3, h⟩ := zbi_e h
  refine z_qSi (As := [.int p0, .int (0 : Int32), .int (99 : Int32)]) (rest := []) X hw (kX8_in l D cy a p0 (0 : Int32) (99 : Int32) M r1 M2 f3) (cwX8_56 X.2.2.2.2.2.1 rfl rfl (zroomO (Nat.le_of_ble_eq_true rfl) (Nat.le_of_ble_eq_true rfl))) rfl rfl (Nat.le_of_ble_eq_true rfl) hl.1 hcs dX8_who_4 (fun H locs hw => ?_)
  refine lv_if_eq (tgt := 19) hx hb dX8_who_7 (by decide) (fun c4 => ?_) (fun c4 => ?_)
  · replace h := zif_t c4 h
    refine lv_aload_n hx hb dX8_who_19 rfl (lv_at hl 0 rfl) ?_
    refine lv_iconst (v := 1) hx hb dX8_who_20 (by decide) ?_
    obtain ⟨r5, M6, f7, h⟩ := zbi_e h
    refine z_qVi (As := [.int (1 : Int32)]) (rest := []) X hw (kX8_error l D cy a (1 : Int32) M2 r5 M6 f7) (cwX8_76 X.2.2.2.2.2.1 rfl rfl (zroomO (Nat.le_of_ble_eq_true rfl) (Nat.le_of_ble_eq_true rfl))) (zX8_lt (rfl : zX8 87)) (zS8 (rfl : zX8 87) cy a (M2 87)) rfl rfl rfl (Nat.le_of_ble_eq_true rfl) hl.1 hcs dX8_who_21 (fun H locs hw => ?_)
    exact z_ri X hw (zret h) dX8_who_24
  · replace h := zif_f c4 h
    refine lv_iload_n hx hb dX8_who_10 rfl (lv_at hl 2 rfl) ?_
    refine lv_iconst (v := 0) hx hb dX8_who_11 (by decide) ?_
    refine lv_iconst (v := 3) hx hb dX8_who_12 (by decide) ?_
    obtain ⟨r8, M9, f10, h⟩ := zbi_e h
    refine z_qSi (As := [.int p1, .int (0 : Int32), .int (3 : Int32)]) (rest := []) X hw (kX8_in l D cy a p1 (0 : Int32) (3 : Int32) M2 r8 M9 f10) (cwX8_56 X.2.2.2.2.2.1 rfl rfl (zroomO (Nat.le_of_ble_eq_true rfl) (Nat.le_of_ble_eq_true rfl))) rfl rfl (Nat.le_of_ble_eq_true rfl) hl.1 hcs dX8_who_13 (fun H locs hw => ?_)
    refine lv_if_ne (tgt := 25) hx hb dX8_who_16 (by decide) (fun c11 => ?_) (fun c11 => ?_)
    · replace h := zif_f c11 h
      refine lv_iconst (v := 1) hx hb dX8_who_25 (by decide) ?_
      refine lv_aload_n hx hb dX8_who_26 rfl (lv_at hl 0 rfl) ?_
      refine gtX8_7 X hw dX8_who_27 ?_
      refine lv_iconst (v := 0) hx hb dX8_who_30 (by decide) ?_
      refine z_aldK (k := 0) X hw zI_88 (by decide) (by decide) (by decide) dX8_who_31 ?_
      refine lv_ishl hx hb dX8_who_32 ?_
      refine lv_topi (fun x12 ex12 => ?_)
      replace h := zlt_s ex12 h
      refine lv_iconst (v := 1) hx hb dX8_who_33 (by decide) ?_
      refine lv_isub hx hb dX8_who_34 ?_
      refine lv_topi (fun x13 ex13 => ?_)
      replace h := zlt_s ex13 h
      refine lv_istore_n (lv' := [(3, .int x13), (0, .ref (a 87)), (1, .int p0), (2, .int p1)]) hx hb dX8_who_35 rfl hl (by decide) rfl (fun ls hl => ?_)
      refine lv_iconst (v := 0) hx hb dX8_who_36 (by decide) ?_
      refine lv_istore (lv' := [(4, .int (0 : Int32)), (3, .int x13), (0, .ref (a 87)), (1, .int p0), (2, .int p1)]) hx hb dX8_who_37 hl (by decide) rfl (fun ls hl => ?_)
      refine lv_iconst (v := (-1)) hx hb dX8_who_39 (by decide) ?_
      refine lv_istore (lv' := [(5, .int (-1 : Int32)), (4, .int (0 : Int32)), (3, .int x13), (0, .ref (a 87)), (1, .int p0), (2, .int p1)]) hx hb dX8_who_40 hl (by decide) rfl (fun ls hl => ?_)
      refine lv_iload_n hx hb dX8_who_42 rfl (lv_at hl 2 rfl) ?_
      refine lv_istore (lv' := [(6, .int x13), (5, .int (-1 : Int32)), (4, .int (0 : Int32)), (3, .int x13), (0, .ref (a 87)), (1, .int p0), (2, .int p1)]) hx hb dX8_who_43 hl (by decide) rfl (fun ls hl => ?_)
      refine lv_iconst (v := 0) hx hb dX8_who_45 (by decide) ?_
      refine lv_istore (lv' := [(7, .int (0 : Int32)), (6, .int x13), (5, .int (-1 : Int32)), (4, .int (0 : Int32)), (3, .int x13), (0, .ref (a 87)), (1, .int p0), (2, .int p1)]) hx hb dX8_who_46 hl (by decide) rfl (fun ls hl => ?_)
      refine lv_aload_n hx hb dX8_who_48 rfl (lv_at hl 5 rfl) ?_
      refine gtX8_7 X hw dX8_who_49 ?_
      refine lv_aload_n hx hb dX8_who_52 rfl (lv_at hl 5 rfl) ?_
      refine gtX8_16 X hw dX8_who_53 ?_
      obtain ⟨M15, f16, h⟩ := zbv_e h
      refine z_qSv (As := [.ref (a 88), .ref (a 90)]) (rest := []) X hw (kX8_carry l D cy a 88 zI_88 90 zI_90 M9 M15 f16) (cwX8_226 X.2.2.2.2.2.1 rfl rfl (zroomO (Nat.le_of_ble_eq_true rfl) (Nat.le_of_ble_eq_true rfl))) rfl rfl (Nat.le_of_ble_eq_true rfl) hl.1 hcs dX8_who_56 (fun H locs hw => ?_)
      refine lv_iconst (v := 0) hx hb dX8_who_59 (by decide) ?_
      refine lv_istore (lv' := [(8, .int (0 : Int32)), (7, .int (0 : Int32)), (6, .int x13), (5, .int (-1 : Int32)), (4, .int (0 : Int32)), (3, .int x13), (0, .ref (a 87)), (1, .int p0), (2, .int p1)]) hx hb dX8_who_60 hl (by decide) rfl (fun ls hl => ?_)
      refine lX8_who_62 X p0 p1 x13 _ zF (0 : Int32) (-1 : Int32) x13 (0 : Int32) (0 : Int32) M15 H locs _ hw (lv_sub hl [6, 7, 8, 5, 4, 3, 2, 1, 0] rfl) h (fun x34 x35 x36 x37 M38 H locs ls hw hl h => ?_)
      refine lv_aload_n hx hb dX8_who_127 rfl (lv_at hl 0 rfl) ?_
      refine gtX8_16 X hw dX8_who_128 ?_
      refine lv_aload_n hx hb dX8_who_131 rfl (lv_at hl 0 rfl) ?_
      refine gtX8_7 X hw dX8_who_132 ?_
      obtain ⟨M40, f41, h⟩ := zbv_e h
      refine z_qSv (As := [.ref (a 90), .ref (a 88)]) (rest := []) X hw (kX8_carry l D cy a 90 zI_90 88 zI_88 M38 M40 f41) (cwX8_226 X.2.2.2.2.2.1 rfl rfl (zroomO (Nat.le_of_ble_eq_true rfl) (Nat.le_of_ble_eq_true rfl))) rfl rfl (Nat.le_of_ble_eq_true rfl) hl.1 hcs dX8_who_135 (fun H locs hw => ?_)
      refine lv_iload hx hb dX8_who_138 (lv_at hl 2 rfl) ?_
      refine lv_if_ne (tgt := 159) hx hb dX8_who_140 (by decide) (fun c42 => ?_) (fun c42 => ?_)
      · replace h := zif_f c42 h
        refine lv_iload_n hx hb dX8_who_159 rfl (lv_at hl 1 rfl) ?_
        refine lv_if_ne (tgt := 168) hx hb dX8_who_160 (by decide) (fun c43 => ?_) (fun c43 => ?_)
        · replace h := zif_f c43 h
          refine lv_iload_n hx hb dX8_who_168 rfl (lv_at hl 1 rfl) ?_
          refine lv_iconst (v := 1) hx hb dX8_who_169 (by decide) ?_
          refine lv_icmp_ne (tgt := 178) hx hb dX8_who_170 (by decide) (fun c44 => ?_) (fun c44 => ?_)
          · replace h := zif_f c44 h
            refine lv_iload_n hx hb dX8_who_178 rfl (lv_at hl 1 rfl) ?_
            refine lv_iconst (v := 2) hx hb dX8_who_179 (by decide) ?_
            refine lv_icmp_ne (tgt := 188) hx hb dX8_who_180 (by decide) (fun c45 => ?_) (fun c45 => ?_)
            · replace h := zif_f c45 h
              refine lv_iload hx hb dX8_who_188 (lv_at hl 5 rfl) ?_
              exact z_ri X hw (zret h) dX8_who_190
            · replace h := zif_t c45 h
              refine lv_iload hx hb dX8_who_183 (lv_at hl 4 rfl) ?_
              refine lv_goto (tgt := 190) hx hb dX8_who_185 (by decide) ?_
              exact z_ri X hw (zret h) dX8_who_190
          · replace h := zif_t c44 h
            refine lv_iload hx hb dX8_who_173 (lv_at hl 3 rfl) ?_
            refine lv_goto (tgt := 190) hx hb dX8_who_175 (by decide) ?_
            exact z_ri X hw (zret h) dX8_who_190
        · replace h := zif_t c43 h
          refine lv_iload hx hb dX8_who_163 (lv_at hl 2 rfl) ?_
          refine lv_goto (tgt := 190) hx hb dX8_who_165 (by decide) ?_
          exact z_ri X hw (zret h) dX8_who_190
      · replace h := zif_t c42 h
        refine lv_iload_n hx hb dX8_who_143 rfl (lv_at hl 1 rfl) ?_
        refine lv_iconst (v := 1) hx hb dX8_who_144 (by decide) ?_
        refine lv_icmp_eq (tgt := 153) hx hb dX8_who_145 (by decide) (fun c46 => ?_) (fun c46 => ?_)
        · replace h := zif_t c46 h
          refine lv_aload_n hx hb dX8_who_153 rfl (lv_at hl 0 rfl) ?_
          refine lv_iconst (v := 2) hx hb dX8_who_154 (by decide) ?_
          obtain ⟨r47, M48, f49, h⟩ := zbi_e h
          refine z_qVi (As := [.int (2 : Int32)]) (rest := []) X hw (kX8_error l D cy a (2 : Int32) M40 r47 M48 f49) (cwX8_76 X.2.2.2.2.2.1 rfl rfl (zroomO (Nat.le_of_ble_eq_true rfl) (Nat.le_of_ble_eq_true rfl))) (zX8_lt (rfl : zX8 87)) (zS8 (rfl : zX8 87) cy a (M40 87)) rfl rfl rfl (Nat.le_of_ble_eq_true rfl) hl.1 hcs dX8_who_155 (fun H locs hw => ?_)
          exact z_ri X hw (zret h) dX8_who_158
        · replace h := zif_f c46 h
          refine lv_iload_n hx hb dX8_who_148 rfl (lv_at hl 1 rfl) ?_
          refine lv_iconst (v := 2) hx hb dX8_who_149 (by decide) ?_
          refine lv_icmp_ne (tgt := 159) hx hb dX8_who_150 (by decide) (fun c50 => ?_) (fun c50 => ?_)
          · replace h := zif_f c50 h
            refine lv_iload_n hx hb dX8_who_159 rfl (lv_at hl 1 rfl) ?_
            refine lv_if_ne (tgt := 168) hx hb dX8_who_160 (by decide) (fun c51 => ?_) (fun c51 => ?_)
            · replace h := zif_f c51 h
              refine lv_iload_n hx hb dX8_who_168 rfl (lv_at hl 1 rfl) ?_
              refine lv_iconst (v := 1) hx hb dX8_who_169 (by decide) ?_
              refine lv_icmp_ne (tgt := 178) hx hb dX8_who_170 (by decide) (fun c52 => ?_) (fun c52 => ?_)
              · replace h := zif_f c52 h
                refine lv_iload_n hx hb dX8_who_178 rfl (lv_at hl 1 rfl) ?_
                refine lv_iconst (v := 2) hx hb dX8_who_179 (by decide) ?_
                refine lv_icmp_ne (tgt := 188) hx hb dX8_who_180 (by decide) (fun c53 => ?_) (fun c53 => ?_)
                · replace h := zif_f c53 h
                  refine lv_iload hx hb dX8_who_188 (lv_at hl 5 rfl) ?_
                  exact z_ri X hw (zret h) dX8_who_190
                · replace h := zif_t c53 h
                  refine lv_iload hx hb dX8_who_183 (lv_at hl 4 rfl) ?_
                  refine lv_goto (tgt := 190) hx hb dX8_who_185 (by decide) ?_
                  exact z_ri X hw (zret h) dX8_who_190
              · replace h := zif_t c52 h
                refine lv_iload hx hb dX8_who_173 (lv_at hl 3 rfl) ?_
                refine lv_goto (tgt := 190) hx hb dX8_who_175 (by decide) ?_
                exact z_ri X hw (zret h) dX8_who_190
            · replace h := zif_t c51 h
              refine lv_iload hx hb dX8_who_163 (lv_at hl 2 rfl) ?_
              refine lv_goto (tgt := 190) hx hb dX8_who_165 (by decide) ?_
              exact z_ri X hw (zret h) dX8_who_190
          · replace h := zif_t c50 h
            refine lv_aload_n hx hb dX8_who_153 rfl (lv_at hl 0 rfl) ?_
            refine lv_iconst (v := 2) hx hb dX8_who_154 (by decide) ?_
            obtain ⟨r54, M55, f56, h⟩ := zbi_e h
            refine z_qVi (As := [.int (2 : Int32)]) (rest := []) X hw (kX8_error l D cy a (2 : Int32) M40 r54 M55 f56) (cwX8_76 X.2.2.2.2.2.1 rfl rfl (zroomO (Nat.le_of_ble_eq_true rfl) (Nat.le_of_ble_eq_true rfl))) (zX8_lt (rfl : zX8 87)) (zS8 (rfl : zX8 87) cy a (M40 87)) rfl rfl rfl (Nat.le_of_ble_eq_true rfl) hl.1 hcs dX8_who_155 (fun H locs hw => ?_)
            exact z_ri X hw (zret h) dX8_who_158
    · replace h := zif_t c11 h
      refine lv_aload_n hx hb dX8_who_19 rfl (lv_at hl 0 rfl) ?_
      refine lv_iconst (v := 1) hx hb dX8_who_20 (by decide) ?_
      obtain ⟨r57, M58, f59, h⟩ := zbi_e h
      refine z_qVi (As := [.int (1 : Int32)]) (rest := []) X hw (kX8_error l D cy a (1 : Int32) M9 r57 M58 f59) (cwX8_76 X.2.2.2.2.2.1 rfl rfl (zroomO (Nat.le_of_ble_eq_true rfl) (Nat.le_of_ble_eq_true rfl))) (zX8_lt (rfl : zX8 87)) (zS8 (rfl : zX8 87) cy a (M9 87)) rfl rfl rfl (Nat.le_of_ble_eq_true rfl) hl.1 hcs dX8_who_21 (fun H locs hw => ?_)
      exact z_ri X hw (zret h) dX8_who_24
def fX8_slipped_4 (k : Int32 → zM → Option (Int32 × zM)) : Nat → Int32 → Int32 → zM → Option (Int32 × zM)
  | 0, _, _, _ => none
  | n + 1, v1, v2, M => if M 88 (0) ≤ v2 then (k v1 M) else (zbi (fX8_its v2 (5 : Int32) M) (fun r2 M3 => zbi (fX8_its v2 (6 : Int32) M3) (fun r5 M6 => if r2 = r5 then (zlt (v1 ||| (0 : Int32)) (fun x9 => zlt (v2 + (1 : Int32)) (fun x10 => fX8_slipped_4 k n x9 x10 M6))) else (zlt ((1 : Int32) <<< (v2 &&& 31)) (fun x11 => zlt (v1 ||| x11) (fun x12 => zlt (v2 + (1 : Int32)) (fun x13 => fX8_slipped_4 k n x12 x13 M6)))))))
set_option maxRecDepth 100000 in
set_option maxHeartbeats 4000000 in
theorem lX8_slipped_4 {p : Program} {l : Launch} {e : Env} {s : State} {m : MethodId} {args : Array Value} {below : List Frame} {meth : Method} {c : Code} {D : va_G} {cy : Nat → ClassId} {a : Nat → Nat} {r0 : Int32} {M0 : zM} (X : zCX p s m meth c args cX8_slipped 3 (some .int) RX8) (k : Int32 → zM → Option (Int32 × zM)) : ∀ (n : Nat) (v1 : Int32) (v2 : Int32) (M : zM) (H : Heap) (locs : List Loc) (ls : Array Slot), zWD D cy a (zfr a s.heap.size) M H locs s → lv_has ls 3 [(0, .ref (a 87)), (1, .int v1), (2, .int v2)] → fX8_slipped_4 k n v1 v2 M = some (r0, M0) →
    (∀ (u1 : Int32) (M' : zM) (H' : Heap) (locs' : List Loc) (ls' : Array Slot), zWD D cy a (zfr a s.heap.size) M' H' locs' s → lv_has ls' 3 [(1, .int u1)] → k u1 M' = some (r0, M0) → W p l e (zRm 1 22) s m args below meth c H' locs' 0 0 (zQi D cy a s args below r0 M0) (F0 m 46 ls' [])) →
    W p l e (zRm 1 22) s m args below meth c H locs 0 0 (zQi D cy a s args below r0 M0) (F0 m 4 ls []) := by
  obtain ⟨hx, hb, hr, hml, hown, hW, hlocks⟩ := id X
  have hcs : 0 ≤ ((zRm 1 22)).cells ∧ 0 ≤ ((zRm 1 22)).slots := ⟨Nat.zero_le _, Nat.zero_le _⟩
  intro n
  induction n with
  | zero =>
    intro v1 v2 M H locs ls hw hl h hk
    cases h
  | succ n ih =>
    intro v1 v2 M H locs ls hw hl h hk
    have hE := hw.2.2.2.2.1
    rw [fX8_slipped_4] at h
    refine lv_iload_n hx hb dX8_slipped_4 rfl (lv_at hl 2 rfl) ?_
    refine lv_aload_n hx hb dX8_slipped_5 rfl (lv_at hl 0 rfl) ?_
    refine gtX8_7 X hw dX8_slipped_6 ?_
    refine lv_iconst (v := 0) hx hb dX8_slipped_9 (by decide) ?_
    refine z_aldK (k := 0) X hw zI_88 (by decide) (by decide) (by decide) dX8_slipped_10 ?_
    refine lv_icmp_ge (tgt := 46) hx hb dX8_slipped_11 (by decide) (fun c1 => ?_) (fun c1 => ?_)
    · replace h := zif_t c1 h
      exact hk v1 M H locs _ hw (lv_sub hl [1] rfl) h
    · replace h := zif_f c1 h
      refine lv_iload_n hx hb dX8_slipped_14 rfl (lv_at hl 1 rfl) ?_
      refine lv_aload_n hx hb dX8_slipped_15 rfl (lv_at hl 0 rfl) ?_
      refine lv_iload_n hx hb dX8_slipped_16 rfl (lv_at hl 2 rfl) ?_
      refine lv_iconst (v := 5) hx hb dX8_slipped_17 (by decide) ?_
      obtain ⟨r2, M3, f4, h⟩ := zbi_e h
      refine z_qVi (As := [.int v2, .int (5 : Int32)]) (rest := [.int v1]) X hw (kX8_its l D cy a v2 (5 : Int32) M r2 M3 f4) (cwX8_90 X.2.2.2.2.2.1 rfl rfl (zroomO (Nat.le_of_ble_eq_true rfl) (Nat.le_of_ble_eq_true rfl))) (zX8_lt (rfl : zX8 87)) (zS8 (rfl : zX8 87) cy a (M 87)) rfl rfl rfl (Nat.le_of_ble_eq_true rfl) hl.1 hcs dX8_slipped_18 (fun H locs hw => ?_)
      refine lv_aload_n hx hb dX8_slipped_21 rfl (lv_at hl 0 rfl) ?_
      refine lv_iload_n hx hb dX8_slipped_22 rfl (lv_at hl 2 rfl) ?_
      refine lv_bipush (v := 6) hx hb dX8_slipped_23 (by decide) ?_
      obtain ⟨r5, M6, f7, h⟩ := zbi_e h
      refine z_qVi (As := [.int v2, .int (6 : Int32)]) (rest := [.int r2, .int v1]) X hw (kX8_its l D cy a v2 (6 : Int32) M3 r5 M6 f7) (cwX8_90 X.2.2.2.2.2.1 rfl rfl (zroomO (Nat.le_of_ble_eq_true rfl) (Nat.le_of_ble_eq_true rfl))) (zX8_lt (rfl : zX8 87)) (zS8 (rfl : zX8 87) cy a (M3 87)) rfl rfl rfl (Nat.le_of_ble_eq_true rfl) hl.1 hcs dX8_slipped_25 (fun H locs hw => ?_)
      refine lv_icmp_eq (tgt := 37) hx hb dX8_slipped_28 (by decide) (fun c8 => ?_) (fun c8 => ?_)
      · replace h := zif_t c8 h
        refine lv_iconst (v := 0) hx hb dX8_slipped_37 (by decide) ?_
        refine lv_ior hx hb dX8_slipped_38 ?_
        refine lv_topi (fun x9 ex9 => ?_)
        replace h := zlt_s ex9 h
        refine lv_istore_n (lv' := [(1, .int x9), (0, .ref (a 87)), (2, .int v2)]) hx hb dX8_slipped_39 rfl hl (by decide) rfl (fun ls hl => ?_)
        obtain ⟨x10, ex10⟩ : ∃ y : Int32, y = v2 + (1 : Int32) := ⟨_, rfl⟩
        replace h := zlt_s ex10 h
        refine lv_iinc (v := x10) (lv' := [(2, .int x10), (1, .int x9), (0, .ref (a 87))]) hx hb dX8_slipped_40 hl (k := 2) rfl (by rw [ex10]; rfl) (by decide) rfl (fun ls hl => ?_)
        refine lv_goto (tgt := 4) hx hb dX8_slipped_43 (by decide) ?_
        exact ih x9 x10 M6 H locs _ hw (lv_sub hl [2, 1, 0] rfl) h hk
      · replace h := zif_f c8 h
        refine lv_iconst (v := 1) hx hb dX8_slipped_31 (by decide) ?_
        refine lv_iload_n hx hb dX8_slipped_32 rfl (lv_at hl 2 rfl) ?_
        refine lv_ishl hx hb dX8_slipped_33 ?_
        refine lv_topi (fun x11 ex11 => ?_)
        replace h := zlt_s ex11 h
        refine lv_goto (tgt := 38) hx hb dX8_slipped_34 (by decide) ?_
        refine lv_ior hx hb dX8_slipped_38 ?_
        refine lv_topi (fun x12 ex12 => ?_)
        replace h := zlt_s ex12 h
        refine lv_istore_n (lv' := [(1, .int x12), (0, .ref (a 87)), (2, .int v2)]) hx hb dX8_slipped_39 rfl hl (by decide) rfl (fun ls hl => ?_)
        obtain ⟨x13, ex13⟩ : ∃ y : Int32, y = v2 + (1 : Int32) := ⟨_, rfl⟩
        replace h := zlt_s ex13 h
        refine lv_iinc (v := x13) (lv' := [(2, .int x13), (1, .int x12), (0, .ref (a 87))]) hx hb dX8_slipped_40 hl (k := 2) rfl (by rw [ex13]; rfl) (by decide) rfl (fun ls hl => ?_)
        refine lv_goto (tgt := 4) hx hb dX8_slipped_43 (by decide) ?_
        exact ih x12 x13 M6 H locs _ hw (lv_sub hl [2, 1, 0] rfl) h hk
def fX8_slipped (M : zM) : Option (Int32 × zM) := fX8_slipped_4  (fun x14 M15 => some (x14, M15)) zF (0 : Int32) (0 : Int32) M
set_option maxRecDepth 100000 in
set_option maxHeartbeats 4000000 in
theorem kX8_slipped (l : Launch) (D : va_G) (cy : Nat → ClassId) (a : Nat → Nat) (M : zM) (r0 : Int32) (M0 : zM) (h : fX8_slipped  M = some (r0, M0)) : zCi l D cy a yX8_slipped cX8_slipped 3 (some .int) (zRm 1 22) [.ref (a 87)] M (fun r u => r = r0 ∧ u = M0) := by
  intro sz
  refine zent_i sz (by decide) (Nat.le_of_ble_eq_true rfl) rfl (fun p e s m args below meth c ls H locs X hw hl => ?_)
  obtain ⟨hx, hb, hr, hml, hown, hW, hlocks⟩ := id X
  have hE := hw.2.2.2.2.1
  have hcs : 0 ≤ ((zRm 1 22)).cells ∧ 0 ≤ ((zRm 1 22)).slots := ⟨Nat.zero_le _, Nat.zero_le _⟩
  rw [fX8_slipped] at h
  refine lv_iconst (v := 0) hx hb dX8_slipped_0 (by decide) ?_
  refine lv_istore_n (lv' := [(1, .int (0 : Int32)), (0, .ref (a 87))]) hx hb dX8_slipped_1 rfl hl (by decide) rfl (fun ls hl => ?_)
  refine lv_iconst (v := 0) hx hb dX8_slipped_2 (by decide) ?_
  refine lv_istore_n (lv' := [(2, .int (0 : Int32)), (1, .int (0 : Int32)), (0, .ref (a 87))]) hx hb dX8_slipped_3 rfl hl (by decide) rfl (fun ls hl => ?_)
  refine lX8_slipped_4 X  _ zF (0 : Int32) (0 : Int32) M H locs _ hw (lv_sub hl [2, 1, 0] rfl) h (fun x14 M15 H locs ls hw hl h => ?_)
  refine lv_iload_n hx hb dX8_slipped_46 rfl (lv_at hl 0 rfl) ?_
  exact z_ri X hw (zret h) dX8_slipped_47
def fX8_begins (p0 : Int32) (M : zM) : Option (zM) := if (30 : Int32) ≤ M 87 20 then (some M) else (zgd (M 87 20 < 0 ∨ 30 ≤ (M 87 20).toNatClampNeg) (zlt (zst M 98 ((M 87 20).toNatClampNeg) p0) (fun M2 => zlt (zst M2 87 20 ((M2 87 20) + (1 : Int32))) (fun M4 => some M4))))
set_option maxRecDepth 100000 in
set_option maxHeartbeats 4000000 in
theorem kX8_begins (l : Launch) (D : va_G) (cy : Nat → ClassId) (a : Nat → Nat) (p0 : Int32) (M : zM) (M0 : zM) (h : fX8_begins p0 M = some M0) : zCv l D cy a yX8_begins cX8_begins 2 (zRm 0 0) [.ref (a 87), .int p0] M (fun u => u = M0) := by
  intro sz
  refine zent_v sz (by decide) (Nat.le_of_ble_eq_true rfl) rfl (fun p e s m args below meth c ls H locs X hw hl => ?_)
  obtain ⟨hx, hb, hr, hml, hown, hW, hlocks⟩ := id X
  have hE := hw.2.2.2.2.1
  have hcs : 0 ≤ ((zRm 0 0)).cells ∧ 0 ≤ ((zRm 0 0)).slots := ⟨Nat.zero_le _, Nat.zero_le _⟩
  rw [fX8_begins] at h
  refine lv_aload_n hx hb dX8_begins_0 rfl (lv_at hl 0 rfl) ?_
  refine gtX8_247 X hw dX8_begins_1 ?_
  refine lv_bipush (v := 30) hx hb dX8_begins_4 (by decide) ?_
  refine lv_icmp_ge (tgt := 29) hx hb dX8_begins_6 (by decide) (fun c1 => ?_) (fun c1 => ?_)
  · replace h := zif_t c1 h
    exact z_rv X hw (zretv h) dX8_begins_29
  · replace h := zif_f c1 h
    refine lv_aload_n hx hb dX8_begins_9 rfl (lv_at hl 0 rfl) ?_
    refine gtX8_40 X hw dX8_begins_10 ?_
    refine lv_aload_n hx hb dX8_begins_13 rfl (lv_at hl 0 rfl) ?_
    refine gtX8_247 X hw dX8_begins_14 ?_
    refine lv_iload_n hx hb dX8_begins_17 rfl (lv_at hl 1 rfl) ?_
    obtain ⟨g3, h⟩ := zgd_e h
    refine z_ast X hw zI_98 g3 dX8_begins_18 (fun M2 H locs eM2 hw => ?_)
    replace h := zlt_s eM2 h
    refine lv_aload_n hx hb dX8_begins_19 rfl (lv_at hl 0 rfl) ?_
    refine lv_dup hx hb dX8_begins_20 rfl ?_
    refine gtX8_247 X hw dX8_begins_21 ?_
    refine lv_iconst (v := 1) hx hb dX8_begins_24 (by decide) ?_
    refine lv_iadd hx hb dX8_begins_25 ?_
    refine ptX8_247 X hw dX8_begins_26 (fun M4 H locs eM4 hw => ?_)
    replace h := zlt_s eM4 h
    exact z_rv X hw (zretv h) dX8_begins_29
def fX8_above (p0 : Int32) (M : zM) : Option (Int32 × zM) := if p0 = (4 : Int32) then (some ((1 : Int32), M)) else (if p0 = (5 : Int32) then (some ((3 : Int32), M)) else (some ((0 : Int32), M)))
set_option maxRecDepth 100000 in
set_option maxHeartbeats 4000000 in
theorem kX8_above (l : Launch) (D : va_G) (cy : Nat → ClassId) (a : Nat → Nat) (p0 : Int32) (M : zM) (r0 : Int32) (M0 : zM) (h : fX8_above p0 M = some (r0, M0)) : zCi l D cy a yX8_above cX8_above 1 (some .int) (zRm 0 0) [.int p0] M (fun r u => r = r0 ∧ u = M0) := by
  intro sz
  refine zent_i sz (by decide) (Nat.le_of_ble_eq_true rfl) rfl (fun p e s m args below meth c ls H locs X hw hl => ?_)
  obtain ⟨hx, hb, hr, hml, hown, hW, hlocks⟩ := id X
  have hE := hw.2.2.2.2.1
  have hcs : 0 ≤ ((zRm 0 0)).cells ∧ 0 ≤ ((zRm 0 0)).slots := ⟨Nat.zero_le _, Nat.zero_le _⟩
  rw [fX8_above] at h
  refine lv_iload_n hx hb dX8_above_0 rfl (lv_at hl 0 rfl) ?_
  refine lv_iconst (v := 4) hx hb dX8_above_1 (by decide) ?_
  refine lv_icmp_ne (tgt := 9) hx hb dX8_above_2 (by decide) (fun c1 => ?_) (fun c1 => ?_)
  · replace h := zif_f c1 h
    refine lv_iload_n hx hb dX8_above_9 rfl (lv_at hl 0 rfl) ?_
    refine lv_iconst (v := 5) hx hb dX8_above_10 (by decide) ?_
    refine lv_icmp_ne (tgt := 18) hx hb dX8_above_11 (by decide) (fun c2 => ?_) (fun c2 => ?_)
    · replace h := zif_f c2 h
      refine lv_iconst (v := 0) hx hb dX8_above_18 (by decide) ?_
      exact z_ri X hw (zret h) dX8_above_19
    · replace h := zif_t c2 h
      refine lv_iconst (v := 3) hx hb dX8_above_14 (by decide) ?_
      refine lv_goto (tgt := 19) hx hb dX8_above_15 (by decide) ?_
      exact z_ri X hw (zret h) dX8_above_19
  · replace h := zif_t c1 h
    refine lv_iconst (v := 1) hx hb dX8_above_5 (by decide) ?_
    refine lv_goto (tgt := 19) hx hb dX8_above_6 (by decide) ?_
    exact z_ri X hw (zret h) dX8_above_19
def fX8_kindNow (M : zM) : Option (Int32 × zM) := zbi (fX8_its (M 87 21) (0 : Int32) M) (fun r1 M2 => some (r1, M2))
set_option maxRecDepth 100000 in
set_option maxHeartbeats 4000000 in
theorem kX8_kindNow (l : Launch) (D : va_G) (cy : Nat → ClassId) (a : Nat → Nat) (M : zM) (r0 : Int32) (M0 : zM) (h : fX8_kindNow  M = some (r0, M0)) : zCi l D cy a yX8_kindNow cX8_kindNow 1 (some .int) (zRm 1 22) [.ref (a 87)] M (fun r u => r = r0 ∧ u = M0) := by
  intro sz
  refine zent_i sz (by decide) (Nat.le_of_ble_eq_true rfl) rfl (fun p e s m args below meth c ls H locs X hw hl => ?_)
  obtain ⟨hx, hb, hr, hml, hown, hW, hlocks⟩ := id X
  have hE := hw.2.2.2.2.1
  have hcs : 0 ≤ ((zRm 1 22)).cells ∧ 0 ≤ ((zRm 1 22)).slots := ⟨Nat.zero_le _, Nat.zero_le _⟩
  rw [fX8_kindNow] at h
  refine lv_aload_n hx hb dX8_kindNow_0 rfl (lv_at hl 0 rfl) ?_
  refine lv_aload_n hx hb dX8_kindNow_1 rfl (lv_at hl 0 rfl) ?_
  refine gtX8_250 X hw dX8_kindNow_2 ?_
  refine lv_iconst (v := 0) hx hb dX8_kindNow_5 (by decide) ?_
  obtain ⟨r1, M2, f3, h⟩ := zbi_e h
  refine z_qVi (As := [.int (M 87 21), .int (0 : Int32)]) (rest := []) X hw (kX8_its l D cy a (M 87 21) (0 : Int32) M r1 M2 f3) (cwX8_90 X.2.2.2.2.2.1 rfl rfl (zroomO (Nat.le_of_ble_eq_true rfl) (Nat.le_of_ble_eq_true rfl))) (zX8_lt (rfl : zX8 87)) (zS8 (rfl : zX8 87) cy a (M 87)) rfl rfl rfl (Nat.le_of_ble_eq_true rfl) hl.1 hcs dX8_kindNow_6 (fun H locs hw => ?_)
  exact z_ri X hw (zret h) dX8_kindNow_9
def fX8_mNow (M : zM) : Option (Int32 × zM) := zbi (fX8_its (M 87 21) (1 : Int32) M) (fun r1 M2 => some (r1, M2))
set_option maxRecDepth 100000 in
set_option maxHeartbeats 4000000 in
theorem kX8_mNow (l : Launch) (D : va_G) (cy : Nat → ClassId) (a : Nat → Nat) (M : zM) (r0 : Int32) (M0 : zM) (h : fX8_mNow  M = some (r0, M0)) : zCi l D cy a yX8_mNow cX8_mNow 1 (some .int) (zRm 1 22) [.ref (a 87)] M (fun r u => r = r0 ∧ u = M0) := by
  intro sz
  refine zent_i sz (by decide) (Nat.le_of_ble_eq_true rfl) rfl (fun p e s m args below meth c ls H locs X hw hl => ?_)
  obtain ⟨hx, hb, hr, hml, hown, hW, hlocks⟩ := id X
  have hE := hw.2.2.2.2.1
  have hcs : 0 ≤ ((zRm 1 22)).cells ∧ 0 ≤ ((zRm 1 22)).slots := ⟨Nat.zero_le _, Nat.zero_le _⟩
  rw [fX8_mNow] at h
  refine lv_aload_n hx hb dX8_mNow_0 rfl (lv_at hl 0 rfl) ?_
  refine lv_aload_n hx hb dX8_mNow_1 rfl (lv_at hl 0 rfl) ?_
  refine gtX8_250 X hw dX8_mNow_2 ?_
  refine lv_iconst (v := 1) hx hb dX8_mNow_5 (by decide) ?_
  obtain ⟨r1, M2, f3, h⟩ := zbi_e h
  refine z_qVi (As := [.int (M 87 21), .int (1 : Int32)]) (rest := []) X hw (kX8_its l D cy a (M 87 21) (1 : Int32) M r1 M2 f3) (cwX8_90 X.2.2.2.2.2.1 rfl rfl (zroomO (Nat.le_of_ble_eq_true rfl) (Nat.le_of_ble_eq_true rfl))) (zX8_lt (rfl : zX8 87)) (zS8 (rfl : zX8 87) cy a (M 87)) rfl rfl rfl (Nat.le_of_ble_eq_true rfl) hl.1 hcs dX8_mNow_6 (fun H locs hw => ?_)
  exact z_ri X hw (zret h) dX8_mNow_9
def fX8_flowsAs : Nat → Int32 → Int32 → zM → Option (Int32 × zM)
  | 0, _, _, _ => none
  | dd + 1, p0, p1, M => if p0 = (0 : Int32) then (zbv (fX8_begins (10 : Int32) M) (fun M3 => some (p1 + (M3 87 21), M3))) else (if p0 = (1 : Int32) then (zbv (fX8_begins (20 : Int32) M) (fun M7 => zbi (fX8_above (1 : Int32) M7) (fun r9 M10 => zbi (fX8_flowsAs dd r9 p1 M10) (fun r12 M13 => some (r12 - (4 : Int32), M13))))) else (if p0 = (4 : Int32) then (zbv (fX8_begins (50 : Int32) M) (fun M17 => zbi (fX8_above (4 : Int32) M17) (fun r19 M20 => zbi (fX8_flowsAs dd r19 p1 M20) (fun r22 M23 => some (r22 * (3 : Int32), M23))))) else (if p0 = (6 : Int32) then (zbv (fX8_begins (70 : Int32) M) (fun M27 => some ((2 : Int32), M27))) else (zbi (fX8_above p0 M) (fun r29 M30 => zbi (fX8_flowsAs dd r29 p1 M30) (fun r32 M33 => some (r32, M33)))))))
set_option maxRecDepth 100000 in
set_option maxHeartbeats 4000000 in
theorem kX8_flowsAs (l : Launch) (D : va_G) (cy : Nat → ClassId) (a : Nat → Nat) : ∀ (d : Nat) (p0 : Int32) (p1 : Int32) (M : zM) (r0 : Int32) (M0 : zM), fX8_flowsAs d p0 p1 M = some (r0, M0) → zCi l D cy a yX8_flowsAs cX8_flowsAs 3 (some .int) (zRm (d * 1 + 1) (d * 22 + 21)) [.ref (a 87), .int p0, .int p1] M (fun r u => r = r0 ∧ u = M0) := by
  intro d
  induction d with
  | zero =>
    intro p0 p1 M r0 M0 h
    cases h
  | succ dd ih =>
    intro p0 p1 M r0 M0 h
    intro sz
    refine zent_i sz (by decide) (Nat.le_of_ble_eq_true rfl) rfl (fun p e s m args below meth c ls H locs X hw hl => ?_)
    obtain ⟨hx, hb, hr, hml, hown, hW, hlocks⟩ := id X
    have hE := hw.2.2.2.2.1
    have hcs : 0 ≤ ((zRm ((dd + 1) * 1 + 1) ((dd + 1) * 22 + 21))).cells ∧ 0 ≤ ((zRm ((dd + 1) * 1 + 1) ((dd + 1) * 22 + 21))).slots := ⟨Nat.zero_le _, Nat.zero_le _⟩
    rw [fX8_flowsAs] at h
    refine lv_iload_n hx hb dX8_flowsAs_0 rfl (lv_at hl 1 rfl) ?_
    by_cases c1 : p0 = (0 : Int32)
    · replace h := zif_t c1 h
      refine lv_tableIn (off := 43) (tgt := 44) hx hb dX8_flowsAs_1 (by rw [c1]; decide) (by rw [c1]; decide) (by rw [c1]; rfl) (by decide) ?_
      refine lv_aload_n hx hb dX8_flowsAs_44 rfl (lv_at hl 0 rfl) ?_
      refine lv_bipush (v := 10) hx hb dX8_flowsAs_45 (by decide) ?_
      obtain ⟨M3, f4, h⟩ := zbv_e h
      refine z_qVv (As := [.int (10 : Int32)]) (rest := []) X hw (kX8_begins l D cy a (10 : Int32) M M3 f4) (cwX8_253 X.2.2.2.2.2.1 rfl rfl (zroomO (by omega) (by omega))) (zX8_lt (rfl : zX8 87)) (zS8 (rfl : zX8 87) cy a (M 87)) rfl rfl rfl (Nat.le_of_ble_eq_true rfl) hl.1 hcs dX8_flowsAs_47 (fun H locs hw => ?_)
      refine lv_iload_n hx hb dX8_flowsAs_50 rfl (lv_at hl 2 rfl) ?_
      refine lv_aload_n hx hb dX8_flowsAs_51 rfl (lv_at hl 0 rfl) ?_
      refine gtX8_250 X hw dX8_flowsAs_52 ?_
      refine lv_iadd hx hb dX8_flowsAs_55 ?_
      exact z_ri X hw (zret h) dX8_flowsAs_56
    replace h := zif_f c1 h
    by_cases c5 : p0 = (1 : Int32)
    · replace h := zif_t c5 h
      refine lv_tableIn (off := 56) (tgt := 57) hx hb dX8_flowsAs_1 (by rw [c5]; decide) (by rw [c5]; decide) (by rw [c5]; rfl) (by decide) ?_
      refine lv_aload_n hx hb dX8_flowsAs_57 rfl (lv_at hl 0 rfl) ?_
      refine lv_bipush (v := 20) hx hb dX8_flowsAs_58 (by decide) ?_
      obtain ⟨M7, f8, h⟩ := zbv_e h
      refine z_qVv (As := [.int (20 : Int32)]) (rest := []) X hw (kX8_begins l D cy a (20 : Int32) M M7 f8) (cwX8_253 X.2.2.2.2.2.1 rfl rfl (zroomO (by omega) (by omega))) (zX8_lt (rfl : zX8 87)) (zS8 (rfl : zX8 87) cy a (M 87)) rfl rfl rfl (Nat.le_of_ble_eq_true rfl) hl.1 hcs dX8_flowsAs_60 (fun H locs hw => ?_)
      refine lv_aload_n hx hb dX8_flowsAs_63 rfl (lv_at hl 0 rfl) ?_
      refine lv_iconst (v := 1) hx hb dX8_flowsAs_64 (by decide) ?_
      obtain ⟨r9, M10, f11, h⟩ := zbi_e h
      refine z_qSi (As := [.int (1 : Int32)]) (rest := [.ref (a 87)]) X hw (kX8_above l D cy a (1 : Int32) M7 r9 M10 f11) (cwX8_256 X.2.2.2.2.2.1 rfl rfl (zroomO (by omega) (by omega))) rfl rfl (Nat.le_of_ble_eq_true rfl) hl.1 hcs dX8_flowsAs_65 (fun H locs hw => ?_)
      refine lv_iload_n hx hb dX8_flowsAs_68 rfl (lv_at hl 2 rfl) ?_
      obtain ⟨r12, M13, f14, h⟩ := zbi_e h
      refine z_qVi (As := [.int r9, .int p1]) (rest := []) X hw (ih r9 p1 M10 r12 M13 f14) (cwX8_259 X.2.2.2.2.2.1 rfl rfl (zroomO (by omega) (by omega))) (zX8_lt (rfl : zX8 87)) (zS8 (rfl : zX8 87) cy a (M10 87)) rfl rfl rfl (Nat.le_of_ble_eq_true rfl) hl.1 hcs dX8_flowsAs_69 (fun H locs hw => ?_)
      refine lv_iconst (v := 4) hx hb dX8_flowsAs_72 (by decide) ?_
      refine lv_isub hx hb dX8_flowsAs_73 ?_
      exact z_ri X hw (zret h) dX8_flowsAs_74
    replace h := zif_f c5 h
    by_cases c15 : p0 = (4 : Int32)
    · replace h := zif_t c15 h
      refine lv_tableIn (off := 74) (tgt := 75) hx hb dX8_flowsAs_1 (by rw [c15]; decide) (by rw [c15]; decide) (by rw [c15]; rfl) (by decide) ?_
      refine lv_aload_n hx hb dX8_flowsAs_75 rfl (lv_at hl 0 rfl) ?_
      refine lv_bipush (v := 50) hx hb dX8_flowsAs_76 (by decide) ?_
      obtain ⟨M17, f18, h⟩ := zbv_e h
      refine z_qVv (As := [.int (50 : Int32)]) (rest := []) X hw (kX8_begins l D cy a (50 : Int32) M M17 f18) (cwX8_253 X.2.2.2.2.2.1 rfl rfl (zroomO (by omega) (by omega))) (zX8_lt (rfl : zX8 87)) (zS8 (rfl : zX8 87) cy a (M 87)) rfl rfl rfl (Nat.le_of_ble_eq_true rfl) hl.1 hcs dX8_flowsAs_78 (fun H locs hw => ?_)
      refine lv_aload_n hx hb dX8_flowsAs_81 rfl (lv_at hl 0 rfl) ?_
      refine lv_iconst (v := 4) hx hb dX8_flowsAs_82 (by decide) ?_
      obtain ⟨r19, M20, f21, h⟩ := zbi_e h
      refine z_qSi (As := [.int (4 : Int32)]) (rest := [.ref (a 87)]) X hw (kX8_above l D cy a (4 : Int32) M17 r19 M20 f21) (cwX8_256 X.2.2.2.2.2.1 rfl rfl (zroomO (by omega) (by omega))) rfl rfl (Nat.le_of_ble_eq_true rfl) hl.1 hcs dX8_flowsAs_83 (fun H locs hw => ?_)
      refine lv_iload_n hx hb dX8_flowsAs_86 rfl (lv_at hl 2 rfl) ?_
      obtain ⟨r22, M23, f24, h⟩ := zbi_e h
      refine z_qVi (As := [.int r19, .int p1]) (rest := []) X hw (ih r19 p1 M20 r22 M23 f24) (cwX8_259 X.2.2.2.2.2.1 rfl rfl (zroomO (by omega) (by omega))) (zX8_lt (rfl : zX8 87)) (zS8 (rfl : zX8 87) cy a (M20 87)) rfl rfl rfl (Nat.le_of_ble_eq_true rfl) hl.1 hcs dX8_flowsAs_87 (fun H locs hw => ?_)
      refine lv_iconst (v := 3) hx hb dX8_flowsAs_90 (by decide) ?_
      refine lv_imul hx hb dX8_flowsAs_91 ?_
      exact z_ri X hw (zret h) dX8_flowsAs_92
    replace h := zif_f c15 h
    by_cases c25 : p0 = (6 : Int32)
    · replace h := zif_t c25 h
      refine lv_tableIn (off := 92) (tgt := 93) hx hb dX8_flowsAs_1 (by rw [c25]; decide) (by rw [c25]; decide) (by rw [c25]; rfl) (by decide) ?_
      refine lv_aload_n hx hb dX8_flowsAs_93 rfl (lv_at hl 0 rfl) ?_
      refine lv_bipush (v := 70) hx hb dX8_flowsAs_94 (by decide) ?_
      obtain ⟨M27, f28, h⟩ := zbv_e h
      refine z_qVv (As := [.int (70 : Int32)]) (rest := []) X hw (kX8_begins l D cy a (70 : Int32) M M27 f28) (cwX8_253 X.2.2.2.2.2.1 rfl rfl (zroomO (by omega) (by omega))) (zX8_lt (rfl : zX8 87)) (zS8 (rfl : zX8 87) cy a (M 87)) rfl rfl rfl (Nat.le_of_ble_eq_true rfl) hl.1 hcs dX8_flowsAs_96 (fun H locs hw => ?_)
      refine lv_iconst (v := 2) hx hb dX8_flowsAs_99 (by decide) ?_
      exact z_ri X hw (zret h) dX8_flowsAs_100
    replace h := zif_f c25 h
    have K : W p l e (zRm ((dd + 1) * 1 + 1) ((dd + 1) * 22 + 21)) s m args below meth c H locs 0 0 (zQi D cy a s args below r0 M0) (F0 m 101 ls []) := by
      refine lv_aload_n hx hb dX8_flowsAs_101 rfl (lv_at hl 0 rfl) ?_
      refine lv_iload_n hx hb dX8_flowsAs_102 rfl (lv_at hl 1 rfl) ?_
      obtain ⟨r29, M30, f31, h⟩ := zbi_e h
      refine z_qSi (As := [.int p0]) (rest := [.ref (a 87)]) X hw (kX8_above l D cy a p0 M r29 M30 f31) (cwX8_256 X.2.2.2.2.2.1 rfl rfl (zroomO (by omega) (by omega))) rfl rfl (Nat.le_of_ble_eq_true rfl) hl.1 hcs dX8_flowsAs_103 (fun H locs hw => ?_)
      refine lv_iload_n hx hb dX8_flowsAs_106 rfl (lv_at hl 2 rfl) ?_
      obtain ⟨r32, M33, f34, h⟩ := zbi_e h
      refine z_qVi (As := [.int r29, .int p1]) (rest := []) X hw (ih r29 p1 M30 r32 M33 f34) (cwX8_259 X.2.2.2.2.2.1 rfl rfl (zroomO (by omega) (by omega))) (zX8_lt (rfl : zX8 87)) (zS8 (rfl : zX8 87) cy a (M30 87)) rfl rfl rfl (Nat.le_of_ble_eq_true rfl) hl.1 hcs dX8_flowsAs_107 (fun H locs hw => ?_)
      exact z_ri X hw (zret h) dX8_flowsAs_110
    have tc1 := lv_neT c1 (a := 0) rfl
    have tc5 := lv_neT c5 (a := 1) rfl
    have tc15 := lv_neT c15 (a := 4) rfl
    have tc25 := lv_neT c25 (a := 6) rfl
    by_cases tz : p0.toInt < 0 ∨ 6 < p0.toInt
    · exact lv_tableOut (tgt := 101) hx hb dX8_flowsAs_1 tz (by decide) K
    have tw : p0.toInt = 2 ∨ p0.toInt = 3 ∨ p0.toInt = 5 := by omega
    rcases tw with tw | tw | tw <;> exact lv_tableIn (off := 100) (tgt := 101) hx hb dX8_flowsAs_1 (by omega) (by omega) (by rw [tw]; rfl) (by decide) K
def fX8_turnsAs : Nat → Int32 → Int32 → zM → Option (Int32 × zM)
  | 0, _, _, _ => none
  | dd + 1, p0, p1, M => if p0 = (0 : Int32) then (zbv (fX8_begins (11 : Int32) M) (fun M3 => zbi (fX8_kindNow M3) (fun r5 M6 => zbi (fX8_flowsAs 8 r5 p1 M6) (fun r8 M9 => some (r8 * (2 : Int32), M9))))) else (if p0 = (2 : Int32) then (zbv (fX8_begins (30 : Int32) M) (fun M13 => zbi (fX8_above (2 : Int32) M13) (fun r15 M16 => zbi (fX8_turnsAs dd r15 p1 M16) (fun r18 M19 => some ((0 : Int32) - r18, M19))))) else (if p0 = (5 : Int32) then (zbv (fX8_begins (60 : Int32) M) (fun M23 => zbi (fX8_above (5 : Int32) M23) (fun r25 M26 => zbi (fX8_turnsAs dd r25 (p1 + (1 : Int32)) M26) (fun r28 M29 => some (r28, M29))))) else (if p0 = (6 : Int32) then (zbv (fX8_begins (71 : Int32) M) (fun M33 => zbi (fX8_above (6 : Int32) M33) (fun r35 M36 => zbi (fX8_turnsAs dd r35 p1 M36) (fun r38 M39 => zbi (fX8_mNow M39) (fun r41 M42 => some (r38 + r41, M42)))))) else (zbi (fX8_above p0 M) (fun r44 M45 => zbi (fX8_turnsAs dd r44 p1 M45) (fun r47 M48 => some (r47, M48)))))))
set_option maxRecDepth 100000 in
set_option maxHeartbeats 4000000 in
theorem kX8_turnsAs (l : Launch) (D : va_G) (cy : Nat → ClassId) (a : Nat → Nat) : ∀ (d : Nat) (p0 : Int32) (p1 : Int32) (M : zM) (r0 : Int32) (M0 : zM), fX8_turnsAs d p0 p1 M = some (r0, M0) → zCi l D cy a yX8_turnsAs cX8_turnsAs 3 (some .int) (zRm (d * 1 + 10) (d * 22 + 219)) [.ref (a 87), .int p0, .int p1] M (fun r u => r = r0 ∧ u = M0) := by
  intro d
  induction d with
  | zero =>
    intro p0 p1 M r0 M0 h
    cases h
  | succ dd ih =>
    intro p0 p1 M r0 M0 h
    intro sz
    refine zent_i sz (by decide) (Nat.le_of_ble_eq_true rfl) rfl (fun p e s m args below meth c ls H locs X hw hl => ?_)
    obtain ⟨hx, hb, hr, hml, hown, hW, hlocks⟩ := id X
    have hE := hw.2.2.2.2.1
    have hcs : 0 ≤ ((zRm ((dd + 1) * 1 + 10) ((dd + 1) * 22 + 219))).cells ∧ 0 ≤ ((zRm ((dd + 1) * 1 + 10) ((dd + 1) * 22 + 219))).slots := ⟨Nat.zero_le _, Nat.zero_le _⟩
    rw [fX8_turnsAs] at h
    refine lv_iload_n hx hb dX8_turnsAs_0 rfl (lv_at hl 1 rfl) ?_
    by_cases c1 : p0 = (0 : Int32)
    · replace h := zif_t c1 h
      refine lv_tableIn (off := 43) (tgt := 44) hx hb dX8_turnsAs_1 (by rw [c1]; decide) (by rw [c1]; decide) (by rw [c1]; rfl) (by decide) ?_
      refine lv_aload_n hx hb dX8_turnsAs_44 rfl (lv_at hl 0 rfl) ?_
      refine lv_bipush (v := 11) hx hb dX8_turnsAs_45 (by decide) ?_
      obtain ⟨M3, f4, h⟩ := zbv_e h
      refine z_qVv (As := [.int (11 : Int32)]) (rest := []) X hw (kX8_begins l D cy a (11 : Int32) M M3 f4) (cwX8_253 X.2.2.2.2.2.1 rfl rfl (zroomO (by omega) (by omega))) (zX8_lt (rfl : zX8 87)) (zS8 (rfl : zX8 87) cy a (M 87)) rfl rfl rfl (Nat.le_of_ble_eq_true rfl) hl.1 hcs dX8_turnsAs_47 (fun H locs hw => ?_)
      refine lv_aload_n hx hb dX8_turnsAs_50 rfl (lv_at hl 0 rfl) ?_
      refine lv_aload_n hx hb dX8_turnsAs_51 rfl (lv_at hl 0 rfl) ?_
      obtain ⟨r5, M6, f7, h⟩ := zbi_e h
      refine z_qVi (As := []) (rest := [.ref (a 87)]) X hw (kX8_kindNow l D cy a M3 r5 M6 f7) (cwX8_262 X.2.2.2.2.2.1 rfl rfl (zroomO (by omega) (by omega))) (zX8_lt (rfl : zX8 87)) (zS8 (rfl : zX8 87) cy a (M3 87)) rfl rfl rfl (Nat.le_of_ble_eq_true rfl) hl.1 hcs dX8_turnsAs_52 (fun H locs hw => ?_)
      refine lv_iload_n hx hb dX8_turnsAs_55 rfl (lv_at hl 2 rfl) ?_
      obtain ⟨r8, M9, f10, h⟩ := zbi_e h
      refine z_qVi (As := [.int r5, .int p1]) (rest := []) X hw (kX8_flowsAs l D cy a 8 r5 p1 M6 r8 M9 f10) (cwX8_259 X.2.2.2.2.2.1 rfl rfl (zroomO (by omega) (by omega))) (zX8_lt (rfl : zX8 87)) (zS8 (rfl : zX8 87) cy a (M6 87)) rfl rfl rfl (Nat.le_of_ble_eq_true rfl) hl.1 hcs dX8_turnsAs_56 (fun H locs hw => ?_)
      refine lv_iconst (v := 2) hx hb dX8_turnsAs_59 (by decide) ?_
      refine lv_imul hx hb dX8_turnsAs_60 ?_
      exact z_ri X hw (zret h) dX8_turnsAs_61
    replace h := zif_f c1 h
    by_cases c11 : p0 = (2 : Int32)
    · replace h := zif_t c11 h
      refine lv_tableIn (off := 61) (tgt := 62) hx hb dX8_turnsAs_1 (by rw [c11]; decide) (by rw [c11]; decide) (by rw [c11]; rfl) (by decide) ?_
      refine lv_aload_n hx hb dX8_turnsAs_62 rfl (lv_at hl 0 rfl) ?_
      refine lv_bipush (v := 30) hx hb dX8_turnsAs_63 (by decide) ?_
      obtain ⟨M13, f14, h⟩ := zbv_e h
      refine z_qVv (As := [.int (30 : Int32)]) (rest := []) X hw (kX8_begins l D cy a (30 : Int32) M M13 f14) (cwX8_253 X.2.2.2.2.2.1 rfl rfl (zroomO (by omega) (by omega))) (zX8_lt (rfl : zX8 87)) (zS8 (rfl : zX8 87) cy a (M 87)) rfl rfl rfl (Nat.le_of_ble_eq_true rfl) hl.1 hcs dX8_turnsAs_65 (fun H locs hw => ?_)
      refine lv_iconst (v := 0) hx hb dX8_turnsAs_68 (by decide) ?_
      refine lv_aload_n hx hb dX8_turnsAs_69 rfl (lv_at hl 0 rfl) ?_
      refine lv_iconst (v := 2) hx hb dX8_turnsAs_70 (by decide) ?_
      obtain ⟨r15, M16, f17, h⟩ := zbi_e h
      refine z_qSi (As := [.int (2 : Int32)]) (rest := [.ref (a 87), .int (0 : Int32)]) X hw (kX8_above l D cy a (2 : Int32) M13 r15 M16 f17) (cwX8_256 X.2.2.2.2.2.1 rfl rfl (zroomO (by omega) (by omega))) rfl rfl (Nat.le_of_ble_eq_true rfl) hl.1 hcs dX8_turnsAs_71 (fun H locs hw => ?_)
      refine lv_iload_n hx hb dX8_turnsAs_74 rfl (lv_at hl 2 rfl) ?_
      obtain ⟨r18, M19, f20, h⟩ := zbi_e h
      refine z_qVi (As := [.int r15, .int p1]) (rest := [.int (0 : Int32)]) X hw (ih r15 p1 M16 r18 M19 f20) (cwX8_265 X.2.2.2.2.2.1 rfl rfl (zroomO (by omega) (by omega))) (zX8_lt (rfl : zX8 87)) (zS8 (rfl : zX8 87) cy a (M16 87)) rfl rfl rfl (Nat.le_of_ble_eq_true rfl) hl.1 hcs dX8_turnsAs_75 (fun H locs hw => ?_)
      refine lv_isub hx hb dX8_turnsAs_78 ?_
      exact z_ri X hw (zret h) dX8_turnsAs_79
    replace h := zif_f c11 h
    by_cases c21 : p0 = (5 : Int32)
    · replace h := zif_t c21 h
      refine lv_tableIn (off := 79) (tgt := 80) hx hb dX8_turnsAs_1 (by rw [c21]; decide) (by rw [c21]; decide) (by rw [c21]; rfl) (by decide) ?_
      refine lv_aload_n hx hb dX8_turnsAs_80 rfl (lv_at hl 0 rfl) ?_
      refine lv_bipush (v := 60) hx hb dX8_turnsAs_81 (by decide) ?_
      obtain ⟨M23, f24, h⟩ := zbv_e h
      refine z_qVv (As := [.int (60 : Int32)]) (rest := []) X hw (kX8_begins l D cy a (60 : Int32) M M23 f24) (cwX8_253 X.2.2.2.2.2.1 rfl rfl (zroomO (by omega) (by omega))) (zX8_lt (rfl : zX8 87)) (zS8 (rfl : zX8 87) cy a (M 87)) rfl rfl rfl (Nat.le_of_ble_eq_true rfl) hl.1 hcs dX8_turnsAs_83 (fun H locs hw => ?_)
      refine lv_aload_n hx hb dX8_turnsAs_86 rfl (lv_at hl 0 rfl) ?_
      refine lv_iconst (v := 5) hx hb dX8_turnsAs_87 (by decide) ?_
      obtain ⟨r25, M26, f27, h⟩ := zbi_e h
      refine z_qSi (As := [.int (5 : Int32)]) (rest := [.ref (a 87)]) X hw (kX8_above l D cy a (5 : Int32) M23 r25 M26 f27) (cwX8_256 X.2.2.2.2.2.1 rfl rfl (zroomO (by omega) (by omega))) rfl rfl (Nat.le_of_ble_eq_true rfl) hl.1 hcs dX8_turnsAs_88 (fun H locs hw => ?_)
      refine lv_iload_n hx hb dX8_turnsAs_91 rfl (lv_at hl 2 rfl) ?_
      refine lv_iconst (v := 1) hx hb dX8_turnsAs_92 (by decide) ?_
      refine lv_iadd hx hb dX8_turnsAs_93 ?_
      obtain ⟨r28, M29, f30, h⟩ := zbi_e h
      refine z_qVi (As := [.int r25, .int (p1 + (1 : Int32))]) (rest := []) X hw (ih r25 (p1 + (1 : Int32)) M26 r28 M29 f30) (cwX8_265 X.2.2.2.2.2.1 rfl rfl (zroomO (by omega) (by omega))) (zX8_lt (rfl : zX8 87)) (zS8 (rfl : zX8 87) cy a (M26 87)) rfl rfl rfl (Nat.le_of_ble_eq_true rfl) hl.1 hcs dX8_turnsAs_94 (fun H locs hw => ?_)
      exact z_ri X hw (zret h) dX8_turnsAs_97
    replace h := zif_f c21 h
    by_cases c31 : p0 = (6 : Int32)
    · replace h := zif_t c31 h
      refine lv_tableIn (off := 97) (tgt := 98) hx hb dX8_turnsAs_1 (by rw [c31]; decide) (by rw [c31]; decide) (by rw [c31]; rfl) (by decide) ?_
      refine lv_aload_n hx hb dX8_turnsAs_98 rfl (lv_at hl 0 rfl) ?_
      refine lv_bipush (v := 71) hx hb dX8_turnsAs_99 (by decide) ?_
      obtain ⟨M33, f34, h⟩ := zbv_e h
      refine z_qVv (As := [.int (71 : Int32)]) (rest := []) X hw (kX8_begins l D cy a (71 : Int32) M M33 f34) (cwX8_253 X.2.2.2.2.2.1 rfl rfl (zroomO (by omega) (by omega))) (zX8_lt (rfl : zX8 87)) (zS8 (rfl : zX8 87) cy a (M 87)) rfl rfl rfl (Nat.le_of_ble_eq_true rfl) hl.1 hcs dX8_turnsAs_101 (fun H locs hw => ?_)
      refine lv_aload_n hx hb dX8_turnsAs_104 rfl (lv_at hl 0 rfl) ?_
      refine lv_bipush (v := 6) hx hb dX8_turnsAs_105 (by decide) ?_
      obtain ⟨r35, M36, f37, h⟩ := zbi_e h
      refine z_qSi (As := [.int (6 : Int32)]) (rest := [.ref (a 87)]) X hw (kX8_above l D cy a (6 : Int32) M33 r35 M36 f37) (cwX8_256 X.2.2.2.2.2.1 rfl rfl (zroomO (by omega) (by omega))) rfl rfl (Nat.le_of_ble_eq_true rfl) hl.1 hcs dX8_turnsAs_107 (fun H locs hw => ?_)
      refine lv_iload_n hx hb dX8_turnsAs_110 rfl (lv_at hl 2 rfl) ?_
      obtain ⟨r38, M39, f40, h⟩ := zbi_e h
      refine z_qVi (As := [.int r35, .int p1]) (rest := []) X hw (ih r35 p1 M36 r38 M39 f40) (cwX8_265 X.2.2.2.2.2.1 rfl rfl (zroomO (by omega) (by omega))) (zX8_lt (rfl : zX8 87)) (zS8 (rfl : zX8 87) cy a (M36 87)) rfl rfl rfl (Nat.le_of_ble_eq_true rfl) hl.1 hcs dX8_turnsAs_111 (fun H locs hw => ?_)
      refine lv_aload_n hx hb dX8_turnsAs_114 rfl (lv_at hl 0 rfl) ?_
      obtain ⟨r41, M42, f43, h⟩ := zbi_e h
      refine z_qVi (As := []) (rest := [.int r38]) X hw (kX8_mNow l D cy a M39 r41 M42 f43) (cwX8_268 X.2.2.2.2.2.1 rfl rfl (zroomO (by omega) (by omega))) (zX8_lt (rfl : zX8 87)) (zS8 (rfl : zX8 87) cy a (M39 87)) rfl rfl rfl (Nat.le_of_ble_eq_true rfl) hl.1 hcs dX8_turnsAs_115 (fun H locs hw => ?_)
      refine lv_iadd hx hb dX8_turnsAs_118 ?_
      exact z_ri X hw (zret h) dX8_turnsAs_119
    replace h := zif_f c31 h
    have K : W p l e (zRm ((dd + 1) * 1 + 10) ((dd + 1) * 22 + 219)) s m args below meth c H locs 0 0 (zQi D cy a s args below r0 M0) (F0 m 120 ls []) := by
      refine lv_aload_n hx hb dX8_turnsAs_120 rfl (lv_at hl 0 rfl) ?_
      refine lv_iload_n hx hb dX8_turnsAs_121 rfl (lv_at hl 1 rfl) ?_
      obtain ⟨r44, M45, f46, h⟩ := zbi_e h
      refine z_qSi (As := [.int p0]) (rest := [.ref (a 87)]) X hw (kX8_above l D cy a p0 M r44 M45 f46) (cwX8_256 X.2.2.2.2.2.1 rfl rfl (zroomO (by omega) (by omega))) rfl rfl (Nat.le_of_ble_eq_true rfl) hl.1 hcs dX8_turnsAs_122 (fun H locs hw => ?_)
      refine lv_iload_n hx hb dX8_turnsAs_125 rfl (lv_at hl 2 rfl) ?_
      obtain ⟨r47, M48, f49, h⟩ := zbi_e h
      refine z_qVi (As := [.int r44, .int p1]) (rest := []) X hw (ih r44 p1 M45 r47 M48 f49) (cwX8_265 X.2.2.2.2.2.1 rfl rfl (zroomO (by omega) (by omega))) (zX8_lt (rfl : zX8 87)) (zS8 (rfl : zX8 87) cy a (M45 87)) rfl rfl rfl (Nat.le_of_ble_eq_true rfl) hl.1 hcs dX8_turnsAs_126 (fun H locs hw => ?_)
      exact z_ri X hw (zret h) dX8_turnsAs_129
    have tc1 := lv_neT c1 (a := 0) rfl
    have tc11 := lv_neT c11 (a := 2) rfl
    have tc21 := lv_neT c21 (a := 5) rfl
    have tc31 := lv_neT c31 (a := 6) rfl
    by_cases tz : p0.toInt < 0 ∨ 6 < p0.toInt
    · exact lv_tableOut (tgt := 120) hx hb dX8_turnsAs_1 tz (by decide) K
    have tw : p0.toInt = 1 ∨ p0.toInt = 3 ∨ p0.toInt = 4 := by omega
    rcases tw with tw | tw | tw <;> exact lv_tableIn (off := 119) (tgt := 120) hx hb dX8_turnsAs_1 (by omega) (by omega) (by rw [tw]; rfl) (by decide) K
def fX8_praysAs : Nat → Int32 → Int32 → zM → Option (Int32 × zM)
  | 0, _, _, _ => none
  | dd + 1, p0, p1, M => if p0 = (0 : Int32) then (zbv (fX8_begins (12 : Int32) M) (fun M3 => zbi (fX8_kindNow M3) (fun r5 M6 => zbi (fX8_turnsAs 8 r5 p1 M6) (fun r8 M9 => zbi (fX8_mNow M9) (fun r11 M12 => some (r8 - r11, M12)))))) else (if p0 = (3 : Int32) then (zbv (fX8_begins (40 : Int32) M) (fun M16 => zbi (fX8_above (3 : Int32) M16) (fun r18 M19 => zbi (fX8_praysAs dd r18 (p1 / (2 : Int32)) M19) (fun r21 M22 => some (r21, M22))))) else (if p0 = (4 : Int32) then (zbv (fX8_begins (51 : Int32) M) (fun M26 => zbi (fX8_above (4 : Int32) M26) (fun r28 M29 => zbi (fX8_praysAs dd r28 p1 M29) (fun r31 M32 => some (r31 ^^^ (M32 87 21), M32))))) else (zbi (fX8_above p0 M) (fun r34 M35 => zbi (fX8_praysAs dd r34 p1 M35) (fun r37 M38 => some (r37, M38))))))
set_option maxRecDepth 100000 in
set_option maxHeartbeats 4000000 in
theorem kX8_praysAs (l : Launch) (D : va_G) (cy : Nat → ClassId) (a : Nat → Nat) : ∀ (d : Nat) (p0 : Int32) (p1 : Int32) (M : zM) (r0 : Int32) (M0 : zM), fX8_praysAs d p0 p1 M = some (r0, M0) → zCi l D cy a yX8_praysAs cX8_praysAs 3 (some .int) (zRm (d * 1 + 19) (d * 22 + 417)) [.ref (a 87), .int p0, .int p1] M (fun r u => r = r0 ∧ u = M0) := by
  intro d
  induction d with
  | zero =>
    intro p0 p1 M r0 M0 h
    cases h
  | succ dd ih =>
    intro p0 p1 M r0 M0 h
    intro sz
    refine zent_i sz (by decide) (Nat.le_of_ble_eq_true rfl) rfl (fun p e s m args below meth c ls H locs X hw hl => ?_)
    obtain ⟨hx, hb, hr, hml, hown, hW, hlocks⟩ := id X
    have hE := hw.2.2.2.2.1
    have hcs : 0 ≤ ((zRm ((dd + 1) * 1 + 19) ((dd + 1) * 22 + 417))).cells ∧ 0 ≤ ((zRm ((dd + 1) * 1 + 19) ((dd + 1) * 22 + 417))).slots := ⟨Nat.zero_le _, Nat.zero_le _⟩
    rw [fX8_praysAs] at h
    refine lv_iload_n hx hb dX8_praysAs_0 rfl (lv_at hl 1 rfl) ?_
    by_cases c1 : p0 = (0 : Int32)
    · replace h := zif_t c1 h
      refine lv_tableIn (off := 35) (tgt := 36) hx hb dX8_praysAs_1 (by rw [c1]; decide) (by rw [c1]; decide) (by rw [c1]; rfl) (by decide) ?_
      refine lv_aload_n hx hb dX8_praysAs_36 rfl (lv_at hl 0 rfl) ?_
      refine lv_bipush (v := 12) hx hb dX8_praysAs_37 (by decide) ?_
      obtain ⟨M3, f4, h⟩ := zbv_e h
      refine z_qVv (As := [.int (12 : Int32)]) (rest := []) X hw (kX8_begins l D cy a (12 : Int32) M M3 f4) (cwX8_253 X.2.2.2.2.2.1 rfl rfl (zroomO (by omega) (by omega))) (zX8_lt (rfl : zX8 87)) (zS8 (rfl : zX8 87) cy a (M 87)) rfl rfl rfl (Nat.le_of_ble_eq_true rfl) hl.1 hcs dX8_praysAs_39 (fun H locs hw => ?_)
      refine lv_aload_n hx hb dX8_praysAs_42 rfl (lv_at hl 0 rfl) ?_
      refine lv_aload_n hx hb dX8_praysAs_43 rfl (lv_at hl 0 rfl) ?_
      obtain ⟨r5, M6, f7, h⟩ := zbi_e h
      refine z_qVi (As := []) (rest := [.ref (a 87)]) X hw (kX8_kindNow l D cy a M3 r5 M6 f7) (cwX8_262 X.2.2.2.2.2.1 rfl rfl (zroomO (by omega) (by omega))) (zX8_lt (rfl : zX8 87)) (zS8 (rfl : zX8 87) cy a (M3 87)) rfl rfl rfl (Nat.le_of_ble_eq_true rfl) hl.1 hcs dX8_praysAs_44 (fun H locs hw => ?_)
      refine lv_iload_n hx hb dX8_praysAs_47 rfl (lv_at hl 2 rfl) ?_
      obtain ⟨r8, M9, f10, h⟩ := zbi_e h
      refine z_qVi (As := [.int r5, .int p1]) (rest := []) X hw (kX8_turnsAs l D cy a 8 r5 p1 M6 r8 M9 f10) (cwX8_265 X.2.2.2.2.2.1 rfl rfl (zroomO (by omega) (by omega))) (zX8_lt (rfl : zX8 87)) (zS8 (rfl : zX8 87) cy a (M6 87)) rfl rfl rfl (Nat.le_of_ble_eq_true rfl) hl.1 hcs dX8_praysAs_48 (fun H locs hw => ?_)
      refine lv_aload_n hx hb dX8_praysAs_51 rfl (lv_at hl 0 rfl) ?_
      obtain ⟨r11, M12, f13, h⟩ := zbi_e h
      refine z_qVi (As := []) (rest := [.int r8]) X hw (kX8_mNow l D cy a M9 r11 M12 f13) (cwX8_268 X.2.2.2.2.2.1 rfl rfl (zroomO (by omega) (by omega))) (zX8_lt (rfl : zX8 87)) (zS8 (rfl : zX8 87) cy a (M9 87)) rfl rfl rfl (Nat.le_of_ble_eq_true rfl) hl.1 hcs dX8_praysAs_52 (fun H locs hw => ?_)
      refine lv_isub hx hb dX8_praysAs_55 ?_
      exact z_ri X hw (zret h) dX8_praysAs_56
    replace h := zif_f c1 h
    by_cases c14 : p0 = (3 : Int32)
    · replace h := zif_t c14 h
      refine lv_tableIn (off := 56) (tgt := 57) hx hb dX8_praysAs_1 (by rw [c14]; decide) (by rw [c14]; decide) (by rw [c14]; rfl) (by decide) ?_
      refine lv_aload_n hx hb dX8_praysAs_57 rfl (lv_at hl 0 rfl) ?_
      refine lv_bipush (v := 40) hx hb dX8_praysAs_58 (by decide) ?_
      obtain ⟨M16, f17, h⟩ := zbv_e h
      refine z_qVv (As := [.int (40 : Int32)]) (rest := []) X hw (kX8_begins l D cy a (40 : Int32) M M16 f17) (cwX8_253 X.2.2.2.2.2.1 rfl rfl (zroomO (by omega) (by omega))) (zX8_lt (rfl : zX8 87)) (zS8 (rfl : zX8 87) cy a (M 87)) rfl rfl rfl (Nat.le_of_ble_eq_true rfl) hl.1 hcs dX8_praysAs_60 (fun H locs hw => ?_)
      refine lv_aload_n hx hb dX8_praysAs_63 rfl (lv_at hl 0 rfl) ?_
      refine lv_iconst (v := 3) hx hb dX8_praysAs_64 (by decide) ?_
      obtain ⟨r18, M19, f20, h⟩ := zbi_e h
      refine z_qSi (As := [.int (3 : Int32)]) (rest := [.ref (a 87)]) X hw (kX8_above l D cy a (3 : Int32) M16 r18 M19 f20) (cwX8_256 X.2.2.2.2.2.1 rfl rfl (zroomO (by omega) (by omega))) rfl rfl (Nat.le_of_ble_eq_true rfl) hl.1 hcs dX8_praysAs_65 (fun H locs hw => ?_)
      refine lv_iload_n hx hb dX8_praysAs_68 rfl (lv_at hl 2 rfl) ?_
      refine lv_iconst (v := 2) hx hb dX8_praysAs_69 (by decide) ?_
      refine lv_idiv hx hb dX8_praysAs_70 (by decide) ?_
      obtain ⟨r21, M22, f23, h⟩ := zbi_e h
      refine z_qVi (As := [.int r18, .int (p1 / (2 : Int32))]) (rest := []) X hw (ih r18 (p1 / (2 : Int32)) M19 r21 M22 f23) (cwX8_271 X.2.2.2.2.2.1 rfl rfl (zroomO (by omega) (by omega))) (zX8_lt (rfl : zX8 87)) (zS8 (rfl : zX8 87) cy a (M19 87)) rfl rfl rfl (Nat.le_of_ble_eq_true rfl) hl.1 hcs dX8_praysAs_71 (fun H locs hw => ?_)
      exact z_ri X hw (zret h) dX8_praysAs_74
    replace h := zif_f c14 h
    by_cases c24 : p0 = (4 : Int32)
    · replace h := zif_t c24 h
      refine lv_tableIn (off := 74) (tgt := 75) hx hb dX8_praysAs_1 (by rw [c24]; decide) (by rw [c24]; decide) (by rw [c24]; rfl) (by decide) ?_
      refine lv_aload_n hx hb dX8_praysAs_75 rfl (lv_at hl 0 rfl) ?_
      refine lv_bipush (v := 51) hx hb dX8_praysAs_76 (by decide) ?_
      obtain ⟨M26, f27, h⟩ := zbv_e h
      refine z_qVv (As := [.int (51 : Int32)]) (rest := []) X hw (kX8_begins l D cy a (51 : Int32) M M26 f27) (cwX8_253 X.2.2.2.2.2.1 rfl rfl (zroomO (by omega) (by omega))) (zX8_lt (rfl : zX8 87)) (zS8 (rfl : zX8 87) cy a (M 87)) rfl rfl rfl (Nat.le_of_ble_eq_true rfl) hl.1 hcs dX8_praysAs_78 (fun H locs hw => ?_)
      refine lv_aload_n hx hb dX8_praysAs_81 rfl (lv_at hl 0 rfl) ?_
      refine lv_iconst (v := 4) hx hb dX8_praysAs_82 (by decide) ?_
      obtain ⟨r28, M29, f30, h⟩ := zbi_e h
      refine z_qSi (As := [.int (4 : Int32)]) (rest := [.ref (a 87)]) X hw (kX8_above l D cy a (4 : Int32) M26 r28 M29 f30) (cwX8_256 X.2.2.2.2.2.1 rfl rfl (zroomO (by omega) (by omega))) rfl rfl (Nat.le_of_ble_eq_true rfl) hl.1 hcs dX8_praysAs_83 (fun H locs hw => ?_)
      refine lv_iload_n hx hb dX8_praysAs_86 rfl (lv_at hl 2 rfl) ?_
      obtain ⟨r31, M32, f33, h⟩ := zbi_e h
      refine z_qVi (As := [.int r28, .int p1]) (rest := []) X hw (ih r28 p1 M29 r31 M32 f33) (cwX8_271 X.2.2.2.2.2.1 rfl rfl (zroomO (by omega) (by omega))) (zX8_lt (rfl : zX8 87)) (zS8 (rfl : zX8 87) cy a (M29 87)) rfl rfl rfl (Nat.le_of_ble_eq_true rfl) hl.1 hcs dX8_praysAs_87 (fun H locs hw => ?_)
      refine lv_aload_n hx hb dX8_praysAs_90 rfl (lv_at hl 0 rfl) ?_
      refine gtX8_250 X hw dX8_praysAs_91 ?_
      refine lv_ixor hx hb dX8_praysAs_94 ?_
      exact z_ri X hw (zret h) dX8_praysAs_95
    replace h := zif_f c24 h
    have K : W p l e (zRm ((dd + 1) * 1 + 19) ((dd + 1) * 22 + 417)) s m args below meth c H locs 0 0 (zQi D cy a s args below r0 M0) (F0 m 96 ls []) := by
      refine lv_aload_n hx hb dX8_praysAs_96 rfl (lv_at hl 0 rfl) ?_
      refine lv_iload_n hx hb dX8_praysAs_97 rfl (lv_at hl 1 rfl) ?_
      obtain ⟨r34, M35, f36, h⟩ := zbi_e h
      refine z_qSi (As := [.int p0]) (rest := [.ref (a 87)]) X hw (kX8_above l D cy a p0 M r34 M35 f36) (cwX8_256 X.2.2.2.2.2.1 rfl rfl (zroomO (by omega) (by omega))) rfl rfl (Nat.le_of_ble_eq_true rfl) hl.1 hcs dX8_praysAs_98 (fun H locs hw => ?_)
      refine lv_iload_n hx hb dX8_praysAs_101 rfl (lv_at hl 2 rfl) ?_
      obtain ⟨r37, M38, f39, h⟩ := zbi_e h
      refine z_qVi (As := [.int r34, .int p1]) (rest := []) X hw (ih r34 p1 M35 r37 M38 f39) (cwX8_271 X.2.2.2.2.2.1 rfl rfl (zroomO (by omega) (by omega))) (zX8_lt (rfl : zX8 87)) (zS8 (rfl : zX8 87) cy a (M35 87)) rfl rfl rfl (Nat.le_of_ble_eq_true rfl) hl.1 hcs dX8_praysAs_102 (fun H locs hw => ?_)
      exact z_ri X hw (zret h) dX8_praysAs_105
    have tc1 := lv_neT c1 (a := 0) rfl
    have tc14 := lv_neT c14 (a := 3) rfl
    have tc24 := lv_neT c24 (a := 4) rfl
    by_cases tz : p0.toInt < 0 ∨ 4 < p0.toInt
    · exact lv_tableOut (tgt := 96) hx hb dX8_praysAs_1 tz (by decide) K
    have tw : p0.toInt = 1 ∨ p0.toInt = 2 := by omega
    rcases tw with tw | tw <;> exact lv_tableIn (off := 95) (tgt := 96) hx hb dX8_praysAs_1 (by omega) (by omega) (by rw [tw]; rfl) (by decide) K
def fX8_partsAs : Nat → Int32 → Int32 → zM → Option (Int32 × zM)
  | 0, _, _, _ => none
  | dd + 1, p0, p1, M => if p0 = (0 : Int32) then (zbv (fX8_begins (13 : Int32) M) (fun M3 => zbi (fX8_mNow M3) (fun r5 M6 => zlt (r5 - (M6 87 21)) (fun x8 => if x8 = 0 then (zlt (zst M6 87 22 (1 : Int32)) (fun M14 => if x8 = 0 then (some ((0 : Int32), M14)) else (if x8 = (-1 : Int32) then (some (-p1, M14)) else (zgd (x8 = 0) (some (p1 / x8, M14)))))) else (zlt (zst M6 87 22 (0 : Int32)) (fun M10 => if x8 = 0 then (some ((0 : Int32), M10)) else (if x8 = (-1 : Int32) then (some (-p1, M10)) else (zgd (x8 = 0) (some (p1 / x8, M10)))))))))) else (if p0 = (1 : Int32) then (zbv (fX8_begins (21 : Int32) M) (fun M20 => zbi (fX8_above (1 : Int32) M20) (fun r22 M23 => zbi (fX8_partsAs dd r22 p1 M23) (fun r25 M26 => if M26 87 22 = 0 then (zbi (fX8_kindNow M26) (fun r29 M30 => zbi (fX8_turnsAs 8 r29 (1 : Int32) M30) (fun r32 M33 => some (r25 + r32, M33)))) else (some ((0 : Int32), M26)))))) else (zbi (fX8_above p0 M) (fun r35 M36 => zbi (fX8_partsAs dd r35 p1 M36) (fun r38 M39 => some (r38, M39)))))
set_option maxRecDepth 100000 in
set_option maxHeartbeats 4000000 in
theorem kX8_partsAs (l : Launch) (D : va_G) (cy : Nat → ClassId) (a : Nat → Nat) : ∀ (d : Nat) (p0 : Int32) (p1 : Int32) (M : zM) (r0 : Int32) (M0 : zM), fX8_partsAs d p0 p1 M = some (r0, M0) → zCi l D cy a yX8_partsAs cX8_partsAs 5 (some .int) (zRm (d * 1 + 19) (d * 24 + 417)) [.ref (a 87), .int p0, .int p1] M (fun r u => r = r0 ∧ u = M0) := by
  intro d
  induction d with
  | zero =>
    intro p0 p1 M r0 M0 h
    cases h
  | succ dd ih =>
    intro p0 p1 M r0 M0 h
    intro sz
    refine zent_i sz (by decide) (Nat.le_of_ble_eq_true rfl) rfl (fun p e s m args below meth c ls H locs X hw hl => ?_)
    obtain ⟨hx, hb, hr, hml, hown, hW, hlocks⟩ := id X
    have hE := hw.2.2.2.2.1
    have hcs : 0 ≤ ((zRm ((dd + 1) * 1 + 19) ((dd + 1) * 24 + 417))).cells ∧ 0 ≤ ((zRm ((dd + 1) * 1 + 19) ((dd + 1) * 24 + 417))).slots := ⟨Nat.zero_le _, Nat.zero_le _⟩
    rw [fX8_partsAs] at h
    refine lv_iload_n hx hb dX8_partsAs_0 rfl (lv_at hl 1 rfl) ?_
    by_cases c1 : p0 = (0 : Int32)
    · replace h := zif_t c1 h
      refine lv_lookup (off := 27) (tgt := 28) hx hb dX8_partsAs_1 (by decide) (by rw [c1]; rfl) (by decide) ?_
      refine lv_aload_n hx hb dX8_partsAs_28 rfl (lv_at hl 0 rfl) ?_
      refine lv_bipush (v := 13) hx hb dX8_partsAs_29 (by decide) ?_
      obtain ⟨M3, f4, h⟩ := zbv_e h
      refine z_qVv (As := [.int (13 : Int32)]) (rest := []) X hw (kX8_begins l D cy a (13 : Int32) M M3 f4) (cwX8_253 X.2.2.2.2.2.1 rfl rfl (zroomO (by omega) (by omega))) (zX8_lt (rfl : zX8 87)) (zS8 (rfl : zX8 87) cy a (M 87)) rfl rfl rfl (Nat.le_of_ble_eq_true rfl) hl.1 hcs dX8_partsAs_31 (fun H locs hw => ?_)
      refine lv_aload_n hx hb dX8_partsAs_34 rfl (lv_at hl 0 rfl) ?_
      obtain ⟨r5, M6, f7, h⟩ := zbi_e h
      refine z_qVi (As := []) (rest := []) X hw (kX8_mNow l D cy a M3 r5 M6 f7) (cwX8_268 X.2.2.2.2.2.1 rfl rfl (zroomO (by omega) (by omega))) (zX8_lt (rfl : zX8 87)) (zS8 (rfl : zX8 87) cy a (M3 87)) rfl rfl rfl (Nat.le_of_ble_eq_true rfl) hl.1 hcs dX8_partsAs_35 (fun H locs hw => ?_)
      refine lv_aload_n hx hb dX8_partsAs_38 rfl (lv_at hl 0 rfl) ?_
      refine gtX8_250 X hw dX8_partsAs_39 ?_
      refine lv_isub hx hb dX8_partsAs_42 ?_
      refine lv_topi (fun x8 ex8 => ?_)
      replace h := zlt_s ex8 h
      refine lv_istore_n (lv' := [(3, .int x8), (0, .ref (a 87)), (1, .int p0), (2, .int p1)]) hx hb dX8_partsAs_43 rfl hl (by decide) rfl (fun ls hl => ?_)
      refine lv_aload_n hx hb dX8_partsAs_44 rfl (lv_at hl 1 rfl) ?_
      refine lv_iload_n hx hb dX8_partsAs_45 rfl (lv_at hl 0 rfl) ?_
      refine lv_if_ne (tgt := 53) hx hb dX8_partsAs_46 (by decide) (fun c9 => ?_) (fun c9 => ?_)
      · replace h := zif_f c9 h
        refine lv_iconst (v := 0) hx hb dX8_partsAs_53 (by decide) ?_
        refine ptX8_274 X hw (Or.inl rfl) dX8_partsAs_54 (fun M10 H locs eM10 hw => ?_)
        replace h := zlt_s eM10 h
        refine lv_iload_n hx hb dX8_partsAs_57 rfl (lv_at hl 0 rfl) ?_
        refine lv_if_ne (tgt := 65) hx hb dX8_partsAs_58 (by decide) (fun c11 => ?_) (fun c11 => ?_)
        · replace h := zif_f c11 h
          refine lv_iload_n hx hb dX8_partsAs_65 rfl (lv_at hl 0 rfl) ?_
          refine lv_iconst (v := (-1)) hx hb dX8_partsAs_66 (by decide) ?_
          refine lv_icmp_ne (tgt := 75) hx hb dX8_partsAs_67 (by decide) (fun c12 => ?_) (fun c12 => ?_)
          · replace h := zif_f c12 h
            refine lv_iload_n hx hb dX8_partsAs_75 rfl (lv_at hl 3 rfl) ?_
            refine lv_iload_n hx hb dX8_partsAs_76 rfl (lv_at hl 0 rfl) ?_
            obtain ⟨g13, h⟩ := zgd_e h
            refine lv_idiv hx hb dX8_partsAs_77 g13 ?_
            exact z_ri X hw (zret h) dX8_partsAs_78
          · replace h := zif_t c12 h
            refine lv_iload_n hx hb dX8_partsAs_70 rfl (lv_at hl 3 rfl) ?_
            refine lv_ineg hx hb dX8_partsAs_71 ?_
            refine lv_goto (tgt := 78) hx hb dX8_partsAs_72 (by decide) ?_
            exact z_ri X hw (zret h) dX8_partsAs_78
        · replace h := zif_t c11 h
          refine lv_iconst (v := 0) hx hb dX8_partsAs_61 (by decide) ?_
          refine lv_goto (tgt := 78) hx hb dX8_partsAs_62 (by decide) ?_
          exact z_ri X hw (zret h) dX8_partsAs_78
      · replace h := zif_t c9 h
        refine lv_iconst (v := 1) hx hb dX8_partsAs_49 (by decide) ?_
        refine lv_goto (tgt := 54) hx hb dX8_partsAs_50 (by decide) ?_
        refine ptX8_274 X hw (Or.inr rfl) dX8_partsAs_54 (fun M14 H locs eM14 hw => ?_)
        replace h := zlt_s eM14 h
        refine lv_iload_n hx hb dX8_partsAs_57 rfl (lv_at hl 0 rfl) ?_
        refine lv_if_ne (tgt := 65) hx hb dX8_partsAs_58 (by decide) (fun c15 => ?_) (fun c15 => ?_)
        · replace h := zif_f c15 h
          refine lv_iload_n hx hb dX8_partsAs_65 rfl (lv_at hl 0 rfl) ?_
          refine lv_iconst (v := (-1)) hx hb dX8_partsAs_66 (by decide) ?_
          refine lv_icmp_ne (tgt := 75) hx hb dX8_partsAs_67 (by decide) (fun c16 => ?_) (fun c16 => ?_)
          · replace h := zif_f c16 h
            refine lv_iload_n hx hb dX8_partsAs_75 rfl (lv_at hl 3 rfl) ?_
            refine lv_iload_n hx hb dX8_partsAs_76 rfl (lv_at hl 0 rfl) ?_
            obtain ⟨g17, h⟩ := zgd_e h
            refine lv_idiv hx hb dX8_partsAs_77 g17 ?_
            exact z_ri X hw (zret h) dX8_partsAs_78
          · replace h := zif_t c16 h
            refine lv_iload_n hx hb dX8_partsAs_70 rfl (lv_at hl 3 rfl) ?_
            refine lv_ineg hx hb dX8_partsAs_71 ?_
            refine lv_goto (tgt := 78) hx hb dX8_partsAs_72 (by decide) ?_
            exact z_ri X hw (zret h) dX8_partsAs_78
        · replace h := zif_t c15 h
          refine lv_iconst (v := 0) hx hb dX8_partsAs_61 (by decide) ?_
          refine lv_goto (tgt := 78) hx hb dX8_partsAs_62 (by decide) ?_
          exact z_ri X hw (zret h) dX8_partsAs_78
    replace h := zif_f c1 h
    by_cases c18 : p0 = (1 : Int32)
    · replace h := zif_t c18 h
      refine lv_lookup (off := 78) (tgt := 79) hx hb dX8_partsAs_1 (by decide) (by rw [c18]; rfl) (by decide) ?_
      refine lv_aload_n hx hb dX8_partsAs_79 rfl (lv_at hl 0 rfl) ?_
      refine lv_bipush (v := 21) hx hb dX8_partsAs_80 (by decide) ?_
      obtain ⟨M20, f21, h⟩ := zbv_e h
      refine z_qVv (As := [.int (21 : Int32)]) (rest := []) X hw (kX8_begins l D cy a (21 : Int32) M M20 f21) (cwX8_253 X.2.2.2.2.2.1 rfl rfl (zroomO (by omega) (by omega))) (zX8_lt (rfl : zX8 87)) (zS8 (rfl : zX8 87) cy a (M 87)) rfl rfl rfl (Nat.le_of_ble_eq_true rfl) hl.1 hcs dX8_partsAs_82 (fun H locs hw => ?_)
      refine lv_aload_n hx hb dX8_partsAs_85 rfl (lv_at hl 0 rfl) ?_
      refine lv_iconst (v := 1) hx hb dX8_partsAs_86 (by decide) ?_
      obtain ⟨r22, M23, f24, h⟩ := zbi_e h
      refine z_qSi (As := [.int (1 : Int32)]) (rest := [.ref (a 87)]) X hw (kX8_above l D cy a (1 : Int32) M20 r22 M23 f24) (cwX8_256 X.2.2.2.2.2.1 rfl rfl (zroomO (by omega) (by omega))) rfl rfl (Nat.le_of_ble_eq_true rfl) hl.1 hcs dX8_partsAs_87 (fun H locs hw => ?_)
      refine lv_iload_n hx hb dX8_partsAs_90 rfl (lv_at hl 2 rfl) ?_
      obtain ⟨r25, M26, f27, h⟩ := zbi_e h
      refine z_qVi (As := [.int r22, .int p1]) (rest := []) X hw (ih r22 p1 M23 r25 M26 f27) (cwX8_278 X.2.2.2.2.2.1 rfl rfl (zroomO (by omega) (by omega))) (zX8_lt (rfl : zX8 87)) (zS8 (rfl : zX8 87) cy a (M23 87)) rfl rfl rfl (Nat.le_of_ble_eq_true rfl) hl.1 hcs dX8_partsAs_91 (fun H locs hw => ?_)
      refine lv_istore (lv' := [(4, .int r25), (0, .ref (a 87)), (1, .int p0), (2, .int p1)]) hx hb dX8_partsAs_94 hl (by decide) rfl (fun ls hl => ?_)
      refine lv_aload_n hx hb dX8_partsAs_96 rfl (lv_at hl 1 rfl) ?_
      refine gtX8_274 X hw dX8_partsAs_97 ?_
      refine lv_if_eq (tgt := 107) hx hb dX8_partsAs_100 (by decide) (fun c28 => ?_) (fun c28 => ?_)
      · replace h := zif_t c28 h
        refine lv_iload hx hb dX8_partsAs_107 (lv_at hl 0 rfl) ?_
        refine lv_aload_n hx hb dX8_partsAs_109 rfl (lv_at hl 1 rfl) ?_
        refine lv_aload_n hx hb dX8_partsAs_110 rfl (lv_at hl 1 rfl) ?_
        obtain ⟨r29, M30, f31, h⟩ := zbi_e h
        refine z_qVi (As := []) (rest := [.ref (a 87), .int r25]) X hw (kX8_kindNow l D cy a M26 r29 M30 f31) (cwX8_262 X.2.2.2.2.2.1 rfl rfl (zroomO (by omega) (by omega))) (zX8_lt (rfl : zX8 87)) (zS8 (rfl : zX8 87) cy a (M26 87)) rfl rfl rfl (Nat.le_of_ble_eq_true rfl) hl.1 hcs dX8_partsAs_111 (fun H locs hw => ?_)
        refine lv_iconst (v := 1) hx hb dX8_partsAs_114 (by decide) ?_
        obtain ⟨r32, M33, f34, h⟩ := zbi_e h
        refine z_qVi (As := [.int r29, .int (1 : Int32)]) (rest := [.int r25]) X hw (kX8_turnsAs l D cy a 8 r29 (1 : Int32) M30 r32 M33 f34) (cwX8_265 X.2.2.2.2.2.1 rfl rfl (zroomO (by omega) (by omega))) (zX8_lt (rfl : zX8 87)) (zS8 (rfl : zX8 87) cy a (M30 87)) rfl rfl rfl (Nat.le_of_ble_eq_true rfl) hl.1 hcs dX8_partsAs_115 (fun H locs hw => ?_)
        refine lv_iadd hx hb dX8_partsAs_118 ?_
        exact z_ri X hw (zret h) dX8_partsAs_119
      · replace h := zif_f c28 h
        refine lv_iconst (v := 0) hx hb dX8_partsAs_103 (by decide) ?_
        refine lv_goto (tgt := 119) hx hb dX8_partsAs_104 (by decide) ?_
        exact z_ri X hw (zret h) dX8_partsAs_119
    replace h := zif_f c18 h
    refine lv_lookup (off := 119) (tgt := 120) hx hb dX8_partsAs_1 (by decide) ((lv_osw c1 rfl).trans ((lv_osw c18 rfl).trans (rfl))) (by decide) ?_
    refine lv_aload_n hx hb dX8_partsAs_120 rfl (lv_at hl 0 rfl) ?_
    refine lv_iload_n hx hb dX8_partsAs_121 rfl (lv_at hl 1 rfl) ?_
    obtain ⟨r35, M36, f37, h⟩ := zbi_e h
    refine z_qSi (As := [.int p0]) (rest := [.ref (a 87)]) X hw (kX8_above l D cy a p0 M r35 M36 f37) (cwX8_256 X.2.2.2.2.2.1 rfl rfl (zroomO (by omega) (by omega))) rfl rfl (Nat.le_of_ble_eq_true rfl) hl.1 hcs dX8_partsAs_122 (fun H locs hw => ?_)
    refine lv_iload_n hx hb dX8_partsAs_125 rfl (lv_at hl 2 rfl) ?_
    obtain ⟨r38, M39, f40, h⟩ := zbi_e h
    refine z_qVi (As := [.int r35, .int p1]) (rest := []) X hw (ih r35 p1 M36 r38 M39 f40) (cwX8_278 X.2.2.2.2.2.1 rfl rfl (zroomO (by omega) (by omega))) (zX8_lt (rfl : zX8 87)) (zS8 (rfl : zX8 87) cy a (M36 87)) rfl rfl rfl (Nat.le_of_ble_eq_true rfl) hl.1 hcs dX8_partsAs_126 (fun H locs hw => ?_)
    exact z_ri X hw (zret h) dX8_partsAs_129
def fX8_voice (p0 : Int32) (p1 : Int32) (p2 : Int32) (M : zM) : Option (Int32 × zM) := zbi (fX8_isWheel p0 M) (fun r1 M2 => if r1 = 0 then (zbi (fX8_error (1 : Int32) M2) (fun r5 M6 => some (r5, M6))) else (zbi (fX8_in p1 (0 : Int32) (3 : Int32) M2) (fun r8 M9 => if r8 = 0 then (zbi (fX8_error (1 : Int32) M9) (fun r49 M50 => some (r49, M50))) else (zlt (zst M9 87 20 (0 : Int32)) (fun M12 => zlt (zst M12 87 21 p0) (fun M13 => zlt (zst M13 87 22 (0 : Int32)) (fun M14 => zbi (fX8_kindNow M14) (fun r15 M16 => if p1 = 0 then (zbi (fX8_flowsAs 8 r15 p2 M16) (fun r42 M43 => if M43 87 22 = 0 then (some (r42, M43)) else (zbi (fX8_error (6 : Int32) M43) (fun r46 M47 => some (r46, M47))))) else (if p1 = (1 : Int32) then (zbi (fX8_turnsAs 8 r15 p2 M16) (fun r35 M36 => if M36 87 22 = 0 then (some (r35, M36)) else (zbi (fX8_error (6 : Int32) M36) (fun r39 M40 => some (r39, M40))))) else (if p1 = (2 : Int32) then (zbi (fX8_praysAs 8 r15 p2 M16) (fun r28 M29 => if M29 87 22 = 0 then (some (r28, M29)) else (zbi (fX8_error (6 : Int32) M29) (fun r32 M33 => some (r32, M33))))) else (zbi (fX8_partsAs 8 r15 p2 M16) (fun r21 M22 => if M22 87 22 = 0 then (some (r21, M22)) else (zbi (fX8_error (6 : Int32) M22) (fun r25 M26 => some (r25, M26)))))))))))))))
set_option maxRecDepth 100000 in
set_option maxHeartbeats 4000000 in
theorem kX8_voice (l : Launch) (D : va_G) (cy : Nat → ClassId) (a : Nat → Nat) (p0 : Int32) (p1 : Int32) (p2 : Int32) (M : zM) (r0 : Int32) (M0 : zM) (h : fX8_voice p0 p1 p2 M = some (r0, M0)) : zCi l D cy a yX8_voice cX8_voice 6 (some .int) (zRm 28 633) [.ref (a 87), .int p0, .int p1, .int p2] M (fun r u => r = r0 ∧ u = M0) := by
  intro sz
  refine zent_i sz (by decide) (Nat.le_of_ble_eq_true rfl) rfl (fun p e s m args below meth c ls H locs X hw hl => ?_)
  obtain ⟨hx, hb, hr, hml, hown, hW, hlocks⟩ := id X
  have hE := hw.2.2.2.2.1
  have hcs : 0 ≤ ((zRm 28 633)).cells ∧ 0 ≤ ((zRm 28 633)).slots := ⟨Nat.zero_le _, Nat.zero_le _⟩
  rw [fX8_voice] at h
  refine lv_aload_n hx hb dX8_voice_0 rfl (lv_at hl 0 rfl) ?_
  refine lv_iload_n hx hb dX8_voice_1 rfl (lv_at hl 1 rfl) ?_
  obtain ⟨r1, M2, f3, h⟩ := zbi_e h
  refine z_qVi (As := [.int p0]) (rest := []) X hw (kX8_isWheel l D cy a p0 M r1 M2 f3) (cwX8_112 X.2.2.2.2.2.1 rfl rfl (zroomO (Nat.le_of_ble_eq_true rfl) (Nat.le_of_ble_eq_true rfl))) (zX8_lt (rfl : zX8 87)) (zS8 (rfl : zX8 87) cy a (M 87)) rfl rfl rfl (Nat.le_of_ble_eq_true rfl) hl.1 hcs dX8_voice_2 (fun H locs hw => ?_)
  refine lv_if_eq (tgt := 17) hx hb dX8_voice_5 (by decide) (fun c4 => ?_) (fun c4 => ?_)
  · replace h := zif_t c4 h
    refine lv_aload_n hx hb dX8_voice_17 rfl (lv_at hl 0 rfl) ?_
    refine lv_iconst (v := 1) hx hb dX8_voice_18 (by decide) ?_
    obtain ⟨r5, M6, f7, h⟩ := zbi_e h
    refine z_qVi (As := [.int (1 : Int32)]) (rest := []) X hw (kX8_error l D cy a (1 : Int32) M2 r5 M6 f7) (cwX8_76 X.2.2.2.2.2.1 rfl rfl (zroomO (Nat.le_of_ble_eq_true rfl) (Nat.le_of_ble_eq_true rfl))) (zX8_lt (rfl : zX8 87)) (zS8 (rfl : zX8 87) cy a (M2 87)) rfl rfl rfl (Nat.le_of_ble_eq_true rfl) hl.1 hcs dX8_voice_19 (fun H locs hw => ?_)
    exact z_ri X hw (zret h) dX8_voice_22
  · replace h := zif_f c4 h
    refine lv_iload_n hx hb dX8_voice_8 rfl (lv_at hl 2 rfl) ?_
    refine lv_iconst (v := 0) hx hb dX8_voice_9 (by decide) ?_
    refine lv_iconst (v := 3) hx hb dX8_voice_10 (by decide) ?_
    obtain ⟨r8, M9, f10, h⟩ := zbi_e h
    refine z_qSi (As := [.int p1, .int (0 : Int32), .int (3 : Int32)]) (rest := []) X hw (kX8_in l D cy a p1 (0 : Int32) (3 : Int32) M2 r8 M9 f10) (cwX8_56 X.2.2.2.2.2.1 rfl rfl (zroomO (Nat.le_of_ble_eq_true rfl) (Nat.le_of_ble_eq_true rfl))) rfl rfl (Nat.le_of_ble_eq_true rfl) hl.1 hcs dX8_voice_11 (fun H locs hw => ?_)
    refine lv_if_ne (tgt := 23) hx hb dX8_voice_14 (by decide) (fun c11 => ?_) (fun c11 => ?_)
    · replace h := zif_f c11 h
      refine lv_aload_n hx hb dX8_voice_23 rfl (lv_at hl 0 rfl) ?_
      refine lv_iconst (v := 0) hx hb dX8_voice_24 (by decide) ?_
      refine ptX8_247 X hw dX8_voice_25 (fun M12 H locs eM12 hw => ?_)
      replace h := zlt_s eM12 h
      refine lv_aload_n hx hb dX8_voice_28 rfl (lv_at hl 0 rfl) ?_
      refine lv_iload_n hx hb dX8_voice_29 rfl (lv_at hl 1 rfl) ?_
      refine ptX8_250 X hw dX8_voice_30 (fun M13 H locs eM13 hw => ?_)
      replace h := zlt_s eM13 h
      refine lv_aload_n hx hb dX8_voice_33 rfl (lv_at hl 0 rfl) ?_
      refine lv_iconst (v := 0) hx hb dX8_voice_34 (by decide) ?_
      refine ptX8_274 X hw (Or.inl rfl) dX8_voice_35 (fun M14 H locs eM14 hw => ?_)
      replace h := zlt_s eM14 h
      refine lv_aload_n hx hb dX8_voice_38 rfl (lv_at hl 0 rfl) ?_
      obtain ⟨r15, M16, f17, h⟩ := zbi_e h
      refine z_qVi (As := []) (rest := []) X hw (kX8_kindNow l D cy a M14 r15 M16 f17) (cwX8_262 X.2.2.2.2.2.1 rfl rfl (zroomO (Nat.le_of_ble_eq_true rfl) (Nat.le_of_ble_eq_true rfl))) (zX8_lt (rfl : zX8 87)) (zS8 (rfl : zX8 87) cy a (M14 87)) rfl rfl rfl (Nat.le_of_ble_eq_true rfl) hl.1 hcs dX8_voice_39 (fun H locs hw => ?_)
      refine lv_istore (lv' := [(4, .int r15), (0, .ref (a 87)), (1, .int p0), (2, .int p1), (3, .int p2)]) hx hb dX8_voice_42 hl (by decide) rfl (fun ls hl => ?_)
      refine lv_iload_n hx hb dX8_voice_44 rfl (lv_at hl 3 rfl) ?_
      refine lv_if_ne (tgt := 58) hx hb dX8_voice_45 (by decide) (fun c18 => ?_) (fun c18 => ?_)
      · replace h := zif_f c18 h
        refine lv_iload_n hx hb dX8_voice_58 rfl (lv_at hl 3 rfl) ?_
        refine lv_iconst (v := 1) hx hb dX8_voice_59 (by decide) ?_
        refine lv_icmp_ne (tgt := 73) hx hb dX8_voice_60 (by decide) (fun c19 => ?_) (fun c19 => ?_)
        · replace h := zif_f c19 h
          refine lv_iload_n hx hb dX8_voice_73 rfl (lv_at hl 3 rfl) ?_
          refine lv_iconst (v := 2) hx hb dX8_voice_74 (by decide) ?_
          refine lv_icmp_ne (tgt := 88) hx hb dX8_voice_75 (by decide) (fun c20 => ?_) (fun c20 => ?_)
          · replace h := zif_f c20 h
            refine lv_aload_n hx hb dX8_voice_88 rfl (lv_at hl 1 rfl) ?_
            refine lv_iload hx hb dX8_voice_89 (lv_at hl 0 rfl) ?_
            refine lv_iload_n hx hb dX8_voice_91 rfl (lv_at hl 4 rfl) ?_
            obtain ⟨r21, M22, f23, h⟩ := zbi_e h
            refine z_qVi (As := [.int r15, .int p2]) (rest := []) X hw (kX8_partsAs l D cy a 8 r15 p2 M16 r21 M22 f23) (cwX8_278 X.2.2.2.2.2.1 rfl rfl (zroomO (Nat.le_of_ble_eq_true rfl) (Nat.le_of_ble_eq_true rfl))) (zX8_lt (rfl : zX8 87)) (zS8 (rfl : zX8 87) cy a (M16 87)) rfl rfl rfl (Nat.le_of_ble_eq_true rfl) hl.1 hcs dX8_voice_92 (fun H locs hw => ?_)
            refine lv_istore (lv' := [(5, .int r21), (4, .int r15), (0, .ref (a 87)), (1, .int p0), (2, .int p1), (3, .int p2)]) hx hb dX8_voice_95 hl (by decide) rfl (fun ls hl => ?_)
            refine lv_aload_n hx hb dX8_voice_97 rfl (lv_at hl 2 rfl) ?_
            refine gtX8_274 X hw dX8_voice_98 ?_
            refine lv_if_eq (tgt := 113) hx hb dX8_voice_101 (by decide) (fun c24 => ?_) (fun c24 => ?_)
            · replace h := zif_t c24 h
              refine lv_iload hx hb dX8_voice_113 (lv_at hl 0 rfl) ?_
              exact z_ri X hw (zret h) dX8_voice_115
            · replace h := zif_f c24 h
              refine lv_aload_n hx hb dX8_voice_104 rfl (lv_at hl 2 rfl) ?_
              refine lv_bipush (v := 6) hx hb dX8_voice_105 (by decide) ?_
              obtain ⟨r25, M26, f27, h⟩ := zbi_e h
              refine z_qVi (As := [.int (6 : Int32)]) (rest := []) X hw (kX8_error l D cy a (6 : Int32) M22 r25 M26 f27) (cwX8_76 X.2.2.2.2.2.1 rfl rfl (zroomO (Nat.le_of_ble_eq_true rfl) (Nat.le_of_ble_eq_true rfl))) (zX8_lt (rfl : zX8 87)) (zS8 (rfl : zX8 87) cy a (M22 87)) rfl rfl rfl (Nat.le_of_ble_eq_true rfl) hl.1 hcs dX8_voice_107 (fun H locs hw => ?_)
              refine lv_goto (tgt := 115) hx hb dX8_voice_110 (by decide) ?_
              exact z_ri X hw (zret h) dX8_voice_115
          · replace h := zif_t c20 h
            refine lv_aload_n hx hb dX8_voice_78 rfl (lv_at hl 1 rfl) ?_
            refine lv_iload hx hb dX8_voice_79 (lv_at hl 0 rfl) ?_
            refine lv_iload_n hx hb dX8_voice_81 rfl (lv_at hl 4 rfl) ?_
            obtain ⟨r28, M29, f30, h⟩ := zbi_e h
            refine z_qVi (As := [.int r15, .int p2]) (rest := []) X hw (kX8_praysAs l D cy a 8 r15 p2 M16 r28 M29 f30) (cwX8_271 X.2.2.2.2.2.1 rfl rfl (zroomO (Nat.le_of_ble_eq_true rfl) (Nat.le_of_ble_eq_true rfl))) (zX8_lt (rfl : zX8 87)) (zS8 (rfl : zX8 87) cy a (M16 87)) rfl rfl rfl (Nat.le_of_ble_eq_true rfl) hl.1 hcs dX8_voice_82 (fun H locs hw => ?_)
            refine lv_goto (tgt := 95) hx hb dX8_voice_85 (by decide) ?_
            refine lv_istore (lv' := [(5, .int r28), (4, .int r15), (0, .ref (a 87)), (1, .int p0), (2, .int p1), (3, .int p2)]) hx hb dX8_voice_95 hl (by decide) rfl (fun ls hl => ?_)
            refine lv_aload_n hx hb dX8_voice_97 rfl (lv_at hl 2 rfl) ?_
            refine gtX8_274 X hw dX8_voice_98 ?_
            refine lv_if_eq (tgt := 113) hx hb dX8_voice_101 (by decide) (fun c31 => ?_) (fun c31 => ?_)
            · replace h := zif_t c31 h
              refine lv_iload hx hb dX8_voice_113 (lv_at hl 0 rfl) ?_
              exact z_ri X hw (zret h) dX8_voice_115
            · replace h := zif_f c31 h
              refine lv_aload_n hx hb dX8_voice_104 rfl (lv_at hl 2 rfl) ?_
              refine lv_bipush (v := 6) hx hb dX8_voice_105 (by decide) ?_
              obtain ⟨r32, M33, f34, h⟩ := zbi_e h
              refine z_qVi (As := [.int (6 : Int32)]) (rest := []) X hw (kX8_error l D cy a (6 : Int32) M29 r32 M33 f34) (cwX8_76 X.2.2.2.2.2.1 rfl rfl (zroomO (Nat.le_of_ble_eq_true rfl) (Nat.le_of_ble_eq_true rfl))) (zX8_lt (rfl : zX8 87)) (zS8 (rfl : zX8 87) cy a (M29 87)) rfl rfl rfl (Nat.le_of_ble_eq_true rfl) hl.1 hcs dX8_voice_107 (fun H locs hw => ?_)
              refine lv_goto (tgt := 115) hx hb dX8_voice_110 (by decide) ?_
              exact z_ri X hw (zret h) dX8_voice_115
        · replace h := zif_t c19 h
          refine lv_aload_n hx hb dX8_voice_63 rfl (lv_at hl 1 rfl) ?_
          refine lv_iload hx hb dX8_voice_64 (lv_at hl 0 rfl) ?_
          refine lv_iload_n hx hb dX8_voice_66 rfl (lv_at hl 4 rfl) ?_
          obtain ⟨r35, M36, f37, h⟩ := zbi_e h
          refine z_qVi (As := [.int r15, .int p2]) (rest := []) X hw (kX8_turnsAs l D cy a 8 r15 p2 M16 r35 M36 f37) (cwX8_265 X.2.2.2.2.2.1 rfl rfl (zroomO (Nat.le_of_ble_eq_true rfl) (Nat.le_of_ble_eq_true rfl))) (zX8_lt (rfl : zX8 87)) (zS8 (rfl : zX8 87) cy a (M16 87)) rfl rfl rfl (Nat.le_of_ble_eq_true rfl) hl.1 hcs dX8_voice_67 (fun H locs hw => ?_)
          refine lv_goto (tgt := 95) hx hb dX8_voice_70 (by decide) ?_
          refine lv_istore (lv' := [(5, .int r35), (4, .int r15), (0, .ref (a 87)), (1, .int p0), (2, .int p1), (3, .int p2)]) hx hb dX8_voice_95 hl (by decide) rfl (fun ls hl => ?_)
          refine lv_aload_n hx hb dX8_voice_97 rfl (lv_at hl 2 rfl) ?_
          refine gtX8_274 X hw dX8_voice_98 ?_
          refine lv_if_eq (tgt := 113) hx hb dX8_voice_101 (by decide) (fun c38 => ?_) (fun c38 => ?_)
          · replace h := zif_t c38 h
            refine lv_iload hx hb dX8_voice_113 (lv_at hl 0 rfl) ?_
            exact z_ri X hw (zret h) dX8_voice_115
          · replace h := zif_f c38 h
            refine lv_aload_n hx hb dX8_voice_104 rfl (lv_at hl 2 rfl) ?_
            refine lv_bipush (v := 6) hx hb dX8_voice_105 (by decide) ?_
            obtain ⟨r39, M40, f41, h⟩ := zbi_e h
            refine z_qVi (As := [.int (6 : Int32)]) (rest := []) X hw (kX8_error l D cy a (6 : Int32) M36 r39 M40 f41) (cwX8_76 X.2.2.2.2.2.1 rfl rfl (zroomO (Nat.le_of_ble_eq_true rfl) (Nat.le_of_ble_eq_true rfl))) (zX8_lt (rfl : zX8 87)) (zS8 (rfl : zX8 87) cy a (M36 87)) rfl rfl rfl (Nat.le_of_ble_eq_true rfl) hl.1 hcs dX8_voice_107 (fun H locs hw => ?_)
            refine lv_goto (tgt := 115) hx hb dX8_voice_110 (by decide) ?_
            exact z_ri X hw (zret h) dX8_voice_115
      · replace h := zif_t c18 h
        refine lv_aload_n hx hb dX8_voice_48 rfl (lv_at hl 1 rfl) ?_
        refine lv_iload hx hb dX8_voice_49 (lv_at hl 0 rfl) ?_
        refine lv_iload_n hx hb dX8_voice_51 rfl (lv_at hl 4 rfl) ?_
        obtain ⟨r42, M43, f44, h⟩ := zbi_e h
        refine z_qVi (As := [.int r15, .int p2]) (rest := []) X hw (kX8_flowsAs l D cy a 8 r15 p2 M16 r42 M43 f44) (cwX8_259 X.2.2.2.2.2.1 rfl rfl (zroomO (Nat.le_of_ble_eq_true rfl) (Nat.le_of_ble_eq_true rfl))) (zX8_lt (rfl : zX8 87)) (zS8 (rfl : zX8 87) cy a (M16 87)) rfl rfl rfl (Nat.le_of_ble_eq_true rfl) hl.1 hcs dX8_voice_52 (fun H locs hw => ?_)
        refine lv_goto (tgt := 95) hx hb dX8_voice_55 (by decide) ?_
        refine lv_istore (lv' := [(5, .int r42), (4, .int r15), (0, .ref (a 87)), (1, .int p0), (2, .int p1), (3, .int p2)]) hx hb dX8_voice_95 hl (by decide) rfl (fun ls hl => ?_)
        refine lv_aload_n hx hb dX8_voice_97 rfl (lv_at hl 2 rfl) ?_
        refine gtX8_274 X hw dX8_voice_98 ?_
        refine lv_if_eq (tgt := 113) hx hb dX8_voice_101 (by decide) (fun c45 => ?_) (fun c45 => ?_)
        · replace h := zif_t c45 h
          refine lv_iload hx hb dX8_voice_113 (lv_at hl 0 rfl) ?_
          exact z_ri X hw (zret h) dX8_voice_115
        · replace h := zif_f c45 h
          refine lv_aload_n hx hb dX8_voice_104 rfl (lv_at hl 2 rfl) ?_
          refine lv_bipush (v := 6) hx hb dX8_voice_105 (by decide) ?_
          obtain ⟨r46, M47, f48, h⟩ := zbi_e h
          refine z_qVi (As := [.int (6 : Int32)]) (rest := []) X hw (kX8_error l D cy a (6 : Int32) M43 r46 M47 f48) (cwX8_76 X.2.2.2.2.2.1 rfl rfl (zroomO (Nat.le_of_ble_eq_true rfl) (Nat.le_of_ble_eq_true rfl))) (zX8_lt (rfl : zX8 87)) (zS8 (rfl : zX8 87) cy a (M43 87)) rfl rfl rfl (Nat.le_of_ble_eq_true rfl) hl.1 hcs dX8_voice_107 (fun H locs hw => ?_)
          refine lv_goto (tgt := 115) hx hb dX8_voice_110 (by decide) ?_
          exact z_ri X hw (zret h) dX8_voice_115
    · replace h := zif_t c11 h
      refine lv_aload_n hx hb dX8_voice_17 rfl (lv_at hl 0 rfl) ?_
      refine lv_iconst (v := 1) hx hb dX8_voice_18 (by decide) ?_
      obtain ⟨r49, M50, f51, h⟩ := zbi_e h
      refine z_qVi (As := [.int (1 : Int32)]) (rest := []) X hw (kX8_error l D cy a (1 : Int32) M9 r49 M50 f51) (cwX8_76 X.2.2.2.2.2.1 rfl rfl (zroomO (Nat.le_of_ble_eq_true rfl) (Nat.le_of_ble_eq_true rfl))) (zX8_lt (rfl : zX8 87)) (zS8 (rfl : zX8 87) cy a (M9 87)) rfl rfl rfl (Nat.le_of_ble_eq_true rfl) hl.1 hcs dX8_voice_19 (fun H locs hw => ?_)
      exact z_ri X hw (zret h) dX8_voice_22
def fX8_body (p0 : Int32) (M : zM) : Option (Int32 × zM) := zbi (fX8_in p0 (0 : Int32) ((M 87 20) - (1 : Int32)) M) (fun r1 M2 => if r1 = 0 then (zbi (fX8_error (2 : Int32) M2) (fun r5 M6 => some (r5, M6))) else (zgd (p0 < 0 ∨ 30 ≤ p0.toNatClampNeg) (some (M2 98 (p0.toNatClampNeg), M2))))
set_option maxRecDepth 100000 in
set_option maxHeartbeats 4000000 in
theorem kX8_body (l : Launch) (D : va_G) (cy : Nat → ClassId) (a : Nat → Nat) (p0 : Int32) (M : zM) (r0 : Int32) (M0 : zM) (h : fX8_body p0 M = some (r0, M0)) : zCi l D cy a yX8_body cX8_body 2 (some .int) (zRm 1 22) [.ref (a 87), .int p0] M (fun r u => r = r0 ∧ u = M0) := by
  intro sz
  refine zent_i sz (by decide) (Nat.le_of_ble_eq_true rfl) rfl (fun p e s m args below meth c ls H locs X hw hl => ?_)
  obtain ⟨hx, hb, hr, hml, hown, hW, hlocks⟩ := id X
  have hE := hw.2.2.2.2.1
  have hcs : 0 ≤ ((zRm 1 22)).cells ∧ 0 ≤ ((zRm 1 22)).slots := ⟨Nat.zero_le _, Nat.zero_le _⟩
  rw [fX8_body] at h
  refine lv_iload_n hx hb dX8_body_0 rfl (lv_at hl 1 rfl) ?_
  refine lv_iconst (v := 0) hx hb dX8_body_1 (by decide) ?_
  refine lv_aload_n hx hb dX8_body_2 rfl (lv_at hl 0 rfl) ?_
  refine gtX8_247 X hw dX8_body_3 ?_
  refine lv_iconst (v := 1) hx hb dX8_body_6 (by decide) ?_
  refine lv_isub hx hb dX8_body_7 ?_
  obtain ⟨r1, M2, f3, h⟩ := zbi_e h
  refine z_qSi (As := [.int p0, .int (0 : Int32), .int ((M 87 20) - (1 : Int32))]) (rest := []) X hw (kX8_in l D cy a p0 (0 : Int32) ((M 87 20) - (1 : Int32)) M r1 M2 f3) (cwX8_56 X.2.2.2.2.2.1 rfl rfl (zroomO (Nat.le_of_ble_eq_true rfl) (Nat.le_of_ble_eq_true rfl))) rfl rfl (Nat.le_of_ble_eq_true rfl) hl.1 hcs dX8_body_8 (fun H locs hw => ?_)
  refine lv_if_eq (tgt := 23) hx hb dX8_body_11 (by decide) (fun c4 => ?_) (fun c4 => ?_)
  · replace h := zif_t c4 h
    refine lv_aload_n hx hb dX8_body_23 rfl (lv_at hl 0 rfl) ?_
    refine lv_iconst (v := 2) hx hb dX8_body_24 (by decide) ?_
    obtain ⟨r5, M6, f7, h⟩ := zbi_e h
    refine z_qVi (As := [.int (2 : Int32)]) (rest := []) X hw (kX8_error l D cy a (2 : Int32) M2 r5 M6 f7) (cwX8_76 X.2.2.2.2.2.1 rfl rfl (zroomO (Nat.le_of_ble_eq_true rfl) (Nat.le_of_ble_eq_true rfl))) (zX8_lt (rfl : zX8 87)) (zS8 (rfl : zX8 87) cy a (M2 87)) rfl rfl rfl (Nat.le_of_ble_eq_true rfl) hl.1 hcs dX8_body_25 (fun H locs hw => ?_)
    exact z_ri X hw (zret h) dX8_body_28
  · replace h := zif_f c4 h
    refine lv_aload_n hx hb dX8_body_14 rfl (lv_at hl 0 rfl) ?_
    refine gtX8_40 X hw dX8_body_15 ?_
    refine lv_iload_n hx hb dX8_body_18 rfl (lv_at hl 1 rfl) ?_
    obtain ⟨g8, h⟩ := zgd_e h
    refine z_ald X hw zI_98 g8 dX8_body_19 ?_
    refine lv_goto (tgt := 28) hx hb dX8_body_20 (by decide) ?_
    exact z_ri X hw (zret h) dX8_body_28
def fX8_isSheet (p0 : Int32) (M : zM) : Option (Int32 × zM) := zbi (fX8_in p0 (0 : Int32) (3 : Int32) M) (fun r1 M2 => zgd (¬ (r1 = 0 ∨ r1 = 1)) (some (r1, M2)))
set_option maxRecDepth 100000 in
set_option maxHeartbeats 4000000 in
theorem kX8_isSheet (l : Launch) (D : va_G) (cy : Nat → ClassId) (a : Nat → Nat) (p0 : Int32) (M : zM) (r0 : Int32) (M0 : zM) (h : fX8_isSheet p0 M = some (r0, M0)) : zCi l D cy a yX8_isSheet cX8_isSheet 1 (some .boolean) (zRm 1 22) [.int p0] M (fun r u => r = r0 ∧ u = M0) := by
  intro sz
  refine zent_i sz (by decide) (Nat.le_of_ble_eq_true rfl) rfl (fun p e s m args below meth c ls H locs X hw hl => ?_)
  obtain ⟨hx, hb, hr, hml, hown, hW, hlocks⟩ := id X
  have hE := hw.2.2.2.2.1
  have hcs : 0 ≤ ((zRm 1 22)).cells ∧ 0 ≤ ((zRm 1 22)).slots := ⟨Nat.zero_le _, Nat.zero_le _⟩
  rw [fX8_isSheet] at h
  refine lv_iload_n hx hb dX8_isSheet_0 rfl (lv_at hl 0 rfl) ?_
  refine lv_iconst (v := 0) hx hb dX8_isSheet_1 (by decide) ?_
  refine lv_iconst (v := 3) hx hb dX8_isSheet_2 (by decide) ?_
  obtain ⟨r1, M2, f3, h⟩ := zbi_e h
  refine z_qSi (As := [.int p0, .int (0 : Int32), .int (3 : Int32)]) (rest := []) X hw (kX8_in l D cy a p0 (0 : Int32) (3 : Int32) M r1 M2 f3) (cwX8_56 X.2.2.2.2.2.1 rfl rfl (zroomO (Nat.le_of_ble_eq_true rfl) (Nat.le_of_ble_eq_true rfl))) rfl rfl (Nat.le_of_ble_eq_true rfl) hl.1 hcs dX8_isSheet_3 (fun H locs hw => ?_)
  obtain ⟨g4, h⟩ := zgd_e h
  exact z_rz X hw (Decidable.not_not.mp g4) (zret h) dX8_isSheet_6
def fX8_sheet_90 (y1 : Int32) (k : zM → Option (Int32 × zM)) : Nat → Int32 → zM → Option (Int32 × zM)
  | 0, _, _ => none
  | n + 1, v4, M => if (24 : Int32) ≤ v4 then (k  M) else (zgd (((24 : Int32) * y1) + v4 < 0 ∨ 96 ≤ (((24 : Int32) * y1) + v4).toNatClampNeg) (zlt (zst M 101 ((((24 : Int32) * y1) + v4).toNatClampNeg) (0 : Int32)) (fun M17 => zlt (v4 + (1 : Int32)) (fun x19 => fX8_sheet_90 y1 k n x19 M17))))
set_option maxRecDepth 100000 in
set_option maxHeartbeats 4000000 in
theorem lX8_sheet_90 {p : Program} {l : Launch} {e : Env} {s : State} {m : MethodId} {args : Array Value} {below : List Frame} {meth : Method} {c : Code} {D : va_G} {cy : Nat → ClassId} {a : Nat → Nat} {r0 : Int32} {M0 : zM} (X : zCX p s m meth c args cX8_sheet 5 (some .int) RX8) (y1 : Int32) (k : zM → Option (Int32 × zM)) : ∀ (n : Nat) (v4 : Int32) (M : zM) (H : Heap) (locs : List Loc) (ls : Array Slot), zWD D cy a (zfr a s.heap.size) M H locs s → lv_has ls 5 [(0, .ref (a 87)), (1, .int y1), (4, .int v4)] → fX8_sheet_90 y1 k n v4 M = some (r0, M0) →
    (∀ (M' : zM) (H' : Heap) (locs' : List Loc) (ls' : Array Slot), zWD D cy a (zfr a s.heap.size) M' H' locs' s → lv_has ls' 5 [] → k M' = some (r0, M0) → W p l e (zRm 2 42) s m args below meth c H' locs' 0 0 (zQi D cy a s args below r0 M0) (F0 m 116 ls' [])) →
    W p l e (zRm 2 42) s m args below meth c H locs 0 0 (zQi D cy a s args below r0 M0) (F0 m 90 ls []) := by
  obtain ⟨hx, hb, hr, hml, hown, hW, hlocks⟩ := id X
  have hcs : 0 ≤ ((zRm 2 42)).cells ∧ 0 ≤ ((zRm 2 42)).slots := ⟨Nat.zero_le _, Nat.zero_le _⟩
  intro n
  induction n with
  | zero =>
    intro v4 M H locs ls hw hl h hk
    cases h
  | succ n ih =>
    intro v4 M H locs ls hw hl h hk
    have hE := hw.2.2.2.2.1
    rw [fX8_sheet_90] at h
    refine lv_iload hx hb dX8_sheet_90 (lv_at hl 2 rfl) ?_
    refine lv_bipush (v := 24) hx hb dX8_sheet_92 (by decide) ?_
    refine lv_icmp_ge (tgt := 116) hx hb dX8_sheet_94 (by decide) (fun c16 => ?_) (fun c16 => ?_)
    · replace h := zif_t c16 h
      exact hk  M H locs _ hw (lv_sub hl [] rfl) h
    · replace h := zif_f c16 h
      refine lv_aload_n hx hb dX8_sheet_97 rfl (lv_at hl 0 rfl) ?_
      refine gtX8_49 X hw dX8_sheet_98 ?_
      refine lv_bipush (v := 24) hx hb dX8_sheet_101 (by decide) ?_
      refine lv_iload_n hx hb dX8_sheet_103 rfl (lv_at hl 1 rfl) ?_
      refine lv_imul hx hb dX8_sheet_104 ?_
      refine lv_iload hx hb dX8_sheet_105 (lv_at hl 2 rfl) ?_
      refine lv_iadd hx hb dX8_sheet_107 ?_
      refine lv_iconst (v := 0) hx hb dX8_sheet_108 (by decide) ?_
      obtain ⟨g18, h⟩ := zgd_e h
      refine z_ast X hw zI_101 g18 dX8_sheet_109 (fun M17 H locs eM17 hw => ?_)
      replace h := zlt_s eM17 h
      obtain ⟨x19, ex19⟩ : ∃ y : Int32, y = v4 + (1 : Int32) := ⟨_, rfl⟩
      replace h := zlt_s ex19 h
      refine lv_iinc (v := x19) (lv' := [(4, .int x19), (0, .ref (a 87)), (1, .int y1)]) hx hb dX8_sheet_110 hl (k := 2) rfl (by rw [ex19]; rfl) (by decide) rfl (fun ls hl => ?_)
      refine lv_goto (tgt := 90) hx hb dX8_sheet_113 (by decide) ?_
      exact ih x19 M17 H locs _ hw (lv_sub hl [1, 2, 0] rfl) h hk
def fX8_sheet (p0 : Int32) (p1 : Int32) (p2 : Int32) (M : zM) : Option (Int32 × zM) := zbi (fX8_isSheet p0 M) (fun r1 M2 => if r1 = 0 then (zbi (fX8_error (1 : Int32) M2) (fun r5 M6 => some (r5, M6))) else (if p1 = 0 then (if p1 = 0 then (if p1 = 0 then (zgd (p0 < 0 ∨ 4 ≤ p0.toNatClampNeg) (zlt (zst M2 99 (p0.toNatClampNeg) p1) (fun M11 => if p1 = 0 then (zgd (p0 < 0 ∨ 4 ≤ p0.toNatClampNeg) (zlt (zst M11 100 (p0.toNatClampNeg) (0 : Int32)) (fun M21 => fX8_sheet_90 p0 (fun  M23 => some ((1 : Int32), M23)) zF (0 : Int32) M21))) else (zgd (p0 < 0 ∨ 4 ≤ p0.toNatClampNeg) (zlt (zst M11 100 (p0.toNatClampNeg) p2) (fun M14 => fX8_sheet_90 p0 (fun  M20 => some ((1 : Int32), M20)) zF (0 : Int32) M14)))))) else (if p2 ≤ (24 : Int32) then (zgd (p0 < 0 ∨ 4 ≤ p0.toNatClampNeg) (zlt (zst M2 99 (p0.toNatClampNeg) p1) (fun M25 => if p1 = 0 then (zgd (p0 < 0 ∨ 4 ≤ p0.toNatClampNeg) (zlt (zst M25 100 (p0.toNatClampNeg) (0 : Int32)) (fun M31 => fX8_sheet_90 p0 (fun  M33 => some ((1 : Int32), M33)) zF (0 : Int32) M31))) else (zgd (p0 < 0 ∨ 4 ≤ p0.toNatClampNeg) (zlt (zst M25 100 (p0.toNatClampNeg) p2) (fun M28 => fX8_sheet_90 p0 (fun  M30 => some ((1 : Int32), M30)) zF (0 : Int32) M28)))))) else (zbi (fX8_error (1 : Int32) M2) (fun r34 M35 => some (r34, M35))))) else (if 0 ≤ p2 then (if p1 = 0 then (zgd (p0 < 0 ∨ 4 ≤ p0.toNatClampNeg) (zlt (zst M2 99 (p0.toNatClampNeg) p1) (fun M39 => if p1 = 0 then (zgd (p0 < 0 ∨ 4 ≤ p0.toNatClampNeg) (zlt (zst M39 100 (p0.toNatClampNeg) (0 : Int32)) (fun M45 => fX8_sheet_90 p0 (fun  M47 => some ((1 : Int32), M47)) zF (0 : Int32) M45))) else (zgd (p0 < 0 ∨ 4 ≤ p0.toNatClampNeg) (zlt (zst M39 100 (p0.toNatClampNeg) p2) (fun M42 => fX8_sheet_90 p0 (fun  M44 => some ((1 : Int32), M44)) zF (0 : Int32) M42)))))) else (if p2 ≤ (24 : Int32) then (zgd (p0 < 0 ∨ 4 ≤ p0.toNatClampNeg) (zlt (zst M2 99 (p0.toNatClampNeg) p1) (fun M49 => if p1 = 0 then (zgd (p0 < 0 ∨ 4 ≤ p0.toNatClampNeg) (zlt (zst M49 100 (p0.toNatClampNeg) (0 : Int32)) (fun M55 => fX8_sheet_90 p0 (fun  M57 => some ((1 : Int32), M57)) zF (0 : Int32) M55))) else (zgd (p0 < 0 ∨ 4 ≤ p0.toNatClampNeg) (zlt (zst M49 100 (p0.toNatClampNeg) p2) (fun M52 => fX8_sheet_90 p0 (fun  M54 => some ((1 : Int32), M54)) zF (0 : Int32) M52)))))) else (zbi (fX8_error (1 : Int32) M2) (fun r58 M59 => some (r58, M59))))) else (zbi (fX8_error (3 : Int32) M2) (fun r61 M62 => some (r61, M62))))) else (if p1 = (8 : Int32) then (if p1 = 0 then (if p1 = 0 then (zgd (p0 < 0 ∨ 4 ≤ p0.toNatClampNeg) (zlt (zst M2 99 (p0.toNatClampNeg) p1) (fun M67 => if p1 = 0 then (zgd (p0 < 0 ∨ 4 ≤ p0.toNatClampNeg) (zlt (zst M67 100 (p0.toNatClampNeg) (0 : Int32)) (fun M73 => fX8_sheet_90 p0 (fun  M75 => some ((1 : Int32), M75)) zF (0 : Int32) M73))) else (zgd (p0 < 0 ∨ 4 ≤ p0.toNatClampNeg) (zlt (zst M67 100 (p0.toNatClampNeg) p2) (fun M70 => fX8_sheet_90 p0 (fun  M72 => some ((1 : Int32), M72)) zF (0 : Int32) M70)))))) else (if p2 ≤ (24 : Int32) then (zgd (p0 < 0 ∨ 4 ≤ p0.toNatClampNeg) (zlt (zst M2 99 (p0.toNatClampNeg) p1) (fun M77 => if p1 = 0 then (zgd (p0 < 0 ∨ 4 ≤ p0.toNatClampNeg) (zlt (zst M77 100 (p0.toNatClampNeg) (0 : Int32)) (fun M83 => fX8_sheet_90 p0 (fun  M85 => some ((1 : Int32), M85)) zF (0 : Int32) M83))) else (zgd (p0 < 0 ∨ 4 ≤ p0.toNatClampNeg) (zlt (zst M77 100 (p0.toNatClampNeg) p2) (fun M80 => fX8_sheet_90 p0 (fun  M82 => some ((1 : Int32), M82)) zF (0 : Int32) M80)))))) else (zbi (fX8_error (1 : Int32) M2) (fun r86 M87 => some (r86, M87))))) else (if 0 ≤ p2 then (if p1 = 0 then (zgd (p0 < 0 ∨ 4 ≤ p0.toNatClampNeg) (zlt (zst M2 99 (p0.toNatClampNeg) p1) (fun M91 => if p1 = 0 then (zgd (p0 < 0 ∨ 4 ≤ p0.toNatClampNeg) (zlt (zst M91 100 (p0.toNatClampNeg) (0 : Int32)) (fun M97 => fX8_sheet_90 p0 (fun  M99 => some ((1 : Int32), M99)) zF (0 : Int32) M97))) else (zgd (p0 < 0 ∨ 4 ≤ p0.toNatClampNeg) (zlt (zst M91 100 (p0.toNatClampNeg) p2) (fun M94 => fX8_sheet_90 p0 (fun  M96 => some ((1 : Int32), M96)) zF (0 : Int32) M94)))))) else (if p2 ≤ (24 : Int32) then (zgd (p0 < 0 ∨ 4 ≤ p0.toNatClampNeg) (zlt (zst M2 99 (p0.toNatClampNeg) p1) (fun M101 => if p1 = 0 then (zgd (p0 < 0 ∨ 4 ≤ p0.toNatClampNeg) (zlt (zst M101 100 (p0.toNatClampNeg) (0 : Int32)) (fun M107 => fX8_sheet_90 p0 (fun  M109 => some ((1 : Int32), M109)) zF (0 : Int32) M107))) else (zgd (p0 < 0 ∨ 4 ≤ p0.toNatClampNeg) (zlt (zst M101 100 (p0.toNatClampNeg) p2) (fun M104 => fX8_sheet_90 p0 (fun  M106 => some ((1 : Int32), M106)) zF (0 : Int32) M104)))))) else (zbi (fX8_error (1 : Int32) M2) (fun r110 M111 => some (r110, M111))))) else (zbi (fX8_error (3 : Int32) M2) (fun r113 M114 => some (r113, M114))))) else (if p1 = (16 : Int32) then (if p1 = 0 then (if p1 = 0 then (zgd (p0 < 0 ∨ 4 ≤ p0.toNatClampNeg) (zlt (zst M2 99 (p0.toNatClampNeg) p1) (fun M119 => if p1 = 0 then (zgd (p0 < 0 ∨ 4 ≤ p0.toNatClampNeg) (zlt (zst M119 100 (p0.toNatClampNeg) (0 : Int32)) (fun M125 => fX8_sheet_90 p0 (fun  M127 => some ((1 : Int32), M127)) zF (0 : Int32) M125))) else (zgd (p0 < 0 ∨ 4 ≤ p0.toNatClampNeg) (zlt (zst M119 100 (p0.toNatClampNeg) p2) (fun M122 => fX8_sheet_90 p0 (fun  M124 => some ((1 : Int32), M124)) zF (0 : Int32) M122)))))) else (if p2 ≤ (24 : Int32) then (zgd (p0 < 0 ∨ 4 ≤ p0.toNatClampNeg) (zlt (zst M2 99 (p0.toNatClampNeg) p1) (fun M129 => if p1 = 0 then (zgd (p0 < 0 ∨ 4 ≤ p0.toNatClampNeg) (zlt (zst M129 100 (p0.toNatClampNeg) (0 : Int32)) (fun M135 => fX8_sheet_90 p0 (fun  M137 => some ((1 : Int32), M137)) zF (0 : Int32) M135))) else (zgd (p0 < 0 ∨ 4 ≤ p0.toNatClampNeg) (zlt (zst M129 100 (p0.toNatClampNeg) p2) (fun M132 => fX8_sheet_90 p0 (fun  M134 => some ((1 : Int32), M134)) zF (0 : Int32) M132)))))) else (zbi (fX8_error (1 : Int32) M2) (fun r138 M139 => some (r138, M139))))) else (if 0 ≤ p2 then (if p1 = 0 then (zgd (p0 < 0 ∨ 4 ≤ p0.toNatClampNeg) (zlt (zst M2 99 (p0.toNatClampNeg) p1) (fun M143 => if p1 = 0 then (zgd (p0 < 0 ∨ 4 ≤ p0.toNatClampNeg) (zlt (zst M143 100 (p0.toNatClampNeg) (0 : Int32)) (fun M149 => fX8_sheet_90 p0 (fun  M151 => some ((1 : Int32), M151)) zF (0 : Int32) M149))) else (zgd (p0 < 0 ∨ 4 ≤ p0.toNatClampNeg) (zlt (zst M143 100 (p0.toNatClampNeg) p2) (fun M146 => fX8_sheet_90 p0 (fun  M148 => some ((1 : Int32), M148)) zF (0 : Int32) M146)))))) else (if p2 ≤ (24 : Int32) then (zgd (p0 < 0 ∨ 4 ≤ p0.toNatClampNeg) (zlt (zst M2 99 (p0.toNatClampNeg) p1) (fun M153 => if p1 = 0 then (zgd (p0 < 0 ∨ 4 ≤ p0.toNatClampNeg) (zlt (zst M153 100 (p0.toNatClampNeg) (0 : Int32)) (fun M159 => fX8_sheet_90 p0 (fun  M161 => some ((1 : Int32), M161)) zF (0 : Int32) M159))) else (zgd (p0 < 0 ∨ 4 ≤ p0.toNatClampNeg) (zlt (zst M153 100 (p0.toNatClampNeg) p2) (fun M156 => fX8_sheet_90 p0 (fun  M158 => some ((1 : Int32), M158)) zF (0 : Int32) M156)))))) else (zbi (fX8_error (1 : Int32) M2) (fun r162 M163 => some (r162, M163))))) else (zbi (fX8_error (3 : Int32) M2) (fun r165 M166 => some (r165, M166))))) else (if p1 = (32 : Int32) then (if p1 = 0 then (if p1 = 0 then (zgd (p0 < 0 ∨ 4 ≤ p0.toNatClampNeg) (zlt (zst M2 99 (p0.toNatClampNeg) p1) (fun M171 => if p1 = 0 then (zgd (p0 < 0 ∨ 4 ≤ p0.toNatClampNeg) (zlt (zst M171 100 (p0.toNatClampNeg) (0 : Int32)) (fun M177 => fX8_sheet_90 p0 (fun  M179 => some ((1 : Int32), M179)) zF (0 : Int32) M177))) else (zgd (p0 < 0 ∨ 4 ≤ p0.toNatClampNeg) (zlt (zst M171 100 (p0.toNatClampNeg) p2) (fun M174 => fX8_sheet_90 p0 (fun  M176 => some ((1 : Int32), M176)) zF (0 : Int32) M174)))))) else (if p2 ≤ (24 : Int32) then (zgd (p0 < 0 ∨ 4 ≤ p0.toNatClampNeg) (zlt (zst M2 99 (p0.toNatClampNeg) p1) (fun M181 => if p1 = 0 then (zgd (p0 < 0 ∨ 4 ≤ p0.toNatClampNeg) (zlt (zst M181 100 (p0.toNatClampNeg) (0 : Int32)) (fun M187 => fX8_sheet_90 p0 (fun  M189 => some ((1 : Int32), M189)) zF (0 : Int32) M187))) else (zgd (p0 < 0 ∨ 4 ≤ p0.toNatClampNeg) (zlt (zst M181 100 (p0.toNatClampNeg) p2) (fun M184 => fX8_sheet_90 p0 (fun  M186 => some ((1 : Int32), M186)) zF (0 : Int32) M184)))))) else (zbi (fX8_error (1 : Int32) M2) (fun r190 M191 => some (r190, M191))))) else (if 0 ≤ p2 then (if p1 = 0 then (zgd (p0 < 0 ∨ 4 ≤ p0.toNatClampNeg) (zlt (zst M2 99 (p0.toNatClampNeg) p1) (fun M195 => if p1 = 0 then (zgd (p0 < 0 ∨ 4 ≤ p0.toNatClampNeg) (zlt (zst M195 100 (p0.toNatClampNeg) (0 : Int32)) (fun M201 => fX8_sheet_90 p0 (fun  M203 => some ((1 : Int32), M203)) zF (0 : Int32) M201))) else (zgd (p0 < 0 ∨ 4 ≤ p0.toNatClampNeg) (zlt (zst M195 100 (p0.toNatClampNeg) p2) (fun M198 => fX8_sheet_90 p0 (fun  M200 => some ((1 : Int32), M200)) zF (0 : Int32) M198)))))) else (if p2 ≤ (24 : Int32) then (zgd (p0 < 0 ∨ 4 ≤ p0.toNatClampNeg) (zlt (zst M2 99 (p0.toNatClampNeg) p1) (fun M205 => if p1 = 0 then (zgd (p0 < 0 ∨ 4 ≤ p0.toNatClampNeg) (zlt (zst M205 100 (p0.toNatClampNeg) (0 : Int32)) (fun M211 => fX8_sheet_90 p0 (fun  M213 => some ((1 : Int32), M213)) zF (0 : Int32) M211))) else (zgd (p0 < 0 ∨ 4 ≤ p0.toNatClampNeg) (zlt (zst M205 100 (p0.toNatClampNeg) p2) (fun M208 => fX8_sheet_90 p0 (fun  M210 => some ((1 : Int32), M210)) zF (0 : Int32) M208)))))) else (zbi (fX8_error (1 : Int32) M2) (fun r214 M215 => some (r214, M215))))) else (zbi (fX8_error (3 : Int32) M2) (fun r217 M218 => some (r217, M218))))) else (zbi (fX8_error (1 : Int32) M2) (fun r220 M221 => some (r220, M221))))))))
set_option maxRecDepth 100000 in
set_option maxHeartbeats 4000000 in
theorem kX8_sheet (l : Launch) (D : va_G) (cy : Nat → ClassId) (a : Nat → Nat) (p0 : Int32) (p1 : Int32) (p2 : Int32) (M : zM) (r0 : Int32) (M0 : zM) (h : fX8_sheet p0 p1 p2 M = some (r0, M0)) : zCi l D cy a yX8_sheet cX8_sheet 5 (some .int) (zRm 2 42) [.ref (a 87), .int p0, .int p1, .int p2] M (fun r u => r = r0 ∧ u = M0) := by
  intro sz
  refine zent_i sz (by decide) (Nat.le_of_ble_eq_true rfl) rfl (fun p e s m args below meth c ls H locs X hw hl => ?_)
  obtain ⟨hx, hb, hr, hml, hown, hW, hlocks⟩ := id X
  have hE := hw.2.2.2.2.1
  have hcs : 0 ≤ ((zRm 2 42)).cells ∧ 0 ≤ ((zRm 2 42)).slots := ⟨Nat.zero_le _, Nat.zero_le _⟩
  rw [fX8_sheet] at h
  refine lv_iload_n hx hb dX8_sheet_0 rfl (lv_at hl 1 rfl) ?_
  obtain ⟨r1, M2, f3, h⟩ := zbi_e h
  refine z_qSi (As := [.int p0]) (rest := []) X hw (kX8_isSheet l D cy a p0 M r1 M2 f3) (cwX8_281 X.2.2.2.2.2.1 rfl rfl (zroomO (Nat.le_of_ble_eq_true rfl) (Nat.le_of_ble_eq_true rfl))) rfl rfl (Nat.le_of_ble_eq_true rfl) hl.1 hcs dX8_sheet_1 (fun H locs hw => ?_)
  refine lv_if_eq (tgt := 29) hx hb dX8_sheet_4 (by decide) (fun c4 => ?_) (fun c4 => ?_)
  · replace h := zif_t c4 h
    refine lv_aload_n hx hb dX8_sheet_29 rfl (lv_at hl 0 rfl) ?_
    refine lv_iconst (v := 1) hx hb dX8_sheet_30 (by decide) ?_
    obtain ⟨r5, M6, f7, h⟩ := zbi_e h
    refine z_qVi (As := [.int (1 : Int32)]) (rest := []) X hw (kX8_error l D cy a (1 : Int32) M2 r5 M6 f7) (cwX8_76 X.2.2.2.2.2.1 rfl rfl (zroomO (Nat.le_of_ble_eq_true rfl) (Nat.le_of_ble_eq_true rfl))) (zX8_lt (rfl : zX8 87)) (zS8 (rfl : zX8 87) cy a (M2 87)) rfl rfl rfl (Nat.le_of_ble_eq_true rfl) hl.1 hcs dX8_sheet_31 (fun H locs hw => ?_)
    exact z_ri X hw (zret h) dX8_sheet_34
  · replace h := zif_f c4 h
    refine lv_iload_n hx hb dX8_sheet_7 rfl (lv_at hl 2 rfl) ?_
    refine lv_if_eq (tgt := 35) hx hb dX8_sheet_8 (by decide) (fun c8 => ?_) (fun c8 => ?_)
    · replace h := zif_t c8 h
      refine lv_iload_n hx hb dX8_sheet_35 rfl (lv_at hl 2 rfl) ?_
      refine lv_if_eq (tgt := 49) hx hb dX8_sheet_36 (by decide) (fun c9 => ?_) (fun c9 => ?_)
      · replace h := zif_t c9 h
        refine lv_iload_n hx hb dX8_sheet_49 rfl (lv_at hl 2 rfl) ?_
        refine lv_if_eq (tgt := 65) hx hb dX8_sheet_50 (by decide) (fun c10 => ?_) (fun c10 => ?_)
        · replace h := zif_t c10 h
          refine lv_aload_n hx hb dX8_sheet_65 rfl (lv_at hl 0 rfl) ?_
          refine gtX8_43 X hw dX8_sheet_66 ?_
          refine lv_iload_n hx hb dX8_sheet_69 rfl (lv_at hl 1 rfl) ?_
          refine lv_iload_n hx hb dX8_sheet_70 rfl (lv_at hl 2 rfl) ?_
          obtain ⟨g12, h⟩ := zgd_e h
          refine z_ast X hw zI_99 g12 dX8_sheet_71 (fun M11 H locs eM11 hw => ?_)
          replace h := zlt_s eM11 h
          refine lv_aload_n hx hb dX8_sheet_72 rfl (lv_at hl 0 rfl) ?_
          refine gtX8_46 X hw dX8_sheet_73 ?_
          refine lv_iload_n hx hb dX8_sheet_76 rfl (lv_at hl 1 rfl) ?_
          refine lv_iload_n hx hb dX8_sheet_77 rfl (lv_at hl 2 rfl) ?_
          refine lv_if_ne (tgt := 85) hx hb dX8_sheet_78 (by decide) (fun c13 => ?_) (fun c13 => ?_)
          · replace h := zif_f c13 h
            refine lv_iload_n hx hb dX8_sheet_85 rfl (lv_at hl 3 rfl) ?_
            obtain ⟨g15, h⟩ := zgd_e h
            refine z_ast X hw zI_100 g15 dX8_sheet_86 (fun M14 H locs eM14 hw => ?_)
            replace h := zlt_s eM14 h
            refine lv_iconst (v := 0) hx hb dX8_sheet_87 (by decide) ?_
            refine lv_istore (lv' := [(4, .int (0 : Int32)), (0, .ref (a 87)), (1, .int p0), (2, .int p1), (3, .int p2)]) hx hb dX8_sheet_88 hl (by decide) rfl (fun ls hl => ?_)
            refine lX8_sheet_90 X p0 _ zF (0 : Int32) M14 H locs _ hw (lv_sub hl [1, 2, 0] rfl) h (fun  M20 H locs ls hw hl h => ?_)
            refine lv_iconst (v := 1) hx hb dX8_sheet_116 (by decide) ?_
            exact z_ri X hw (zret h) dX8_sheet_117
          · replace h := zif_t c13 h
            refine lv_iconst (v := 0) hx hb dX8_sheet_81 (by decide) ?_
            refine lv_goto (tgt := 86) hx hb dX8_sheet_82 (by decide) ?_
            obtain ⟨g22, h⟩ := zgd_e h
            refine z_ast X hw zI_100 g22 dX8_sheet_86 (fun M21 H locs eM21 hw => ?_)
            replace h := zlt_s eM21 h
            refine lv_iconst (v := 0) hx hb dX8_sheet_87 (by decide) ?_
            refine lv_istore (lv' := [(4, .int (0 : Int32)), (0, .ref (a 87)), (1, .int p0), (2, .int p1), (3, .int p2)]) hx hb dX8_sheet_88 hl (by decide) rfl (fun ls hl => ?_)
            refine lX8_sheet_90 X p0 _ zF (0 : Int32) M21 H locs _ hw (lv_sub hl [1, 2, 0] rfl) h (fun  M23 H locs ls hw hl h => ?_)
            refine lv_iconst (v := 1) hx hb dX8_sheet_116 (by decide) ?_
            exact z_ri X hw (zret h) dX8_sheet_117
        · replace h := zif_f c10 h
          refine lv_iload_n hx hb dX8_sheet_53 rfl (lv_at hl 3 rfl) ?_
          refine lv_bipush (v := 24) hx hb dX8_sheet_54 (by decide) ?_
          refine lv_icmp_le (tgt := 65) hx hb dX8_sheet_56 (by decide) (fun c24 => ?_) (fun c24 => ?_)
          · replace h := zif_t c24 h
            refine lv_aload_n hx hb dX8_sheet_65 rfl (lv_at hl 0 rfl) ?_
            refine gtX8_43 X hw dX8_sheet_66 ?_
            refine lv_iload_n hx hb dX8_sheet_69 rfl (lv_at hl 1 rfl) ?_
            refine lv_iload_n hx hb dX8_sheet_70 rfl (lv_at hl 2 rfl) ?_
            obtain ⟨g26, h⟩ := zgd_e h
            refine z_ast X hw zI_99 g26 dX8_sheet_71 (fun M25 H locs eM25 hw => ?_)
            replace h := zlt_s eM25 h
            refine lv_aload_n hx hb dX8_sheet_72 rfl (lv_at hl 0 rfl) ?_
            refine gtX8_46 X hw dX8_sheet_73 ?_
            refine lv_iload_n hx hb dX8_sheet_76 rfl (lv_at hl 1 rfl) ?_
            refine lv_iload_n hx hb dX8_sheet_77 rfl (lv_at hl 2 rfl) ?_
            refine lv_if_ne (tgt := 85) hx hb dX8_sheet_78 (by decide) (fun c27 => ?_) (fun c27 => ?_)
            · replace h := zif_f c27 h
              refine lv_iload_n hx hb dX8_sheet_85 rfl (lv_at hl 3 rfl) ?_
              obtain ⟨g29, h⟩ := zgd_e h
              refine z_ast X hw zI_100 g29 dX8_sheet_86 (fun M28 H locs eM28 hw => ?_)
              replace h := zlt_s eM28 h
              refine lv_iconst (v := 0) hx hb dX8_sheet_87 (by decide) ?_
              refine lv_istore (lv' := [(4, .int (0 : Int32)), (0, .ref (a 87)), (1, .int p0), (2, .int p1), (3, .int p2)]) hx hb dX8_sheet_88 hl (by decide) rfl (fun ls hl => ?_)
              refine lX8_sheet_90 X p0 _ zF (0 : Int32) M28 H locs _ hw (lv_sub hl [1, 2, 0] rfl) h (fun  M30 H locs ls hw hl h => ?_)
              refine lv_iconst (v := 1) hx hb dX8_sheet_116 (by decide) ?_
              exact z_ri X hw (zret h) dX8_sheet_117
            · replace h := zif_t c27 h
              refine lv_iconst (v := 0) hx hb dX8_sheet_81 (by decide) ?_
              refine lv_goto (tgt := 86) hx hb dX8_sheet_82 (by decide) ?_
              obtain ⟨g32, h⟩ := zgd_e h
              refine z_ast X hw zI_100 g32 dX8_sheet_86 (fun M31 H locs eM31 hw => ?_)
              replace h := zlt_s eM31 h
              refine lv_iconst (v := 0) hx hb dX8_sheet_87 (by decide) ?_
              refine lv_istore (lv' := [(4, .int (0 : Int32)), (0, .ref (a 87)), (1, .int p0), (2, .int p1), (3, .int p2)]) hx hb dX8_sheet_88 hl (by decide) rfl (fun ls hl => ?_)
              refine lX8_sheet_90 X p0 _ zF (0 : Int32) M31 H locs _ hw (lv_sub hl [1, 2, 0] rfl) h (fun  M33 H locs ls hw hl h => ?_)
              refine lv_iconst (v := 1) hx hb dX8_sheet_116 (by decide) ?_
              exact z_ri X hw (zret h) dX8_sheet_117
          · replace h := zif_f c24 h
            refine lv_aload_n hx hb dX8_sheet_59 rfl (lv_at hl 0 rfl) ?_
            refine lv_iconst (v := 1) hx hb dX8_sheet_60 (by decide) ?_
            obtain ⟨r34, M35, f36, h⟩ := zbi_e h
            refine z_qVi (As := [.int (1 : Int32)]) (rest := []) X hw (kX8_error l D cy a (1 : Int32) M2 r34 M35 f36) (cwX8_76 X.2.2.2.2.2.1 rfl rfl (zroomO (Nat.le_of_ble_eq_true rfl) (Nat.le_of_ble_eq_true rfl))) (zX8_lt (rfl : zX8 87)) (zS8 (rfl : zX8 87) cy a (M2 87)) rfl rfl rfl (Nat.le_of_ble_eq_true rfl) hl.1 hcs dX8_sheet_61 (fun H locs hw => ?_)
            exact z_ri X hw (zret h) dX8_sheet_64
      · replace h := zif_f c9 h
        refine lv_iload_n hx hb dX8_sheet_39 rfl (lv_at hl 3 rfl) ?_
        refine lv_if_ge (tgt := 49) hx hb dX8_sheet_40 (by decide) (fun c37 => ?_) (fun c37 => ?_)
        · replace h := zif_t c37 h
          refine lv_iload_n hx hb dX8_sheet_49 rfl (lv_at hl 2 rfl) ?_
          refine lv_if_eq (tgt := 65) hx hb dX8_sheet_50 (by decide) (fun c38 => ?_) (fun c38 => ?_)
          · replace h := zif_t c38 h
            refine lv_aload_n hx hb dX8_sheet_65 rfl (lv_at hl 0 rfl) ?_
            refine gtX8_43 X hw dX8_sheet_66 ?_
            refine lv_iload_n hx hb dX8_sheet_69 rfl (lv_at hl 1 rfl) ?_
            refine lv_iload_n hx hb dX8_sheet_70 rfl (lv_at hl 2 rfl) ?_
            obtain ⟨g40, h⟩ := zgd_e h
            refine z_ast X hw zI_99 g40 dX8_sheet_71 (fun M39 H locs eM39 hw => ?_)
            replace h := zlt_s eM39 h
            refine lv_aload_n hx hb dX8_sheet_72 rfl (lv_at hl 0 rfl) ?_
            refine gtX8_46 X hw dX8_sheet_73 ?_
            refine lv_iload_n hx hb dX8_sheet_76 rfl (lv_at hl 1 rfl) ?_
            refine lv_iload_n hx hb dX8_sheet_77 rfl (lv_at hl 2 rfl) ?_
            refine lv_if_ne (tgt := 85) hx hb dX8_sheet_78 (by decide) (fun c41 => ?_) (fun c41 => ?_)
            · replace h := zif_f c41 h
              refine lv_iload_n hx hb dX8_sheet_85 rfl (lv_at hl 3 rfl) ?_
              obtain ⟨g43, h⟩ := zgd_e h
              refine z_ast X hw zI_100 g43 dX8_sheet_86 (fun M42 H locs eM42 hw => ?_)
              replace h := zlt_s eM42 h
              refine lv_iconst (v := 0) hx hb dX8_sheet_87 (by decide) ?_
              refine lv_istore (lv' := [(4, .int (0 : Int32)), (0, .ref (a 87)), (1, .int p0), (2, .int p1), (3, .int p2)]) hx hb dX8_sheet_88 hl (by decide) rfl (fun ls hl => ?_)
              refine lX8_sheet_90 X p0 _ zF (0 : Int32) M42 H locs _ hw (lv_sub hl [1, 2, 0] rfl) h (fun  M44 H locs ls hw hl h => ?_)
              refine lv_iconst (v := 1) hx hb dX8_sheet_116 (by decide) ?_
              exact z_ri X hw (zret h) dX8_sheet_117
            · replace h := zif_t c41 h
              refine lv_iconst (v := 0) hx hb dX8_sheet_81 (by decide) ?_
              refine lv_goto (tgt := 86) hx hb dX8_sheet_82 (by decide) ?_
              obtain ⟨g46, h⟩ := zgd_e h
              refine z_ast X hw zI_100 g46 dX8_sheet_86 (fun M45 H locs eM45 hw => ?_)
              replace h := zlt_s eM45 h
              refine lv_iconst (v := 0) hx hb dX8_sheet_87 (by decide) ?_
              refine lv_istore (lv' := [(4, .int (0 : Int32)), (0, .ref (a 87)), (1, .int p0), (2, .int p1), (3, .int p2)]) hx hb dX8_sheet_88 hl (by decide) rfl (fun ls hl => ?_)
              refine lX8_sheet_90 X p0 _ zF (0 : Int32) M45 H locs _ hw (lv_sub hl [1, 2, 0] rfl) h (fun  M47 H locs ls hw hl h => ?_)
              refine lv_iconst (v := 1) hx hb dX8_sheet_116 (by decide) ?_
              exact z_ri X hw (zret h) dX8_sheet_117
          · replace h := zif_f c38 h
            refine lv_iload_n hx hb dX8_sheet_53 rfl (lv_at hl 3 rfl) ?_
            refine lv_bipush (v := 24) hx hb dX8_sheet_54 (by decide) ?_
            refine lv_icmp_le (tgt := 65) hx hb dX8_sheet_56 (by decide) (fun c48 => ?_) (fun c48 => ?_)
            · replace h := zif_t c48 h
              refine lv_aload_n hx hb dX8_sheet_65 rfl (lv_at hl 0 rfl) ?_
              refine gtX8_43 X hw dX8_sheet_66 ?_
              refine lv_iload_n hx hb dX8_sheet_69 rfl (lv_at hl 1 rfl) ?_
              refine lv_iload_n hx hb dX8_sheet_70 rfl (lv_at hl 2 rfl) ?_
              obtain ⟨g50, h⟩ := zgd_e h
              refine z_ast X hw zI_99 g50 dX8_sheet_71 (fun M49 H locs eM49 hw => ?_)
              replace h := zlt_s eM49 h
              refine lv_aload_n hx hb dX8_sheet_72 rfl (lv_at hl 0 rfl) ?_
              refine gtX8_46 X hw dX8_sheet_73 ?_
              refine lv_iload_n hx hb dX8_sheet_76 rfl (lv_at hl 1 rfl) ?_
              refine lv_iload_n hx hb dX8_sheet_77 rfl (lv_at hl 2 rfl) ?_
              refine lv_if_ne (tgt := 85) hx hb dX8_sheet_78 (by decide) (fun c51 => ?_) (fun c51 => ?_)
              · replace h := zif_f c51 h
                refine lv_iload_n hx hb dX8_sheet_85 rfl (lv_at hl 3 rfl) ?_
                obtain ⟨g53, h⟩ := zgd_e h
                refine z_ast X hw zI_100 g53 dX8_sheet_86 (fun M52 H locs eM52 hw => ?_)
                replace h := zlt_s eM52 h
                refine lv_iconst (v := 0) hx hb dX8_sheet_87 (by decide) ?_
                refine lv_istore (lv' := [(4, .int (0 : Int32)), (0, .ref (a 87)), (1, .int p0), (2, .int p1), (3, .int p2)]) hx hb dX8_sheet_88 hl (by decide) rfl (fun ls hl => ?_)
                refine lX8_sheet_90 X p0 _ zF (0 : Int32) M52 H locs _ hw (lv_sub hl [1, 2, 0] rfl) h (fun  M54 H locs ls hw hl h => ?_)
                refine lv_iconst (v := 1) hx hb dX8_sheet_116 (by decide) ?_
                exact z_ri X hw (zret h) dX8_sheet_117
              · replace h := zif_t c51 h
                refine lv_iconst (v := 0) hx hb dX8_sheet_81 (by decide) ?_
                refine lv_goto (tgt := 86) hx hb dX8_sheet_82 (by decide) ?_
                obtain ⟨g56, h⟩ := zgd_e h
                refine z_ast X hw zI_100 g56 dX8_sheet_86 (fun M55 H locs eM55 hw => ?_)
                replace h := zlt_s eM55 h
                refine lv_iconst (v := 0) hx hb dX8_sheet_87 (by decide) ?_
                refine lv_istore (lv' := [(4, .int (0 : Int32)), (0, .ref (a 87)), (1, .int p0), (2, .int p1), (3, .int p2)]) hx hb dX8_sheet_88 hl (by decide) rfl (fun ls hl => ?_)
                refine lX8_sheet_90 X p0 _ zF (0 : Int32) M55 H locs _ hw (lv_sub hl [1, 2, 0] rfl) h (fun  M57 H locs ls hw hl h => ?_)
                refine lv_iconst (v := 1) hx hb dX8_sheet_116 (by decide) ?_
                exact z_ri X hw (zret h) dX8_sheet_117
            · replace h := zif_f c48 h
              refine lv_aload_n hx hb dX8_sheet_59 rfl (lv_at hl 0 rfl) ?_
              refine lv_iconst (v := 1) hx hb dX8_sheet_60 (by decide) ?_
              obtain ⟨r58, M59, f60, h⟩ := zbi_e h
              refine z_qVi (As := [.int (1 : Int32)]) (rest := []) X hw (kX8_error l D cy a (1 : Int32) M2 r58 M59 f60) (cwX8_76 X.2.2.2.2.2.1 rfl rfl (zroomO (Nat.le_of_ble_eq_true rfl) (Nat.le_of_ble_eq_true rfl))) (zX8_lt (rfl : zX8 87)) (zS8 (rfl : zX8 87) cy a (M2 87)) rfl rfl rfl (Nat.le_of_ble_eq_true rfl) hl.1 hcs dX8_sheet_61 (fun H locs hw => ?_)
              exact z_ri X hw (zret h) dX8_sheet_64
        · replace h := zif_f c37 h
          refine lv_aload_n hx hb dX8_sheet_43 rfl (lv_at hl 0 rfl) ?_
          refine lv_iconst (v := 3) hx hb dX8_sheet_44 (by decide) ?_
          obtain ⟨r61, M62, f63, h⟩ := zbi_e h
          refine z_qVi (As := [.int (3 : Int32)]) (rest := []) X hw (kX8_error l D cy a (3 : Int32) M2 r61 M62 f63) (cwX8_76 X.2.2.2.2.2.1 rfl rfl (zroomO (Nat.le_of_ble_eq_true rfl) (Nat.le_of_ble_eq_true rfl))) (zX8_lt (rfl : zX8 87)) (zS8 (rfl : zX8 87) cy a (M2 87)) rfl rfl rfl (Nat.le_of_ble_eq_true rfl) hl.1 hcs dX8_sheet_45 (fun H locs hw => ?_)
          exact z_ri X hw (zret h) dX8_sheet_48
    · replace h := zif_f c8 h
      refine lv_iload_n hx hb dX8_sheet_11 rfl (lv_at hl 2 rfl) ?_
      refine lv_bipush (v := 8) hx hb dX8_sheet_12 (by decide) ?_
      refine lv_icmp_eq (tgt := 35) hx hb dX8_sheet_14 (by decide) (fun c64 => ?_) (fun c64 => ?_)
      · replace h := zif_t c64 h
        refine lv_iload_n hx hb dX8_sheet_35 rfl (lv_at hl 2 rfl) ?_
        refine lv_if_eq (tgt := 49) hx hb dX8_sheet_36 (by decide) (fun c65 => ?_) (fun c65 => ?_)
        · replace h := zif_t c65 h
          refine lv_iload_n hx hb dX8_sheet_49 rfl (lv_at hl 2 rfl) ?_
          refine lv_if_eq (tgt := 65) hx hb dX8_sheet_50 (by decide) (fun c66 => ?_) (fun c66 => ?_)
          · replace h := zif_t c66 h
            refine lv_aload_n hx hb dX8_sheet_65 rfl (lv_at hl 0 rfl) ?_
            refine gtX8_43 X hw dX8_sheet_66 ?_
            refine lv_iload_n hx hb dX8_sheet_69 rfl (lv_at hl 1 rfl) ?_
            refine lv_iload_n hx hb dX8_sheet_70 rfl (lv_at hl 2 rfl) ?_
            obtain ⟨g68, h⟩ := zgd_e h
            refine z_ast X hw zI_99 g68 dX8_sheet_71 (fun M67 H locs eM67 hw => ?_)
            replace h := zlt_s eM67 h
            refine lv_aload_n hx hb dX8_sheet_72 rfl (lv_at hl 0 rfl) ?_
            refine gtX8_46 X hw dX8_sheet_73 ?_
            refine lv_iload_n hx hb dX8_sheet_76 rfl (lv_at hl 1 rfl) ?_
            refine lv_iload_n hx hb dX8_sheet_77 rfl (lv_at hl 2 rfl) ?_
            refine lv_if_ne (tgt := 85) hx hb dX8_sheet_78 (by decide) (fun c69 => ?_) (fun c69 => ?_)
            · replace h := zif_f c69 h
              refine lv_iload_n hx hb dX8_sheet_85 rfl (lv_at hl 3 rfl) ?_
              obtain ⟨g71, h⟩ := zgd_e h
              refine z_ast X hw zI_100 g71 dX8_sheet_86 (fun M70 H locs eM70 hw => ?_)
              replace h := zlt_s eM70 h
              refine lv_iconst (v := 0) hx hb dX8_sheet_87 (by decide) ?_
              refine lv_istore (lv' := [(4, .int (0 : Int32)), (0, .ref (a 87)), (1, .int p0), (2, .int p1), (3, .int p2)]) hx hb dX8_sheet_88 hl (by decide) rfl (fun ls hl => ?_)
              refine lX8_sheet_90 X p0 _ zF (0 : Int32) M70 H locs _ hw (lv_sub hl [1, 2, 0] rfl) h (fun  M72 H locs ls hw hl h => ?_)
              refine lv_iconst (v := 1) hx hb dX8_sheet_116 (by decide) ?_
              exact z_ri X hw (zret h) dX8_sheet_117
            · replace h := zif_t c69 h
              refine lv_iconst (v := 0) hx hb dX8_sheet_81 (by decide) ?_
              refine lv_goto (tgt := 86) hx hb dX8_sheet_82 (by decide) ?_
              obtain ⟨g74, h⟩ := zgd_e h
              refine z_ast X hw zI_100 g74 dX8_sheet_86 (fun M73 H locs eM73 hw => ?_)
              replace h := zlt_s eM73 h
              refine lv_iconst (v := 0) hx hb dX8_sheet_87 (by decide) ?_
              refine lv_istore (lv' := [(4, .int (0 : Int32)), (0, .ref (a 87)), (1, .int p0), (2, .int p1), (3, .int p2)]) hx hb dX8_sheet_88 hl (by decide) rfl (fun ls hl => ?_)
              refine lX8_sheet_90 X p0 _ zF (0 : Int32) M73 H locs _ hw (lv_sub hl [1, 2, 0] rfl) h (fun  M75 H locs ls hw hl h => ?_)
              refine lv_iconst (v := 1) hx hb dX8_sheet_116 (by decide) ?_
              exact z_ri X hw (zret h) dX8_sheet_117
          · replace h := zif_f c66 h
            refine lv_iload_n hx hb dX8_sheet_53 rfl (lv_at hl 3 rfl) ?_
            refine lv_bipush (v := 24) hx hb dX8_sheet_54 (by decide) ?_
            refine lv_icmp_le (tgt := 65) hx hb dX8_sheet_56 (by decide) (fun c76 => ?_) (fun c76 => ?_)
            · replace h := zif_t c76 h
              refine lv_aload_n hx hb dX8_sheet_65 rfl (lv_at hl 0 rfl) ?_
              refine gtX8_43 X hw dX8_sheet_66 ?_
              refine lv_iload_n hx hb dX8_sheet_69 rfl (lv_at hl 1 rfl) ?_
              refine lv_iload_n hx hb dX8_sheet_70 rfl (lv_at hl 2 rfl) ?_
              obtain ⟨g78, h⟩ := zgd_e h
              refine z_ast X hw zI_99 g78 dX8_sheet_71 (fun M77 H locs eM77 hw => ?_)
              replace h := zlt_s eM77 h
              refine lv_aload_n hx hb dX8_sheet_72 rfl (lv_at hl 0 rfl) ?_
              refine gtX8_46 X hw dX8_sheet_73 ?_
              refine lv_iload_n hx hb dX8_sheet_76 rfl (lv_at hl 1 rfl) ?_
              refine lv_iload_n hx hb dX8_sheet_77 rfl (lv_at hl 2 rfl) ?_
              refine lv_if_ne (tgt := 85) hx hb dX8_sheet_78 (by decide) (fun c79 => ?_) (fun c79 => ?_)
              · replace h := zif_f c79 h
                refine lv_iload_n hx hb dX8_sheet_85 rfl (lv_at hl 3 rfl) ?_
                obtain ⟨g81, h⟩ := zgd_e h
                refine z_ast X hw zI_100 g81 dX8_sheet_86 (fun M80 H locs eM80 hw => ?_)
                replace h := zlt_s eM80 h
                refine lv_iconst (v := 0) hx hb dX8_sheet_87 (by decide) ?_
                refine lv_istore (lv' := [(4, .int (0 : Int32)), (0, .ref (a 87)), (1, .int p0), (2, .int p1), (3, .int p2)]) hx hb dX8_sheet_88 hl (by decide) rfl (fun ls hl => ?_)
                refine lX8_sheet_90 X p0 _ zF (0 : Int32) M80 H locs _ hw (lv_sub hl [1, 2, 0] rfl) h (fun  M82 H locs ls hw hl h => ?_)
                refine lv_iconst (v := 1) hx hb dX8_sheet_116 (by decide) ?_
                exact z_ri X hw (zret h) dX8_sheet_117
              · replace h := zif_t c79 h
                refine lv_iconst (v := 0) hx hb dX8_sheet_81 (by decide) ?_
                refine lv_goto (tgt := 86) hx hb dX8_sheet_82 (by decide) ?_
                obtain ⟨g84, h⟩ := zgd_e h
                refine z_ast X hw zI_100 g84 dX8_sheet_86 (fun M83 H locs eM83 hw => ?_)
                replace h := zlt_s eM83 h
                refine lv_iconst (v := 0) hx hb dX8_sheet_87 (by decide) ?_
                refine lv_istore (lv' := [(4, .int (0 : Int32)), (0, .ref (a 87)), (1, .int p0), (2, .int p1), (3, .int p2)]) hx hb dX8_sheet_88 hl (by decide) rfl (fun ls hl => ?_)
                refine lX8_sheet_90 X p0 _ zF (0 : Int32) M83 H locs _ hw (lv_sub hl [1, 2, 0] rfl) h (fun  M85 H locs ls hw hl h => ?_)
                refine lv_iconst (v := 1) hx hb dX8_sheet_116 (by decide) ?_
                exact z_ri X hw (zret h) dX8_sheet_117
            · replace h := zif_f c76 h
              refine lv_aload_n hx hb dX8_sheet_59 rfl (lv_at hl 0 rfl) ?_
              refine lv_iconst (v := 1) hx hb dX8_sheet_60 (by decide) ?_
              obtain ⟨r86, M87, f88, h⟩ := zbi_e h
              refine z_qVi (As := [.int (1 : Int32)]) (rest := []) X hw (kX8_error l D cy a (1 : Int32) M2 r86 M87 f88) (cwX8_76 X.2.2.2.2.2.1 rfl rfl (zroomO (Nat.le_of_ble_eq_true rfl) (Nat.le_of_ble_eq_true rfl))) (zX8_lt (rfl : zX8 87)) (zS8 (rfl : zX8 87) cy a (M2 87)) rfl rfl rfl (Nat.le_of_ble_eq_true rfl) hl.1 hcs dX8_sheet_61 (fun H locs hw => ?_)
              exact z_ri X hw (zret h) dX8_sheet_64
        · replace h := zif_f c65 h
          refine lv_iload_n hx hb dX8_sheet_39 rfl (lv_at hl 3 rfl) ?_
          refine lv_if_ge (tgt := 49) hx hb dX8_sheet_40 (by decide) (fun c89 => ?_) (fun c89 => ?_)
          · replace h := zif_t c89 h
            refine lv_iload_n hx hb dX8_sheet_49 rfl (lv_at hl 2 rfl) ?_
            refine lv_if_eq (tgt := 65) hx hb dX8_sheet_50 (by decide) (fun c90 => ?_) (fun c90 => ?_)
            · replace h := zif_t c90 h
              refine lv_aload_n hx hb dX8_sheet_65 rfl (lv_at hl 0 rfl) ?_
              refine gtX8_43 X hw dX8_sheet_66 ?_
              refine lv_iload_n hx hb dX8_sheet_69 rfl (lv_at hl 1 rfl) ?_
              refine lv_iload_n hx hb dX8_sheet_70 rfl (lv_at hl 2 rfl) ?_
              obtain ⟨g92, h⟩ := zgd_e h
              refine z_ast X hw zI_99 g92 dX8_sheet_71 (fun M91 H locs eM91 hw => ?_)
              replace h := zlt_s eM91 h
              refine lv_aload_n hx hb dX8_sheet_72 rfl (lv_at hl 0 rfl) ?_
              refine gtX8_46 X hw dX8_sheet_73 ?_
              refine lv_iload_n hx hb dX8_sheet_76 rfl (lv_at hl 1 rfl) ?_
              refine lv_iload_n hx hb dX8_sheet_77 rfl (lv_at hl 2 rfl) ?_
              refine lv_if_ne (tgt := 85) hx hb dX8_sheet_78 (by decide) (fun c93 => ?_) (fun c93 => ?_)
              · replace h := zif_f c93 h
                refine lv_iload_n hx hb dX8_sheet_85 rfl (lv_at hl 3 rfl) ?_
                obtain ⟨g95, h⟩ := zgd_e h
                refine z_ast X hw zI_100 g95 dX8_sheet_86 (fun M94 H locs eM94 hw => ?_)
                replace h := zlt_s eM94 h
                refine lv_iconst (v := 0) hx hb dX8_sheet_87 (by decide) ?_
                refine lv_istore (lv' := [(4, .int (0 : Int32)), (0, .ref (a 87)), (1, .int p0), (2, .int p1), (3, .int p2)]) hx hb dX8_sheet_88 hl (by decide) rfl (fun ls hl => ?_)
                refine lX8_sheet_90 X p0 _ zF (0 : Int32) M94 H locs _ hw (lv_sub hl [1, 2, 0] rfl) h (fun  M96 H locs ls hw hl h => ?_)
                refine lv_iconst (v := 1) hx hb dX8_sheet_116 (by decide) ?_
                exact z_ri X hw (zret h) dX8_sheet_117
              · replace h := zif_t c93 h
                refine lv_iconst (v := 0) hx hb dX8_sheet_81 (by decide) ?_
                refine lv_goto (tgt := 86) hx hb dX8_sheet_82 (by decide) ?_
                obtain ⟨g98, h⟩ := zgd_e h
                refine z_ast X hw zI_100 g98 dX8_sheet_86 (fun M97 H locs eM97 hw => ?_)
                replace h := zlt_s eM97 h
                refine lv_iconst (v := 0) hx hb dX8_sheet_87 (by decide) ?_
                refine lv_istore (lv' := [(4, .int (0 : Int32)), (0, .ref (a 87)), (1, .int p0), (2, .int p1), (3, .int p2)]) hx hb dX8_sheet_88 hl (by decide) rfl (fun ls hl => ?_)
                refine lX8_sheet_90 X p0 _ zF (0 : Int32) M97 H locs _ hw (lv_sub hl [1, 2, 0] rfl) h (fun  M99 H locs ls hw hl h => ?_)
                refine lv_iconst (v := 1) hx hb dX8_sheet_116 (by decide) ?_
                exact z_ri X hw (zret h) dX8_sheet_117
            · replace h := zif_f c90 h
              refine lv_iload_n hx hb dX8_sheet_53 rfl (lv_at hl 3 rfl) ?_
              refine lv_bipush (v := 24) hx hb dX8_sheet_54 (by decide) ?_
              refine lv_icmp_le (tgt := 65) hx hb dX8_sheet_56 (by decide) (fun c100 => ?_) (fun c100 => ?_)
              · replace h := zif_t c100 h
                refine lv_aload_n hx hb dX8_sheet_65 rfl (lv_at hl 0 rfl) ?_
                refine gtX8_43 X hw dX8_sheet_66 ?_
                refine lv_iload_n hx hb dX8_sheet_69 rfl (lv_at hl 1 rfl) ?_
                refine lv_iload_n hx hb dX8_sheet_70 rfl (lv_at hl 2 rfl) ?_
                obtain ⟨g102, h⟩ := zgd_e h
                refine z_ast X hw zI_99 g102 dX8_sheet_71 (fun M101 H locs eM101 hw => ?_)
                replace h := zlt_s eM101 h
                refine lv_aload_n hx hb dX8_sheet_72 rfl (lv_at hl 0 rfl) ?_
                refine gtX8_46 X hw dX8_sheet_73 ?_
                refine lv_iload_n hx hb dX8_sheet_76 rfl (lv_at hl 1 rfl) ?_
                refine lv_iload_n hx hb dX8_sheet_77 rfl (lv_at hl 2 rfl) ?_
                refine lv_if_ne (tgt := 85) hx hb dX8_sheet_78 (by decide) (fun c103 => ?_) (fun c103 => ?_)
                · replace h := zif_f c103 h
                  refine lv_iload_n hx hb dX8_sheet_85 rfl (lv_at hl 3 rfl) ?_
                  obtain ⟨g105, h⟩ := zgd_e h
                  refine z_ast X hw zI_100 g105 dX8_sheet_86 (fun M104 H locs eM104 hw => ?_)
                  replace h := zlt_s eM104 h
                  refine lv_iconst (v := 0) hx hb dX8_sheet_87 (by decide) ?_
                  refine lv_istore (lv' := [(4, .int (0 : Int32)), (0, .ref (a 87)), (1, .int p0), (2, .int p1), (3, .int p2)]) hx hb dX8_sheet_88 hl (by decide) rfl (fun ls hl => ?_)
                  refine lX8_sheet_90 X p0 _ zF (0 : Int32) M104 H locs _ hw (lv_sub hl [1, 2, 0] rfl) h (fun  M106 H locs ls hw hl h => ?_)
                  refine lv_iconst (v := 1) hx hb dX8_sheet_116 (by decide) ?_
                  exact z_ri X hw (zret h) dX8_sheet_117
                · replace h := zif_t c103 h
                  refine lv_iconst (v := 0) hx hb dX8_sheet_81 (by decide) ?_
                  refine lv_goto (tgt := 86) hx hb dX8_sheet_82 (by decide) ?_
                  obtain ⟨g108, h⟩ := zgd_e h
                  refine z_ast X hw zI_100 g108 dX8_sheet_86 (fun M107 H locs eM107 hw => ?_)
                  replace h := zlt_s eM107 h
                  refine lv_iconst (v := 0) hx hb dX8_sheet_87 (by decide) ?_
                  refine lv_istore (lv' := [(4, .int (0 : Int32)), (0, .ref (a 87)), (1, .int p0), (2, .int p1), (3, .int p2)]) hx hb dX8_sheet_88 hl (by decide) rfl (fun ls hl => ?_)
                  refine lX8_sheet_90 X p0 _ zF (0 : Int32) M107 H locs _ hw (lv_sub hl [1, 2, 0] rfl) h (fun  M109 H locs ls hw hl h => ?_)
                  refine lv_iconst (v := 1) hx hb dX8_sheet_116 (by decide) ?_
                  exact z_ri X hw (zret h) dX8_sheet_117
              · replace h := zif_f c100 h
                refine lv_aload_n hx hb dX8_sheet_59 rfl (lv_at hl 0 rfl) ?_
                refine lv_iconst (v := 1) hx hb dX8_sheet_60 (by decide) ?_
                obtain ⟨r110, M111, f112, h⟩ := zbi_e h
                refine z_qVi (As := [.int (1 : Int32)]) (rest := []) X hw (kX8_error l D cy a (1 : Int32) M2 r110 M111 f112) (cwX8_76 X.2.2.2.2.2.1 rfl rfl (zroomO (Nat.le_of_ble_eq_true rfl) (Nat.le_of_ble_eq_true rfl))) (zX8_lt (rfl : zX8 87)) (zS8 (rfl : zX8 87) cy a (M2 87)) rfl rfl rfl (Nat.le_of_ble_eq_true rfl) hl.1 hcs dX8_sheet_61 (fun H locs hw => ?_)
                exact z_ri X hw (zret h) dX8_sheet_64
          · replace h := zif_f c89 h
            refine lv_aload_n hx hb dX8_sheet_43 rfl (lv_at hl 0 rfl) ?_
            refine lv_iconst (v := 3) hx hb dX8_sheet_44 (by decide) ?_
            obtain ⟨r113, M114, f115, h⟩ := zbi_e h
            refine z_qVi (As := [.int (3 : Int32)]) (rest := []) X hw (kX8_error l D cy a (3 : Int32) M2 r113 M114 f115) (cwX8_76 X.2.2.2.2.2.1 rfl rfl (zroomO (Nat.le_of_ble_eq_true rfl) (Nat.le_of_ble_eq_true rfl))) (zX8_lt (rfl : zX8 87)) (zS8 (rfl : zX8 87) cy a (M2 87)) rfl rfl rfl (Nat.le_of_ble_eq_true rfl) hl.1 hcs dX8_sheet_45 (fun H locs hw => ?_)
            exact z_ri X hw (zret h) dX8_sheet_48
      · replace h := zif_f c64 h
        refine lv_iload_n hx hb dX8_sheet_17 rfl (lv_at hl 2 rfl) ?_
        refine lv_bipush (v := 16) hx hb dX8_sheet_18 (by decide) ?_
        refine lv_icmp_eq (tgt := 35) hx hb dX8_sheet_20 (by decide) (fun c116 => ?_) (fun c116 => ?_)
        · replace h := zif_t c116 h
          refine lv_iload_n hx hb dX8_sheet_35 rfl (lv_at hl 2 rfl) ?_
          refine lv_if_eq (tgt := 49) hx hb dX8_sheet_36 (by decide) (fun c117 => ?_) (fun c117 => ?_)
          · replace h := zif_t c117 h
            refine lv_iload_n hx hb dX8_sheet_49 rfl (lv_at hl 2 rfl) ?_
            refine lv_if_eq (tgt := 65) hx hb dX8_sheet_50 (by decide) (fun c118 => ?_) (fun c118 => ?_)
            · replace h := zif_t c118 h
              refine lv_aload_n hx hb dX8_sheet_65 rfl (lv_at hl 0 rfl) ?_
              refine gtX8_43 X hw dX8_sheet_66 ?_
              refine lv_iload_n hx hb dX8_sheet_69 rfl (lv_at hl 1 rfl) ?_
              refine lv_iload_n hx hb dX8_sheet_70 rfl (lv_at hl 2 rfl) ?_
              obtain ⟨g120, h⟩ := zgd_e h
              refine z_ast X hw zI_99 g120 dX8_sheet_71 (fun M119 H locs eM119 hw => ?_)
              replace h := zlt_s eM119 h
              refine lv_aload_n hx hb dX8_sheet_72 rfl (lv_at hl 0 rfl) ?_
              refine gtX8_46 X hw dX8_sheet_73 ?_
              refine lv_iload_n hx hb dX8_sheet_76 rfl (lv_at hl 1 rfl) ?_
              refine lv_iload_n hx hb dX8_sheet_77 rfl (lv_at hl 2 rfl) ?_
              refine lv_if_ne (tgt := 85) hx hb dX8_sheet_78 (by decide) (fun c121 => ?_) (fun c121 => ?_)
              · replace h := zif_f c121 h
                refine lv_iload_n hx hb dX8_sheet_85 rfl (lv_at hl 3 rfl) ?_
                obtain ⟨g123, h⟩ := zgd_e h
                refine z_ast X hw zI_100 g123 dX8_sheet_86 (fun M122 H locs eM122 hw => ?_)
                replace h := zlt_s eM122 h
                refine lv_iconst (v := 0) hx hb dX8_sheet_87 (by decide) ?_
                refine lv_istore (lv' := [(4, .int (0 : Int32)), (0, .ref (a 87)), (1, .int p0), (2, .int p1), (3, .int p2)]) hx hb dX8_sheet_88 hl (by decide) rfl (fun ls hl => ?_)
                refine lX8_sheet_90 X p0 _ zF (0 : Int32) M122 H locs _ hw (lv_sub hl [1, 2, 0] rfl) h (fun  M124 H locs ls hw hl h => ?_)
                refine lv_iconst (v := 1) hx hb dX8_sheet_116 (by decide) ?_
                exact z_ri X hw (zret h) dX8_sheet_117
              · replace h := zif_t c121 h
                refine lv_iconst (v := 0) hx hb dX8_sheet_81 (by decide) ?_
                refine lv_goto (tgt := 86) hx hb dX8_sheet_82 (by decide) ?_
                obtain ⟨g126, h⟩ := zgd_e h
                refine z_ast X hw zI_100 g126 dX8_sheet_86 (fun M125 H locs eM125 hw => ?_)
                replace h := zlt_s eM125 h
                refine lv_iconst (v := 0) hx hb dX8_sheet_87 (by decide) ?_
                refine lv_istore (lv' := [(4, .int (0 : Int32)), (0, .ref (a 87)), (1, .int p0), (2, .int p1), (3, .int p2)]) hx hb dX8_sheet_88 hl (by decide) rfl (fun ls hl => ?_)
                refine lX8_sheet_90 X p0 _ zF (0 : Int32) M125 H locs _ hw (lv_sub hl [1, 2, 0] rfl) h (fun  M127 H locs ls hw hl h => ?_)
                refine lv_iconst (v := 1) hx hb dX8_sheet_116 (by decide) ?_
                exact z_ri X hw (zret h) dX8_sheet_117
            · replace h := zif_f c118 h
              refine lv_iload_n hx hb dX8_sheet_53 rfl (lv_at hl 3 rfl) ?_
              refine lv_bipush (v := 24) hx hb dX8_sheet_54 (by decide) ?_
              refine lv_icmp_le (tgt := 65) hx hb dX8_sheet_56 (by decide) (fun c128 => ?_) (fun c128 => ?_)
              · replace h := zif_t c128 h
                refine lv_aload_n hx hb dX8_sheet_65 rfl (lv_at hl 0 rfl) ?_
                refine gtX8_43 X hw dX8_sheet_66 ?_
                refine lv_iload_n hx hb dX8_sheet_69 rfl (lv_at hl 1 rfl) ?_
                refine lv_iload_n hx hb dX8_sheet_70 rfl (lv_at hl 2 rfl) ?_
                obtain ⟨g130, h⟩ := zgd_e h
                refine z_ast X hw zI_99 g130 dX8_sheet_71 (fun M129 H locs eM129 hw => ?_)
                replace h := zlt_s eM129 h
                refine lv_aload_n hx hb dX8_sheet_72 rfl (lv_at hl 0 rfl) ?_
                refine gtX8_46 X hw dX8_sheet_73 ?_
                refine lv_iload_n hx hb dX8_sheet_76 rfl (lv_at hl 1 rfl) ?_
                refine lv_iload_n hx hb dX8_sheet_77 rfl (lv_at hl 2 rfl) ?_
                refine lv_if_ne (tgt := 85) hx hb dX8_sheet_78 (by decide) (fun c131 => ?_) (fun c131 => ?_)
                · replace h := zif_f c131 h
                  refine lv_iload_n hx hb dX8_sheet_85 rfl (lv_at hl 3 rfl) ?_
                  obtain ⟨g133, h⟩ := zgd_e h
                  refine z_ast X hw zI_100 g133 dX8_sheet_86 (fun M132 H locs eM132 hw => ?_)
                  replace h := zlt_s eM132 h
                  refine lv_iconst (v := 0) hx hb dX8_sheet_87 (by decide) ?_
                  refine lv_istore (lv' := [(4, .int (0 : Int32)), (0, .ref (a 87)), (1, .int p0), (2, .int p1), (3, .int p2)]) hx hb dX8_sheet_88 hl (by decide) rfl (fun ls hl => ?_)
                  refine lX8_sheet_90 X p0 _ zF (0 : Int32) M132 H locs _ hw (lv_sub hl [1, 2, 0] rfl) h (fun  M134 H locs ls hw hl h => ?_)
                  refine lv_iconst (v := 1) hx hb dX8_sheet_116 (by decide) ?_
                  exact z_ri X hw (zret h) dX8_sheet_117
                · replace h := zif_t c131 h
                  refine lv_iconst (v := 0) hx hb dX8_sheet_81 (by decide) ?_
                  refine lv_goto (tgt := 86) hx hb dX8_sheet_82 (by decide) ?_
                  obtain ⟨g136, h⟩ := zgd_e h
                  refine z_ast X hw zI_100 g136 dX8_sheet_86 (fun M135 H locs eM135 hw => ?_)
                  replace h := zlt_s eM135 h
                  refine lv_iconst (v := 0) hx hb dX8_sheet_87 (by decide) ?_
                  refine lv_istore (lv' := [(4, .int (0 : Int32)), (0, .ref (a 87)), (1, .int p0), (2, .int p1), (3, .int p2)]) hx hb dX8_sheet_88 hl (by decide) rfl (fun ls hl => ?_)
                  refine lX8_sheet_90 X p0 _ zF (0 : Int32) M135 H locs _ hw (lv_sub hl [1, 2, 0] rfl) h (fun  M137 H locs ls hw hl h => ?_)
                  refine lv_iconst (v := 1) hx hb dX8_sheet_116 (by decide) ?_
                  exact z_ri X hw (zret h) dX8_sheet_117
              · replace h := zif_f c128 h
                refine lv_aload_n hx hb dX8_sheet_59 rfl (lv_at hl 0 rfl) ?_
                refine lv_iconst (v := 1) hx hb dX8_sheet_60 (by decide) ?_
                obtain ⟨r138, M139, f140, h⟩ := zbi_e h
                refine z_qVi (As := [.int (1 : Int32)]) (rest := []) X hw (kX8_error l D cy a (1 : Int32) M2 r138 M139 f140) (cwX8_76 X.2.2.2.2.2.1 rfl rfl (zroomO (Nat.le_of_ble_eq_true rfl) (Nat.le_of_ble_eq_true rfl))) (zX8_lt (rfl : zX8 87)) (zS8 (rfl : zX8 87) cy a (M2 87)) rfl rfl rfl (Nat.le_of_ble_eq_true rfl) hl.1 hcs dX8_sheet_61 (fun H locs hw => ?_)
                exact z_ri X hw (zret h) dX8_sheet_64
          · replace h := zif_f c117 h
            refine lv_iload_n hx hb dX8_sheet_39 rfl (lv_at hl 3 rfl) ?_
            refine lv_if_ge (tgt := 49) hx hb dX8_sheet_40 (by decide) (fun c141 => ?_) (fun c141 => ?_)
            · replace h := zif_t c141 h
              refine lv_iload_n hx hb dX8_sheet_49 rfl (lv_at hl 2 rfl) ?_
              refine lv_if_eq (tgt := 65) hx hb dX8_sheet_50 (by decide) (fun c142 => ?_) (fun c142 => ?_)
              · replace h := zif_t c142 h
                refine lv_aload_n hx hb dX8_sheet_65 rfl (lv_at hl 0 rfl) ?_
                refine gtX8_43 X hw dX8_sheet_66 ?_
                refine lv_iload_n hx hb dX8_sheet_69 rfl (lv_at hl 1 rfl) ?_
                refine lv_iload_n hx hb dX8_sheet_70 rfl (lv_at hl 2 rfl) ?_
                obtain ⟨g144, h⟩ := zgd_e h
                refine z_ast X hw zI_99 g144 dX8_sheet_71 (fun M143 H locs eM143 hw => ?_)
                replace h := zlt_s eM143 h
                refine lv_aload_n hx hb dX8_sheet_72 rfl (lv_at hl 0 rfl) ?_
                refine gtX8_46 X hw dX8_sheet_73 ?_
                refine lv_iload_n hx hb dX8_sheet_76 rfl (lv_at hl 1 rfl) ?_
                refine lv_iload_n hx hb dX8_sheet_77 rfl (lv_at hl 2 rfl) ?_
                refine lv_if_ne (tgt := 85) hx hb dX8_sheet_78 (by decide) (fun c145 => ?_) (fun c145 => ?_)
                · replace h := zif_f c145 h
                  refine lv_iload_n hx hb dX8_sheet_85 rfl (lv_at hl 3 rfl) ?_
                  obtain ⟨g147, h⟩ := zgd_e h
                  refine z_ast X hw zI_100 g147 dX8_sheet_86 (fun M146 H locs eM146 hw => ?_)
                  replace h := zlt_s eM146 h
                  refine lv_iconst (v := 0) hx hb dX8_sheet_87 (by decide) ?_
                  refine lv_istore (lv' := [(4, .int (0 : Int32)), (0, .ref (a 87)), (1, .int p0), (2, .int p1), (3, .int p2)]) hx hb dX8_sheet_88 hl (by decide) rfl (fun ls hl => ?_)
                  refine lX8_sheet_90 X p0 _ zF (0 : Int32) M146 H locs _ hw (lv_sub hl [1, 2, 0] rfl) h (fun  M148 H locs ls hw hl h => ?_)
                  refine lv_iconst (v := 1) hx hb dX8_sheet_116 (by decide) ?_
                  exact z_ri X hw (zret h) dX8_sheet_117
                · replace h := zif_t c145 h
                  refine lv_iconst (v := 0) hx hb dX8_sheet_81 (by decide) ?_
                  refine lv_goto (tgt := 86) hx hb dX8_sheet_82 (by decide) ?_
                  obtain ⟨g150, h⟩ := zgd_e h
                  refine z_ast X hw zI_100 g150 dX8_sheet_86 (fun M149 H locs eM149 hw => ?_)
                  replace h := zlt_s eM149 h
                  refine lv_iconst (v := 0) hx hb dX8_sheet_87 (by decide) ?_
                  refine lv_istore (lv' := [(4, .int (0 : Int32)), (0, .ref (a 87)), (1, .int p0), (2, .int p1), (3, .int p2)]) hx hb dX8_sheet_88 hl (by decide) rfl (fun ls hl => ?_)
                  refine lX8_sheet_90 X p0 _ zF (0 : Int32) M149 H locs _ hw (lv_sub hl [1, 2, 0] rfl) h (fun  M151 H locs ls hw hl h => ?_)
                  refine lv_iconst (v := 1) hx hb dX8_sheet_116 (by decide) ?_
                  exact z_ri X hw (zret h) dX8_sheet_117
              · replace h := zif_f c142 h
                refine lv_iload_n hx hb dX8_sheet_53 rfl (lv_at hl 3 rfl) ?_
                refine lv_bipush (v := 24) hx hb dX8_sheet_54 (by decide) ?_
                refine lv_icmp_le (tgt := 65) hx hb dX8_sheet_56 (by decide) (fun c152 => ?_) (fun c152 => ?_)
                · replace h := zif_t c152 h
                  refine lv_aload_n hx hb dX8_sheet_65 rfl (lv_at hl 0 rfl) ?_
                  refine gtX8_43 X hw dX8_sheet_66 ?_
                  refine lv_iload_n hx hb dX8_sheet_69 rfl (lv_at hl 1 rfl) ?_
                  refine lv_iload_n hx hb dX8_sheet_70 rfl (lv_at hl 2 rfl) ?_
                  obtain ⟨g154, h⟩ := zgd_e h
                  refine z_ast X hw zI_99 g154 dX8_sheet_71 (fun M153 H locs eM153 hw => ?_)
                  replace h := zlt_s eM153 h
                  refine lv_aload_n hx hb dX8_sheet_72 rfl (lv_at hl 0 rfl) ?_
                  refine gtX8_46 X hw dX8_sheet_73 ?_
                  refine lv_iload_n hx hb dX8_sheet_76 rfl (lv_at hl 1 rfl) ?_
                  refine lv_iload_n hx hb dX8_sheet_77 rfl (lv_at hl 2 rfl) ?_
                  refine lv_if_ne (tgt := 85) hx hb dX8_sheet_78 (by decide) (fun c155 => ?_) (fun c155 => ?_)
                  · replace h := zif_f c155 h
                    refine lv_iload_n hx hb dX8_sheet_85 rfl (lv_at hl 3 rfl) ?_
                    obtain ⟨g157, h⟩ := zgd_e h
                    refine z_ast X hw zI_100 g157 dX8_sheet_86 (fun M156 H locs eM156 hw => ?_)
                    replace h := zlt_s eM156 h
                    refine lv_iconst (v := 0) hx hb dX8_sheet_87 (by decide) ?_
                    refine lv_istore (lv' := [(4, .int (0 : Int32)), (0, .ref (a 87)), (1, .int p0), (2, .int p1), (3, .int p2)]) hx hb dX8_sheet_88 hl (by decide) rfl (fun ls hl => ?_)
                    refine lX8_sheet_90 X p0 _ zF (0 : Int32) M156 H locs _ hw (lv_sub hl [1, 2, 0] rfl) h (fun  M158 H locs ls hw hl h => ?_)
                    refine lv_iconst (v := 1) hx hb dX8_sheet_116 (by decide) ?_
                    exact z_ri X hw (zret h) dX8_sheet_117
                  · replace h := zif_t c155 h
                    refine lv_iconst (v := 0) hx hb dX8_sheet_81 (by decide) ?_
                    refine lv_goto (tgt := 86) hx hb dX8_sheet_82 (by decide) ?_
                    obtain ⟨g160, h⟩ := zgd_e h
                    refine z_ast X hw zI_100 g160 dX8_sheet_86 (fun M159 H locs eM159 hw => ?_)
                    replace h := zlt_s eM159 h
                    refine lv_iconst (v := 0) hx hb dX8_sheet_87 (by decide) ?_
                    refine lv_istore (lv' := [(4, .int (0 : Int32)), (0, .ref (a 87)), (1, .int p0), (2, .int p1), (3, .int p2)]) hx hb dX8_sheet_88 hl (by decide) rfl (fun ls hl => ?_)
                    refine lX8_sheet_90 X p0 _ zF (0 : Int32) M159 H locs _ hw (lv_sub hl [1, 2, 0] rfl) h (fun  M161 H locs ls hw hl h => ?_)
                    refine lv_iconst (v := 1) hx hb dX8_sheet_116 (by decide) ?_
                    exact z_ri X hw (zret h) dX8_sheet_117
                · replace h := zif_f c152 h
                  refine lv_aload_n hx hb dX8_sheet_59 rfl (lv_at hl 0 rfl) ?_
                  refine lv_iconst (v := 1) hx hb dX8_sheet_60 (by decide) ?_
                  obtain ⟨r162, M163, f164, h⟩ := zbi_e h
                  refine z_qVi (As := [.int (1 : Int32)]) (rest := []) X hw (kX8_error l D cy a (1 : Int32) M2 r162 M163 f164) (cwX8_76 X.2.2.2.2.2.1 rfl rfl (zroomO (Nat.le_of_ble_eq_true rfl) (Nat.le_of_ble_eq_true rfl))) (zX8_lt (rfl : zX8 87)) (zS8 (rfl : zX8 87) cy a (M2 87)) rfl rfl rfl (Nat.le_of_ble_eq_true rfl) hl.1 hcs dX8_sheet_61 (fun H locs hw => ?_)
                  exact z_ri X hw (zret h) dX8_sheet_64
            · replace h := zif_f c141 h
              refine lv_aload_n hx hb dX8_sheet_43 rfl (lv_at hl 0 rfl) ?_
              refine lv_iconst (v := 3) hx hb dX8_sheet_44 (by decide) ?_
              obtain ⟨r165, M166, f167, h⟩ := zbi_e h
              refine z_qVi (As := [.int (3 : Int32)]) (rest := []) X hw (kX8_error l D cy a (3 : Int32) M2 r165 M166 f167) (cwX8_76 X.2.2.2.2.2.1 rfl rfl (zroomO (Nat.le_of_ble_eq_true rfl) (Nat.le_of_ble_eq_true rfl))) (zX8_lt (rfl : zX8 87)) (zS8 (rfl : zX8 87) cy a (M2 87)) rfl rfl rfl (Nat.le_of_ble_eq_true rfl) hl.1 hcs dX8_sheet_45 (fun H locs hw => ?_)
              exact z_ri X hw (zret h) dX8_sheet_48
        · replace h := zif_f c116 h
          refine lv_iload_n hx hb dX8_sheet_23 rfl (lv_at hl 2 rfl) ?_
          refine lv_bipush (v := 32) hx hb dX8_sheet_24 (by decide) ?_
          refine lv_icmp_eq (tgt := 35) hx hb dX8_sheet_26 (by decide) (fun c168 => ?_) (fun c168 => ?_)
          · replace h := zif_t c168 h
            refine lv_iload_n hx hb dX8_sheet_35 rfl (lv_at hl 2 rfl) ?_
            refine lv_if_eq (tgt := 49) hx hb dX8_sheet_36 (by decide) (fun c169 => ?_) (fun c169 => ?_)
            · replace h := zif_t c169 h
              refine lv_iload_n hx hb dX8_sheet_49 rfl (lv_at hl 2 rfl) ?_
              refine lv_if_eq (tgt := 65) hx hb dX8_sheet_50 (by decide) (fun c170 => ?_) (fun c170 => ?_)
              · replace h := zif_t c170 h
                refine lv_aload_n hx hb dX8_sheet_65 rfl (lv_at hl 0 rfl) ?_
                refine gtX8_43 X hw dX8_sheet_66 ?_
                refine lv_iload_n hx hb dX8_sheet_69 rfl (lv_at hl 1 rfl) ?_
                refine lv_iload_n hx hb dX8_sheet_70 rfl (lv_at hl 2 rfl) ?_
                obtain ⟨g172, h⟩ := zgd_e h
                refine z_ast X hw zI_99 g172 dX8_sheet_71 (fun M171 H locs eM171 hw => ?_)
                replace h := zlt_s eM171 h
                refine lv_aload_n hx hb dX8_sheet_72 rfl (lv_at hl 0 rfl) ?_
                refine gtX8_46 X hw dX8_sheet_73 ?_
                refine lv_iload_n hx hb dX8_sheet_76 rfl (lv_at hl 1 rfl) ?_
                refine lv_iload_n hx hb dX8_sheet_77 rfl (lv_at hl 2 rfl) ?_
                refine lv_if_ne (tgt := 85) hx hb dX8_sheet_78 (by decide) (fun c173 => ?_) (fun c173 => ?_)
                · replace h := zif_f c173 h
                  refine lv_iload_n hx hb dX8_sheet_85 rfl (lv_at hl 3 rfl) ?_
                  obtain ⟨g175, h⟩ := zgd_e h
                  refine z_ast X hw zI_100 g175 dX8_sheet_86 (fun M174 H locs eM174 hw => ?_)
                  replace h := zlt_s eM174 h
                  refine lv_iconst (v := 0) hx hb dX8_sheet_87 (by decide) ?_
                  refine lv_istore (lv' := [(4, .int (0 : Int32)), (0, .ref (a 87)), (1, .int p0), (2, .int p1), (3, .int p2)]) hx hb dX8_sheet_88 hl (by decide) rfl (fun ls hl => ?_)
                  refine lX8_sheet_90 X p0 _ zF (0 : Int32) M174 H locs _ hw (lv_sub hl [1, 2, 0] rfl) h (fun  M176 H locs ls hw hl h => ?_)
                  refine lv_iconst (v := 1) hx hb dX8_sheet_116 (by decide) ?_
                  exact z_ri X hw (zret h) dX8_sheet_117
                · replace h := zif_t c173 h
                  refine lv_iconst (v := 0) hx hb dX8_sheet_81 (by decide) ?_
                  refine lv_goto (tgt := 86) hx hb dX8_sheet_82 (by decide) ?_
                  obtain ⟨g178, h⟩ := zgd_e h
                  refine z_ast X hw zI_100 g178 dX8_sheet_86 (fun M177 H locs eM177 hw => ?_)
                  replace h := zlt_s eM177 h
                  refine lv_iconst (v := 0) hx hb dX8_sheet_87 (by decide) ?_
                  refine lv_istore (lv' := [(4, .int (0 : Int32)), (0, .ref (a 87)), (1, .int p0), (2, .int p1), (3, .int p2)]) hx hb dX8_sheet_88 hl (by decide) rfl (fun ls hl => ?_)
                  refine lX8_sheet_90 X p0 _ zF (0 : Int32) M177 H locs _ hw (lv_sub hl [1, 2, 0] rfl) h (fun  M179 H locs ls hw hl h => ?_)
                  refine lv_iconst (v := 1) hx hb dX8_sheet_116 (by decide) ?_
                  exact z_ri X hw (zret h) dX8_sheet_117
              · replace h := zif_f c170 h
                refine lv_iload_n hx hb dX8_sheet_53 rfl (lv_at hl 3 rfl) ?_
                refine lv_bipush (v := 24) hx hb dX8_sheet_54 (by decide) ?_
                refine lv_icmp_le (tgt := 65) hx hb dX8_sheet_56 (by decide) (fun c180 => ?_) (fun c180 => ?_)
                · replace h := zif_t c180 h
                  refine lv_aload_n hx hb dX8_sheet_65 rfl (lv_at hl 0 rfl) ?_
                  refine gtX8_43 X hw dX8_sheet_66 ?_
                  refine lv_iload_n hx hb dX8_sheet_69 rfl (lv_at hl 1 rfl) ?_
                  refine lv_iload_n hx hb dX8_sheet_70 rfl (lv_at hl 2 rfl) ?_
                  obtain ⟨g182, h⟩ := zgd_e h
                  refine z_ast X hw zI_99 g182 dX8_sheet_71 (fun M181 H locs eM181 hw => ?_)
                  replace h := zlt_s eM181 h
                  refine lv_aload_n hx hb dX8_sheet_72 rfl (lv_at hl 0 rfl) ?_
                  refine gtX8_46 X hw dX8_sheet_73 ?_
                  refine lv_iload_n hx hb dX8_sheet_76 rfl (lv_at hl 1 rfl) ?_
                  refine lv_iload_n hx hb dX8_sheet_77 rfl (lv_at hl 2 rfl) ?_
                  refine lv_if_ne (tgt := 85) hx hb dX8_sheet_78 (by decide) (fun c183 => ?_) (fun c183 => ?_)
                  · replace h := zif_f c183 h
                    refine lv_iload_n hx hb dX8_sheet_85 rfl (lv_at hl 3 rfl) ?_
                    obtain ⟨g185, h⟩ := zgd_e h
                    refine z_ast X hw zI_100 g185 dX8_sheet_86 (fun M184 H locs eM184 hw => ?_)
                    replace h := zlt_s eM184 h
                    refine lv_iconst (v := 0) hx hb dX8_sheet_87 (by decide) ?_
                    refine lv_istore (lv' := [(4, .int (0 : Int32)), (0, .ref (a 87)), (1, .int p0), (2, .int p1), (3, .int p2)]) hx hb dX8_sheet_88 hl (by decide) rfl (fun ls hl => ?_)
                    refine lX8_sheet_90 X p0 _ zF (0 : Int32) M184 H locs _ hw (lv_sub hl [1, 2, 0] rfl) h (fun  M186 H locs ls hw hl h => ?_)
                    refine lv_iconst (v := 1) hx hb dX8_sheet_116 (by decide) ?_
                    exact z_ri X hw (zret h) dX8_sheet_117
                  · replace h := zif_t c183 h
                    refine lv_iconst (v := 0) hx hb dX8_sheet_81 (by decide) ?_
                    refine lv_goto (tgt := 86) hx hb dX8_sheet_82 (by decide) ?_
                    obtain ⟨g188, h⟩ := zgd_e h
                    refine z_ast X hw zI_100 g188 dX8_sheet_86 (fun M187 H locs eM187 hw => ?_)
                    replace h := zlt_s eM187 h
                    refine lv_iconst (v := 0) hx hb dX8_sheet_87 (by decide) ?_
                    refine lv_istore (lv' := [(4, .int (0 : Int32)), (0, .ref (a 87)), (1, .int p0), (2, .int p1), (3, .int p2)]) hx hb dX8_sheet_88 hl (by decide) rfl (fun ls hl => ?_)
                    refine lX8_sheet_90 X p0 _ zF (0 : Int32) M187 H locs _ hw (lv_sub hl [1, 2, 0] rfl) h (fun  M189 H locs ls hw hl h => ?_)
                    refine lv_iconst (v := 1) hx hb dX8_sheet_116 (by decide) ?_
                    exact z_ri X hw (zret h) dX8_sheet_117
                · replace h := zif_f c180 h
                  refine lv_aload_n hx hb dX8_sheet_59 rfl (lv_at hl 0 rfl) ?_
                  refine lv_iconst (v := 1) hx hb dX8_sheet_60 (by decide) ?_
                  obtain ⟨r190, M191, f192, h⟩ := zbi_e h
                  refine z_qVi (As := [.int (1 : Int32)]) (rest := []) X hw (kX8_error l D cy a (1 : Int32) M2 r190 M191 f192) (cwX8_76 X.2.2.2.2.2.1 rfl rfl (zroomO (Nat.le_of_ble_eq_true rfl) (Nat.le_of_ble_eq_true rfl))) (zX8_lt (rfl : zX8 87)) (zS8 (rfl : zX8 87) cy a (M2 87)) rfl rfl rfl (Nat.le_of_ble_eq_true rfl) hl.1 hcs dX8_sheet_61 (fun H locs hw => ?_)
                  exact z_ri X hw (zret h) dX8_sheet_64
            · replace h := zif_f c169 h
              refine lv_iload_n hx hb dX8_sheet_39 rfl (lv_at hl 3 rfl) ?_
              refine lv_if_ge (tgt := 49) hx hb dX8_sheet_40 (by decide) (fun c193 => ?_) (fun c193 => ?_)
              · replace h := zif_t c193 h
                refine lv_iload_n hx hb dX8_sheet_49 rfl (lv_at hl 2 rfl) ?_
                refine lv_if_eq (tgt := 65) hx hb dX8_sheet_50 (by decide) (fun c194 => ?_) (fun c194 => ?_)
                · replace h := zif_t c194 h
                  refine lv_aload_n hx hb dX8_sheet_65 rfl (lv_at hl 0 rfl) ?_
                  refine gtX8_43 X hw dX8_sheet_66 ?_
                  refine lv_iload_n hx hb dX8_sheet_69 rfl (lv_at hl 1 rfl) ?_
                  refine lv_iload_n hx hb dX8_sheet_70 rfl (lv_at hl 2 rfl) ?_
                  obtain ⟨g196, h⟩ := zgd_e h
                  refine z_ast X hw zI_99 g196 dX8_sheet_71 (fun M195 H locs eM195 hw => ?_)
                  replace h := zlt_s eM195 h
                  refine lv_aload_n hx hb dX8_sheet_72 rfl (lv_at hl 0 rfl) ?_
                  refine gtX8_46 X hw dX8_sheet_73 ?_
                  refine lv_iload_n hx hb dX8_sheet_76 rfl (lv_at hl 1 rfl) ?_
                  refine lv_iload_n hx hb dX8_sheet_77 rfl (lv_at hl 2 rfl) ?_
                  refine lv_if_ne (tgt := 85) hx hb dX8_sheet_78 (by decide) (fun c197 => ?_) (fun c197 => ?_)
                  · replace h := zif_f c197 h
                    refine lv_iload_n hx hb dX8_sheet_85 rfl (lv_at hl 3 rfl) ?_
                    obtain ⟨g199, h⟩ := zgd_e h
                    refine z_ast X hw zI_100 g199 dX8_sheet_86 (fun M198 H locs eM198 hw => ?_)
                    replace h := zlt_s eM198 h
                    refine lv_iconst (v := 0) hx hb dX8_sheet_87 (by decide) ?_
                    refine lv_istore (lv' := [(4, .int (0 : Int32)), (0, .ref (a 87)), (1, .int p0), (2, .int p1), (3, .int p2)]) hx hb dX8_sheet_88 hl (by decide) rfl (fun ls hl => ?_)
                    refine lX8_sheet_90 X p0 _ zF (0 : Int32) M198 H locs _ hw (lv_sub hl [1, 2, 0] rfl) h (fun  M200 H locs ls hw hl h => ?_)
                    refine lv_iconst (v := 1) hx hb dX8_sheet_116 (by decide) ?_
                    exact z_ri X hw (zret h) dX8_sheet_117
                  · replace h := zif_t c197 h
                    refine lv_iconst (v := 0) hx hb dX8_sheet_81 (by decide) ?_
                    refine lv_goto (tgt := 86) hx hb dX8_sheet_82 (by decide) ?_
                    obtain ⟨g202, h⟩ := zgd_e h
                    refine z_ast X hw zI_100 g202 dX8_sheet_86 (fun M201 H locs eM201 hw => ?_)
                    replace h := zlt_s eM201 h
                    refine lv_iconst (v := 0) hx hb dX8_sheet_87 (by decide) ?_
                    refine lv_istore (lv' := [(4, .int (0 : Int32)), (0, .ref (a 87)), (1, .int p0), (2, .int p1), (3, .int p2)]) hx hb dX8_sheet_88 hl (by decide) rfl (fun ls hl => ?_)
                    refine lX8_sheet_90 X p0 _ zF (0 : Int32) M201 H locs _ hw (lv_sub hl [1, 2, 0] rfl) h (fun  M203 H locs ls hw hl h => ?_)
                    refine lv_iconst (v := 1) hx hb dX8_sheet_116 (by decide) ?_
                    exact z_ri X hw (zret h) dX8_sheet_117
                · replace h := zif_f c194 h
                  refine lv_iload_n hx hb dX8_sheet_53 rfl (lv_at hl 3 rfl) ?_
                  refine lv_bipush (v := 24) hx hb dX8_sheet_54 (by decide) ?_
                  refine lv_icmp_le (tgt := 65) hx hb dX8_sheet_56 (by decide) (fun c204 => ?_) (fun c204 => ?_)
                  · replace h := zif_t c204 h
                    refine lv_aload_n hx hb dX8_sheet_65 rfl (lv_at hl 0 rfl) ?_
                    refine gtX8_43 X hw dX8_sheet_66 ?_
                    refine lv_iload_n hx hb dX8_sheet_69 rfl (lv_at hl 1 rfl) ?_
                    refine lv_iload_n hx hb dX8_sheet_70 rfl (lv_at hl 2 rfl) ?_
                    obtain ⟨g206, h⟩ := zgd_e h
                    refine z_ast X hw zI_99 g206 dX8_sheet_71 (fun M205 H locs eM205 hw => ?_)
                    replace h := zlt_s eM205 h
                    refine lv_aload_n hx hb dX8_sheet_72 rfl (lv_at hl 0 rfl) ?_
                    refine gtX8_46 X hw dX8_sheet_73 ?_
                    refine lv_iload_n hx hb dX8_sheet_76 rfl (lv_at hl 1 rfl) ?_
                    refine lv_iload_n hx hb dX8_sheet_77 rfl (lv_at hl 2 rfl) ?_
                    refine lv_if_ne (tgt := 85) hx hb dX8_sheet_78 (by decide) (fun c207 => ?_) (fun c207 => ?_)
                    · replace h := zif_f c207 h
                      refine lv_iload_n hx hb dX8_sheet_85 rfl (lv_at hl 3 rfl) ?_
                      obtain ⟨g209, h⟩ := zgd_e h
                      refine z_ast X hw zI_100 g209 dX8_sheet_86 (fun M208 H locs eM208 hw => ?_)
                      replace h := zlt_s eM208 h
                      refine lv_iconst (v := 0) hx hb dX8_sheet_87 (by decide) ?_
                      refine lv_istore (lv' := [(4, .int (0 : Int32)), (0, .ref (a 87)), (1, .int p0), (2, .int p1), (3, .int p2)]) hx hb dX8_sheet_88 hl (by decide) rfl (fun ls hl => ?_)
                      refine lX8_sheet_90 X p0 _ zF (0 : Int32) M208 H locs _ hw (lv_sub hl [1, 2, 0] rfl) h (fun  M210 H locs ls hw hl h => ?_)
                      refine lv_iconst (v := 1) hx hb dX8_sheet_116 (by decide) ?_
                      exact z_ri X hw (zret h) dX8_sheet_117
                    · replace h := zif_t c207 h
                      refine lv_iconst (v := 0) hx hb dX8_sheet_81 (by decide) ?_
                      refine lv_goto (tgt := 86) hx hb dX8_sheet_82 (by decide) ?_
                      obtain ⟨g212, h⟩ := zgd_e h
                      refine z_ast X hw zI_100 g212 dX8_sheet_86 (fun M211 H locs eM211 hw => ?_)
                      replace h := zlt_s eM211 h
                      refine lv_iconst (v := 0) hx hb dX8_sheet_87 (by decide) ?_
                      refine lv_istore (lv' := [(4, .int (0 : Int32)), (0, .ref (a 87)), (1, .int p0), (2, .int p1), (3, .int p2)]) hx hb dX8_sheet_88 hl (by decide) rfl (fun ls hl => ?_)
                      refine lX8_sheet_90 X p0 _ zF (0 : Int32) M211 H locs _ hw (lv_sub hl [1, 2, 0] rfl) h (fun  M213 H locs ls hw hl h => ?_)
                      refine lv_iconst (v := 1) hx hb dX8_sheet_116 (by decide) ?_
                      exact z_ri X hw (zret h) dX8_sheet_117
                  · replace h := zif_f c204 h
                    refine lv_aload_n hx hb dX8_sheet_59 rfl (lv_at hl 0 rfl) ?_
                    refine lv_iconst (v := 1) hx hb dX8_sheet_60 (by decide) ?_
                    obtain ⟨r214, M215, f216, h⟩ := zbi_e h
                    refine z_qVi (As := [.int (1 : Int32)]) (rest := []) X hw (kX8_error l D cy a (1 : Int32) M2 r214 M215 f216) (cwX8_76 X.2.2.2.2.2.1 rfl rfl (zroomO (Nat.le_of_ble_eq_true rfl) (Nat.le_of_ble_eq_true rfl))) (zX8_lt (rfl : zX8 87)) (zS8 (rfl : zX8 87) cy a (M2 87)) rfl rfl rfl (Nat.le_of_ble_eq_true rfl) hl.1 hcs dX8_sheet_61 (fun H locs hw => ?_)
                    exact z_ri X hw (zret h) dX8_sheet_64
              · replace h := zif_f c193 h
                refine lv_aload_n hx hb dX8_sheet_43 rfl (lv_at hl 0 rfl) ?_
                refine lv_iconst (v := 3) hx hb dX8_sheet_44 (by decide) ?_
                obtain ⟨r217, M218, f219, h⟩ := zbi_e h
                refine z_qVi (As := [.int (3 : Int32)]) (rest := []) X hw (kX8_error l D cy a (3 : Int32) M2 r217 M218 f219) (cwX8_76 X.2.2.2.2.2.1 rfl rfl (zroomO (Nat.le_of_ble_eq_true rfl) (Nat.le_of_ble_eq_true rfl))) (zX8_lt (rfl : zX8 87)) (zS8 (rfl : zX8 87) cy a (M2 87)) rfl rfl rfl (Nat.le_of_ble_eq_true rfl) hl.1 hcs dX8_sheet_45 (fun H locs hw => ?_)
                exact z_ri X hw (zret h) dX8_sheet_48
          · replace h := zif_f c168 h
            refine lv_aload_n hx hb dX8_sheet_29 rfl (lv_at hl 0 rfl) ?_
            refine lv_iconst (v := 1) hx hb dX8_sheet_30 (by decide) ?_
            obtain ⟨r220, M221, f222, h⟩ := zbi_e h
            refine z_qVi (As := [.int (1 : Int32)]) (rest := []) X hw (kX8_error l D cy a (1 : Int32) M2 r220 M221 f222) (cwX8_76 X.2.2.2.2.2.1 rfl rfl (zroomO (Nat.le_of_ble_eq_true rfl) (Nat.le_of_ble_eq_true rfl))) (zX8_lt (rfl : zX8 87)) (zS8 (rfl : zX8 87) cy a (M2 87)) rfl rfl rfl (Nat.le_of_ble_eq_true rfl) hl.1 hcs dX8_sheet_31 (fun H locs hw => ?_)
            exact z_ri X hw (zret h) dX8_sheet_34
def fX8_put (p0 : Int32) (p1 : Int32) (p2 : Int32) (M : zM) : Option (Int32 × zM) := zbi (fX8_isSheet p0 M) (fun r1 M2 => if r1 = 0 then (zbi (fX8_error (1 : Int32) M2) (fun r24 M25 => some (r24, M25))) else (zgd (p0 < 0 ∨ 4 ≤ p0.toNatClampNeg) (if M2 99 (p0.toNatClampNeg) = 0 then (zbi (fX8_error (2 : Int32) M2) (fun r21 M22 => some (r21, M22))) else (zgd (p0 < 0 ∨ 4 ≤ p0.toNatClampNeg) (zbi (fX8_in p1 (0 : Int32) ((M2 100 (p0.toNatClampNeg)) - (1 : Int32)) M2) (fun r8 M9 => if r8 = 0 then (zbi (fX8_error (1 : Int32) M9) (fun r18 M19 => some (r18, M19))) else (zgd (p0 < 0 ∨ 4 ≤ p0.toNatClampNeg) (zlt ((32 : Int32) - (M9 99 (p0.toNatClampNeg))) (fun x13 => zlt (p2 <<< (x13 &&& 31)) (fun x14 => zlt (x14 >>> (x13 &&& 31)) (fun x15 => zgd (((24 : Int32) * p0) + p1 < 0 ∨ 96 ≤ (((24 : Int32) * p0) + p1).toNatClampNeg) (zlt (zst M9 101 ((((24 : Int32) * p0) + p1).toNatClampNeg) x15) (fun M16 => some ((1 : Int32), M16))))))))))))))
set_option maxRecDepth 100000 in
set_option maxHeartbeats 4000000 in
theorem kX8_put (l : Launch) (D : va_G) (cy : Nat → ClassId) (a : Nat → Nat) (p0 : Int32) (p1 : Int32) (p2 : Int32) (M : zM) (r0 : Int32) (M0 : zM) (h : fX8_put p0 p1 p2 M = some (r0, M0)) : zCi l D cy a yX8_put cX8_put 5 (some .int) (zRm 2 42) [.ref (a 87), .int p0, .int p1, .int p2] M (fun r u => r = r0 ∧ u = M0) := by
  intro sz
  refine zent_i sz (by decide) (Nat.le_of_ble_eq_true rfl) rfl (fun p e s m args below meth c ls H locs X hw hl => ?_)
  obtain ⟨hx, hb, hr, hml, hown, hW, hlocks⟩ := id X
  have hE := hw.2.2.2.2.1
  have hcs : 0 ≤ ((zRm 2 42)).cells ∧ 0 ≤ ((zRm 2 42)).slots := ⟨Nat.zero_le _, Nat.zero_le _⟩
  rw [fX8_put] at h
  refine lv_iload_n hx hb dX8_put_0 rfl (lv_at hl 1 rfl) ?_
  obtain ⟨r1, M2, f3, h⟩ := zbi_e h
  refine z_qSi (As := [.int p0]) (rest := []) X hw (kX8_isSheet l D cy a p0 M r1 M2 f3) (cwX8_281 X.2.2.2.2.2.1 rfl rfl (zroomO (Nat.le_of_ble_eq_true rfl) (Nat.le_of_ble_eq_true rfl))) rfl rfl (Nat.le_of_ble_eq_true rfl) hl.1 hcs dX8_put_1 (fun H locs hw => ?_)
  refine lv_if_ne (tgt := 13) hx hb dX8_put_4 (by decide) (fun c4 => ?_) (fun c4 => ?_)
  · replace h := zif_f c4 h
    refine lv_aload_n hx hb dX8_put_13 rfl (lv_at hl 0 rfl) ?_
    refine gtX8_43 X hw dX8_put_14 ?_
    refine lv_iload_n hx hb dX8_put_17 rfl (lv_at hl 1 rfl) ?_
    obtain ⟨g5, h⟩ := zgd_e h
    refine z_ald X hw zI_99 g5 dX8_put_18 ?_
    refine lv_if_ne (tgt := 28) hx hb dX8_put_19 (by decide) (fun c6 => ?_) (fun c6 => ?_)
    · replace h := zif_f c6 h
      refine lv_iload_n hx hb dX8_put_28 rfl (lv_at hl 2 rfl) ?_
      refine lv_iconst (v := 0) hx hb dX8_put_29 (by decide) ?_
      refine lv_aload_n hx hb dX8_put_30 rfl (lv_at hl 0 rfl) ?_
      refine gtX8_46 X hw dX8_put_31 ?_
      refine lv_iload_n hx hb dX8_put_34 rfl (lv_at hl 1 rfl) ?_
      obtain ⟨g7, h⟩ := zgd_e h
      refine z_ald X hw zI_100 g7 dX8_put_35 ?_
      refine lv_iconst (v := 1) hx hb dX8_put_36 (by decide) ?_
      refine lv_isub hx hb dX8_put_37 ?_
      obtain ⟨r8, M9, f10, h⟩ := zbi_e h
      refine z_qSi (As := [.int p1, .int (0 : Int32), .int ((M2 100 (p0.toNatClampNeg)) - (1 : Int32))]) (rest := []) X hw (kX8_in l D cy a p1 (0 : Int32) ((M2 100 (p0.toNatClampNeg)) - (1 : Int32)) M2 r8 M9 f10) (cwX8_56 X.2.2.2.2.2.1 rfl rfl (zroomO (Nat.le_of_ble_eq_true rfl) (Nat.le_of_ble_eq_true rfl))) rfl rfl (Nat.le_of_ble_eq_true rfl) hl.1 hcs dX8_put_38 (fun H locs hw => ?_)
      refine lv_if_ne (tgt := 50) hx hb dX8_put_41 (by decide) (fun c11 => ?_) (fun c11 => ?_)
      · replace h := zif_f c11 h
        refine lv_bipush (v := 32) hx hb dX8_put_50 (by decide) ?_
        refine lv_aload_n hx hb dX8_put_52 rfl (lv_at hl 0 rfl) ?_
        refine gtX8_43 X hw dX8_put_53 ?_
        refine lv_iload_n hx hb dX8_put_56 rfl (lv_at hl 1 rfl) ?_
        obtain ⟨g12, h⟩ := zgd_e h
        refine z_ald X hw zI_99 g12 dX8_put_57 ?_
        refine lv_isub hx hb dX8_put_58 ?_
        refine lv_topi (fun x13 ex13 => ?_)
        replace h := zlt_s ex13 h
        refine lv_istore (lv' := [(4, .int x13), (0, .ref (a 87)), (1, .int p0), (2, .int p1), (3, .int p2)]) hx hb dX8_put_59 hl (by decide) rfl (fun ls hl => ?_)
        refine lv_aload_n hx hb dX8_put_61 rfl (lv_at hl 1 rfl) ?_
        refine gtX8_49 X hw dX8_put_62 ?_
        refine lv_bipush (v := 24) hx hb dX8_put_65 (by decide) ?_
        refine lv_iload_n hx hb dX8_put_67 rfl (lv_at hl 2 rfl) ?_
        refine lv_imul hx hb dX8_put_68 ?_
        refine lv_iload_n hx hb dX8_put_69 rfl (lv_at hl 3 rfl) ?_
        refine lv_iadd hx hb dX8_put_70 ?_
        refine lv_iload_n hx hb dX8_put_71 rfl (lv_at hl 4 rfl) ?_
        refine lv_iload hx hb dX8_put_72 (lv_at hl 0 rfl) ?_
        refine lv_ishl hx hb dX8_put_74 ?_
        refine lv_topi (fun x14 ex14 => ?_)
        replace h := zlt_s ex14 h
        refine lv_iload hx hb dX8_put_75 (lv_at hl 0 rfl) ?_
        refine lv_ishr hx hb dX8_put_77 ?_
        refine lv_topi (fun x15 ex15 => ?_)
        replace h := zlt_s ex15 h
        obtain ⟨g17, h⟩ := zgd_e h
        refine z_ast X hw zI_101 g17 dX8_put_78 (fun M16 H locs eM16 hw => ?_)
        replace h := zlt_s eM16 h
        refine lv_iconst (v := 1) hx hb dX8_put_79 (by decide) ?_
        exact z_ri X hw (zret h) dX8_put_80
      · replace h := zif_t c11 h
        refine lv_aload_n hx hb dX8_put_44 rfl (lv_at hl 0 rfl) ?_
        refine lv_iconst (v := 1) hx hb dX8_put_45 (by decide) ?_
        obtain ⟨r18, M19, f20, h⟩ := zbi_e h
        refine z_qVi (As := [.int (1 : Int32)]) (rest := []) X hw (kX8_error l D cy a (1 : Int32) M9 r18 M19 f20) (cwX8_76 X.2.2.2.2.2.1 rfl rfl (zroomO (Nat.le_of_ble_eq_true rfl) (Nat.le_of_ble_eq_true rfl))) (zX8_lt (rfl : zX8 87)) (zS8 (rfl : zX8 87) cy a (M9 87)) rfl rfl rfl (Nat.le_of_ble_eq_true rfl) hl.1 hcs dX8_put_46 (fun H locs hw => ?_)
        exact z_ri X hw (zret h) dX8_put_49
    · replace h := zif_t c6 h
      refine lv_aload_n hx hb dX8_put_22 rfl (lv_at hl 0 rfl) ?_
      refine lv_iconst (v := 2) hx hb dX8_put_23 (by decide) ?_
      obtain ⟨r21, M22, f23, h⟩ := zbi_e h
      refine z_qVi (As := [.int (2 : Int32)]) (rest := []) X hw (kX8_error l D cy a (2 : Int32) M2 r21 M22 f23) (cwX8_76 X.2.2.2.2.2.1 rfl rfl (zroomO (Nat.le_of_ble_eq_true rfl) (Nat.le_of_ble_eq_true rfl))) (zX8_lt (rfl : zX8 87)) (zS8 (rfl : zX8 87) cy a (M2 87)) rfl rfl rfl (Nat.le_of_ble_eq_true rfl) hl.1 hcs dX8_put_24 (fun H locs hw => ?_)
      exact z_ri X hw (zret h) dX8_put_27
  · replace h := zif_t c4 h
    refine lv_aload_n hx hb dX8_put_7 rfl (lv_at hl 0 rfl) ?_
    refine lv_iconst (v := 1) hx hb dX8_put_8 (by decide) ?_
    obtain ⟨r24, M25, f26, h⟩ := zbi_e h
    refine z_qVi (As := [.int (1 : Int32)]) (rest := []) X hw (kX8_error l D cy a (1 : Int32) M2 r24 M25 f26) (cwX8_76 X.2.2.2.2.2.1 rfl rfl (zroomO (Nat.le_of_ble_eq_true rfl) (Nat.le_of_ble_eq_true rfl))) (zX8_lt (rfl : zX8 87)) (zS8 (rfl : zX8 87) cy a (M2 87)) rfl rfl rfl (Nat.le_of_ble_eq_true rfl) hl.1 hcs dX8_put_9 (fun H locs hw => ?_)
    exact z_ri X hw (zret h) dX8_put_12
def fX8_move_115 (y1 : Int32) (y2 : Int32) (y3 : Int32) (y4 : Int32) (y5 : Int32) (k : zM → Option (Int32 × zM)) : Nat → Int32 → zM → Option (Int32 × zM)
  | 0, _, _ => none
  | n + 1, v6, M => if y5 ≤ v6 then (k  M) else (zgd ((((24 : Int32) * y1) + y2) + v6 < 0 ∨ 96 ≤ ((((24 : Int32) * y1) + y2) + v6).toNatClampNeg) (zgd (v6 < 0 ∨ 24 ≤ v6.toNatClampNeg) (zlt (zst M 102 (v6.toNatClampNeg) (M 101 (((((24 : Int32) * y1) + y2) + v6).toNatClampNeg))) (fun M43 => zlt (v6 + (1 : Int32)) (fun x45 => fX8_move_115 y1 y2 y3 y4 y5 k n x45 M43)))))
set_option maxRecDepth 100000 in
set_option maxHeartbeats 4000000 in
theorem lX8_move_115 {p : Program} {l : Launch} {e : Env} {s : State} {m : MethodId} {args : Array Value} {below : List Frame} {meth : Method} {c : Code} {D : va_G} {cy : Nat → ClassId} {a : Nat → Nat} {r0 : Int32} {M0 : zM} (X : zCX p s m meth c args cX8_move 7 (some .int) RX8) (y1 : Int32) (y2 : Int32) (y3 : Int32) (y4 : Int32) (y5 : Int32) (k : zM → Option (Int32 × zM)) : ∀ (n : Nat) (v6 : Int32) (M : zM) (H : Heap) (locs : List Loc) (ls : Array Slot), zWD D cy a (zfr a s.heap.size) M H locs s → lv_has ls 7 [(0, .ref (a 87)), (1, .int y1), (2, .int y2), (3, .int y3), (4, .int y4), (5, .int y5), (6, .int v6)] → fX8_move_115 y1 y2 y3 y4 y5 k n v6 M = some (r0, M0) →
    (∀ (M' : zM) (H' : Heap) (locs' : List Loc) (ls' : Array Slot), zWD D cy a (zfr a s.heap.size) M' H' locs' s → lv_has ls' 7 [(0, .ref (a 87)), (3, .int y3), (4, .int y4), (5, .int y5)] → k M' = some (r0, M0) → W p l e (zRm 2 42) s m args below meth c H' locs' 0 0 (zQi D cy a s args below r0 M0) (F0 m 149 ls' [])) →
    W p l e (zRm 2 42) s m args below meth c H locs 0 0 (zQi D cy a s args below r0 M0) (F0 m 115 ls []) := by
  obtain ⟨hx, hb, hr, hml, hown, hW, hlocks⟩ := id X
  have hcs : 0 ≤ ((zRm 2 42)).cells ∧ 0 ≤ ((zRm 2 42)).slots := ⟨Nat.zero_le _, Nat.zero_le _⟩
  intro n
  induction n with
  | zero =>
    intro v6 M H locs ls hw hl h hk
    cases h
  | succ n ih =>
    intro v6 M H locs ls hw hl h hk
    have hE := hw.2.2.2.2.1
    rw [fX8_move_115] at h
    refine lv_iload hx hb dX8_move_115 (lv_at hl 6 rfl) ?_
    refine lv_iload hx hb dX8_move_117 (lv_at hl 5 rfl) ?_
    refine lv_icmp_ge (tgt := 149) hx hb dX8_move_119 (by decide) (fun c41 => ?_) (fun c41 => ?_)
    · replace h := zif_t c41 h
      exact hk  M H locs _ hw (lv_sub hl [0, 3, 4, 5] rfl) h
    · replace h := zif_f c41 h
      refine lv_aload_n hx hb dX8_move_122 rfl (lv_at hl 0 rfl) ?_
      refine gtX8_52 X hw dX8_move_123 ?_
      refine lv_iload hx hb dX8_move_126 (lv_at hl 6 rfl) ?_
      refine lv_aload_n hx hb dX8_move_128 rfl (lv_at hl 0 rfl) ?_
      refine gtX8_49 X hw dX8_move_129 ?_
      refine lv_bipush (v := 24) hx hb dX8_move_132 (by decide) ?_
      refine lv_iload_n hx hb dX8_move_134 rfl (lv_at hl 1 rfl) ?_
      refine lv_imul hx hb dX8_move_135 ?_
      refine lv_iload_n hx hb dX8_move_136 rfl (lv_at hl 2 rfl) ?_
      refine lv_iadd hx hb dX8_move_137 ?_
      refine lv_iload hx hb dX8_move_138 (lv_at hl 6 rfl) ?_
      refine lv_iadd hx hb dX8_move_140 ?_
      obtain ⟨g42, h⟩ := zgd_e h
      refine z_ald X hw zI_101 g42 dX8_move_141 ?_
      obtain ⟨g44, h⟩ := zgd_e h
      refine z_ast X hw zI_102 g44 dX8_move_142 (fun M43 H locs eM43 hw => ?_)
      replace h := zlt_s eM43 h
      obtain ⟨x45, ex45⟩ : ∃ y : Int32, y = v6 + (1 : Int32) := ⟨_, rfl⟩
      replace h := zlt_s ex45 h
      refine lv_iinc (v := x45) (lv' := [(6, .int x45), (0, .ref (a 87)), (1, .int y1), (2, .int y2), (3, .int y3), (4, .int y4), (5, .int y5)]) hx hb dX8_move_143 hl (k := 6) rfl (by rw [ex45]; rfl) (by decide) rfl (fun ls hl => ?_)
      refine lv_goto (tgt := 115) hx hb dX8_move_146 (by decide) ?_
      exact ih x45 M43 H locs _ hw (lv_sub hl [1, 2, 3, 4, 5, 6, 0] rfl) h hk
def fX8_move_152 (y3 : Int32) (y4 : Int32) (y5 : Int32) (k : zM → Option (Int32 × zM)) : Nat → Int32 → zM → Option (Int32 × zM)
  | 0, _, _ => none
  | n + 1, v6, M => if y5 ≤ v6 then (k  M) else (zgd (v6 < 0 ∨ 24 ≤ v6.toNatClampNeg) (zgd ((((24 : Int32) * y3) + y4) + v6 < 0 ∨ 96 ≤ ((((24 : Int32) * y3) + y4) + v6).toNatClampNeg) (zlt (zst M 101 (((((24 : Int32) * y3) + y4) + v6).toNatClampNeg) (M 102 (v6.toNatClampNeg))) (fun M49 => zlt (v6 + (1 : Int32)) (fun x51 => fX8_move_152 y3 y4 y5 k n x51 M49)))))
set_option maxRecDepth 100000 in
set_option maxHeartbeats 4000000 in
theorem lX8_move_152 {p : Program} {l : Launch} {e : Env} {s : State} {m : MethodId} {args : Array Value} {below : List Frame} {meth : Method} {c : Code} {D : va_G} {cy : Nat → ClassId} {a : Nat → Nat} {r0 : Int32} {M0 : zM} (X : zCX p s m meth c args cX8_move 7 (some .int) RX8) (y3 : Int32) (y4 : Int32) (y5 : Int32) (k : zM → Option (Int32 × zM)) : ∀ (n : Nat) (v6 : Int32) (M : zM) (H : Heap) (locs : List Loc) (ls : Array Slot), zWD D cy a (zfr a s.heap.size) M H locs s → lv_has ls 7 [(0, .ref (a 87)), (3, .int y3), (4, .int y4), (5, .int y5), (6, .int v6)] → fX8_move_152 y3 y4 y5 k n v6 M = some (r0, M0) →
    (∀ (M' : zM) (H' : Heap) (locs' : List Loc) (ls' : Array Slot), zWD D cy a (zfr a s.heap.size) M' H' locs' s → lv_has ls' 7 [(5, .int y5)] → k M' = some (r0, M0) → W p l e (zRm 2 42) s m args below meth c H' locs' 0 0 (zQi D cy a s args below r0 M0) (F0 m 187 ls' [])) →
    W p l e (zRm 2 42) s m args below meth c H locs 0 0 (zQi D cy a s args below r0 M0) (F0 m 152 ls []) := by
  obtain ⟨hx, hb, hr, hml, hown, hW, hlocks⟩ := id X
  have hcs : 0 ≤ ((zRm 2 42)).cells ∧ 0 ≤ ((zRm 2 42)).slots := ⟨Nat.zero_le _, Nat.zero_le _⟩
  intro n
  induction n with
  | zero =>
    intro v6 M H locs ls hw hl h hk
    cases h
  | succ n ih =>
    intro v6 M H locs ls hw hl h hk
    have hE := hw.2.2.2.2.1
    rw [fX8_move_152] at h
    refine lv_iload hx hb dX8_move_152 (lv_at hl 4 rfl) ?_
    refine lv_iload hx hb dX8_move_154 (lv_at hl 3 rfl) ?_
    refine lv_icmp_ge (tgt := 187) hx hb dX8_move_156 (by decide) (fun c47 => ?_) (fun c47 => ?_)
    · replace h := zif_t c47 h
      exact hk  M H locs _ hw (lv_sub hl [3] rfl) h
    · replace h := zif_f c47 h
      refine lv_aload_n hx hb dX8_move_159 rfl (lv_at hl 0 rfl) ?_
      refine gtX8_49 X hw dX8_move_160 ?_
      refine lv_bipush (v := 24) hx hb dX8_move_163 (by decide) ?_
      refine lv_iload_n hx hb dX8_move_165 rfl (lv_at hl 1 rfl) ?_
      refine lv_imul hx hb dX8_move_166 ?_
      refine lv_iload hx hb dX8_move_167 (lv_at hl 2 rfl) ?_
      refine lv_iadd hx hb dX8_move_169 ?_
      refine lv_iload hx hb dX8_move_170 (lv_at hl 4 rfl) ?_
      refine lv_iadd hx hb dX8_move_172 ?_
      refine lv_aload_n hx hb dX8_move_173 rfl (lv_at hl 0 rfl) ?_
      refine gtX8_52 X hw dX8_move_174 ?_
      refine lv_iload hx hb dX8_move_177 (lv_at hl 4 rfl) ?_
      obtain ⟨g48, h⟩ := zgd_e h
      refine z_ald X hw zI_102 g48 dX8_move_179 ?_
      obtain ⟨g50, h⟩ := zgd_e h
      refine z_ast X hw zI_101 g50 dX8_move_180 (fun M49 H locs eM49 hw => ?_)
      replace h := zlt_s eM49 h
      obtain ⟨x51, ex51⟩ : ∃ y : Int32, y = v6 + (1 : Int32) := ⟨_, rfl⟩
      replace h := zlt_s ex51 h
      refine lv_iinc (v := x51) (lv' := [(6, .int x51), (0, .ref (a 87)), (3, .int y3), (4, .int y4), (5, .int y5)]) hx hb dX8_move_181 hl (k := 4) rfl (by rw [ex51]; rfl) (by decide) rfl (fun ls hl => ?_)
      refine lv_goto (tgt := 152) hx hb dX8_move_184 (by decide) ?_
      exact ih x51 M49 H locs _ hw (lv_sub hl [1, 2, 3, 4, 0] rfl) h hk
def fX8_move (p0 : Int32) (p1 : Int32) (p2 : Int32) (p3 : Int32) (p4 : Int32) (M : zM) : Option (Int32 × zM) := zbi (fX8_isSheet p0 M) (fun r1 M2 => if r1 = 0 then (zbi (fX8_error (1 : Int32) M2) (fun r5 M6 => some (r5, M6))) else (zbi (fX8_isSheet p2 M2) (fun r8 M9 => if r8 = 0 then (zbi (fX8_error (1 : Int32) M9) (fun r62 M63 => some (r62, M63))) else (zgd (p0 < 0 ∨ 4 ≤ p0.toNatClampNeg) (if M9 99 (p0.toNatClampNeg) = 0 then (zbi (fX8_error (2 : Int32) M9) (fun r14 M15 => some (r14, M15))) else (zgd (p2 < 0 ∨ 4 ≤ p2.toNatClampNeg) (if M9 99 (p2.toNatClampNeg) = 0 then (zbi (fX8_error (2 : Int32) M9) (fun r59 M60 => some (r59, M60))) else (zgd (p0 < 0 ∨ 4 ≤ p0.toNatClampNeg) (zgd (p2 < 0 ∨ 4 ≤ p2.toNatClampNeg) (if M9 99 (p0.toNatClampNeg) = M9 99 (p2.toNatClampNeg) then (if p4 < 0 then (zbi (fX8_error (1 : Int32) M9) (fun r23 M24 => some (r23, M24))) else (if p1 < 0 then (zbi (fX8_error (1 : Int32) M9) (fun r27 M28 => some (r27, M28))) else (if p3 < 0 then (zbi (fX8_error (1 : Int32) M9) (fun r31 M32 => some (r31, M32))) else (zgd (p0 < 0 ∨ 4 ≤ p0.toNatClampNeg) (if (M9 100 (p0.toNatClampNeg)) - p4 < p1 then (zbi (fX8_error (1 : Int32) M9) (fun r36 M37 => some (r36, M37))) else (zgd (p2 < 0 ∨ 4 ≤ p2.toNatClampNeg) (if p3 ≤ (M9 100 (p2.toNatClampNeg)) - p4 then (fX8_move_115 p0 p1 p2 p3 p4 (fun  M46 => fX8_move_152 p2 p3 p4 (fun  M52 => some (p4, M52)) zF (0 : Int32) M46) zF (0 : Int32) M9) else (zbi (fX8_error (1 : Int32) M9) (fun r53 M54 => some (r53, M54)))))))))) else (zbi (fX8_error (5 : Int32) M9) (fun r56 M57 => some (r56, M57)))))))))))))
set_option maxRecDepth 100000 in
set_option maxHeartbeats 4000000 in
theorem kX8_move (l : Launch) (D : va_G) (cy : Nat → ClassId) (a : Nat → Nat) (p0 : Int32) (p1 : Int32) (p2 : Int32) (p3 : Int32) (p4 : Int32) (M : zM) (r0 : Int32) (M0 : zM) (h : fX8_move p0 p1 p2 p3 p4 M = some (r0, M0)) : zCi l D cy a yX8_move cX8_move 7 (some .int) (zRm 2 42) [.ref (a 87), .int p0, .int p1, .int p2, .int p3, .int p4] M (fun r u => r = r0 ∧ u = M0) := by
  intro sz
  refine zent_i sz (by decide) (Nat.le_of_ble_eq_true rfl) rfl (fun p e s m args below meth c ls H locs X hw hl => ?_)
  obtain ⟨hx, hb, hr, hml, hown, hW, hlocks⟩ := id X
  have hE := hw.2.2.2.2.1
  have hcs : 0 ≤ ((zRm 2 42)).cells ∧ 0 ≤ ((zRm 2 42)).slots := ⟨Nat.zero_le _, Nat.zero_le _⟩
  rw [fX8_move] at h
  refine lv_iload_n hx hb dX8_move_0 rfl (lv_at hl 1 rfl) ?_
  obtain ⟨r1, M2, f3, h⟩ := zbi_e h
  refine z_qSi (As := [.int p0]) (rest := []) X hw (kX8_isSheet l D cy a p0 M r1 M2 f3) (cwX8_281 X.2.2.2.2.2.1 rfl rfl (zroomO (Nat.le_of_ble_eq_true rfl) (Nat.le_of_ble_eq_true rfl))) rfl rfl (Nat.le_of_ble_eq_true rfl) hl.1 hcs dX8_move_1 (fun H locs hw => ?_)
  refine lv_if_eq (tgt := 14) hx hb dX8_move_4 (by decide) (fun c4 => ?_) (fun c4 => ?_)
  · replace h := zif_t c4 h
    refine lv_aload_n hx hb dX8_move_14 rfl (lv_at hl 0 rfl) ?_
    refine lv_iconst (v := 1) hx hb dX8_move_15 (by decide) ?_
    obtain ⟨r5, M6, f7, h⟩ := zbi_e h
    refine z_qVi (As := [.int (1 : Int32)]) (rest := []) X hw (kX8_error l D cy a (1 : Int32) M2 r5 M6 f7) (cwX8_76 X.2.2.2.2.2.1 rfl rfl (zroomO (Nat.le_of_ble_eq_true rfl) (Nat.le_of_ble_eq_true rfl))) (zX8_lt (rfl : zX8 87)) (zS8 (rfl : zX8 87) cy a (M2 87)) rfl rfl rfl (Nat.le_of_ble_eq_true rfl) hl.1 hcs dX8_move_16 (fun H locs hw => ?_)
    exact z_ri X hw (zret h) dX8_move_19
  · replace h := zif_f c4 h
    refine lv_iload_n hx hb dX8_move_7 rfl (lv_at hl 3 rfl) ?_
    obtain ⟨r8, M9, f10, h⟩ := zbi_e h
    refine z_qSi (As := [.int p2]) (rest := []) X hw (kX8_isSheet l D cy a p2 M2 r8 M9 f10) (cwX8_281 X.2.2.2.2.2.1 rfl rfl (zroomO (Nat.le_of_ble_eq_true rfl) (Nat.le_of_ble_eq_true rfl))) rfl rfl (Nat.le_of_ble_eq_true rfl) hl.1 hcs dX8_move_8 (fun H locs hw => ?_)
    refine lv_if_ne (tgt := 20) hx hb dX8_move_11 (by decide) (fun c11 => ?_) (fun c11 => ?_)
    · replace h := zif_f c11 h
      refine lv_aload_n hx hb dX8_move_20 rfl (lv_at hl 0 rfl) ?_
      refine gtX8_43 X hw dX8_move_21 ?_
      refine lv_iload_n hx hb dX8_move_24 rfl (lv_at hl 1 rfl) ?_
      obtain ⟨g12, h⟩ := zgd_e h
      refine z_ald X hw zI_99 g12 dX8_move_25 ?_
      refine lv_if_eq (tgt := 38) hx hb dX8_move_26 (by decide) (fun c13 => ?_) (fun c13 => ?_)
      · replace h := zif_t c13 h
        refine lv_aload_n hx hb dX8_move_38 rfl (lv_at hl 0 rfl) ?_
        refine lv_iconst (v := 2) hx hb dX8_move_39 (by decide) ?_
        obtain ⟨r14, M15, f16, h⟩ := zbi_e h
        refine z_qVi (As := [.int (2 : Int32)]) (rest := []) X hw (kX8_error l D cy a (2 : Int32) M9 r14 M15 f16) (cwX8_76 X.2.2.2.2.2.1 rfl rfl (zroomO (Nat.le_of_ble_eq_true rfl) (Nat.le_of_ble_eq_true rfl))) (zX8_lt (rfl : zX8 87)) (zS8 (rfl : zX8 87) cy a (M9 87)) rfl rfl rfl (Nat.le_of_ble_eq_true rfl) hl.1 hcs dX8_move_40 (fun H locs hw => ?_)
        exact z_ri X hw (zret h) dX8_move_43
      · replace h := zif_f c13 h
        refine lv_aload_n hx hb dX8_move_29 rfl (lv_at hl 0 rfl) ?_
        refine gtX8_43 X hw dX8_move_30 ?_
        refine lv_iload_n hx hb dX8_move_33 rfl (lv_at hl 3 rfl) ?_
        obtain ⟨g17, h⟩ := zgd_e h
        refine z_ald X hw zI_99 g17 dX8_move_34 ?_
        refine lv_if_ne (tgt := 44) hx hb dX8_move_35 (by decide) (fun c18 => ?_) (fun c18 => ?_)
        · replace h := zif_f c18 h
          refine lv_aload_n hx hb dX8_move_44 rfl (lv_at hl 0 rfl) ?_
          refine gtX8_43 X hw dX8_move_45 ?_
          refine lv_iload_n hx hb dX8_move_48 rfl (lv_at hl 1 rfl) ?_
          obtain ⟨g19, h⟩ := zgd_e h
          refine z_ald X hw zI_99 g19 dX8_move_49 ?_
          refine lv_aload_n hx hb dX8_move_50 rfl (lv_at hl 0 rfl) ?_
          refine gtX8_43 X hw dX8_move_51 ?_
          refine lv_iload_n hx hb dX8_move_54 rfl (lv_at hl 3 rfl) ?_
          obtain ⟨g20, h⟩ := zgd_e h
          refine z_ald X hw zI_99 g20 dX8_move_55 ?_
          refine lv_icmp_eq (tgt := 65) hx hb dX8_move_56 (by decide) (fun c21 => ?_) (fun c21 => ?_)
          · replace h := zif_t c21 h
            refine lv_iload hx hb dX8_move_65 (lv_at hl 5 rfl) ?_
            refine lv_if_lt (tgt := 106) hx hb dX8_move_67 (by decide) (fun c22 => ?_) (fun c22 => ?_)
            · replace h := zif_t c22 h
              refine lv_aload_n hx hb dX8_move_106 rfl (lv_at hl 0 rfl) ?_
              refine lv_iconst (v := 1) hx hb dX8_move_107 (by decide) ?_
              obtain ⟨r23, M24, f25, h⟩ := zbi_e h
              refine z_qVi (As := [.int (1 : Int32)]) (rest := []) X hw (kX8_error l D cy a (1 : Int32) M9 r23 M24 f25) (cwX8_76 X.2.2.2.2.2.1 rfl rfl (zroomO (Nat.le_of_ble_eq_true rfl) (Nat.le_of_ble_eq_true rfl))) (zX8_lt (rfl : zX8 87)) (zS8 (rfl : zX8 87) cy a (M9 87)) rfl rfl rfl (Nat.le_of_ble_eq_true rfl) hl.1 hcs dX8_move_108 (fun H locs hw => ?_)
              exact z_ri X hw (zret h) dX8_move_111
            · replace h := zif_f c22 h
              refine lv_iload_n hx hb dX8_move_70 rfl (lv_at hl 2 rfl) ?_
              refine lv_if_lt (tgt := 106) hx hb dX8_move_71 (by decide) (fun c26 => ?_) (fun c26 => ?_)
              · replace h := zif_t c26 h
                refine lv_aload_n hx hb dX8_move_106 rfl (lv_at hl 0 rfl) ?_
                refine lv_iconst (v := 1) hx hb dX8_move_107 (by decide) ?_
                obtain ⟨r27, M28, f29, h⟩ := zbi_e h
                refine z_qVi (As := [.int (1 : Int32)]) (rest := []) X hw (kX8_error l D cy a (1 : Int32) M9 r27 M28 f29) (cwX8_76 X.2.2.2.2.2.1 rfl rfl (zroomO (Nat.le_of_ble_eq_true rfl) (Nat.le_of_ble_eq_true rfl))) (zX8_lt (rfl : zX8 87)) (zS8 (rfl : zX8 87) cy a (M9 87)) rfl rfl rfl (Nat.le_of_ble_eq_true rfl) hl.1 hcs dX8_move_108 (fun H locs hw => ?_)
                exact z_ri X hw (zret h) dX8_move_111
              · replace h := zif_f c26 h
                refine lv_iload hx hb dX8_move_74 (lv_at hl 4 rfl) ?_
                refine lv_if_lt (tgt := 106) hx hb dX8_move_76 (by decide) (fun c30 => ?_) (fun c30 => ?_)
                · replace h := zif_t c30 h
                  refine lv_aload_n hx hb dX8_move_106 rfl (lv_at hl 0 rfl) ?_
                  refine lv_iconst (v := 1) hx hb dX8_move_107 (by decide) ?_
                  obtain ⟨r31, M32, f33, h⟩ := zbi_e h
                  refine z_qVi (As := [.int (1 : Int32)]) (rest := []) X hw (kX8_error l D cy a (1 : Int32) M9 r31 M32 f33) (cwX8_76 X.2.2.2.2.2.1 rfl rfl (zroomO (Nat.le_of_ble_eq_true rfl) (Nat.le_of_ble_eq_true rfl))) (zX8_lt (rfl : zX8 87)) (zS8 (rfl : zX8 87) cy a (M9 87)) rfl rfl rfl (Nat.le_of_ble_eq_true rfl) hl.1 hcs dX8_move_108 (fun H locs hw => ?_)
                  exact z_ri X hw (zret h) dX8_move_111
                · replace h := zif_f c30 h
                  refine lv_iload_n hx hb dX8_move_79 rfl (lv_at hl 2 rfl) ?_
                  refine lv_aload_n hx hb dX8_move_80 rfl (lv_at hl 0 rfl) ?_
                  refine gtX8_46 X hw dX8_move_81 ?_
                  refine lv_iload_n hx hb dX8_move_84 rfl (lv_at hl 1 rfl) ?_
                  obtain ⟨g34, h⟩ := zgd_e h
                  refine z_ald X hw zI_100 g34 dX8_move_85 ?_
                  refine lv_iload hx hb dX8_move_86 (lv_at hl 5 rfl) ?_
                  refine lv_isub hx hb dX8_move_88 ?_
                  refine lv_icmp_gt (tgt := 106) hx hb dX8_move_89 (by decide) (fun c35 => ?_) (fun c35 => ?_)
                  · replace h := zif_t c35 h
                    refine lv_aload_n hx hb dX8_move_106 rfl (lv_at hl 0 rfl) ?_
                    refine lv_iconst (v := 1) hx hb dX8_move_107 (by decide) ?_
                    obtain ⟨r36, M37, f38, h⟩ := zbi_e h
                    refine z_qVi (As := [.int (1 : Int32)]) (rest := []) X hw (kX8_error l D cy a (1 : Int32) M9 r36 M37 f38) (cwX8_76 X.2.2.2.2.2.1 rfl rfl (zroomO (Nat.le_of_ble_eq_true rfl) (Nat.le_of_ble_eq_true rfl))) (zX8_lt (rfl : zX8 87)) (zS8 (rfl : zX8 87) cy a (M9 87)) rfl rfl rfl (Nat.le_of_ble_eq_true rfl) hl.1 hcs dX8_move_108 (fun H locs hw => ?_)
                    exact z_ri X hw (zret h) dX8_move_111
                  · replace h := zif_f c35 h
                    refine lv_iload hx hb dX8_move_92 (lv_at hl 4 rfl) ?_
                    refine lv_aload_n hx hb dX8_move_94 rfl (lv_at hl 0 rfl) ?_
                    refine gtX8_46 X hw dX8_move_95 ?_
                    refine lv_iload_n hx hb dX8_move_98 rfl (lv_at hl 3 rfl) ?_
                    obtain ⟨g39, h⟩ := zgd_e h
                    refine z_ald X hw zI_100 g39 dX8_move_99 ?_
                    refine lv_iload hx hb dX8_move_100 (lv_at hl 5 rfl) ?_
                    refine lv_isub hx hb dX8_move_102 ?_
                    refine lv_icmp_le (tgt := 112) hx hb dX8_move_103 (by decide) (fun c40 => ?_) (fun c40 => ?_)
                    · replace h := zif_t c40 h
                      refine lv_iconst (v := 0) hx hb dX8_move_112 (by decide) ?_
                      refine lv_istore (lv' := [(6, .int (0 : Int32)), (0, .ref (a 87)), (1, .int p0), (2, .int p1), (3, .int p2), (4, .int p3), (5, .int p4)]) hx hb dX8_move_113 hl (by decide) rfl (fun ls hl => ?_)
                      refine lX8_move_115 X p0 p1 p2 p3 p4 _ zF (0 : Int32) M9 H locs _ hw (lv_sub hl [1, 2, 3, 4, 5, 6, 0] rfl) h (fun  M46 H locs ls hw hl h => ?_)
                      refine lv_iconst (v := 0) hx hb dX8_move_149 (by decide) ?_
                      refine lv_istore (lv' := [(6, .int (0 : Int32)), (0, .ref (a 87)), (3, .int p2), (4, .int p3), (5, .int p4)]) hx hb dX8_move_150 hl (by decide) rfl (fun ls hl => ?_)
                      refine lX8_move_152 X p2 p3 p4 _ zF (0 : Int32) M46 H locs _ hw (lv_sub hl [1, 2, 3, 4, 0] rfl) h (fun  M52 H locs ls hw hl h => ?_)
                      refine lv_iload hx hb dX8_move_187 (lv_at hl 0 rfl) ?_
                      exact z_ri X hw (zret h) dX8_move_189
                    · replace h := zif_f c40 h
                      refine lv_aload_n hx hb dX8_move_106 rfl (lv_at hl 0 rfl) ?_
                      refine lv_iconst (v := 1) hx hb dX8_move_107 (by decide) ?_
                      obtain ⟨r53, M54, f55, h⟩ := zbi_e h
                      refine z_qVi (As := [.int (1 : Int32)]) (rest := []) X hw (kX8_error l D cy a (1 : Int32) M9 r53 M54 f55) (cwX8_76 X.2.2.2.2.2.1 rfl rfl (zroomO (Nat.le_of_ble_eq_true rfl) (Nat.le_of_ble_eq_true rfl))) (zX8_lt (rfl : zX8 87)) (zS8 (rfl : zX8 87) cy a (M9 87)) rfl rfl rfl (Nat.le_of_ble_eq_true rfl) hl.1 hcs dX8_move_108 (fun H locs hw => ?_)
                      exact z_ri X hw (zret h) dX8_move_111
          · replace h := zif_f c21 h
            refine lv_aload_n hx hb dX8_move_59 rfl (lv_at hl 0 rfl) ?_
            refine lv_iconst (v := 5) hx hb dX8_move_60 (by decide) ?_
            obtain ⟨r56, M57, f58, h⟩ := zbi_e h
            refine z_qVi (As := [.int (5 : Int32)]) (rest := []) X hw (kX8_error l D cy a (5 : Int32) M9 r56 M57 f58) (cwX8_76 X.2.2.2.2.2.1 rfl rfl (zroomO (Nat.le_of_ble_eq_true rfl) (Nat.le_of_ble_eq_true rfl))) (zX8_lt (rfl : zX8 87)) (zS8 (rfl : zX8 87) cy a (M9 87)) rfl rfl rfl (Nat.le_of_ble_eq_true rfl) hl.1 hcs dX8_move_61 (fun H locs hw => ?_)
            exact z_ri X hw (zret h) dX8_move_64
        · replace h := zif_t c18 h
          refine lv_aload_n hx hb dX8_move_38 rfl (lv_at hl 0 rfl) ?_
          refine lv_iconst (v := 2) hx hb dX8_move_39 (by decide) ?_
          obtain ⟨r59, M60, f61, h⟩ := zbi_e h
          refine z_qVi (As := [.int (2 : Int32)]) (rest := []) X hw (kX8_error l D cy a (2 : Int32) M9 r59 M60 f61) (cwX8_76 X.2.2.2.2.2.1 rfl rfl (zroomO (Nat.le_of_ble_eq_true rfl) (Nat.le_of_ble_eq_true rfl))) (zX8_lt (rfl : zX8 87)) (zS8 (rfl : zX8 87) cy a (M9 87)) rfl rfl rfl (Nat.le_of_ble_eq_true rfl) hl.1 hcs dX8_move_40 (fun H locs hw => ?_)
          exact z_ri X hw (zret h) dX8_move_43
    · replace h := zif_t c11 h
      refine lv_aload_n hx hb dX8_move_14 rfl (lv_at hl 0 rfl) ?_
      refine lv_iconst (v := 1) hx hb dX8_move_15 (by decide) ?_
      obtain ⟨r62, M63, f64, h⟩ := zbi_e h
      refine z_qVi (As := [.int (1 : Int32)]) (rest := []) X hw (kX8_error l D cy a (1 : Int32) M9 r62 M63 f64) (cwX8_76 X.2.2.2.2.2.1 rfl rfl (zroomO (Nat.le_of_ble_eq_true rfl) (Nat.le_of_ble_eq_true rfl))) (zX8_lt (rfl : zX8 87)) (zS8 (rfl : zX8 87) cy a (M9 87)) rfl rfl rfl (Nat.le_of_ble_eq_true rfl) hl.1 hcs dX8_move_16 (fun H locs hw => ?_)
      exact z_ri X hw (zret h) dX8_move_19
def fX8_lacks (p0 : Int32) (M : zM) : Option (Int32 × zM) := zbi (fX8_isSheet p0 M) (fun r1 M2 => if r1 = 0 then (some ((1 : Int32), M2)) else (zgd (p0 < 0 ∨ 4 ≤ p0.toNatClampNeg) (if M2 99 (p0.toNatClampNeg) = 0 then (some ((2 : Int32), M2)) else (some ((0 : Int32), M2)))))
set_option maxRecDepth 100000 in
set_option maxHeartbeats 4000000 in
theorem kX8_lacks (l : Launch) (D : va_G) (cy : Nat → ClassId) (a : Nat → Nat) (p0 : Int32) (M : zM) (r0 : Int32) (M0 : zM) (h : fX8_lacks p0 M = some (r0, M0)) : zCi l D cy a yX8_lacks cX8_lacks 2 (some .int) (zRm 2 42) [.ref (a 87), .int p0] M (fun r u => r = r0 ∧ u = M0) := by
  intro sz
  refine zent_i sz (by decide) (Nat.le_of_ble_eq_true rfl) rfl (fun p e s m args below meth c ls H locs X hw hl => ?_)
  obtain ⟨hx, hb, hr, hml, hown, hW, hlocks⟩ := id X
  have hE := hw.2.2.2.2.1
  have hcs : 0 ≤ ((zRm 2 42)).cells ∧ 0 ≤ ((zRm 2 42)).slots := ⟨Nat.zero_le _, Nat.zero_le _⟩
  rw [fX8_lacks] at h
  refine lv_iload_n hx hb dX8_lacks_0 rfl (lv_at hl 1 rfl) ?_
  obtain ⟨r1, M2, f3, h⟩ := zbi_e h
  refine z_qSi (As := [.int p0]) (rest := []) X hw (kX8_isSheet l D cy a p0 M r1 M2 f3) (cwX8_281 X.2.2.2.2.2.1 rfl rfl (zroomO (Nat.le_of_ble_eq_true rfl) (Nat.le_of_ble_eq_true rfl))) rfl rfl (Nat.le_of_ble_eq_true rfl) hl.1 hcs dX8_lacks_1 (fun H locs hw => ?_)
  refine lv_if_ne (tgt := 11) hx hb dX8_lacks_4 (by decide) (fun c4 => ?_) (fun c4 => ?_)
  · replace h := zif_f c4 h
    refine lv_aload_n hx hb dX8_lacks_11 rfl (lv_at hl 0 rfl) ?_
    refine gtX8_43 X hw dX8_lacks_12 ?_
    refine lv_iload_n hx hb dX8_lacks_15 rfl (lv_at hl 1 rfl) ?_
    obtain ⟨g5, h⟩ := zgd_e h
    refine z_ald X hw zI_99 g5 dX8_lacks_16 ?_
    refine lv_if_ne (tgt := 24) hx hb dX8_lacks_17 (by decide) (fun c6 => ?_) (fun c6 => ?_)
    · replace h := zif_f c6 h
      refine lv_iconst (v := 0) hx hb dX8_lacks_24 (by decide) ?_
      exact z_ri X hw (zret h) dX8_lacks_25
    · replace h := zif_t c6 h
      refine lv_iconst (v := 2) hx hb dX8_lacks_20 (by decide) ?_
      refine lv_goto (tgt := 25) hx hb dX8_lacks_21 (by decide) ?_
      exact z_ri X hw (zret h) dX8_lacks_25
  · replace h := zif_t c4 h
    refine lv_iconst (v := 1) hx hb dX8_lacks_7 (by decide) ?_
    refine lv_goto (tgt := 25) hx hb dX8_lacks_8 (by decide) ?_
    exact z_ri X hw (zret h) dX8_lacks_25
def fX8_forces_18 (y1 : Int32) (k : Int32 → zM → Option (Int32 × zM)) : Nat → Int32 → zM → Option (Int32 × zM)
  | 0, _, _ => none
  | n + 1, v3, M => zgd (y1 < 0 ∨ 4 ≤ y1.toNatClampNeg) (if M 100 (y1.toNatClampNeg) ≤ v3 then (k v3 M) else (if (24 : Int32) ≤ v3 then (k v3 M) else (zgd (((24 : Int32) * y1) + v3 < 0 ∨ 96 ≤ (((24 : Int32) * y1) + v3).toNatClampNeg) (zbi (fX8_in (M 101 ((((24 : Int32) * y1) + v3).toNatClampNeg)) (0 : Int32) (99 : Int32) M) (fun r9 M10 => if r9 = 0 then (k v3 M10) else (zgd (((24 : Int32) * y1) + v3 < 0 ∨ 96 ≤ (((24 : Int32) * y1) + v3).toNatClampNeg) (zgd ((6 : Int32) + v3 < 0 ∨ 449 ≤ ((6 : Int32) + v3).toNatClampNeg) (zlt (zst M10 88 (((6 : Int32) + v3).toNatClampNeg) (M10 101 ((((24 : Int32) * y1) + v3).toNatClampNeg))) (fun M14 => zlt (v3 + (1 : Int32)) (fun x16 => fX8_forces_18 y1 k n x16 M14))))))))))
set_option maxRecDepth 100000 in
set_option maxHeartbeats 4000000 in
theorem lX8_forces_18 {p : Program} {l : Launch} {e : Env} {s : State} {m : MethodId} {args : Array Value} {below : List Frame} {meth : Method} {c : Code} {D : va_G} {cy : Nat → ClassId} {a : Nat → Nat} {r0 : Int32} {M0 : zM} (X : zCX p s m meth c args cX8_forces 4 (some .int) RX8) (y1 : Int32) (k : Int32 → zM → Option (Int32 × zM)) : ∀ (n : Nat) (v3 : Int32) (M : zM) (H : Heap) (locs : List Loc) (ls : Array Slot), zWD D cy a (zfr a s.heap.size) M H locs s → lv_has ls 4 [(0, .ref (a 87)), (1, .int y1), (3, .int v3)] → fX8_forces_18 y1 k n v3 M = some (r0, M0) →
    (∀ (u3 : Int32) (M' : zM) (H' : Heap) (locs' : List Loc) (ls' : Array Slot), zWD D cy a (zfr a s.heap.size) M' H' locs' s → lv_has ls' 4 [(3, .int u3)] → k u3 M' = some (r0, M0) → W p l e (zRm 3 63) s m args below meth c H' locs' 0 0 (zQi D cy a s args below r0 M0) (F0 m 80 ls' [])) →
    W p l e (zRm 3 63) s m args below meth c H locs 0 0 (zQi D cy a s args below r0 M0) (F0 m 18 ls []) := by
  obtain ⟨hx, hb, hr, hml, hown, hW, hlocks⟩ := id X
  have hcs : 0 ≤ ((zRm 3 63)).cells ∧ 0 ≤ ((zRm 3 63)).slots := ⟨Nat.zero_le _, Nat.zero_le _⟩
  intro n
  induction n with
  | zero =>
    intro v3 M H locs ls hw hl h hk
    cases h
  | succ n ih =>
    intro v3 M H locs ls hw hl h hk
    have hE := hw.2.2.2.2.1
    rw [fX8_forces_18] at h
    refine lv_iload_n hx hb dX8_forces_18 rfl (lv_at hl 2 rfl) ?_
    refine lv_aload_n hx hb dX8_forces_19 rfl (lv_at hl 0 rfl) ?_
    refine gtX8_46 X hw dX8_forces_20 ?_
    refine lv_iload_n hx hb dX8_forces_23 rfl (lv_at hl 1 rfl) ?_
    obtain ⟨g5, h⟩ := zgd_e h
    refine z_ald X hw zI_100 g5 dX8_forces_24 ?_
    refine lv_icmp_ge (tgt := 80) hx hb dX8_forces_25 (by decide) (fun c6 => ?_) (fun c6 => ?_)
    · replace h := zif_t c6 h
      exact hk v3 M H locs _ hw (lv_sub hl [2] rfl) h
    · replace h := zif_f c6 h
      refine lv_iload_n hx hb dX8_forces_28 rfl (lv_at hl 2 rfl) ?_
      refine lv_bipush (v := 24) hx hb dX8_forces_29 (by decide) ?_
      refine lv_icmp_ge (tgt := 80) hx hb dX8_forces_31 (by decide) (fun c7 => ?_) (fun c7 => ?_)
      · replace h := zif_t c7 h
        exact hk v3 M H locs _ hw (lv_sub hl [2] rfl) h
      · replace h := zif_f c7 h
        refine lv_aload_n hx hb dX8_forces_34 rfl (lv_at hl 0 rfl) ?_
        refine gtX8_49 X hw dX8_forces_35 ?_
        refine lv_bipush (v := 24) hx hb dX8_forces_38 (by decide) ?_
        refine lv_iload_n hx hb dX8_forces_40 rfl (lv_at hl 1 rfl) ?_
        refine lv_imul hx hb dX8_forces_41 ?_
        refine lv_iload_n hx hb dX8_forces_42 rfl (lv_at hl 2 rfl) ?_
        refine lv_iadd hx hb dX8_forces_43 ?_
        obtain ⟨g8, h⟩ := zgd_e h
        refine z_ald X hw zI_101 g8 dX8_forces_44 ?_
        refine lv_iconst (v := 0) hx hb dX8_forces_45 (by decide) ?_
        refine lv_bipush (v := 99) hx hb dX8_forces_46 (by decide) ?_
        obtain ⟨r9, M10, f11, h⟩ := zbi_e h
        refine z_qSi (As := [.int (M 101 ((((24 : Int32) * y1) + v3).toNatClampNeg)), .int (0 : Int32), .int (99 : Int32)]) (rest := []) X hw (kX8_in l D cy a (M 101 ((((24 : Int32) * y1) + v3).toNatClampNeg)) (0 : Int32) (99 : Int32) M r9 M10 f11) (cwX8_56 X.2.2.2.2.2.1 rfl rfl (zroomO (Nat.le_of_ble_eq_true rfl) (Nat.le_of_ble_eq_true rfl))) rfl rfl (Nat.le_of_ble_eq_true rfl) hl.1 hcs dX8_forces_48 (fun H locs hw => ?_)
        refine lv_if_eq (tgt := 80) hx hb dX8_forces_51 (by decide) (fun c12 => ?_) (fun c12 => ?_)
        · replace h := zif_t c12 h
          exact hk v3 M10 H locs _ hw (lv_sub hl [2] rfl) h
        · replace h := zif_f c12 h
          refine lv_aload_n hx hb dX8_forces_54 rfl (lv_at hl 0 rfl) ?_
          refine gtX8_7 X hw dX8_forces_55 ?_
          refine lv_bipush (v := 6) hx hb dX8_forces_58 (by decide) ?_
          refine lv_iload_n hx hb dX8_forces_60 rfl (lv_at hl 2 rfl) ?_
          refine lv_iadd hx hb dX8_forces_61 ?_
          refine lv_aload_n hx hb dX8_forces_62 rfl (lv_at hl 0 rfl) ?_
          refine gtX8_49 X hw dX8_forces_63 ?_
          refine lv_bipush (v := 24) hx hb dX8_forces_66 (by decide) ?_
          refine lv_iload_n hx hb dX8_forces_68 rfl (lv_at hl 1 rfl) ?_
          refine lv_imul hx hb dX8_forces_69 ?_
          refine lv_iload_n hx hb dX8_forces_70 rfl (lv_at hl 2 rfl) ?_
          refine lv_iadd hx hb dX8_forces_71 ?_
          obtain ⟨g13, h⟩ := zgd_e h
          refine z_ald X hw zI_101 g13 dX8_forces_72 ?_
          obtain ⟨g15, h⟩ := zgd_e h
          refine z_ast X hw zI_88 g15 dX8_forces_73 (fun M14 H locs eM14 hw => ?_)
          replace h := zlt_s eM14 h
          obtain ⟨x16, ex16⟩ : ∃ y : Int32, y = v3 + (1 : Int32) := ⟨_, rfl⟩
          replace h := zlt_s ex16 h
          refine lv_iinc (v := x16) (lv' := [(3, .int x16), (0, .ref (a 87)), (1, .int y1)]) hx hb dX8_forces_74 hl (k := 2) rfl (by rw [ex16]; rfl) (by decide) rfl (fun ls hl => ?_)
          refine lv_goto (tgt := 18) hx hb dX8_forces_77 (by decide) ?_
          exact ih x16 M14 H locs _ hw (lv_sub hl [1, 2, 0] rfl) h hk
def fX8_forces (p0 : Int32) (M : zM) : Option (Int32 × zM) := zbi (fX8_lacks p0 M) (fun r1 M2 => if r1 ≤ 0 then (fX8_forces_18 p0 (fun x17 M18 => some (x17, M18)) zF (0 : Int32) M2) else (zbi (fX8_error r1 M2) (fun r19 M20 => some (r19, M20))))
set_option maxRecDepth 100000 in
set_option maxHeartbeats 4000000 in
theorem kX8_forces (l : Launch) (D : va_G) (cy : Nat → ClassId) (a : Nat → Nat) (p0 : Int32) (M : zM) (r0 : Int32) (M0 : zM) (h : fX8_forces p0 M = some (r0, M0)) : zCi l D cy a yX8_forces cX8_forces 4 (some .int) (zRm 3 63) [.ref (a 87), .int p0] M (fun r u => r = r0 ∧ u = M0) := by
  intro sz
  refine zent_i sz (by decide) (Nat.le_of_ble_eq_true rfl) rfl (fun p e s m args below meth c ls H locs X hw hl => ?_)
  obtain ⟨hx, hb, hr, hml, hown, hW, hlocks⟩ := id X
  have hE := hw.2.2.2.2.1
  have hcs : 0 ≤ ((zRm 3 63)).cells ∧ 0 ≤ ((zRm 3 63)).slots := ⟨Nat.zero_le _, Nat.zero_le _⟩
  rw [fX8_forces] at h
  refine lv_aload_n hx hb dX8_forces_0 rfl (lv_at hl 0 rfl) ?_
  refine lv_iload_n hx hb dX8_forces_1 rfl (lv_at hl 1 rfl) ?_
  obtain ⟨r1, M2, f3, h⟩ := zbi_e h
  refine z_qVi (As := [.int p0]) (rest := []) X hw (kX8_lacks l D cy a p0 M r1 M2 f3) (cwX8_284 X.2.2.2.2.2.1 rfl rfl (zroomO (Nat.le_of_ble_eq_true rfl) (Nat.le_of_ble_eq_true rfl))) (zX8_lt (rfl : zX8 87)) (zS8 (rfl : zX8 87) cy a (M 87)) rfl rfl rfl (Nat.le_of_ble_eq_true rfl) hl.1 hcs dX8_forces_2 (fun H locs hw => ?_)
  refine lv_istore_n (lv' := [(2, .int r1), (0, .ref (a 87)), (1, .int p0)]) hx hb dX8_forces_5 rfl hl (by decide) rfl (fun ls hl => ?_)
  refine lv_iload_n hx hb dX8_forces_6 rfl (lv_at hl 0 rfl) ?_
  refine lv_if_le (tgt := 16) hx hb dX8_forces_7 (by decide) (fun c4 => ?_) (fun c4 => ?_)
  · replace h := zif_t c4 h
    refine lv_iconst (v := 0) hx hb dX8_forces_16 (by decide) ?_
    refine lv_istore_n (lv' := [(3, .int (0 : Int32)), (2, .int r1), (0, .ref (a 87)), (1, .int p0)]) hx hb dX8_forces_17 rfl hl (by decide) rfl (fun ls hl => ?_)
    refine lX8_forces_18 X p0 _ zF (0 : Int32) M2 H locs _ hw (lv_sub hl [2, 3, 0] rfl) h (fun x17 M18 H locs ls hw hl h => ?_)
    refine lv_iload_n hx hb dX8_forces_80 rfl (lv_at hl 0 rfl) ?_
    exact z_ri X hw (zret h) dX8_forces_81
  · replace h := zif_f c4 h
    refine lv_aload_n hx hb dX8_forces_10 rfl (lv_at hl 1 rfl) ?_
    refine lv_iload_n hx hb dX8_forces_11 rfl (lv_at hl 0 rfl) ?_
    obtain ⟨r19, M20, f21, h⟩ := zbi_e h
    refine z_qVi (As := [.int r1]) (rest := []) X hw (kX8_error l D cy a r1 M2 r19 M20 f21) (cwX8_76 X.2.2.2.2.2.1 rfl rfl (zroomO (Nat.le_of_ble_eq_true rfl) (Nat.le_of_ble_eq_true rfl))) (zX8_lt (rfl : zX8 87)) (zS8 (rfl : zX8 87) cy a (M2 87)) rfl rfl rfl (Nat.le_of_ble_eq_true rfl) hl.1 hcs dX8_forces_12 (fun H locs hw => ?_)
    exact z_ri X hw (zret h) dX8_forces_15
def fX8_judge_22 (y1 : Int32) (k : Int32 → zM → Option (Int32 × zM)) : Nat → Int32 → zM → Option (Int32 × zM)
  | 0, _, _ => none
  | n + 1, v3, M => zgd (y1 < 0 ∨ 4 ≤ y1.toNatClampNeg) (if M 100 (y1.toNatClampNeg) ≤ v3 then (k v3 M) else (if (12 : Int32) ≤ v3 then (k v3 M) else (zgd (((24 : Int32) * y1) + v3 < 0 ∨ 96 ≤ (((24 : Int32) * y1) + v3).toNatClampNeg) (zgd (v3 < 0 ∨ 13 ≤ v3.toNatClampNeg) (if M 101 ((((24 : Int32) * y1) + v3).toNatClampNeg) = M 95 (v3.toNatClampNeg) then (zlt (v3 + (1 : Int32)) (fun x14 => fX8_judge_22 y1 k n x14 M)) else (k v3 M))))))
set_option maxRecDepth 100000 in
set_option maxHeartbeats 4000000 in
theorem lX8_judge_22 {p : Program} {l : Launch} {e : Env} {s : State} {m : MethodId} {args : Array Value} {below : List Frame} {meth : Method} {c : Code} {D : va_G} {cy : Nat → ClassId} {a : Nat → Nat} {r0 : Int32} {M0 : zM} (X : zCX p s m meth c args cX8_judge 4 (some .int) RX8) (y1 : Int32) (k : Int32 → zM → Option (Int32 × zM)) : ∀ (n : Nat) (v3 : Int32) (M : zM) (H : Heap) (locs : List Loc) (ls : Array Slot), zWD D cy a (zfr a s.heap.size) M H locs s → lv_has ls 4 [(0, .ref (a 87)), (1, .int y1), (3, .int v3)] → fX8_judge_22 y1 k n v3 M = some (r0, M0) →
    (∀ (u3 : Int32) (M' : zM) (H' : Heap) (locs' : List Loc) (ls' : Array Slot), zWD D cy a (zfr a s.heap.size) M' H' locs' s → lv_has ls' 4 [(3, .int u3)] → k u3 M' = some (r0, M0) → W p l e (zRm 5 118) s m args below meth c H' locs' 0 0 (zQi D cy a s args below r0 M0) (F0 m 64 ls' [])) →
    W p l e (zRm 5 118) s m args below meth c H locs 0 0 (zQi D cy a s args below r0 M0) (F0 m 22 ls []) := by
  obtain ⟨hx, hb, hr, hml, hown, hW, hlocks⟩ := id X
  have hcs : 0 ≤ ((zRm 5 118)).cells ∧ 0 ≤ ((zRm 5 118)).slots := ⟨Nat.zero_le _, Nat.zero_le _⟩
  intro n
  induction n with
  | zero =>
    intro v3 M H locs ls hw hl h hk
    cases h
  | succ n ih =>
    intro v3 M H locs ls hw hl h hk
    have hE := hw.2.2.2.2.1
    rw [fX8_judge_22] at h
    refine lv_iload_n hx hb dX8_judge_22 rfl (lv_at hl 2 rfl) ?_
    refine lv_aload_n hx hb dX8_judge_23 rfl (lv_at hl 0 rfl) ?_
    refine gtX8_46 X hw dX8_judge_24 ?_
    refine lv_iload_n hx hb dX8_judge_27 rfl (lv_at hl 1 rfl) ?_
    obtain ⟨g8, h⟩ := zgd_e h
    refine z_ald X hw zI_100 g8 dX8_judge_28 ?_
    refine lv_icmp_ge (tgt := 64) hx hb dX8_judge_29 (by decide) (fun c9 => ?_) (fun c9 => ?_)
    · replace h := zif_t c9 h
      exact hk v3 M H locs _ hw (lv_sub hl [2] rfl) h
    · replace h := zif_f c9 h
      refine lv_iload_n hx hb dX8_judge_32 rfl (lv_at hl 2 rfl) ?_
      refine lv_bipush (v := 12) hx hb dX8_judge_33 (by decide) ?_
      refine lv_icmp_ge (tgt := 64) hx hb dX8_judge_35 (by decide) (fun c10 => ?_) (fun c10 => ?_)
      · replace h := zif_t c10 h
        exact hk v3 M H locs _ hw (lv_sub hl [2] rfl) h
      · replace h := zif_f c10 h
        refine lv_aload_n hx hb dX8_judge_38 rfl (lv_at hl 0 rfl) ?_
        refine gtX8_49 X hw dX8_judge_39 ?_
        refine lv_bipush (v := 24) hx hb dX8_judge_42 (by decide) ?_
        refine lv_iload_n hx hb dX8_judge_44 rfl (lv_at hl 1 rfl) ?_
        refine lv_imul hx hb dX8_judge_45 ?_
        refine lv_iload_n hx hb dX8_judge_46 rfl (lv_at hl 2 rfl) ?_
        refine lv_iadd hx hb dX8_judge_47 ?_
        obtain ⟨g11, h⟩ := zgd_e h
        refine z_ald X hw zI_101 g11 dX8_judge_48 ?_
        refine lv_aload_n hx hb dX8_judge_49 rfl (lv_at hl 0 rfl) ?_
        refine gtX8_31 X hw dX8_judge_50 ?_
        refine lv_iload_n hx hb dX8_judge_53 rfl (lv_at hl 2 rfl) ?_
        obtain ⟨g12, h⟩ := zgd_e h
        refine z_ald X hw zI_95 g12 dX8_judge_54 ?_
        refine lv_icmp_ne (tgt := 64) hx hb dX8_judge_55 (by decide) (fun c13 => ?_) (fun c13 => ?_)
        · replace h := zif_f c13 h
          exact hk v3 M H locs _ hw (lv_sub hl [2] rfl) h
        · replace h := zif_t c13 h
          obtain ⟨x14, ex14⟩ : ∃ y : Int32, y = v3 + (1 : Int32) := ⟨_, rfl⟩
          replace h := zlt_s ex14 h
          refine lv_iinc (v := x14) (lv' := [(3, .int x14), (0, .ref (a 87)), (1, .int y1)]) hx hb dX8_judge_58 hl (k := 2) rfl (by rw [ex14]; rfl) (by decide) rfl (fun ls hl => ?_)
          refine lv_goto (tgt := 22) hx hb dX8_judge_61 (by decide) ?_
          exact ih x14 M H locs _ hw (lv_sub hl [1, 2, 0] rfl) h hk
def fX8_judge (p0 : Int32) (M : zM) : Option (Int32 × zM) := zbi (fX8_lacks p0 M) (fun r1 M2 => if r1 ≤ 0 then (zbv (fX8_flow M2) (fun M6 => fX8_judge_22 p0 (fun x15 M16 => some (x15, M16)) zF (0 : Int32) M6)) else (zbi (fX8_error r1 M2) (fun r17 M18 => some (r17, M18))))
set_option maxRecDepth 100000 in
set_option maxHeartbeats 4000000 in
theorem kX8_judge (l : Launch) (D : va_G) (cy : Nat → ClassId) (a : Nat → Nat) (p0 : Int32) (M : zM) (r0 : Int32) (M0 : zM) (h : fX8_judge p0 M = some (r0, M0)) : zCi l D cy a yX8_judge cX8_judge 4 (some .int) (zRm 5 118) [.ref (a 87), .int p0] M (fun r u => r = r0 ∧ u = M0) := by
  intro sz
  refine zent_i sz (by decide) (Nat.le_of_ble_eq_true rfl) rfl (fun p e s m args below meth c ls H locs X hw hl => ?_)
  obtain ⟨hx, hb, hr, hml, hown, hW, hlocks⟩ := id X
  have hE := hw.2.2.2.2.1
  have hcs : 0 ≤ ((zRm 5 118)).cells ∧ 0 ≤ ((zRm 5 118)).slots := ⟨Nat.zero_le _, Nat.zero_le _⟩
  rw [fX8_judge] at h
  refine lv_aload_n hx hb dX8_judge_0 rfl (lv_at hl 0 rfl) ?_
  refine lv_iload_n hx hb dX8_judge_1 rfl (lv_at hl 1 rfl) ?_
  obtain ⟨r1, M2, f3, h⟩ := zbi_e h
  refine z_qVi (As := [.int p0]) (rest := []) X hw (kX8_lacks l D cy a p0 M r1 M2 f3) (cwX8_284 X.2.2.2.2.2.1 rfl rfl (zroomO (Nat.le_of_ble_eq_true rfl) (Nat.le_of_ble_eq_true rfl))) (zX8_lt (rfl : zX8 87)) (zS8 (rfl : zX8 87) cy a (M 87)) rfl rfl rfl (Nat.le_of_ble_eq_true rfl) hl.1 hcs dX8_judge_2 (fun H locs hw => ?_)
  refine lv_istore_n (lv' := [(2, .int r1), (0, .ref (a 87)), (1, .int p0)]) hx hb dX8_judge_5 rfl hl (by decide) rfl (fun ls hl => ?_)
  refine lv_iload_n hx hb dX8_judge_6 rfl (lv_at hl 0 rfl) ?_
  refine lv_if_le (tgt := 16) hx hb dX8_judge_7 (by decide) (fun c4 => ?_) (fun c4 => ?_)
  · replace h := zif_t c4 h
    refine lv_aload_n hx hb dX8_judge_16 rfl (lv_at hl 1 rfl) ?_
    obtain ⟨M6, f7, h⟩ := zbv_e h
    refine z_qVv (As := []) (rest := []) X hw (kX8_flow l D cy a M2 M6 f7) (cwX8_103 X.2.2.2.2.2.1 rfl rfl (zroomO (Nat.le_of_ble_eq_true rfl) (Nat.le_of_ble_eq_true rfl))) (zX8_lt (rfl : zX8 87)) (zS8 (rfl : zX8 87) cy a (M2 87)) rfl rfl rfl (Nat.le_of_ble_eq_true rfl) hl.1 hcs dX8_judge_17 (fun H locs hw => ?_)
    refine lv_iconst (v := 0) hx hb dX8_judge_20 (by decide) ?_
    refine lv_istore_n (lv' := [(3, .int (0 : Int32)), (2, .int r1), (0, .ref (a 87)), (1, .int p0)]) hx hb dX8_judge_21 rfl hl (by decide) rfl (fun ls hl => ?_)
    refine lX8_judge_22 X p0 _ zF (0 : Int32) M6 H locs _ hw (lv_sub hl [2, 3, 0] rfl) h (fun x15 M16 H locs ls hw hl h => ?_)
    refine lv_iload_n hx hb dX8_judge_64 rfl (lv_at hl 0 rfl) ?_
    exact z_ri X hw (zret h) dX8_judge_65
  · replace h := zif_f c4 h
    refine lv_aload_n hx hb dX8_judge_10 rfl (lv_at hl 1 rfl) ?_
    refine lv_iload_n hx hb dX8_judge_11 rfl (lv_at hl 0 rfl) ?_
    obtain ⟨r17, M18, f19, h⟩ := zbi_e h
    refine z_qVi (As := [.int r1]) (rest := []) X hw (kX8_error l D cy a r1 M2 r17 M18 f19) (cwX8_76 X.2.2.2.2.2.1 rfl rfl (zroomO (Nat.le_of_ble_eq_true rfl) (Nat.le_of_ble_eq_true rfl))) (zX8_lt (rfl : zX8 87)) (zS8 (rfl : zX8 87) cy a (M2 87)) rfl rfl rfl (Nat.le_of_ble_eq_true rfl) hl.1 hcs dX8_judge_12 (fun H locs hw => ?_)
    exact z_ri X hw (zret h) dX8_judge_15
def fX8_image (M : zM) : Option (Int32 × zM) := zbv (fX8_carry 88 89 M) (fun M2 => zlt (zst M2 87 3 ((M2 87 3) + (1 : Int32))) (fun M4 => some (M4 87 3, M4)))
set_option maxRecDepth 100000 in
set_option maxHeartbeats 4000000 in
theorem kX8_image (l : Launch) (D : va_G) (cy : Nat → ClassId) (a : Nat → Nat) (M : zM) (r0 : Int32) (M0 : zM) (h : fX8_image  M = some (r0, M0)) : zCi l D cy a yX8_image cX8_image 1 (some .int) (zRm 1 22) [.ref (a 87)] M (fun r u => r = r0 ∧ u = M0) := by
  intro sz
  refine zent_i sz (by decide) (Nat.le_of_ble_eq_true rfl) rfl (fun p e s m args below meth c ls H locs X hw hl => ?_)
  obtain ⟨hx, hb, hr, hml, hown, hW, hlocks⟩ := id X
  have hE := hw.2.2.2.2.1
  have hcs : 0 ≤ ((zRm 1 22)).cells ∧ 0 ≤ ((zRm 1 22)).slots := ⟨Nat.zero_le _, Nat.zero_le _⟩
  rw [fX8_image] at h
  refine lv_aload_n hx hb dX8_image_0 rfl (lv_at hl 0 rfl) ?_
  refine gtX8_7 X hw dX8_image_1 ?_
  refine lv_aload_n hx hb dX8_image_4 rfl (lv_at hl 0 rfl) ?_
  refine gtX8_13 X hw dX8_image_5 ?_
  obtain ⟨M2, f3, h⟩ := zbv_e h
  refine z_qSv (As := [.ref (a 88), .ref (a 89)]) (rest := []) X hw (kX8_carry l D cy a 88 zI_88 89 zI_89 M M2 f3) (cwX8_226 X.2.2.2.2.2.1 rfl rfl (zroomO (Nat.le_of_ble_eq_true rfl) (Nat.le_of_ble_eq_true rfl))) rfl rfl (Nat.le_of_ble_eq_true rfl) hl.1 hcs dX8_image_8 (fun H locs hw => ?_)
  refine lv_aload_n hx hb dX8_image_11 rfl (lv_at hl 0 rfl) ?_
  refine lv_dup hx hb dX8_image_12 rfl ?_
  refine gtX8_287 X hw dX8_image_13 ?_
  refine lv_iconst (v := 1) hx hb dX8_image_16 (by decide) ?_
  refine lv_iadd hx hb dX8_image_17 ?_
  refine ptX8_287 X hw dX8_image_18 (fun M4 H locs eM4 hw => ?_)
  replace h := zlt_s eM4 h
  refine lv_aload_n hx hb dX8_image_21 rfl (lv_at hl 0 rfl) ?_
  refine gtX8_287 X hw dX8_image_22 ?_
  exact z_ri X hw (zret h) dX8_image_25
def fX8_restore (M : zM) : Option (Int32 × zM) := if M 87 3 = 0 then (zbi (fX8_error (2 : Int32) M) (fun r5 M6 => some (r5, M6))) else (zbv (fX8_carry 89 88 M) (fun M3 => some (M3 88 (1), M3)))
set_option maxRecDepth 100000 in
set_option maxHeartbeats 4000000 in
theorem kX8_restore (l : Launch) (D : va_G) (cy : Nat → ClassId) (a : Nat → Nat) (M : zM) (r0 : Int32) (M0 : zM) (h : fX8_restore  M = some (r0, M0)) : zCi l D cy a yX8_restore cX8_restore 1 (some .int) (zRm 1 22) [.ref (a 87)] M (fun r u => r = r0 ∧ u = M0) := by
  intro sz
  refine zent_i sz (by decide) (Nat.le_of_ble_eq_true rfl) rfl (fun p e s m args below meth c ls H locs X hw hl => ?_)
  obtain ⟨hx, hb, hr, hml, hown, hW, hlocks⟩ := id X
  have hE := hw.2.2.2.2.1
  have hcs : 0 ≤ ((zRm 1 22)).cells ∧ 0 ≤ ((zRm 1 22)).slots := ⟨Nat.zero_le _, Nat.zero_le _⟩
  rw [fX8_restore] at h
  refine lv_aload_n hx hb dX8_restore_0 rfl (lv_at hl 0 rfl) ?_
  refine gtX8_287 X hw dX8_restore_1 ?_
  refine lv_if_ne (tgt := 13) hx hb dX8_restore_4 (by decide) (fun c1 => ?_) (fun c1 => ?_)
  · replace h := zif_f c1 h
    refine lv_aload_n hx hb dX8_restore_13 rfl (lv_at hl 0 rfl) ?_
    refine gtX8_13 X hw dX8_restore_14 ?_
    refine lv_aload_n hx hb dX8_restore_17 rfl (lv_at hl 0 rfl) ?_
    refine gtX8_7 X hw dX8_restore_18 ?_
    obtain ⟨M3, f4, h⟩ := zbv_e h
    refine z_qSv (As := [.ref (a 89), .ref (a 88)]) (rest := []) X hw (kX8_carry l D cy a 89 zI_89 88 zI_88 M M3 f4) (cwX8_226 X.2.2.2.2.2.1 rfl rfl (zroomO (Nat.le_of_ble_eq_true rfl) (Nat.le_of_ble_eq_true rfl))) rfl rfl (Nat.le_of_ble_eq_true rfl) hl.1 hcs dX8_restore_21 (fun H locs hw => ?_)
    refine lv_aload_n hx hb dX8_restore_24 rfl (lv_at hl 0 rfl) ?_
    refine gtX8_7 X hw dX8_restore_25 ?_
    refine lv_iconst (v := 1) hx hb dX8_restore_28 (by decide) ?_
    refine z_aldK (k := 1) X hw zI_88 (by decide) (by decide) (by decide) dX8_restore_29 ?_
    exact z_ri X hw (zret h) dX8_restore_30
  · replace h := zif_t c1 h
    refine lv_aload_n hx hb dX8_restore_7 rfl (lv_at hl 0 rfl) ?_
    refine lv_iconst (v := 2) hx hb dX8_restore_8 (by decide) ?_
    obtain ⟨r5, M6, f7, h⟩ := zbi_e h
    refine z_qVi (As := [.int (2 : Int32)]) (rest := []) X hw (kX8_error l D cy a (2 : Int32) M r5 M6 f7) (cwX8_76 X.2.2.2.2.2.1 rfl rfl (zroomO (Nat.le_of_ble_eq_true rfl) (Nat.le_of_ble_eq_true rfl))) (zX8_lt (rfl : zX8 87)) (zS8 (rfl : zX8 87) cy a (M 87)) rfl rfl rfl (Nat.le_of_ble_eq_true rfl) hl.1 hcs dX8_restore_9 (fun H locs hw => ?_)
    exact z_ri X hw (zret h) dX8_restore_12
def fX8_tell (p0 : Int32) (M : zM) : Option (Int32 × zM) := if M 88 (4) = (24 : Int32) then (zbi (fX8_error (4 : Int32) M) (fun r5 M6 => some (r5, M6))) else (zgd ((425 : Int32) + (M 88 (4)) < 0 ∨ 449 ≤ ((425 : Int32) + (M 88 (4))).toNatClampNeg) (zlt (zst M 88 (((425 : Int32) + (M 88 (4))).toNatClampNeg) p0) (fun M2 => zlt (zst M2 88 (4) ((M2 88 (4)) + (1 : Int32))) (fun M4 => some (M4 88 (4), M4)))))
set_option maxRecDepth 100000 in
set_option maxHeartbeats 4000000 in
theorem kX8_tell (l : Launch) (D : va_G) (cy : Nat → ClassId) (a : Nat → Nat) (p0 : Int32) (M : zM) (r0 : Int32) (M0 : zM) (h : fX8_tell p0 M = some (r0, M0)) : zCi l D cy a yX8_tell cX8_tell 2 (some .int) (zRm 1 21) [.ref (a 87), .int p0] M (fun r u => r = r0 ∧ u = M0) := by
  intro sz
  refine zent_i sz (by decide) (Nat.le_of_ble_eq_true rfl) rfl (fun p e s m args below meth c ls H locs X hw hl => ?_)
  obtain ⟨hx, hb, hr, hml, hown, hW, hlocks⟩ := id X
  have hE := hw.2.2.2.2.1
  have hcs : 0 ≤ ((zRm 1 21)).cells ∧ 0 ≤ ((zRm 1 21)).slots := ⟨Nat.zero_le _, Nat.zero_le _⟩
  rw [fX8_tell] at h
  refine lv_aload_n hx hb dX8_tell_0 rfl (lv_at hl 0 rfl) ?_
  refine gtX8_7 X hw dX8_tell_1 ?_
  refine lv_iconst (v := 4) hx hb dX8_tell_4 (by decide) ?_
  refine z_aldK (k := 4) X hw zI_88 (by decide) (by decide) (by decide) dX8_tell_5 ?_
  refine lv_bipush (v := 24) hx hb dX8_tell_6 (by decide) ?_
  refine lv_icmp_ne (tgt := 17) hx hb dX8_tell_8 (by decide) (fun c1 => ?_) (fun c1 => ?_)
  · replace h := zif_f c1 h
    refine lv_aload_n hx hb dX8_tell_17 rfl (lv_at hl 0 rfl) ?_
    refine gtX8_7 X hw dX8_tell_18 ?_
    refine lv_sipush (v := 425) hx hb dX8_tell_21 (by decide) ?_
    refine lv_aload_n hx hb dX8_tell_24 rfl (lv_at hl 0 rfl) ?_
    refine gtX8_7 X hw dX8_tell_25 ?_
    refine lv_iconst (v := 4) hx hb dX8_tell_28 (by decide) ?_
    refine z_aldK (k := 4) X hw zI_88 (by decide) (by decide) (by decide) dX8_tell_29 ?_
    refine lv_iadd hx hb dX8_tell_30 ?_
    refine lv_iload_n hx hb dX8_tell_31 rfl (lv_at hl 1 rfl) ?_
    obtain ⟨g3, h⟩ := zgd_e h
    refine z_ast X hw zI_88 g3 dX8_tell_32 (fun M2 H locs eM2 hw => ?_)
    replace h := zlt_s eM2 h
    refine lv_aload_n hx hb dX8_tell_33 rfl (lv_at hl 0 rfl) ?_
    refine gtX8_7 X hw dX8_tell_34 ?_
    refine lv_iconst (v := 4) hx hb dX8_tell_37 (by decide) ?_
    refine lv_dup2_11 hx hb dX8_tell_38 rfl rfl ?_
    refine z_aldK (k := 4) X hw zI_88 (by decide) (by decide) (by decide) dX8_tell_39 ?_
    refine lv_iconst (v := 1) hx hb dX8_tell_40 (by decide) ?_
    refine lv_iadd hx hb dX8_tell_41 ?_
    refine z_astK (k := 4) X hw zI_88 (by decide) (by decide) (by decide) dX8_tell_42 (fun M4 H locs eM4 hw => ?_)
    replace h := zlt_s eM4 h
    refine lv_aload_n hx hb dX8_tell_43 rfl (lv_at hl 0 rfl) ?_
    refine gtX8_7 X hw dX8_tell_44 ?_
    refine lv_iconst (v := 4) hx hb dX8_tell_47 (by decide) ?_
    refine z_aldK (k := 4) X hw zI_88 (by decide) (by decide) (by decide) dX8_tell_48 ?_
    exact z_ri X hw (zret h) dX8_tell_49
  · replace h := zif_t c1 h
    refine lv_aload_n hx hb dX8_tell_11 rfl (lv_at hl 0 rfl) ?_
    refine lv_iconst (v := 4) hx hb dX8_tell_12 (by decide) ?_
    obtain ⟨r5, M6, f7, h⟩ := zbi_e h
    refine z_qVi (As := [.int (4 : Int32)]) (rest := []) X hw (kX8_error l D cy a (4 : Int32) M r5 M6 f7) (cwX8_76 X.2.2.2.2.2.1 rfl rfl (zroomO (Nat.le_of_ble_eq_true rfl) (Nat.le_of_ble_eq_true rfl))) (zX8_lt (rfl : zX8 87)) (zS8 (rfl : zX8 87) cy a (M 87)) rfl rfl rfl (Nat.le_of_ble_eq_true rfl) hl.1 hcs dX8_tell_13 (fun H locs hw => ?_)
    exact z_ri X hw (zret h) dX8_tell_16
def fX8_check_44 (y1 : Int32) (y2 : Int32) (k : Int32 → Int32 → zM → Option (Int32 × zM)) : Nat → Int32 → Int32 → zM → Option (Int32 × zM)
  | 0, _, _, _ => none
  | n + 1, v3, v4, M => if y2 ≤ v3 then (k v3 v4 M) else (if v4 = 0 then (k v3 v4 M) else (zbv (fX8_hour M) (fun M13 => zgd ((425 : Int32) + v3 < 0 ∨ 449 ≤ ((425 : Int32) + v3).toNatClampNeg) (zbi (fX8_its y1 (5 : Int32) M13) (fun r16 M17 => if M13 88 (((425 : Int32) + v3).toNatClampNeg) = r16 then (if (1 : Int32) = 0 then (zlt (v3 + (0 : Int32)) (fun x24 => fX8_check_44 y1 y2 k n x24 (1 : Int32) M17)) else (zlt (v3 + (1 : Int32)) (fun x25 => fX8_check_44 y1 y2 k n x25 (1 : Int32) M17))) else (if (0 : Int32) = 0 then (zlt (v3 + (0 : Int32)) (fun x21 => fX8_check_44 y1 y2 k n x21 (0 : Int32) M17)) else (zlt (v3 + (1 : Int32)) (fun x22 => fX8_check_44 y1 y2 k n x22 (0 : Int32) M17))))))))
set_option maxRecDepth 100000 in
set_option maxHeartbeats 4000000 in
theorem lX8_check_44 {p : Program} {l : Launch} {e : Env} {s : State} {m : MethodId} {args : Array Value} {below : List Frame} {meth : Method} {c : Code} {D : va_G} {cy : Nat → ClassId} {a : Nat → Nat} {r0 : Int32} {M0 : zM} (X : zCX p s m meth c args cX8_check 5 (some .int) RX8) (y1 : Int32) (y2 : Int32) (k : Int32 → Int32 → zM → Option (Int32 × zM)) : ∀ (n : Nat) (v3 : Int32) (v4 : Int32) (M : zM) (H : Heap) (locs : List Loc) (ls : Array Slot), zWD D cy a (zfr a s.heap.size) M H locs s → lv_has ls 5 [(0, .ref (a 87)), (1, .int y1), (2, .int y2), (3, .int v3), (4, .int v4)] → fX8_check_44 y1 y2 k n v3 v4 M = some (r0, M0) →
    (∀ (u3 : Int32) (u4 : Int32) (M' : zM) (H' : Heap) (locs' : List Loc) (ls' : Array Slot), zWD D cy a (zfr a s.heap.size) M' H' locs' s → lv_has ls' 5 [(0, .ref (a 87)), (3, .int u3), (4, .int u4)] → k u3 u4 M' = some (r0, M0) → W p l e (zRm 6 140) s m args below meth c H' locs' 0 0 (zQi D cy a s args below r0 M0) (F0 m 100 ls' [])) →
    W p l e (zRm 6 140) s m args below meth c H locs 0 0 (zQi D cy a s args below r0 M0) (F0 m 44 ls []) := by
  obtain ⟨hx, hb, hr, hml, hown, hW, hlocks⟩ := id X
  have hcs : 0 ≤ ((zRm 6 140)).cells ∧ 0 ≤ ((zRm 6 140)).slots := ⟨Nat.zero_le _, Nat.zero_le _⟩
  intro n
  induction n with
  | zero =>
    intro v3 v4 M H locs ls hw hl h hk
    cases h
  | succ n ih =>
    intro v3 v4 M H locs ls hw hl h hk
    have hE := hw.2.2.2.2.1
    rw [fX8_check_44] at h
    refine lv_iload_n hx hb dX8_check_44 rfl (lv_at hl 3 rfl) ?_
    refine lv_iload_n hx hb dX8_check_45 rfl (lv_at hl 2 rfl) ?_
    refine lv_icmp_ge (tgt := 100) hx hb dX8_check_46 (by decide) (fun c10 => ?_) (fun c10 => ?_)
    · replace h := zif_t c10 h
      exact hk v3 v4 M H locs _ hw (lv_sub hl [0, 3, 4] rfl) h
    · replace h := zif_f c10 h
      refine lv_iload hx hb dX8_check_49 (lv_at hl 4 rfl) ?_
      refine lv_if_eq (tgt := 100) hx hb dX8_check_51 (by decide) (fun c11 => ?_) (fun c11 => ?_)
      · replace h := zif_t c11 h
        exact hk v3 v4 M H locs _ hw (lv_sub hl [0, 3, 4] rfl) h
      · replace h := zif_f c11 h
        refine lv_aload_n hx hb dX8_check_54 rfl (lv_at hl 0 rfl) ?_
        obtain ⟨M13, f14, h⟩ := zbv_e h
        refine z_qVv (As := []) (rest := []) X hw (kX8_hour l D cy a M M13 f14) (cwX8_209 X.2.2.2.2.2.1 rfl rfl (zroomO (Nat.le_of_ble_eq_true rfl) (Nat.le_of_ble_eq_true rfl))) (zX8_lt (rfl : zX8 87)) (zS8 (rfl : zX8 87) cy a (M 87)) rfl rfl rfl (Nat.le_of_ble_eq_true rfl) hl.1 hcs dX8_check_55 (fun H locs hw => ?_)
        refine lv_aload_n hx hb dX8_check_58 rfl (lv_at hl 0 rfl) ?_
        refine gtX8_7 X hw dX8_check_59 ?_
        refine lv_sipush (v := 425) hx hb dX8_check_62 (by decide) ?_
        refine lv_iload_n hx hb dX8_check_65 rfl (lv_at hl 3 rfl) ?_
        refine lv_iadd hx hb dX8_check_66 ?_
        obtain ⟨g15, h⟩ := zgd_e h
        refine z_ald X hw zI_88 g15 dX8_check_67 ?_
        refine lv_aload_n hx hb dX8_check_68 rfl (lv_at hl 0 rfl) ?_
        refine lv_iload_n hx hb dX8_check_69 rfl (lv_at hl 1 rfl) ?_
        refine lv_iconst (v := 5) hx hb dX8_check_70 (by decide) ?_
        obtain ⟨r16, M17, f18, h⟩ := zbi_e h
        refine z_qVi (As := [.int y1, .int (5 : Int32)]) (rest := [.int (M13 88 (((425 : Int32) + v3).toNatClampNeg))]) X hw (kX8_its l D cy a y1 (5 : Int32) M13 r16 M17 f18) (cwX8_90 X.2.2.2.2.2.1 rfl rfl (zroomO (Nat.le_of_ble_eq_true rfl) (Nat.le_of_ble_eq_true rfl))) (zX8_lt (rfl : zX8 87)) (zS8 (rfl : zX8 87) cy a (M13 87)) rfl rfl rfl (Nat.le_of_ble_eq_true rfl) hl.1 hcs dX8_check_71 (fun H locs hw => ?_)
        refine lv_icmp_ne (tgt := 81) hx hb dX8_check_74 (by decide) (fun c19 => ?_) (fun c19 => ?_)
        · replace h := zif_f c19 h
          refine lv_iconst (v := 0) hx hb dX8_check_81 (by decide) ?_
          refine lv_istore (lv' := [(4, .int (0 : Int32)), (0, .ref (a 87)), (1, .int y1), (2, .int y2), (3, .int v3)]) hx hb dX8_check_82 hl (by decide) rfl (fun ls hl => ?_)
          refine lv_iload_n hx hb dX8_check_84 rfl (lv_at hl 4 rfl) ?_
          refine lv_iload hx hb dX8_check_85 (lv_at hl 0 rfl) ?_
          refine lv_if_eq (tgt := 94) hx hb dX8_check_87 (by decide) (fun c20 => ?_) (fun c20 => ?_)
          · replace h := zif_t c20 h
            refine lv_iconst (v := 0) hx hb dX8_check_94 (by decide) ?_
            refine lv_iadd hx hb dX8_check_95 ?_
            refine lv_topi (fun x21 ex21 => ?_)
            replace h := zlt_s ex21 h
            refine lv_istore_n (lv' := [(3, .int x21), (4, .int (0 : Int32)), (0, .ref (a 87)), (1, .int y1), (2, .int y2)]) hx hb dX8_check_96 rfl hl (by decide) rfl (fun ls hl => ?_)
            refine lv_goto (tgt := 44) hx hb dX8_check_97 (by decide) ?_
            exact ih x21 (0 : Int32) M17 H locs _ hw (lv_sub hl [2, 3, 4, 0, 1] rfl) h hk
          · replace h := zif_f c20 h
            refine lv_iconst (v := 1) hx hb dX8_check_90 (by decide) ?_
            refine lv_goto (tgt := 95) hx hb dX8_check_91 (by decide) ?_
            refine lv_iadd hx hb dX8_check_95 ?_
            refine lv_topi (fun x22 ex22 => ?_)
            replace h := zlt_s ex22 h
            refine lv_istore_n (lv' := [(3, .int x22), (4, .int (0 : Int32)), (0, .ref (a 87)), (1, .int y1), (2, .int y2)]) hx hb dX8_check_96 rfl hl (by decide) rfl (fun ls hl => ?_)
            refine lv_goto (tgt := 44) hx hb dX8_check_97 (by decide) ?_
            exact ih x22 (0 : Int32) M17 H locs _ hw (lv_sub hl [2, 3, 4, 0, 1] rfl) h hk
        · replace h := zif_t c19 h
          refine lv_iconst (v := 1) hx hb dX8_check_77 (by decide) ?_
          refine lv_goto (tgt := 82) hx hb dX8_check_78 (by decide) ?_
          refine lv_istore (lv' := [(4, .int (1 : Int32)), (0, .ref (a 87)), (1, .int y1), (2, .int y2), (3, .int v3)]) hx hb dX8_check_82 hl (by decide) rfl (fun ls hl => ?_)
          refine lv_iload_n hx hb dX8_check_84 rfl (lv_at hl 4 rfl) ?_
          refine lv_iload hx hb dX8_check_85 (lv_at hl 0 rfl) ?_
          refine lv_if_eq (tgt := 94) hx hb dX8_check_87 (by decide) (fun c23 => ?_) (fun c23 => ?_)
          · replace h := zif_t c23 h
            refine lv_iconst (v := 0) hx hb dX8_check_94 (by decide) ?_
            refine lv_iadd hx hb dX8_check_95 ?_
            refine lv_topi (fun x24 ex24 => ?_)
            replace h := zlt_s ex24 h
            refine lv_istore_n (lv' := [(3, .int x24), (4, .int (1 : Int32)), (0, .ref (a 87)), (1, .int y1), (2, .int y2)]) hx hb dX8_check_96 rfl hl (by decide) rfl (fun ls hl => ?_)
            refine lv_goto (tgt := 44) hx hb dX8_check_97 (by decide) ?_
            exact ih x24 (1 : Int32) M17 H locs _ hw (lv_sub hl [2, 3, 4, 0, 1] rfl) h hk
          · replace h := zif_f c23 h
            refine lv_iconst (v := 1) hx hb dX8_check_90 (by decide) ?_
            refine lv_goto (tgt := 95) hx hb dX8_check_91 (by decide) ?_
            refine lv_iadd hx hb dX8_check_95 ?_
            refine lv_topi (fun x25 ex25 => ?_)
            replace h := zlt_s ex25 h
            refine lv_istore_n (lv' := [(3, .int x25), (4, .int (1 : Int32)), (0, .ref (a 87)), (1, .int y1), (2, .int y2)]) hx hb dX8_check_96 rfl hl (by decide) rfl (fun ls hl => ?_)
            refine lv_goto (tgt := 44) hx hb dX8_check_97 (by decide) ?_
            exact ih x25 (1 : Int32) M17 H locs _ hw (lv_sub hl [2, 3, 4, 0, 1] rfl) h hk
def fX8_check (p0 : Int32) (M : zM) : Option (Int32 × zM) := zlt (M 88 (4)) (fun x1 => zlt (zst M 88 (4) (0 : Int32)) (fun M2 => zbi (fX8_isWheel p0 M2) (fun r3 M4 => if r3 = 0 then (zbi (fX8_error (1 : Int32) M4) (fun r33 M34 => some (r33, M34))) else (zbv (fX8_carry 88 90 M4) (fun M8 => fX8_check_44 p0 x1 (fun x26 x27 M28 => zbv (fX8_carry 90 88 M28) (fun M30 => if x27 = 0 then (some ((1 : Int32) + x26, M30)) else (some ((0 : Int32), M30)))) zF (0 : Int32) (1 : Int32) M8)))))
set_option maxRecDepth 100000 in
set_option maxHeartbeats 4000000 in
theorem kX8_check (l : Launch) (D : va_G) (cy : Nat → ClassId) (a : Nat → Nat) (p0 : Int32) (M : zM) (r0 : Int32) (M0 : zM) (h : fX8_check p0 M = some (r0, M0)) : zCi l D cy a yX8_check cX8_check 5 (some .int) (zRm 6 140) [.ref (a 87), .int p0] M (fun r u => r = r0 ∧ u = M0) := by
  intro sz
  refine zent_i sz (by decide) (Nat.le_of_ble_eq_true rfl) rfl (fun p e s m args below meth c ls H locs X hw hl => ?_)
  obtain ⟨hx, hb, hr, hml, hown, hW, hlocks⟩ := id X
  have hE := hw.2.2.2.2.1
  have hcs : 0 ≤ ((zRm 6 140)).cells ∧ 0 ≤ ((zRm 6 140)).slots := ⟨Nat.zero_le _, Nat.zero_le _⟩
  rw [fX8_check] at h
  refine lv_aload_n hx hb dX8_check_0 rfl (lv_at hl 0 rfl) ?_
  refine gtX8_7 X hw dX8_check_1 ?_
  refine lv_iconst (v := 4) hx hb dX8_check_4 (by decide) ?_
  refine z_aldK (k := 4) X hw zI_88 (by decide) (by decide) (by decide) dX8_check_5 ?_
  refine lv_topi (fun x1 ex1 => ?_)
  replace h := zlt_s ex1 h
  refine lv_istore_n (lv' := [(2, .int x1), (0, .ref (a 87)), (1, .int p0)]) hx hb dX8_check_6 rfl hl (by decide) rfl (fun ls hl => ?_)
  refine lv_aload_n hx hb dX8_check_7 rfl (lv_at hl 1 rfl) ?_
  refine gtX8_7 X hw dX8_check_8 ?_
  refine lv_iconst (v := 4) hx hb dX8_check_11 (by decide) ?_
  refine lv_iconst (v := 0) hx hb dX8_check_12 (by decide) ?_
  refine z_astK (k := 4) X hw zI_88 (by decide) (by decide) (by decide) dX8_check_13 (fun M2 H locs eM2 hw => ?_)
  replace h := zlt_s eM2 h
  refine lv_aload_n hx hb dX8_check_14 rfl (lv_at hl 1 rfl) ?_
  refine lv_iload_n hx hb dX8_check_15 rfl (lv_at hl 2 rfl) ?_
  obtain ⟨r3, M4, f5, h⟩ := zbi_e h
  refine z_qVi (As := [.int p0]) (rest := []) X hw (kX8_isWheel l D cy a p0 M2 r3 M4 f5) (cwX8_112 X.2.2.2.2.2.1 rfl rfl (zroomO (Nat.le_of_ble_eq_true rfl) (Nat.le_of_ble_eq_true rfl))) (zX8_lt (rfl : zX8 87)) (zS8 (rfl : zX8 87) cy a (M2 87)) rfl rfl rfl (Nat.le_of_ble_eq_true rfl) hl.1 hcs dX8_check_16 (fun H locs hw => ?_)
  refine lv_if_ne (tgt := 28) hx hb dX8_check_19 (by decide) (fun c6 => ?_) (fun c6 => ?_)
  · replace h := zif_f c6 h
    refine lv_aload_n hx hb dX8_check_28 rfl (lv_at hl 1 rfl) ?_
    refine gtX8_7 X hw dX8_check_29 ?_
    refine lv_aload_n hx hb dX8_check_32 rfl (lv_at hl 1 rfl) ?_
    refine gtX8_16 X hw dX8_check_33 ?_
    obtain ⟨M8, f9, h⟩ := zbv_e h
    refine z_qSv (As := [.ref (a 88), .ref (a 90)]) (rest := []) X hw (kX8_carry l D cy a 88 zI_88 90 zI_90 M4 M8 f9) (cwX8_226 X.2.2.2.2.2.1 rfl rfl (zroomO (Nat.le_of_ble_eq_true rfl) (Nat.le_of_ble_eq_true rfl))) rfl rfl (Nat.le_of_ble_eq_true rfl) hl.1 hcs dX8_check_36 (fun H locs hw => ?_)
    refine lv_iconst (v := 0) hx hb dX8_check_39 (by decide) ?_
    refine lv_istore_n (lv' := [(3, .int (0 : Int32)), (2, .int x1), (0, .ref (a 87)), (1, .int p0)]) hx hb dX8_check_40 rfl hl (by decide) rfl (fun ls hl => ?_)
    refine lv_iconst (v := 1) hx hb dX8_check_41 (by decide) ?_
    refine lv_istore (lv' := [(4, .int (1 : Int32)), (3, .int (0 : Int32)), (2, .int x1), (0, .ref (a 87)), (1, .int p0)]) hx hb dX8_check_42 hl (by decide) rfl (fun ls hl => ?_)
    refine lX8_check_44 X p0 x1 _ zF (0 : Int32) (1 : Int32) M8 H locs _ hw (lv_sub hl [3, 4, 2, 1, 0] rfl) h (fun x26 x27 M28 H locs ls hw hl h => ?_)
    refine lv_aload_n hx hb dX8_check_100 rfl (lv_at hl 0 rfl) ?_
    refine gtX8_16 X hw dX8_check_101 ?_
    refine lv_aload_n hx hb dX8_check_104 rfl (lv_at hl 0 rfl) ?_
    refine gtX8_7 X hw dX8_check_105 ?_
    obtain ⟨M30, f31, h⟩ := zbv_e h
    refine z_qSv (As := [.ref (a 90), .ref (a 88)]) (rest := []) X hw (kX8_carry l D cy a 90 zI_90 88 zI_88 M28 M30 f31) (cwX8_226 X.2.2.2.2.2.1 rfl rfl (zroomO (Nat.le_of_ble_eq_true rfl) (Nat.le_of_ble_eq_true rfl))) rfl rfl (Nat.le_of_ble_eq_true rfl) hl.1 hcs dX8_check_108 (fun H locs hw => ?_)
    refine lv_iload hx hb dX8_check_111 (lv_at hl 2 rfl) ?_
    refine lv_if_eq (tgt := 120) hx hb dX8_check_113 (by decide) (fun c32 => ?_) (fun c32 => ?_)
    · replace h := zif_t c32 h
      refine lv_iconst (v := 1) hx hb dX8_check_120 (by decide) ?_
      refine lv_iload_n hx hb dX8_check_121 rfl (lv_at hl 1 rfl) ?_
      refine lv_iadd hx hb dX8_check_122 ?_
      exact z_ri X hw (zret h) dX8_check_123
    · replace h := zif_f c32 h
      refine lv_iconst (v := 0) hx hb dX8_check_116 (by decide) ?_
      refine lv_goto (tgt := 123) hx hb dX8_check_117 (by decide) ?_
      exact z_ri X hw (zret h) dX8_check_123
  · replace h := zif_t c6 h
    refine lv_aload_n hx hb dX8_check_22 rfl (lv_at hl 1 rfl) ?_
    refine lv_iconst (v := 1) hx hb dX8_check_23 (by decide) ?_
    obtain ⟨r33, M34, f35, h⟩ := zbi_e h
    refine z_qVi (As := [.int (1 : Int32)]) (rest := []) X hw (kX8_error l D cy a (1 : Int32) M4 r33 M34 f35) (cwX8_76 X.2.2.2.2.2.1 rfl rfl (zroomO (Nat.le_of_ble_eq_true rfl) (Nat.le_of_ble_eq_true rfl))) (zX8_lt (rfl : zX8 87)) (zS8 (rfl : zX8 87) cy a (M4 87)) rfl rfl rfl (Nat.le_of_ble_eq_true rfl) hl.1 hcs dX8_check_24 (fun H locs hw => ?_)
    exact z_ri X hw (zret h) dX8_check_27
def fX8_count (p0 : Int32) (M : zM) : Option (Int32 × zM) := zbi (fX8_in p0 (11 : Int32) (22 : Int32) M) (fun r1 M2 => if r1 = 0 then (zbv (fX8_flow M2) (fun M6 => if p0 = (0 : Int32) then (some (M6 88 (0), M6)) else (if p0 = (1 : Int32) then (some (M6 88 (1), M6)) else (if p0 = (2 : Int32) then (zbi (fX8_hourOfDay M6) (fun r11 M12 => zgd ((6 : Int32) + r11 < 0 ∨ 449 ≤ ((6 : Int32) + r11).toNatClampNeg) (some (M12 88 (((6 : Int32) + r11).toNatClampNeg), M12)))) else (if p0 = (3 : Int32) then (some (M6 95 (12), M6)) else (if p0 = (4 : Int32) then (some (M6 87 14, M6)) else (if p0 = (5 : Int32) then (some (M6 88 (2), M6)) else (if p0 = (6 : Int32) then (zbi (fX8_allPrayed M6) (fun r19 M20 => some (r19, M20))) else (if p0 = (7 : Int32) then (some (M6 88 (3), M6)) else (if p0 = (8 : Int32) then (some (M6 88 (4), M6)) else (if p0 = (9 : Int32) then (some (M6 87 20, M6)) else (if p0 = (10 : Int32) then (some (M6 88 (5), M6)) else (zbi (fX8_error (1 : Int32) M6) (fun r26 M27 => some (r26, M27))))))))))))))) else (zgd (((30 : Int32) + p0) - (11 : Int32) < 0 ∨ 449 ≤ (((30 : Int32) + p0) - (11 : Int32)).toNatClampNeg) (some (M2 88 ((((30 : Int32) + p0) - (11 : Int32)).toNatClampNeg), M2))))
set_option maxRecDepth 100000 in
set_option maxHeartbeats 4000000 in
theorem kX8_count (l : Launch) (D : va_G) (cy : Nat → ClassId) (a : Nat → Nat) (p0 : Int32) (M : zM) (r0 : Int32) (M0 : zM) (h : fX8_count p0 M = some (r0, M0)) : zCi l D cy a yX8_count cX8_count 2 (some .int) (zRm 5 118) [.ref (a 87), .int p0] M (fun r u => r = r0 ∧ u = M0) := by
  intro sz
  refine zent_i sz (by decide) (Nat.le_of_ble_eq_true rfl) rfl (fun p e s m args below meth c ls H locs X hw hl => ?_)
  obtain ⟨hx, hb, hr, hml, hown, hW, hlocks⟩ := id X
  have hE := hw.2.2.2.2.1
  have hcs : 0 ≤ ((zRm 5 118)).cells ∧ 0 ≤ ((zRm 5 118)).slots := ⟨Nat.zero_le _, Nat.zero_le _⟩
  rw [fX8_count] at h
  refine lv_iload_n hx hb dX8_count_0 rfl (lv_at hl 1 rfl) ?_
  refine lv_bipush (v := 11) hx hb dX8_count_1 (by decide) ?_
  refine lv_bipush (v := 22) hx hb dX8_count_3 (by decide) ?_
  obtain ⟨r1, M2, f3, h⟩ := zbi_e h
  refine z_qSi (As := [.int p0, .int (11 : Int32), .int (22 : Int32)]) (rest := []) X hw (kX8_in l D cy a p0 (11 : Int32) (22 : Int32) M r1 M2 f3) (cwX8_56 X.2.2.2.2.2.1 rfl rfl (zroomO (Nat.le_of_ble_eq_true rfl) (Nat.le_of_ble_eq_true rfl))) rfl rfl (Nat.le_of_ble_eq_true rfl) hl.1 hcs dX8_count_5 (fun H locs hw => ?_)
  refine lv_if_eq (tgt := 24) hx hb dX8_count_8 (by decide) (fun c4 => ?_) (fun c4 => ?_)
  · replace h := zif_t c4 h
    refine lv_aload_n hx hb dX8_count_24 rfl (lv_at hl 0 rfl) ?_
    obtain ⟨M6, f7, h⟩ := zbv_e h
    refine z_qVv (As := []) (rest := []) X hw (kX8_flow l D cy a M2 M6 f7) (cwX8_103 X.2.2.2.2.2.1 rfl rfl (zroomO (Nat.le_of_ble_eq_true rfl) (Nat.le_of_ble_eq_true rfl))) (zX8_lt (rfl : zX8 87)) (zS8 (rfl : zX8 87) cy a (M2 87)) rfl rfl rfl (Nat.le_of_ble_eq_true rfl) hl.1 hcs dX8_count_25 (fun H locs hw => ?_)
    refine lv_iload_n hx hb dX8_count_28 rfl (lv_at hl 1 rfl) ?_
    by_cases c8 : p0 = (0 : Int32)
    · replace h := zif_t c8 h
      refine lv_tableIn (off := 59) (tgt := 88) hx hb dX8_count_29 (by rw [c8]; decide) (by rw [c8]; decide) (by rw [c8]; rfl) (by decide) ?_
      refine lv_aload_n hx hb dX8_count_88 rfl (lv_at hl 0 rfl) ?_
      refine gtX8_7 X hw dX8_count_89 ?_
      refine lv_iconst (v := 0) hx hb dX8_count_92 (by decide) ?_
      refine z_aldK (k := 0) X hw zI_88 (by decide) (by decide) (by decide) dX8_count_93 ?_
      exact z_ri X hw (zret h) dX8_count_94
    replace h := zif_f c8 h
    by_cases c9 : p0 = (1 : Int32)
    · replace h := zif_t c9 h
      refine lv_tableIn (off := 66) (tgt := 95) hx hb dX8_count_29 (by rw [c9]; decide) (by rw [c9]; decide) (by rw [c9]; rfl) (by decide) ?_
      refine lv_aload_n hx hb dX8_count_95 rfl (lv_at hl 0 rfl) ?_
      refine gtX8_7 X hw dX8_count_96 ?_
      refine lv_iconst (v := 1) hx hb dX8_count_99 (by decide) ?_
      refine z_aldK (k := 1) X hw zI_88 (by decide) (by decide) (by decide) dX8_count_100 ?_
      exact z_ri X hw (zret h) dX8_count_101
    replace h := zif_f c9 h
    by_cases c10 : p0 = (2 : Int32)
    · replace h := zif_t c10 h
      refine lv_tableIn (off := 73) (tgt := 102) hx hb dX8_count_29 (by rw [c10]; decide) (by rw [c10]; decide) (by rw [c10]; rfl) (by decide) ?_
      refine lv_aload_n hx hb dX8_count_102 rfl (lv_at hl 0 rfl) ?_
      refine gtX8_7 X hw dX8_count_103 ?_
      refine lv_bipush (v := 6) hx hb dX8_count_106 (by decide) ?_
      refine lv_aload_n hx hb dX8_count_108 rfl (lv_at hl 0 rfl) ?_
      obtain ⟨r11, M12, f13, h⟩ := zbi_e h
      refine z_qVi (As := []) (rest := [.int (6 : Int32), .ref (a 88)]) X hw (kX8_hourOfDay l D cy a M6 r11 M12 f13) (cwX8_179 X.2.2.2.2.2.1 rfl rfl (zroomO (Nat.le_of_ble_eq_true rfl) (Nat.le_of_ble_eq_true rfl))) (zX8_lt (rfl : zX8 87)) (zS8 (rfl : zX8 87) cy a (M6 87)) rfl rfl rfl (Nat.le_of_ble_eq_true rfl) hl.1 hcs dX8_count_109 (fun H locs hw => ?_)
      refine lv_iadd hx hb dX8_count_112 ?_
      obtain ⟨g14, h⟩ := zgd_e h
      refine z_ald X hw zI_88 g14 dX8_count_113 ?_
      exact z_ri X hw (zret h) dX8_count_114
    replace h := zif_f c10 h
    by_cases c15 : p0 = (3 : Int32)
    · replace h := zif_t c15 h
      refine lv_tableIn (off := 86) (tgt := 115) hx hb dX8_count_29 (by rw [c15]; decide) (by rw [c15]; decide) (by rw [c15]; rfl) (by decide) ?_
      refine lv_aload_n hx hb dX8_count_115 rfl (lv_at hl 0 rfl) ?_
      refine gtX8_31 X hw dX8_count_116 ?_
      refine lv_bipush (v := 12) hx hb dX8_count_119 (by decide) ?_
      refine z_aldK (k := 12) X hw zI_95 (by decide) (by decide) (by decide) dX8_count_121 ?_
      exact z_ri X hw (zret h) dX8_count_122
    replace h := zif_f c15 h
    by_cases c16 : p0 = (4 : Int32)
    · replace h := zif_t c16 h
      refine lv_tableIn (off := 94) (tgt := 123) hx hb dX8_count_29 (by rw [c16]; decide) (by rw [c16]; decide) (by rw [c16]; rfl) (by decide) ?_
      refine lv_aload_n hx hb dX8_count_123 rfl (lv_at hl 0 rfl) ?_
      refine gtX8_194 X hw dX8_count_124 ?_
      exact z_ri X hw (zret h) dX8_count_127
    replace h := zif_f c16 h
    by_cases c17 : p0 = (5 : Int32)
    · replace h := zif_t c17 h
      refine lv_tableIn (off := 99) (tgt := 128) hx hb dX8_count_29 (by rw [c17]; decide) (by rw [c17]; decide) (by rw [c17]; rfl) (by decide) ?_
      refine lv_aload_n hx hb dX8_count_128 rfl (lv_at hl 0 rfl) ?_
      refine gtX8_7 X hw dX8_count_129 ?_
      refine lv_iconst (v := 2) hx hb dX8_count_132 (by decide) ?_
      refine z_aldK (k := 2) X hw zI_88 (by decide) (by decide) (by decide) dX8_count_133 ?_
      exact z_ri X hw (zret h) dX8_count_134
    replace h := zif_f c17 h
    by_cases c18 : p0 = (6 : Int32)
    · replace h := zif_t c18 h
      refine lv_tableIn (off := 106) (tgt := 135) hx hb dX8_count_29 (by rw [c18]; decide) (by rw [c18]; decide) (by rw [c18]; rfl) (by decide) ?_
      refine lv_aload_n hx hb dX8_count_135 rfl (lv_at hl 0 rfl) ?_
      obtain ⟨r19, M20, f21, h⟩ := zbi_e h
      refine z_qVi (As := []) (rest := []) X hw (kX8_allPrayed l D cy a M6 r19 M20 f21) (cwX8_216 X.2.2.2.2.2.1 rfl rfl (zroomO (Nat.le_of_ble_eq_true rfl) (Nat.le_of_ble_eq_true rfl))) (zX8_lt (rfl : zX8 87)) (zS8 (rfl : zX8 87) cy a (M6 87)) rfl rfl rfl (Nat.le_of_ble_eq_true rfl) hl.1 hcs dX8_count_136 (fun H locs hw => ?_)
      exact z_ri X hw (zret h) dX8_count_139
    replace h := zif_f c18 h
    by_cases c22 : p0 = (7 : Int32)
    · replace h := zif_t c22 h
      refine lv_tableIn (off := 111) (tgt := 140) hx hb dX8_count_29 (by rw [c22]; decide) (by rw [c22]; decide) (by rw [c22]; rfl) (by decide) ?_
      refine lv_aload_n hx hb dX8_count_140 rfl (lv_at hl 0 rfl) ?_
      refine gtX8_7 X hw dX8_count_141 ?_
      refine lv_iconst (v := 3) hx hb dX8_count_144 (by decide) ?_
      refine z_aldK (k := 3) X hw zI_88 (by decide) (by decide) (by decide) dX8_count_145 ?_
      exact z_ri X hw (zret h) dX8_count_146
    replace h := zif_f c22 h
    by_cases c23 : p0 = (8 : Int32)
    · replace h := zif_t c23 h
      refine lv_tableIn (off := 118) (tgt := 147) hx hb dX8_count_29 (by rw [c23]; decide) (by rw [c23]; decide) (by rw [c23]; rfl) (by decide) ?_
      refine lv_aload_n hx hb dX8_count_147 rfl (lv_at hl 0 rfl) ?_
      refine gtX8_7 X hw dX8_count_148 ?_
      refine lv_iconst (v := 4) hx hb dX8_count_151 (by decide) ?_
      refine z_aldK (k := 4) X hw zI_88 (by decide) (by decide) (by decide) dX8_count_152 ?_
      exact z_ri X hw (zret h) dX8_count_153
    replace h := zif_f c23 h
    by_cases c24 : p0 = (9 : Int32)
    · replace h := zif_t c24 h
      refine lv_tableIn (off := 125) (tgt := 154) hx hb dX8_count_29 (by rw [c24]; decide) (by rw [c24]; decide) (by rw [c24]; rfl) (by decide) ?_
      refine lv_aload_n hx hb dX8_count_154 rfl (lv_at hl 0 rfl) ?_
      refine gtX8_247 X hw dX8_count_155 ?_
      exact z_ri X hw (zret h) dX8_count_158
    replace h := zif_f c24 h
    by_cases c25 : p0 = (10 : Int32)
    · replace h := zif_t c25 h
      refine lv_tableIn (off := 130) (tgt := 159) hx hb dX8_count_29 (by rw [c25]; decide) (by rw [c25]; decide) (by rw [c25]; rfl) (by decide) ?_
      refine lv_aload_n hx hb dX8_count_159 rfl (lv_at hl 0 rfl) ?_
      refine gtX8_7 X hw dX8_count_160 ?_
      refine lv_iconst (v := 5) hx hb dX8_count_163 (by decide) ?_
      refine z_aldK (k := 5) X hw zI_88 (by decide) (by decide) (by decide) dX8_count_164 ?_
      exact z_ri X hw (zret h) dX8_count_165
    replace h := zif_f c25 h
    refine lv_tableOut (tgt := 166) hx hb dX8_count_29 (by have tc8 := lv_neT c8 (a := 0) rfl; have tc9 := lv_neT c9 (a := 1) rfl; have tc10 := lv_neT c10 (a := 2) rfl; have tc15 := lv_neT c15 (a := 3) rfl; have tc16 := lv_neT c16 (a := 4) rfl; have tc17 := lv_neT c17 (a := 5) rfl; have tc18 := lv_neT c18 (a := 6) rfl; have tc22 := lv_neT c22 (a := 7) rfl; have tc23 := lv_neT c23 (a := 8) rfl; have tc24 := lv_neT c24 (a := 9) rfl; have tc25 := lv_neT c25 (a := 10) rfl; omega) (by decide) ?_
    refine lv_aload_n hx hb dX8_count_166 rfl (lv_at hl 0 rfl) ?_
    refine lv_iconst (v := 1) hx hb dX8_count_167 (by decide) ?_
    obtain ⟨r26, M27, f28, h⟩ := zbi_e h
    refine z_qVi (As := [.int (1 : Int32)]) (rest := []) X hw (kX8_error l D cy a (1 : Int32) M6 r26 M27 f28) (cwX8_76 X.2.2.2.2.2.1 rfl rfl (zroomO (Nat.le_of_ble_eq_true rfl) (Nat.le_of_ble_eq_true rfl))) (zX8_lt (rfl : zX8 87)) (zS8 (rfl : zX8 87) cy a (M6 87)) rfl rfl rfl (Nat.le_of_ble_eq_true rfl) hl.1 hcs dX8_count_168 (fun H locs hw => ?_)
    exact z_ri X hw (zret h) dX8_count_171
  · replace h := zif_f c4 h
    refine lv_aload_n hx hb dX8_count_11 rfl (lv_at hl 0 rfl) ?_
    refine gtX8_7 X hw dX8_count_12 ?_
    refine lv_bipush (v := 30) hx hb dX8_count_15 (by decide) ?_
    refine lv_iload_n hx hb dX8_count_17 rfl (lv_at hl 1 rfl) ?_
    refine lv_iadd hx hb dX8_count_18 ?_
    refine lv_bipush (v := 11) hx hb dX8_count_19 (by decide) ?_
    refine lv_isub hx hb dX8_count_21 ?_
    obtain ⟨g29, h⟩ := zgd_e h
    refine z_ald X hw zI_88 g29 dX8_count_22 ?_
    exact z_ri X hw (zret h) dX8_count_23
def fX8_told (p0 : Int32) (M : zM) : Option (Int32 × zM) := zbi (fX8_in p0 (1 : Int32) (6 : Int32) M) (fun r1 M2 => if r1 = 0 then (zbi (fX8_error (1 : Int32) M2) (fun r5 M6 => some (r5, M6))) else (zgd (p0 < 0 ∨ 7 ≤ p0.toNatClampNeg) (some (M2 91 (p0.toNatClampNeg), M2))))
set_option maxRecDepth 100000 in
set_option maxHeartbeats 4000000 in
theorem kX8_told (l : Launch) (D : va_G) (cy : Nat → ClassId) (a : Nat → Nat) (p0 : Int32) (M : zM) (r0 : Int32) (M0 : zM) (h : fX8_told p0 M = some (r0, M0)) : zCi l D cy a yX8_told cX8_told 2 (some .int) (zRm 1 22) [.ref (a 87), .int p0] M (fun r u => r = r0 ∧ u = M0) := by
  intro sz
  refine zent_i sz (by decide) (Nat.le_of_ble_eq_true rfl) rfl (fun p e s m args below meth c ls H locs X hw hl => ?_)
  obtain ⟨hx, hb, hr, hml, hown, hW, hlocks⟩ := id X
  have hE := hw.2.2.2.2.1
  have hcs : 0 ≤ ((zRm 1 22)).cells ∧ 0 ≤ ((zRm 1 22)).slots := ⟨Nat.zero_le _, Nat.zero_le _⟩
  rw [fX8_told] at h
  refine lv_iload_n hx hb dX8_told_0 rfl (lv_at hl 1 rfl) ?_
  refine lv_iconst (v := 1) hx hb dX8_told_1 (by decide) ?_
  refine lv_bipush (v := 6) hx hb dX8_told_2 (by decide) ?_
  obtain ⟨r1, M2, f3, h⟩ := zbi_e h
  refine z_qSi (As := [.int p0, .int (1 : Int32), .int (6 : Int32)]) (rest := []) X hw (kX8_in l D cy a p0 (1 : Int32) (6 : Int32) M r1 M2 f3) (cwX8_56 X.2.2.2.2.2.1 rfl rfl (zroomO (Nat.le_of_ble_eq_true rfl) (Nat.le_of_ble_eq_true rfl))) rfl rfl (Nat.le_of_ble_eq_true rfl) hl.1 hcs dX8_told_4 (fun H locs hw => ?_)
  refine lv_if_eq (tgt := 19) hx hb dX8_told_7 (by decide) (fun c4 => ?_) (fun c4 => ?_)
  · replace h := zif_t c4 h
    refine lv_aload_n hx hb dX8_told_19 rfl (lv_at hl 0 rfl) ?_
    refine lv_iconst (v := 1) hx hb dX8_told_20 (by decide) ?_
    obtain ⟨r5, M6, f7, h⟩ := zbi_e h
    refine z_qVi (As := [.int (1 : Int32)]) (rest := []) X hw (kX8_error l D cy a (1 : Int32) M2 r5 M6 f7) (cwX8_76 X.2.2.2.2.2.1 rfl rfl (zroomO (Nat.le_of_ble_eq_true rfl) (Nat.le_of_ble_eq_true rfl))) (zX8_lt (rfl : zX8 87)) (zS8 (rfl : zX8 87) cy a (M2 87)) rfl rfl rfl (Nat.le_of_ble_eq_true rfl) hl.1 hcs dX8_told_21 (fun H locs hw => ?_)
    exact z_ri X hw (zret h) dX8_told_24
  · replace h := zif_f c4 h
    refine lv_aload_n hx hb dX8_told_10 rfl (lv_at hl 0 rfl) ?_
    refine gtX8_19 X hw dX8_told_11 ?_
    refine lv_iload_n hx hb dX8_told_14 rfl (lv_at hl 1 rfl) ?_
    obtain ⟨g8, h⟩ := zgd_e h
    refine z_ald X hw zI_91 g8 dX8_told_15 ?_
    refine lv_goto (tgt := 24) hx hb dX8_told_16 (by decide) ?_
    exact z_ri X hw (zret h) dX8_told_24
