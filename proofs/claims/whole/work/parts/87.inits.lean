def nc6 (cy : Nat → ClassId) (q : Nat → Nat) : va_W := [(q 0, .inr (6, [.int 0, .int 0, .int 0, .int 0, .int 0, .int 0, .int 0, .int 0, .int 0]))]
def nc2 (cy : Nat → ClassId) (q : Nat → Nat) : va_W := [(q 2, .inl (cy 0, 60, .inl (fun _ => 0))), (q 1, .inl (cy 0, 60, .inl (fun _ => 0))), (q 0, .inr (2, [.ref (q 1), .ref (q 2), .int 0]))]
def nc1 (cy : Nat → ClassId) (q : Nat → Nat) : va_W := [(q 2, .inl (cy 0, 24, .inl (fun _ => 0))), (q 1, .inl (cy 1, 60, .inl (fun _ => 0))), (q 0, .inr (1, [.ref (q 1), .ref (q 2), .int 0, .int 0]))]
def nc3 (cy : Nat → ClassId) (q : Nat → Nat) : va_W := [(q 2, .inl (cy 0, 60, .inl (fun _ => 0))), (q 1, .inl (cy 0, 60, .inl (fun _ => 0))), (q 0, .inr (3, [.ref (q 1), .ref (q 2), .int 0, .int 0, .int 0, .int 0, .int 0, .int 0]))]
def nc5 (cy : Nat → ClassId) (q : Nat → Nat) : va_W := [(q 1, .inl (cy 0, 30, .inl (fun _ => 0))), (q 0, .inr (5, [.ref (q 1), .int 0, .int 0, .int 0, .int 0, .int 0]))]
def nc4 (cy : Nat → ClassId) (q : Nat → Nat) : va_W := [(q 3, .inl (cy 0, 4, .inl (fun _ => 0))), (q 2, .inl (cy 0, 4, .inl (fun _ => 0))), (q 1, .inl (cy 3, 4, .inr (.inr (.inr (.inr (fun i => if i < 4 then some (q (4 + i)) else none)))))), (q 4, .inl (cy 0, 24, .inl (fun _ => 0))), (q 5, .inl (cy 0, 24, .inl (fun _ => 0))), (q 6, .inl (cy 0, 24, .inl (fun _ => 0))), (q 7, .inl (cy 0, 24, .inl (fun _ => 0))), (q 0, .inr (4, [.ref (q 1), .ref (q 2), .ref (q 3)]))]
def nc0 (cy : Nat → ClassId) (q : Nat → Nat) : va_W := [(q 15, .inr (6, [.int 0, .int 0, .int 0, .int 0, .int 0, .int 0, .int 0, .int 0, .int 0])), (q 14, .inr (6, [.int 0, .int 0, .int 0, .int 0, .int 0, .int 0, .int 0, .int 0, .int 0])), (q 13, .inr (6, [.int 0, .int 0, .int 0, .int 0, .int 0, .int 0, .int 0, .int 0, .int 0])), (q 12, .inr (6, [.int 0, .int 0, .int 0, .int 0, .int 0, .int 0, .int 0, .int 0, .int 0])), (q 11, .inr (6, [.int 0, .int 0, .int 0, .int 0, .int 0, .int 0, .int 0, .int 0, .int 0])), (q 10, .inr (6, [.int 0, .int 0, .int 0, .int 0, .int 0, .int 0, .int 0, .int 0, .int 0])), (q 9, .inr (6, [.int 0, .int 0, .int 0, .int 0, .int 0, .int 0, .int 0, .int 0, .int 0])), (q 8, .inr (6, [.int 0, .int 0, .int 0, .int 0, .int 0, .int 0, .int 0, .int 0, .int 0])), (q 7, .inl (cy 0, 12, .inl (fun _ => 0))), (q 6, .inl (cy 0, 4, .inl (fun _ => 0)))] ++ (nc2 cy (fun o => q (19 + o)) ++ (nc2 cy (fun o => q (16 + o)) ++ ([(q 5, .inl (cy 2, 8, .inr (.inr (.inr (.inr (fun i => if i < 8 then some (q (8 + i)) else none)))))), (q 4, .inl (cy 0, 5, .inl (fun _ => 0))), (q 3, .inl (cy 0, 5, .inl (fun _ => 0))), (q 2, .inl (cy 0, 12, .inl (fun _ => 0))), (q 1, .inl (cy 0, 24, .inl (fun j => if j < 24 then 30 else 0))), (q 0, .inr (0, [.ref (q 1), .ref (q 2), .ref (q 3), .ref (q 4), .ref (q 5), .ref (q 16), .ref (q 19), .ref (q 6), .ref (q 7), .int 0, .int 0, .int 0, .int 1, .int 0, .int 0]))])))
def nc7 (cy : Nat → ClassId) (q : Nat → Nat) : va_W := [(q 86, .inl (cy 0, 7, .inl (fun _ => 0)))] ++ (nc4 cy (fun o => q (78 + o)) ++ (nc5 cy (fun o => q (76 + o)) ++ (nc3 cy (fun o => q (73 + o)) ++ (nc1 cy (fun o => q (70 + o)) ++ (nc1 cy (fun o => q (67 + o)) ++ (nc0 cy (fun o => q (45 + o)) ++ (nc0 cy (fun o => q (23 + o)) ++ (nc0 cy (fun o => q (1 + o)) ++ ([(q 0, .inr (7, [.ref (q 1), .ref (q 23), .ref (q 45), .ref (q 67), .ref (q 70), .ref (q 73), .ref (q 76), .ref (q 78), .ref (q 86), .int 0]))])))))))))
def nc8 (cy : Nat → ClassId) (q : Nat → Nat) : va_W := [(q 15, .inl (cy 0, 24, .inl (fun _ => 0))), (q 14, .inl (cy 0, 96, .inl (fun _ => 0))), (q 13, .inl (cy 0, 4, .inl (fun _ => 0))), (q 12, .inl (cy 0, 4, .inl (fun _ => 0))), (q 11, .inl (cy 0, 30, .inl (fun _ => 0))), (q 10, .inl (cy 0, 9, .inl (fun _ => 0))), (q 9, .inl (cy 0, 9, .inl (fun _ => 0))), (q 8, .inl (cy 0, 13, .inl (fun _ => 0))), (q 7, .inl (cy 0, 64, .inl (fun _ => 0))), (q 6, .inl (cy 0, 128, .inl (fun _ => 0))), (q 5, .inl (cy 0, 124, .inl (fun _ => 0))), (q 4, .inl (cy 0, 7, .inl (fun _ => 0))), (q 3, .inl (cy 0, 449, .inl (fun _ => 0))), (q 2, .inl (cy 0, 449, .inl (fun _ => 0))), (q 1, .inl (cy 0, 449, .inl (fun j => if j = 5 then 1 else if 6 ≤ j ∧ j < 6 + 24 then 30 else 0))), (q 0, .inr (8, [.ref (q 1), .ref (q 2), .ref (q 3), .int 0, .ref (q 4), .int 0, .int 0, .int 0, .int 0, .ref (q 5), .ref (q 6), .ref (q 7), .ref (q 8), .ref (q 9), .int 0, .int 0, .ref (q 10), .int 0, .int 0, .ref (q 11), .int 0, .int 0, .int 0, .ref (q 12), .ref (q 13), .ref (q 14), .ref (q 15)]))]
theorem nc2_cg {cy : Nat → ClassId} {q q2 : Nat → Nat} (h : ∀ o, o < 3 → q o = q2 o) : nc2 cy q = nc2 cy q2 := by
  unfold nc2
  rw [h (0) (by omega), h (1) (by omega), h (2) (by omega)]
theorem nc1_cg {cy : Nat → ClassId} {q q2 : Nat → Nat} (h : ∀ o, o < 3 → q o = q2 o) : nc1 cy q = nc1 cy q2 := by
  unfold nc1
  rw [h (0) (by omega), h (1) (by omega), h (2) (by omega)]
theorem nc3_cg {cy : Nat → ClassId} {q q2 : Nat → Nat} (h : ∀ o, o < 3 → q o = q2 o) : nc3 cy q = nc3 cy q2 := by
  unfold nc3
  rw [h (0) (by omega), h (1) (by omega), h (2) (by omega)]
theorem nc5_cg {cy : Nat → ClassId} {q q2 : Nat → Nat} (h : ∀ o, o < 2 → q o = q2 o) : nc5 cy q = nc5 cy q2 := by
  unfold nc5
  rw [h (0) (by omega), h (1) (by omega)]
theorem nc4_cg {cy : Nat → ClassId} {q q2 : Nat → Nat} (h : ∀ o, o < 8 → q o = q2 o) : nc4 cy q = nc4 cy q2 := by
  have e0 : (fun i => if i < 4 then some (q (4 + i)) else none) = (fun i => if i < 4 then some (q2 (4 + i)) else none) := funext fun i => by
    by_cases c : i < 4
    · rw [if_pos c, if_pos c, h _ (by omega)]
    · rw [if_neg c, if_neg c]
  unfold nc4
  rw [e0, h (0) (by omega), h (1) (by omega), h (2) (by omega), h (3) (by omega), h (4) (by omega), h (5) (by omega), h (6) (by omega), h (7) (by omega)]
theorem nc0_cg {cy : Nat → ClassId} {q q2 : Nat → Nat} (h : ∀ o, o < 22 → q o = q2 o) : nc0 cy q = nc0 cy q2 := by
  have e0 : (fun i => if i < 8 then some (q (8 + i)) else none) = (fun i => if i < 8 then some (q2 (8 + i)) else none) := funext fun i => by
    by_cases c : i < 8
    · rw [if_pos c, if_pos c, h _ (by omega)]
    · rw [if_neg c, if_neg c]
  unfold nc0
  rw [e0, nc2_cg (q := fun o => q (19 + o)) (q2 := fun o => q2 (19 + o)) (fun o ho => h _ (by omega)), nc2_cg (q := fun o => q (16 + o)) (q2 := fun o => q2 (16 + o)) (fun o ho => h _ (by omega)), h 0 (by omega), h 1 (by omega), h 2 (by omega), h 3 (by omega), h 4 (by omega), h 5 (by omega), h 6 (by omega), h 7 (by omega), h 8 (by omega), h 9 (by omega), h 10 (by omega), h 11 (by omega), h 12 (by omega), h 13 (by omega), h 14 (by omega), h 15 (by omega), h 16 (by omega), h 19 (by omega)]
section ZFILL
variable {p : Program} {l : Launch} {e : Env} {R : Room} {s : State} {m : MethodId} {args : Array Value} {below : List Frame} {meth : Method} {c : Code} {cells slots : Nat} {Q : State → Prop} {D : va_G} {cy : Nat → ClassId} {A : Nat → Prop}
theorem n24 {i : Nat} (h : i < 24) : ¬ (24 : Int32) ≤ nI i := by
  rw [zle', znT (by omega)]
  have : (24 : Int32).toInt = 24 := rfl
  omega
theorem nX0_fill (X : zCX p s m meth c args cX0_init 2 none RX0) (ws : (Nat → Int32) → va_W) (q0 qd h d : Nat) (fs : List Value) (h0 : ∀ f, (ws f)[q0]? = some (h, .inr (0, fs))) (h1 : fs[0]? = some (.ref d)) (h2 : ∀ f, (ws f)[qd]? = some (d, .inl (cy 0, 24, .inl f))) (h3 : ∀ f g, (ws f).set qd (d, .inl (cy 0, 24, .inl g)) = ws g) :
    ∀ (n i : Nat), i + n = 24 → ∀ (H : Heap) (locs : List Loc) (ls : Array Slot), zNW D cy A (ws (fun j => if j < i then 30 else 0)) H locs s → lv_has ls 2 [(0, .ref h), (1, .int (nI i))] →
    (∀ (H : Heap) (locs : List Loc) (ls : Array Slot), zNW D cy A (ws (fun j => if j < 24 then 30 else 0)) H locs s → lv_has ls 2 [(0, .ref h)] → W p l e R s m args below meth c H locs cells slots Q (F0 m 107 ls [])) →
    W p l e R s m args below meth c H locs cells slots Q (F0 m 87 ls []) := by
  obtain ⟨hx, hb, hr, hml, hown, hW, hlocks⟩ := id X
  intro n
  induction n with
  | zero =>
    intro i hi H locs ls hw hl hk
    have hi : i = 24 := hi
    subst hi
    refine lv_iload_n hx hb dX0_init_87 rfl (lv_at hl 1 rfl) ?_
    refine lv_bipush (v := 24) hx hb dX0_init_88 (by decide) ?_
    refine lv_icmp_ge (tgt := 107) hx hb dX0_init_90 (by decide) (fun c1 => ?_) (fun c1 => ?_)
    · exact hk H locs ls hw (lv_sub hl [0] rfl)
    · exact absurd (show (24 : Int32) ≤ nI 24 by decide) c1
  | succ n ih =>
    intro i hi H locs ls hw hl hk
    have hlt : i < 24 := by omega
    refine lv_iload_n hx hb dX0_init_87 rfl (lv_at hl 1 rfl) ?_
    refine lv_bipush (v := 24) hx hb dX0_init_88 (by decide) ?_
    refine lv_icmp_ge (tgt := 107) hx hb dX0_init_90 (by decide) (fun c1 => ?_) (fun c1 => ?_)
    · exact absurd c1 (n24 hlt)
    · refine lv_aload_n hx hb dX0_init_93 rfl (lv_at hl 0 rfl) ?_
      refine zn_get (C := RX0) (T := TX0) (N := 15) (ref := "WheelBrook$Brook") q0 X hw inlX0 (h0 _) rfl 0 (by decide) zm_2_18 (fun _ h9 => h9) h1 dX0_init_94 ?_
      refine lv_iload_n hx hb dX0_init_97 rfl (lv_at hl 1 rfl) ?_
      refine lv_bipush (v := 30) hx hb dX0_init_98 (by decide) ?_
      refine zn_iast qd X hw (h2 _) (zgi rfl hlt (by omega)) dX0_init_100 (fun H locs hw => ?_)
      rw [h3, zcn (by omega)] at hw
      have ef : upd (fun j => if j < i then (30 : Int32) else 0) i 30 = fun j => if j < i + 1 then 30 else 0 := funext fun j => by
        rw [upd_a]
        by_cases h : j = i
        · rw [if_pos h, if_pos (by omega)]
        · rw [if_neg h]
          by_cases h' : j < i
          · rw [if_pos h', if_pos (by omega)]
          · rw [if_neg h', if_neg (by omega)]
      rw [ef] at hw
      refine lv_iinc (v := nI (i + 1)) (lv' := [(1, .int (nI (i + 1))), (0, .ref h)]) hx hb dX0_init_101 hl (k := 1) rfl (nI_1 i) (by decide) rfl (fun ls hl => ?_)
      refine lv_goto (tgt := 87) hx hb dX0_init_104 (by decide) ?_
      exact ih (i + 1) (by omega) H locs ls hw (lv_sub hl [1, 0] rfl) hk
def rfl8 (i : Nat) : Nat → Int32 := fun j => if j = 5 then 1 else if 6 ≤ j ∧ j < 6 + i then 30 else 0
theorem nX8_fill (X : zCX p s m meth c args cX8_init 2 none RX8) (ws : (Nat → Int32) → va_W) (q0 qd h d : Nat) (fs : List Value) (h0 : ∀ f, (ws f)[q0]? = some (h, .inr (8, fs))) (h1 : fs[0]? = some (.ref d)) (h2 : ∀ f, (ws f)[qd]? = some (d, .inl (cy 0, 449, .inl f))) (h3 : ∀ f g, (ws f).set qd (d, .inl (cy 0, 449, .inl g)) = ws g) :
    ∀ (n i : Nat), i + n = 24 → ∀ (H : Heap) (locs : List Loc) (ls : Array Slot), zNW D cy A (ws (rfl8 i)) H locs s → lv_has ls 2 [(0, .ref h), (1, .int (nI i))] →
    (∀ (H : Heap) (locs : List Loc) (ls : Array Slot), zNW D cy A (ws (rfl8 24)) H locs s → W p l e R s m args below meth c H locs cells slots Q (F0 m 158 ls [])) →
    W p l e R s m args below meth c H locs cells slots Q (F0 m 135 ls []) := by
  obtain ⟨hx, hb, hr, hml, hown, hW, hlocks⟩ := id X
  intro n
  induction n with
  | zero =>
    intro i hi H locs ls hw hl hk
    have hi : i = 24 := hi
    subst hi
    refine lv_iload_n hx hb dX8_init_135 rfl (lv_at hl 1 rfl) ?_
    refine lv_bipush (v := 24) hx hb dX8_init_136 (by decide) ?_
    refine lv_icmp_ge (tgt := 158) hx hb dX8_init_138 (by decide) (fun c1 => ?_) (fun c1 => ?_)
    · exact hk H locs ls hw
    · exact absurd (show (24 : Int32) ≤ nI 24 by decide) c1
  | succ n ih =>
    intro i hi H locs ls hw hl hk
    have hlt : i < 24 := by omega
    refine lv_iload_n hx hb dX8_init_135 rfl (lv_at hl 1 rfl) ?_
    refine lv_bipush (v := 24) hx hb dX8_init_136 (by decide) ?_
    refine lv_icmp_ge (tgt := 158) hx hb dX8_init_138 (by decide) (fun c1 => ?_) (fun c1 => ?_)
    · exact absurd c1 (n24 hlt)
    · refine lv_aload_n hx hb dX8_init_141 rfl (lv_at hl 0 rfl) ?_
      refine zn_get (C := RX8) (T := TX8) (N := 27) (ref := "WheelBrookModel") q0 X hw inlX8 (h0 _) rfl 0 (by decide) zm_4_20 (fun _ h9 => h9) h1 dX8_init_142 ?_
      refine lv_bipush (v := 6) hx hb dX8_init_145 (by decide) ?_
      refine lv_iload_n hx hb dX8_init_147 rfl (lv_at hl 1 rfl) ?_
      refine lv_iadd hx hb dX8_init_148 ?_
      refine lv_bipush (v := 30) hx hb dX8_init_149 (by decide) ?_
      have e6 : (6 : Int32) + nI i = nI (6 + i) := nI_add 6 i
      refine zn_iast qd X hw (h2 _) (zgi e6 (show 6 + i < 449 by omega) (by omega)) dX8_init_151 (fun H locs hw => ?_)
      rw [h3, e6, zcn (by omega)] at hw
      have ef : upd (rfl8 i) (6 + i) 30 = rfl8 (i + 1) := funext fun j => by
        rw [upd_a]
        unfold rfl8
        by_cases h : j = 6 + i
        · rw [if_pos h, if_neg (by omega), if_pos (by omega)]
        · rw [if_neg h]
          by_cases h5 : j = 5
          · rw [if_pos h5, if_pos h5]
          · rw [if_neg h5, if_neg h5]
            by_cases h' : 6 ≤ j ∧ j < 6 + i
            · rw [if_pos h', if_pos (by omega)]
            · rw [if_neg h', if_neg (by omega)]
      rw [ef] at hw
      refine lv_iinc (v := nI (i + 1)) (lv' := [(1, .int (nI (i + 1))), (0, .ref h)]) hx hb dX8_init_152 hl (k := 1) rfl (nI_1 i) (by decide) rfl (fun ls hl => ?_)
      refine lv_goto (tgt := 135) hx hb dX8_init_155 (by decide) ?_
      exact ih (i + 1) (by omega) H locs ls hw (lv_sub hl [1, 0] rfl) hk
end ZFILL
set_option maxHeartbeats 4000000 in
set_option maxRecDepth 100000 in
theorem kX6_init (l : Launch) (D : va_G) (cy : Nat → ClassId) : zNC l D cy yX6_init cX6_init 1 ({ frames := 1, cells := 0, slots := 0, locals := 12 }) 6 [.int 0, .int 0, .int 0, .int 0, .int 0, .int 0, .int 0, .int 0, .int 0] (nc6 cy) 0 0 := by
  refine zNent (by decide) (by decide) ?_
  intro p e s m args below meth c ls h R X hi2 hX hw hl
  obtain ⟨hx, hb, hr, hml, hown, hW, hlocks⟩ := id X
  refine lv_aload_n hx hb dX6_init_0 rfl (lv_at hl 0 rfl) ?_
  refine zn_obj X zm_3_17 hl.1 (by decide) (by decide) dX6_init_1 ?_
  have qe : ∃ Q : Nat → Nat, Q = (fun o => [h].getD o 0) := ⟨_, rfl⟩
  obtain ⟨Q, eQ⟩ := qe
  subst eQ
  exact zn_ret (cs := nc6 cy) (fun o => [h].getD o 0) X hw rfl dX6_init_4
set_option maxHeartbeats 4000000 in
set_option maxRecDepth 100000 in
theorem kX2_init (l : Launch) (D : va_G) (cy : Nat → ClassId) : zNC l D cy yX2_init cX2_init 1 ({ frames := 1, cells := 2, slots := 120, locals := 12 }) 2 [.null, .null, .int 0] (nc2 cy) 2 120 := by
  refine zNent (by decide) (by decide) ?_
  intro p e s m args below meth c ls h R X hi2 hX hw hl
  obtain ⟨hx, hb, hr, hml, hown, hW, hlocks⟩ := id X
  refine lv_aload_n hx hb dX2_init_0 rfl (lv_at hl 0 rfl) ?_
  refine zn_obj X zm_3_12 hl.1 (by decide) (by decide) dX2_init_1 ?_
  refine lv_aload_n hx hb dX2_init_4 rfl (lv_at hl 0 rfl) ?_
  refine lv_bipush (v := 60) hx hb dX2_init_5 (by decide) ?_
  refine zn_newI 60 X hw zm_2_12 (by decide) (by decide) (by decide) (by decide) (by decide) dX2_init_7 (fun q0 H hw => ?_)
  have hw : zNW D cy _ ((q0, .inl (cy 0, 60, .inl (fun _ => 0))) :: (h, .inr (2, [.null, .null, .int 0])) :: R) H _ s := hw
  refine zn_putF (C := RX2) (T := TX2) (N := 3) (ref := "WheelBrook$Law") (ty := (.array .int)) (ci := 2) (fs := [.null, .null, .int 0]) (v := .ref q0) (a := h) 1 X hi2 hw inlX2 tyX2 tyX2_ok nmX2 rfl rfl 0 (by decide) zm_3_13 (fun _ h9 => h9) rfl rfl (by decide +kernel) rfl rfl (Nat.le_of_ble_eq_true rfl) dX2_init_9 (fun H locs hw => ?_)
  have hw : zNW D cy _ ((q0, .inl (cy 0, 60, .inl (fun _ => 0))) :: (h, .inr (2, [.ref q0, .null, .int 0])) :: R) H _ s := hw
  refine lv_aload_n hx hb dX2_init_12 rfl (lv_at hl 0 rfl) ?_
  refine lv_bipush (v := 60) hx hb dX2_init_13 (by decide) ?_
  refine zn_newI 60 X hw zm_2_12 (by decide) (by decide) (by decide) (by decide) (by decide) dX2_init_15 (fun q1 H hw => ?_)
  have hw : zNW D cy _ ((q1, .inl (cy 0, 60, .inl (fun _ => 0))) :: (q0, .inl (cy 0, 60, .inl (fun _ => 0))) :: (h, .inr (2, [.ref q0, .null, .int 0])) :: R) H _ s := hw
  refine zn_putF (C := RX2) (T := TX2) (N := 3) (ref := "WheelBrook$Law") (ty := (.array .int)) (ci := 2) (fs := [.ref q0, .null, .int 0]) (v := .ref q1) (a := h) 2 X hi2 hw inlX2 tyX2 tyX2_ok nmX2 rfl rfl 1 (by decide) zm_3_14 (fun _ h9 => h9) rfl rfl (by decide +kernel) rfl rfl (Nat.le_of_ble_eq_true rfl) dX2_init_17 (fun H locs hw => ?_)
  have hw : zNW D cy _ ((q1, .inl (cy 0, 60, .inl (fun _ => 0))) :: (q0, .inl (cy 0, 60, .inl (fun _ => 0))) :: (h, .inr (2, [.ref q0, .ref q1, .int 0])) :: R) H _ s := hw
  have qe : ∃ Q : Nat → Nat, Q = (fun o => [h, q0, q1].getD o 0) := ⟨_, rfl⟩
  obtain ⟨Q, eQ⟩ := qe
  subst eQ
  exact zn_ret (cs := nc2 cy) (fun o => [h, q0, q1].getD o 0) X hw rfl dX2_init_20
set_option maxHeartbeats 4000000 in
set_option maxRecDepth 100000 in
theorem kX1_init (l : Launch) (D : va_G) (cy : Nat → ClassId) : zNC l D cy yX1_init cX1_init 1 ({ frames := 1, cells := 2, slots := 84, locals := 12 }) 1 [.null, .null, .int 0, .int 0] (nc1 cy) 2 84 := by
  refine zNent (by decide) (by decide) ?_
  intro p e s m args below meth c ls h R X hi2 hX hw hl
  obtain ⟨hx, hb, hr, hml, hown, hW, hlocks⟩ := id X
  refine lv_aload_n hx hb dX1_init_0 rfl (lv_at hl 0 rfl) ?_
  refine zn_obj X zm_3_20 hl.1 (by decide) (by decide) dX1_init_1 ?_
  refine lv_aload_n hx hb dX1_init_4 rfl (lv_at hl 0 rfl) ?_
  refine lv_bipush (v := 60) hx hb dX1_init_5 (by decide) ?_
  refine zn_newB 60 X hw zm_3_21 (by decide) (by decide) (by decide) (by decide) (by decide) dX1_init_7 (fun q0 H hw => ?_)
  have hw : zNW D cy _ ((q0, .inl (cy 1, 60, .inl (fun _ => 0))) :: (h, .inr (1, [.null, .null, .int 0, .int 0])) :: R) H _ s := hw
  refine zn_putF (C := RX1) (T := TX1) (N := 4) (ref := "WheelBrook$Desk") (ty := (.array .byte)) (ci := 1) (fs := [.null, .null, .int 0, .int 0]) (v := .ref q0) (a := h) 1 X hi2 hw inlX1 tyX1 tyX1_ok nmX1 rfl rfl 0 (by decide) zm_3_22 (fun _ h9 => h9) rfl rfl (by decide +kernel) rfl rfl (Nat.le_of_ble_eq_true rfl) dX1_init_9 (fun H locs hw => ?_)
  have hw : zNW D cy _ ((q0, .inl (cy 1, 60, .inl (fun _ => 0))) :: (h, .inr (1, [.ref q0, .null, .int 0, .int 0])) :: R) H _ s := hw
  refine lv_aload_n hx hb dX1_init_12 rfl (lv_at hl 0 rfl) ?_
  refine lv_bipush (v := 24) hx hb dX1_init_13 (by decide) ?_
  refine zn_newI 24 X hw zm_2_12 (by decide) (by decide) (by decide) (by decide) (by decide) dX1_init_15 (fun q1 H hw => ?_)
  have hw : zNW D cy _ ((q1, .inl (cy 0, 24, .inl (fun _ => 0))) :: (q0, .inl (cy 1, 60, .inl (fun _ => 0))) :: (h, .inr (1, [.ref q0, .null, .int 0, .int 0])) :: R) H _ s := hw
  refine zn_putF (C := RX1) (T := TX1) (N := 4) (ref := "WheelBrook$Desk") (ty := (.array .int)) (ci := 1) (fs := [.ref q0, .null, .int 0, .int 0]) (v := .ref q1) (a := h) 2 X hi2 hw inlX1 tyX1 tyX1_ok nmX1 rfl rfl 1 (by decide) zm_3_23 (fun _ h9 => h9) rfl rfl (by decide +kernel) rfl rfl (Nat.le_of_ble_eq_true rfl) dX1_init_17 (fun H locs hw => ?_)
  have hw : zNW D cy _ ((q1, .inl (cy 0, 24, .inl (fun _ => 0))) :: (q0, .inl (cy 1, 60, .inl (fun _ => 0))) :: (h, .inr (1, [.ref q0, .ref q1, .int 0, .int 0])) :: R) H _ s := hw
  have qe : ∃ Q : Nat → Nat, Q = (fun o => [h, q0, q1].getD o 0) := ⟨_, rfl⟩
  obtain ⟨Q, eQ⟩ := qe
  subst eQ
  exact zn_ret (cs := nc1 cy) (fun o => [h, q0, q1].getD o 0) X hw rfl dX1_init_20
set_option maxHeartbeats 4000000 in
set_option maxRecDepth 100000 in
theorem kX3_init (l : Launch) (D : va_G) (cy : Nat → ClassId) : zNC l D cy yX3_init cX3_init 1 ({ frames := 1, cells := 2, slots := 120, locals := 12 }) 3 [.null, .null, .int 0, .int 0, .int 0, .int 0, .int 0, .int 0] (nc3 cy) 2 120 := by
  refine zNent (by decide) (by decide) ?_
  intro p e s m args below meth c ls h R X hi2 hX hw hl
  obtain ⟨hx, hb, hr, hml, hown, hW, hlocks⟩ := id X
  refine lv_aload_n hx hb dX3_init_0 rfl (lv_at hl 0 rfl) ?_
  refine zn_obj X zm_4_2 hl.1 (by decide) (by decide) dX3_init_1 ?_
  refine lv_aload_n hx hb dX3_init_4 rfl (lv_at hl 0 rfl) ?_
  refine lv_bipush (v := 60) hx hb dX3_init_5 (by decide) ?_
  refine zn_newI 60 X hw zm_2_12 (by decide) (by decide) (by decide) (by decide) (by decide) dX3_init_7 (fun q0 H hw => ?_)
  have hw : zNW D cy _ ((q0, .inl (cy 0, 60, .inl (fun _ => 0))) :: (h, .inr (3, [.null, .null, .int 0, .int 0, .int 0, .int 0, .int 0, .int 0])) :: R) H _ s := hw
  refine zn_putF (C := RX3) (T := TX3) (N := 8) (ref := "WheelBrook$Reader") (ty := (.array .int)) (ci := 3) (fs := [.null, .null, .int 0, .int 0, .int 0, .int 0, .int 0, .int 0]) (v := .ref q0) (a := h) 1 X hi2 hw inlX3 tyX3 tyX3_ok nmX3 rfl rfl 0 (by decide) zm_4_3 (fun _ h9 => h9) rfl rfl (by decide +kernel) rfl rfl (Nat.le_of_ble_eq_true rfl) dX3_init_9 (fun H locs hw => ?_)
  have hw : zNW D cy _ ((q0, .inl (cy 0, 60, .inl (fun _ => 0))) :: (h, .inr (3, [.ref q0, .null, .int 0, .int 0, .int 0, .int 0, .int 0, .int 0])) :: R) H _ s := hw
  refine lv_aload_n hx hb dX3_init_12 rfl (lv_at hl 0 rfl) ?_
  refine lv_bipush (v := 60) hx hb dX3_init_13 (by decide) ?_
  refine zn_newI 60 X hw zm_2_12 (by decide) (by decide) (by decide) (by decide) (by decide) dX3_init_15 (fun q1 H hw => ?_)
  have hw : zNW D cy _ ((q1, .inl (cy 0, 60, .inl (fun _ => 0))) :: (q0, .inl (cy 0, 60, .inl (fun _ => 0))) :: (h, .inr (3, [.ref q0, .null, .int 0, .int 0, .int 0, .int 0, .int 0, .int 0])) :: R) H _ s := hw
  refine zn_putF (C := RX3) (T := TX3) (N := 8) (ref := "WheelBrook$Reader") (ty := (.array .int)) (ci := 3) (fs := [.ref q0, .null, .int 0, .int 0, .int 0, .int 0, .int 0, .int 0]) (v := .ref q1) (a := h) 2 X hi2 hw inlX3 tyX3 tyX3_ok nmX3 rfl rfl 1 (by decide) zm_4_4 (fun _ h9 => h9) rfl rfl (by decide +kernel) rfl rfl (Nat.le_of_ble_eq_true rfl) dX3_init_17 (fun H locs hw => ?_)
  have hw : zNW D cy _ ((q1, .inl (cy 0, 60, .inl (fun _ => 0))) :: (q0, .inl (cy 0, 60, .inl (fun _ => 0))) :: (h, .inr (3, [.ref q0, .ref q1, .int 0, .int 0, .int 0, .int 0, .int 0, .int 0])) :: R) H _ s := hw
  have qe : ∃ Q : Nat → Nat, Q = (fun o => [h, q0, q1].getD o 0) := ⟨_, rfl⟩
  obtain ⟨Q, eQ⟩ := qe
  subst eQ
  exact zn_ret (cs := nc3 cy) (fun o => [h, q0, q1].getD o 0) X hw rfl dX3_init_20
set_option maxHeartbeats 4000000 in
set_option maxRecDepth 100000 in
theorem kX5_init (l : Launch) (D : va_G) (cy : Nat → ClassId) : zNC l D cy yX5_init cX5_init 1 ({ frames := 1, cells := 1, slots := 30, locals := 12 }) 5 [.null, .int 0, .int 0, .int 0, .int 0, .int 0] (nc5 cy) 1 30 := by
  refine zNent (by decide) (by decide) ?_
  intro p e s m args below meth c ls h R X hi2 hX hw hl
  obtain ⟨hx, hb, hr, hml, hown, hW, hlocks⟩ := id X
  refine lv_aload_n hx hb dX5_init_0 rfl (lv_at hl 0 rfl) ?_
  refine zn_obj X zm_4_7 hl.1 (by decide) (by decide) dX5_init_1 ?_
  refine lv_aload_n hx hb dX5_init_4 rfl (lv_at hl 0 rfl) ?_
  refine lv_bipush (v := 30) hx hb dX5_init_5 (by decide) ?_
  refine zn_newI 30 X hw zm_2_12 (by decide) (by decide) (by decide) (by decide) (by decide) dX5_init_7 (fun q0 H hw => ?_)
  have hw : zNW D cy _ ((q0, .inl (cy 0, 30, .inl (fun _ => 0))) :: (h, .inr (5, [.null, .int 0, .int 0, .int 0, .int 0, .int 0])) :: R) H _ s := hw
  refine zn_putF (C := RX5) (T := TX5) (N := 6) (ref := "WheelBrook$Speaker") (ty := (.array .int)) (ci := 5) (fs := [.null, .int 0, .int 0, .int 0, .int 0, .int 0]) (v := .ref q0) (a := h) 1 X hi2 hw inlX5 tyX5 tyX5_ok nmX5 rfl rfl 0 (by decide) zm_4_8 (fun _ h9 => h9) rfl rfl (by decide +kernel) rfl rfl (Nat.le_of_ble_eq_true rfl) dX5_init_9 (fun H locs hw => ?_)
  have hw : zNW D cy _ ((q0, .inl (cy 0, 30, .inl (fun _ => 0))) :: (h, .inr (5, [.ref q0, .int 0, .int 0, .int 0, .int 0, .int 0])) :: R) H _ s := hw
  have qe : ∃ Q : Nat → Nat, Q = (fun o => [h, q0].getD o 0) := ⟨_, rfl⟩
  obtain ⟨Q, eQ⟩ := qe
  subst eQ
  exact zn_ret (cs := nc5 cy) (fun o => [h, q0].getD o 0) X hw rfl dX5_init_12
set_option maxHeartbeats 4000000 in
set_option maxRecDepth 100000 in
theorem kX4_init (l : Launch) (D : va_G) (cy : Nat → ClassId) : zNC l D cy yX4_init cX4_init 1 ({ frames := 1, cells := 7, slots := 108, locals := 12 }) 4 [.null, .null, .null] (nc4 cy) 7 108 := by
  refine zNent (by decide) (by decide) ?_
  intro p e s m args below meth c ls h R X hi2 hX hw hl
  obtain ⟨hx, hb, hr, hml, hown, hW, hlocks⟩ := id X
  refine lv_aload_n hx hb dX4_init_0 rfl (lv_at hl 0 rfl) ?_
  refine zn_obj X zm_4_11 hl.1 (by decide) (by decide) dX4_init_1 ?_
  refine lv_aload_n hx hb dX4_init_4 rfl (lv_at hl 0 rfl) ?_
  refine lv_iconst (v := 4) hx hb dX4_init_5 (by decide) ?_
  refine lv_bipush (v := 24) hx hb dX4_init_6 (by decide) ?_
  refine zn_mna X hw zm_4_12 hX zm_2_12 (by decide) (by decide) dX4_init_8 (fun q0 r0 r1 r2 r3 H hw => ?_)
  have hw : zNW D cy _ ((q0, .inl (cy 3, 4, .inr (.inr (.inr (.inr (fun i => if i < 4 then some ([r0, r1, r2, r3].getD i 0) else none)))))) :: (r0, .inl (cy 0, 24, .inl (fun _ => 0))) :: (r1, .inl (cy 0, 24, .inl (fun _ => 0))) :: (r2, .inl (cy 0, 24, .inl (fun _ => 0))) :: (r3, .inl (cy 0, 24, .inl (fun _ => 0))) :: (h, .inr (4, [.null, .null, .null])) :: R) H _ s := hw
  refine zn_putF (C := RX4) (T := TX4) (N := 3) (ref := "WheelBrook$Sheets") (ty := (.array (.array .int))) (ci := 4) (fs := [.null, .null, .null]) (v := .ref q0) (a := h) 5 X hi2 hw inlX4 tyX4 tyX4_ok nmX4 rfl rfl 0 (by decide) zm_4_13 (fun _ h9 => h9) rfl rfl (by decide +kernel) rfl rfl (Nat.le_of_ble_eq_true rfl) dX4_init_12 (fun H locs hw => ?_)
  have hw : zNW D cy _ ((q0, .inl (cy 3, 4, .inr (.inr (.inr (.inr (fun i => if i < 4 then some ([r0, r1, r2, r3].getD i 0) else none)))))) :: (r0, .inl (cy 0, 24, .inl (fun _ => 0))) :: (r1, .inl (cy 0, 24, .inl (fun _ => 0))) :: (r2, .inl (cy 0, 24, .inl (fun _ => 0))) :: (r3, .inl (cy 0, 24, .inl (fun _ => 0))) :: (h, .inr (4, [.ref q0, .null, .null])) :: R) H _ s := hw
  refine lv_aload_n hx hb dX4_init_15 rfl (lv_at hl 0 rfl) ?_
  refine lv_iconst (v := 4) hx hb dX4_init_16 (by decide) ?_
  refine zn_newI 4 X hw zm_2_12 (by decide) (by decide) (by decide) (by decide) (by decide) dX4_init_17 (fun q1 H hw => ?_)
  have hw : zNW D cy _ ((q1, .inl (cy 0, 4, .inl (fun _ => 0))) :: (q0, .inl (cy 3, 4, .inr (.inr (.inr (.inr (fun i => if i < 4 then some ([r0, r1, r2, r3].getD i 0) else none)))))) :: (r0, .inl (cy 0, 24, .inl (fun _ => 0))) :: (r1, .inl (cy 0, 24, .inl (fun _ => 0))) :: (r2, .inl (cy 0, 24, .inl (fun _ => 0))) :: (r3, .inl (cy 0, 24, .inl (fun _ => 0))) :: (h, .inr (4, [.ref q0, .null, .null])) :: R) H _ s := hw
  refine zn_putF (C := RX4) (T := TX4) (N := 3) (ref := "WheelBrook$Sheets") (ty := (.array .int)) (ci := 4) (fs := [.ref q0, .null, .null]) (v := .ref q1) (a := h) 6 X hi2 hw inlX4 tyX4 tyX4_ok nmX4 rfl rfl 1 (by decide) zm_4_14 (fun _ h9 => h9) rfl rfl (by decide +kernel) rfl rfl (Nat.le_of_ble_eq_true rfl) dX4_init_19 (fun H locs hw => ?_)
  have hw : zNW D cy _ ((q1, .inl (cy 0, 4, .inl (fun _ => 0))) :: (q0, .inl (cy 3, 4, .inr (.inr (.inr (.inr (fun i => if i < 4 then some ([r0, r1, r2, r3].getD i 0) else none)))))) :: (r0, .inl (cy 0, 24, .inl (fun _ => 0))) :: (r1, .inl (cy 0, 24, .inl (fun _ => 0))) :: (r2, .inl (cy 0, 24, .inl (fun _ => 0))) :: (r3, .inl (cy 0, 24, .inl (fun _ => 0))) :: (h, .inr (4, [.ref q0, .ref q1, .null])) :: R) H _ s := hw
  refine lv_aload_n hx hb dX4_init_22 rfl (lv_at hl 0 rfl) ?_
  refine lv_iconst (v := 4) hx hb dX4_init_23 (by decide) ?_
  refine zn_newI 4 X hw zm_2_12 (by decide) (by decide) (by decide) (by decide) (by decide) dX4_init_24 (fun q2 H hw => ?_)
  have hw : zNW D cy _ ((q2, .inl (cy 0, 4, .inl (fun _ => 0))) :: (q1, .inl (cy 0, 4, .inl (fun _ => 0))) :: (q0, .inl (cy 3, 4, .inr (.inr (.inr (.inr (fun i => if i < 4 then some ([r0, r1, r2, r3].getD i 0) else none)))))) :: (r0, .inl (cy 0, 24, .inl (fun _ => 0))) :: (r1, .inl (cy 0, 24, .inl (fun _ => 0))) :: (r2, .inl (cy 0, 24, .inl (fun _ => 0))) :: (r3, .inl (cy 0, 24, .inl (fun _ => 0))) :: (h, .inr (4, [.ref q0, .ref q1, .null])) :: R) H _ s := hw
  refine zn_putF (C := RX4) (T := TX4) (N := 3) (ref := "WheelBrook$Sheets") (ty := (.array .int)) (ci := 4) (fs := [.ref q0, .ref q1, .null]) (v := .ref q2) (a := h) 7 X hi2 hw inlX4 tyX4 tyX4_ok nmX4 rfl rfl 2 (by decide) zm_4_15 (fun _ h9 => h9) rfl rfl (by decide +kernel) rfl rfl (Nat.le_of_ble_eq_true rfl) dX4_init_26 (fun H locs hw => ?_)
  have hw : zNW D cy _ ((q2, .inl (cy 0, 4, .inl (fun _ => 0))) :: (q1, .inl (cy 0, 4, .inl (fun _ => 0))) :: (q0, .inl (cy 3, 4, .inr (.inr (.inr (.inr (fun i => if i < 4 then some ([r0, r1, r2, r3].getD i 0) else none)))))) :: (r0, .inl (cy 0, 24, .inl (fun _ => 0))) :: (r1, .inl (cy 0, 24, .inl (fun _ => 0))) :: (r2, .inl (cy 0, 24, .inl (fun _ => 0))) :: (r3, .inl (cy 0, 24, .inl (fun _ => 0))) :: (h, .inr (4, [.ref q0, .ref q1, .ref q2])) :: R) H _ s := hw
  have qe : ∃ Q : Nat → Nat, Q = (fun o => [h, q0, q1, q2, r0, r1, r2, r3].getD o 0) := ⟨_, rfl⟩
  obtain ⟨Q, eQ⟩ := qe
  have hf : (fun i => if i < 4 then some ([r0, r1, r2, r3].getD i 0) else none) = (fun i => if i < 4 then some (Q (4 + i)) else none) := funext fun i => by
    by_cases h : i < 4
    · rw [if_pos h, if_pos h, eQ]
      match i, h with
      | 0, _ => rfl
      | 1, _ => rfl
      | 2, _ => rfl
      | 3, _ => rfl
    · rw [if_neg h, if_neg h]
  rw [hf] at hw
  subst eQ
  exact zn_ret (cs := nc4 cy) (fun o => [h, q0, q1, q2, r0, r1, r2, r3].getD o 0) X hw rfl dX4_init_29
set_option maxHeartbeats 4000000 in
set_option maxRecDepth 100000 in
theorem kX8_init (l : Launch) (D : va_G) (cy : Nat → ClassId) : zNC l D cy yX8_init cX8_init 2 ({ frames := 1, cells := 15, slots := 1859, locals := 12 }) 8 [.null, .null, .null, .int 0, .null, .int 0, .int 0, .int 0, .int 0, .null, .null, .null, .null, .null, .int 0, .int 0, .null, .int 0, .int 0, .null, .int 0, .int 0, .int 0, .null, .null, .null, .null] (nc8 cy) 15 1859 := by
  refine zNent (by decide) (by decide) ?_
  intro p e s m args below meth c ls h R X hi2 hX hw hl
  obtain ⟨hx, hb, hr, hml, hown, hW, hlocks⟩ := id X
  refine lv_aload_n hx hb dX8_init_0 rfl (lv_at hl 0 rfl) ?_
  refine zn_obj X zm_4_19 hl.1 (by decide) (by decide) dX8_init_1 ?_
  refine lv_aload_n hx hb dX8_init_4 rfl (lv_at hl 0 rfl) ?_
  refine lv_sipush (v := 449) hx hb dX8_init_5 (by decide) ?_
  refine zn_newI 449 X hw zm_2_12 (by decide) (by decide) (by decide) (by decide) (by decide) dX8_init_8 (fun q0 H hw => ?_)
  have hw : zNW D cy _ ((q0, .inl (cy 0, 449, .inl (fun _ => 0))) :: (h, .inr (8, [.null, .null, .null, .int 0, .null, .int 0, .int 0, .int 0, .int 0, .null, .null, .null, .null, .null, .int 0, .int 0, .null, .int 0, .int 0, .null, .int 0, .int 0, .int 0, .null, .null, .null, .null])) :: R) H _ s := hw
  refine zn_putF (C := RX8) (T := TX8) (N := 27) (ref := "WheelBrookModel") (ty := (.array .int)) (ci := 8) (fs := [.null, .null, .null, .int 0, .null, .int 0, .int 0, .int 0, .int 0, .null, .null, .null, .null, .null, .int 0, .int 0, .null, .int 0, .int 0, .null, .int 0, .int 0, .int 0, .null, .null, .null, .null]) (v := .ref q0) (a := h) 1 X hi2 hw inlX8 tyX8 tyX8_ok nmX8 rfl rfl 0 (by decide) zm_4_20 (fun _ h9 => h9) rfl rfl (by decide +kernel) rfl rfl (Nat.le_of_ble_eq_true rfl) dX8_init_10 (fun H locs hw => ?_)
  have hw : zNW D cy _ ((q0, .inl (cy 0, 449, .inl (fun _ => 0))) :: (h, .inr (8, [.ref q0, .null, .null, .int 0, .null, .int 0, .int 0, .int 0, .int 0, .null, .null, .null, .null, .null, .int 0, .int 0, .null, .int 0, .int 0, .null, .int 0, .int 0, .int 0, .null, .null, .null, .null])) :: R) H _ s := hw
  refine lv_aload_n hx hb dX8_init_13 rfl (lv_at hl 0 rfl) ?_
  refine lv_sipush (v := 449) hx hb dX8_init_14 (by decide) ?_
  refine zn_newI 449 X hw zm_2_12 (by decide) (by decide) (by decide) (by decide) (by decide) dX8_init_17 (fun q1 H hw => ?_)
  have hw : zNW D cy _ ((q1, .inl (cy 0, 449, .inl (fun _ => 0))) :: (q0, .inl (cy 0, 449, .inl (fun _ => 0))) :: (h, .inr (8, [.ref q0, .null, .null, .int 0, .null, .int 0, .int 0, .int 0, .int 0, .null, .null, .null, .null, .null, .int 0, .int 0, .null, .int 0, .int 0, .null, .int 0, .int 0, .int 0, .null, .null, .null, .null])) :: R) H _ s := hw
  refine zn_putF (C := RX8) (T := TX8) (N := 27) (ref := "WheelBrookModel") (ty := (.array .int)) (ci := 8) (fs := [.ref q0, .null, .null, .int 0, .null, .int 0, .int 0, .int 0, .int 0, .null, .null, .null, .null, .null, .int 0, .int 0, .null, .int 0, .int 0, .null, .int 0, .int 0, .int 0, .null, .null, .null, .null]) (v := .ref q1) (a := h) 2 X hi2 hw inlX8 tyX8 tyX8_ok nmX8 rfl rfl 1 (by decide) zm_4_21 (fun _ h9 => h9) rfl rfl (by decide +kernel) rfl rfl (Nat.le_of_ble_eq_true rfl) dX8_init_19 (fun H locs hw => ?_)
  have hw : zNW D cy _ ((q1, .inl (cy 0, 449, .inl (fun _ => 0))) :: (q0, .inl (cy 0, 449, .inl (fun _ => 0))) :: (h, .inr (8, [.ref q0, .ref q1, .null, .int 0, .null, .int 0, .int 0, .int 0, .int 0, .null, .null, .null, .null, .null, .int 0, .int 0, .null, .int 0, .int 0, .null, .int 0, .int 0, .int 0, .null, .null, .null, .null])) :: R) H _ s := hw
  refine lv_aload_n hx hb dX8_init_22 rfl (lv_at hl 0 rfl) ?_
  refine lv_sipush (v := 449) hx hb dX8_init_23 (by decide) ?_
  refine zn_newI 449 X hw zm_2_12 (by decide) (by decide) (by decide) (by decide) (by decide) dX8_init_26 (fun q2 H hw => ?_)
  have hw : zNW D cy _ ((q2, .inl (cy 0, 449, .inl (fun _ => 0))) :: (q1, .inl (cy 0, 449, .inl (fun _ => 0))) :: (q0, .inl (cy 0, 449, .inl (fun _ => 0))) :: (h, .inr (8, [.ref q0, .ref q1, .null, .int 0, .null, .int 0, .int 0, .int 0, .int 0, .null, .null, .null, .null, .null, .int 0, .int 0, .null, .int 0, .int 0, .null, .int 0, .int 0, .int 0, .null, .null, .null, .null])) :: R) H _ s := hw
  refine zn_putF (C := RX8) (T := TX8) (N := 27) (ref := "WheelBrookModel") (ty := (.array .int)) (ci := 8) (fs := [.ref q0, .ref q1, .null, .int 0, .null, .int 0, .int 0, .int 0, .int 0, .null, .null, .null, .null, .null, .int 0, .int 0, .null, .int 0, .int 0, .null, .int 0, .int 0, .int 0, .null, .null, .null, .null]) (v := .ref q2) (a := h) 3 X hi2 hw inlX8 tyX8 tyX8_ok nmX8 rfl rfl 2 (by decide) zm_4_22 (fun _ h9 => h9) rfl rfl (by decide +kernel) rfl rfl (Nat.le_of_ble_eq_true rfl) dX8_init_28 (fun H locs hw => ?_)
  have hw : zNW D cy _ ((q2, .inl (cy 0, 449, .inl (fun _ => 0))) :: (q1, .inl (cy 0, 449, .inl (fun _ => 0))) :: (q0, .inl (cy 0, 449, .inl (fun _ => 0))) :: (h, .inr (8, [.ref q0, .ref q1, .ref q2, .int 0, .null, .int 0, .int 0, .int 0, .int 0, .null, .null, .null, .null, .null, .int 0, .int 0, .null, .int 0, .int 0, .null, .int 0, .int 0, .int 0, .null, .null, .null, .null])) :: R) H _ s := hw
  refine lv_aload_n hx hb dX8_init_31 rfl (lv_at hl 0 rfl) ?_
  refine lv_bipush (v := 7) hx hb dX8_init_32 (by decide) ?_
  refine zn_newI 7 X hw zm_2_12 (by decide) (by decide) (by decide) (by decide) (by decide) dX8_init_34 (fun q3 H hw => ?_)
  have hw : zNW D cy _ ((q3, .inl (cy 0, 7, .inl (fun _ => 0))) :: (q2, .inl (cy 0, 449, .inl (fun _ => 0))) :: (q1, .inl (cy 0, 449, .inl (fun _ => 0))) :: (q0, .inl (cy 0, 449, .inl (fun _ => 0))) :: (h, .inr (8, [.ref q0, .ref q1, .ref q2, .int 0, .null, .int 0, .int 0, .int 0, .int 0, .null, .null, .null, .null, .null, .int 0, .int 0, .null, .int 0, .int 0, .null, .int 0, .int 0, .int 0, .null, .null, .null, .null])) :: R) H _ s := hw
  refine zn_putF (C := RX8) (T := TX8) (N := 27) (ref := "WheelBrookModel") (ty := (.array .int)) (ci := 8) (fs := [.ref q0, .ref q1, .ref q2, .int 0, .null, .int 0, .int 0, .int 0, .int 0, .null, .null, .null, .null, .null, .int 0, .int 0, .null, .int 0, .int 0, .null, .int 0, .int 0, .int 0, .null, .null, .null, .null]) (v := .ref q3) (a := h) 4 X hi2 hw inlX8 tyX8 tyX8_ok nmX8 rfl rfl 4 (by decide) zm_4_23 (fun _ h9 => h9) rfl rfl (by decide +kernel) rfl rfl (Nat.le_of_ble_eq_true rfl) dX8_init_36 (fun H locs hw => ?_)
  have hw : zNW D cy _ ((q3, .inl (cy 0, 7, .inl (fun _ => 0))) :: (q2, .inl (cy 0, 449, .inl (fun _ => 0))) :: (q1, .inl (cy 0, 449, .inl (fun _ => 0))) :: (q0, .inl (cy 0, 449, .inl (fun _ => 0))) :: (h, .inr (8, [.ref q0, .ref q1, .ref q2, .int 0, .ref q3, .int 0, .int 0, .int 0, .int 0, .null, .null, .null, .null, .null, .int 0, .int 0, .null, .int 0, .int 0, .null, .int 0, .int 0, .int 0, .null, .null, .null, .null])) :: R) H _ s := hw
  refine lv_aload_n hx hb dX8_init_39 rfl (lv_at hl 0 rfl) ?_
  refine lv_bipush (v := 124) hx hb dX8_init_40 (by decide) ?_
  refine zn_newI 124 X hw zm_2_12 (by decide) (by decide) (by decide) (by decide) (by decide) dX8_init_42 (fun q4 H hw => ?_)
  have hw : zNW D cy _ ((q4, .inl (cy 0, 124, .inl (fun _ => 0))) :: (q3, .inl (cy 0, 7, .inl (fun _ => 0))) :: (q2, .inl (cy 0, 449, .inl (fun _ => 0))) :: (q1, .inl (cy 0, 449, .inl (fun _ => 0))) :: (q0, .inl (cy 0, 449, .inl (fun _ => 0))) :: (h, .inr (8, [.ref q0, .ref q1, .ref q2, .int 0, .ref q3, .int 0, .int 0, .int 0, .int 0, .null, .null, .null, .null, .null, .int 0, .int 0, .null, .int 0, .int 0, .null, .int 0, .int 0, .int 0, .null, .null, .null, .null])) :: R) H _ s := hw
  refine zn_putF (C := RX8) (T := TX8) (N := 27) (ref := "WheelBrookModel") (ty := (.array .int)) (ci := 8) (fs := [.ref q0, .ref q1, .ref q2, .int 0, .ref q3, .int 0, .int 0, .int 0, .int 0, .null, .null, .null, .null, .null, .int 0, .int 0, .null, .int 0, .int 0, .null, .int 0, .int 0, .int 0, .null, .null, .null, .null]) (v := .ref q4) (a := h) 5 X hi2 hw inlX8 tyX8 tyX8_ok nmX8 rfl rfl 9 (by decide) zm_5_0 (fun _ h9 => h9) rfl rfl (by decide +kernel) rfl rfl (Nat.le_of_ble_eq_true rfl) dX8_init_44 (fun H locs hw => ?_)
  have hw : zNW D cy _ ((q4, .inl (cy 0, 124, .inl (fun _ => 0))) :: (q3, .inl (cy 0, 7, .inl (fun _ => 0))) :: (q2, .inl (cy 0, 449, .inl (fun _ => 0))) :: (q1, .inl (cy 0, 449, .inl (fun _ => 0))) :: (q0, .inl (cy 0, 449, .inl (fun _ => 0))) :: (h, .inr (8, [.ref q0, .ref q1, .ref q2, .int 0, .ref q3, .int 0, .int 0, .int 0, .int 0, .ref q4, .null, .null, .null, .null, .int 0, .int 0, .null, .int 0, .int 0, .null, .int 0, .int 0, .int 0, .null, .null, .null, .null])) :: R) H _ s := hw
  refine lv_aload_n hx hb dX8_init_47 rfl (lv_at hl 0 rfl) ?_
  refine lv_sipush (v := 128) hx hb dX8_init_48 (by decide) ?_
  refine zn_newI 128 X hw zm_2_12 (by decide) (by decide) (by decide) (by decide) (by decide) dX8_init_51 (fun q5 H hw => ?_)
  have hw : zNW D cy _ ((q5, .inl (cy 0, 128, .inl (fun _ => 0))) :: (q4, .inl (cy 0, 124, .inl (fun _ => 0))) :: (q3, .inl (cy 0, 7, .inl (fun _ => 0))) :: (q2, .inl (cy 0, 449, .inl (fun _ => 0))) :: (q1, .inl (cy 0, 449, .inl (fun _ => 0))) :: (q0, .inl (cy 0, 449, .inl (fun _ => 0))) :: (h, .inr (8, [.ref q0, .ref q1, .ref q2, .int 0, .ref q3, .int 0, .int 0, .int 0, .int 0, .ref q4, .null, .null, .null, .null, .int 0, .int 0, .null, .int 0, .int 0, .null, .int 0, .int 0, .int 0, .null, .null, .null, .null])) :: R) H _ s := hw
  refine zn_putF (C := RX8) (T := TX8) (N := 27) (ref := "WheelBrookModel") (ty := (.array .int)) (ci := 8) (fs := [.ref q0, .ref q1, .ref q2, .int 0, .ref q3, .int 0, .int 0, .int 0, .int 0, .ref q4, .null, .null, .null, .null, .int 0, .int 0, .null, .int 0, .int 0, .null, .int 0, .int 0, .int 0, .null, .null, .null, .null]) (v := .ref q5) (a := h) 6 X hi2 hw inlX8 tyX8 tyX8_ok nmX8 rfl rfl 10 (by decide) zm_5_1 (fun _ h9 => h9) rfl rfl (by decide +kernel) rfl rfl (Nat.le_of_ble_eq_true rfl) dX8_init_53 (fun H locs hw => ?_)
  have hw : zNW D cy _ ((q5, .inl (cy 0, 128, .inl (fun _ => 0))) :: (q4, .inl (cy 0, 124, .inl (fun _ => 0))) :: (q3, .inl (cy 0, 7, .inl (fun _ => 0))) :: (q2, .inl (cy 0, 449, .inl (fun _ => 0))) :: (q1, .inl (cy 0, 449, .inl (fun _ => 0))) :: (q0, .inl (cy 0, 449, .inl (fun _ => 0))) :: (h, .inr (8, [.ref q0, .ref q1, .ref q2, .int 0, .ref q3, .int 0, .int 0, .int 0, .int 0, .ref q4, .ref q5, .null, .null, .null, .int 0, .int 0, .null, .int 0, .int 0, .null, .int 0, .int 0, .int 0, .null, .null, .null, .null])) :: R) H _ s := hw
  refine lv_aload_n hx hb dX8_init_56 rfl (lv_at hl 0 rfl) ?_
  refine lv_bipush (v := 64) hx hb dX8_init_57 (by decide) ?_
  refine zn_newI 64 X hw zm_2_12 (by decide) (by decide) (by decide) (by decide) (by decide) dX8_init_59 (fun q6 H hw => ?_)
  have hw : zNW D cy _ ((q6, .inl (cy 0, 64, .inl (fun _ => 0))) :: (q5, .inl (cy 0, 128, .inl (fun _ => 0))) :: (q4, .inl (cy 0, 124, .inl (fun _ => 0))) :: (q3, .inl (cy 0, 7, .inl (fun _ => 0))) :: (q2, .inl (cy 0, 449, .inl (fun _ => 0))) :: (q1, .inl (cy 0, 449, .inl (fun _ => 0))) :: (q0, .inl (cy 0, 449, .inl (fun _ => 0))) :: (h, .inr (8, [.ref q0, .ref q1, .ref q2, .int 0, .ref q3, .int 0, .int 0, .int 0, .int 0, .ref q4, .ref q5, .null, .null, .null, .int 0, .int 0, .null, .int 0, .int 0, .null, .int 0, .int 0, .int 0, .null, .null, .null, .null])) :: R) H _ s := hw
  refine zn_putF (C := RX8) (T := TX8) (N := 27) (ref := "WheelBrookModel") (ty := (.array .int)) (ci := 8) (fs := [.ref q0, .ref q1, .ref q2, .int 0, .ref q3, .int 0, .int 0, .int 0, .int 0, .ref q4, .ref q5, .null, .null, .null, .int 0, .int 0, .null, .int 0, .int 0, .null, .int 0, .int 0, .int 0, .null, .null, .null, .null]) (v := .ref q6) (a := h) 7 X hi2 hw inlX8 tyX8 tyX8_ok nmX8 rfl rfl 11 (by decide) zm_5_2 (fun _ h9 => h9) rfl rfl (by decide +kernel) rfl rfl (Nat.le_of_ble_eq_true rfl) dX8_init_61 (fun H locs hw => ?_)
  have hw : zNW D cy _ ((q6, .inl (cy 0, 64, .inl (fun _ => 0))) :: (q5, .inl (cy 0, 128, .inl (fun _ => 0))) :: (q4, .inl (cy 0, 124, .inl (fun _ => 0))) :: (q3, .inl (cy 0, 7, .inl (fun _ => 0))) :: (q2, .inl (cy 0, 449, .inl (fun _ => 0))) :: (q1, .inl (cy 0, 449, .inl (fun _ => 0))) :: (q0, .inl (cy 0, 449, .inl (fun _ => 0))) :: (h, .inr (8, [.ref q0, .ref q1, .ref q2, .int 0, .ref q3, .int 0, .int 0, .int 0, .int 0, .ref q4, .ref q5, .ref q6, .null, .null, .int 0, .int 0, .null, .int 0, .int 0, .null, .int 0, .int 0, .int 0, .null, .null, .null, .null])) :: R) H _ s := hw
  refine lv_aload_n hx hb dX8_init_64 rfl (lv_at hl 0 rfl) ?_
  refine lv_bipush (v := 13) hx hb dX8_init_65 (by decide) ?_
  refine zn_newI 13 X hw zm_2_12 (by decide) (by decide) (by decide) (by decide) (by decide) dX8_init_67 (fun q7 H hw => ?_)
  have hw : zNW D cy _ ((q7, .inl (cy 0, 13, .inl (fun _ => 0))) :: (q6, .inl (cy 0, 64, .inl (fun _ => 0))) :: (q5, .inl (cy 0, 128, .inl (fun _ => 0))) :: (q4, .inl (cy 0, 124, .inl (fun _ => 0))) :: (q3, .inl (cy 0, 7, .inl (fun _ => 0))) :: (q2, .inl (cy 0, 449, .inl (fun _ => 0))) :: (q1, .inl (cy 0, 449, .inl (fun _ => 0))) :: (q0, .inl (cy 0, 449, .inl (fun _ => 0))) :: (h, .inr (8, [.ref q0, .ref q1, .ref q2, .int 0, .ref q3, .int 0, .int 0, .int 0, .int 0, .ref q4, .ref q5, .ref q6, .null, .null, .int 0, .int 0, .null, .int 0, .int 0, .null, .int 0, .int 0, .int 0, .null, .null, .null, .null])) :: R) H _ s := hw
  refine zn_putF (C := RX8) (T := TX8) (N := 27) (ref := "WheelBrookModel") (ty := (.array .int)) (ci := 8) (fs := [.ref q0, .ref q1, .ref q2, .int 0, .ref q3, .int 0, .int 0, .int 0, .int 0, .ref q4, .ref q5, .ref q6, .null, .null, .int 0, .int 0, .null, .int 0, .int 0, .null, .int 0, .int 0, .int 0, .null, .null, .null, .null]) (v := .ref q7) (a := h) 8 X hi2 hw inlX8 tyX8 tyX8_ok nmX8 rfl rfl 12 (by decide) zm_5_3 (fun _ h9 => h9) rfl rfl (by decide +kernel) rfl rfl (Nat.le_of_ble_eq_true rfl) dX8_init_69 (fun H locs hw => ?_)
  have hw : zNW D cy _ ((q7, .inl (cy 0, 13, .inl (fun _ => 0))) :: (q6, .inl (cy 0, 64, .inl (fun _ => 0))) :: (q5, .inl (cy 0, 128, .inl (fun _ => 0))) :: (q4, .inl (cy 0, 124, .inl (fun _ => 0))) :: (q3, .inl (cy 0, 7, .inl (fun _ => 0))) :: (q2, .inl (cy 0, 449, .inl (fun _ => 0))) :: (q1, .inl (cy 0, 449, .inl (fun _ => 0))) :: (q0, .inl (cy 0, 449, .inl (fun _ => 0))) :: (h, .inr (8, [.ref q0, .ref q1, .ref q2, .int 0, .ref q3, .int 0, .int 0, .int 0, .int 0, .ref q4, .ref q5, .ref q6, .ref q7, .null, .int 0, .int 0, .null, .int 0, .int 0, .null, .int 0, .int 0, .int 0, .null, .null, .null, .null])) :: R) H _ s := hw
  refine lv_aload_n hx hb dX8_init_72 rfl (lv_at hl 0 rfl) ?_
  refine lv_bipush (v := 9) hx hb dX8_init_73 (by decide) ?_
  refine zn_newI 9 X hw zm_2_12 (by decide) (by decide) (by decide) (by decide) (by decide) dX8_init_75 (fun q8 H hw => ?_)
  have hw : zNW D cy _ ((q8, .inl (cy 0, 9, .inl (fun _ => 0))) :: (q7, .inl (cy 0, 13, .inl (fun _ => 0))) :: (q6, .inl (cy 0, 64, .inl (fun _ => 0))) :: (q5, .inl (cy 0, 128, .inl (fun _ => 0))) :: (q4, .inl (cy 0, 124, .inl (fun _ => 0))) :: (q3, .inl (cy 0, 7, .inl (fun _ => 0))) :: (q2, .inl (cy 0, 449, .inl (fun _ => 0))) :: (q1, .inl (cy 0, 449, .inl (fun _ => 0))) :: (q0, .inl (cy 0, 449, .inl (fun _ => 0))) :: (h, .inr (8, [.ref q0, .ref q1, .ref q2, .int 0, .ref q3, .int 0, .int 0, .int 0, .int 0, .ref q4, .ref q5, .ref q6, .ref q7, .null, .int 0, .int 0, .null, .int 0, .int 0, .null, .int 0, .int 0, .int 0, .null, .null, .null, .null])) :: R) H _ s := hw
  refine zn_putF (C := RX8) (T := TX8) (N := 27) (ref := "WheelBrookModel") (ty := (.array .int)) (ci := 8) (fs := [.ref q0, .ref q1, .ref q2, .int 0, .ref q3, .int 0, .int 0, .int 0, .int 0, .ref q4, .ref q5, .ref q6, .ref q7, .null, .int 0, .int 0, .null, .int 0, .int 0, .null, .int 0, .int 0, .int 0, .null, .null, .null, .null]) (v := .ref q8) (a := h) 9 X hi2 hw inlX8 tyX8 tyX8_ok nmX8 rfl rfl 13 (by decide) zm_5_4 (fun _ h9 => h9) rfl rfl (by decide +kernel) rfl rfl (Nat.le_of_ble_eq_true rfl) dX8_init_77 (fun H locs hw => ?_)
  have hw : zNW D cy _ ((q8, .inl (cy 0, 9, .inl (fun _ => 0))) :: (q7, .inl (cy 0, 13, .inl (fun _ => 0))) :: (q6, .inl (cy 0, 64, .inl (fun _ => 0))) :: (q5, .inl (cy 0, 128, .inl (fun _ => 0))) :: (q4, .inl (cy 0, 124, .inl (fun _ => 0))) :: (q3, .inl (cy 0, 7, .inl (fun _ => 0))) :: (q2, .inl (cy 0, 449, .inl (fun _ => 0))) :: (q1, .inl (cy 0, 449, .inl (fun _ => 0))) :: (q0, .inl (cy 0, 449, .inl (fun _ => 0))) :: (h, .inr (8, [.ref q0, .ref q1, .ref q2, .int 0, .ref q3, .int 0, .int 0, .int 0, .int 0, .ref q4, .ref q5, .ref q6, .ref q7, .ref q8, .int 0, .int 0, .null, .int 0, .int 0, .null, .int 0, .int 0, .int 0, .null, .null, .null, .null])) :: R) H _ s := hw
  refine lv_aload_n hx hb dX8_init_80 rfl (lv_at hl 0 rfl) ?_
  refine lv_bipush (v := 9) hx hb dX8_init_81 (by decide) ?_
  refine zn_newI 9 X hw zm_2_12 (by decide) (by decide) (by decide) (by decide) (by decide) dX8_init_83 (fun q9 H hw => ?_)
  have hw : zNW D cy _ ((q9, .inl (cy 0, 9, .inl (fun _ => 0))) :: (q8, .inl (cy 0, 9, .inl (fun _ => 0))) :: (q7, .inl (cy 0, 13, .inl (fun _ => 0))) :: (q6, .inl (cy 0, 64, .inl (fun _ => 0))) :: (q5, .inl (cy 0, 128, .inl (fun _ => 0))) :: (q4, .inl (cy 0, 124, .inl (fun _ => 0))) :: (q3, .inl (cy 0, 7, .inl (fun _ => 0))) :: (q2, .inl (cy 0, 449, .inl (fun _ => 0))) :: (q1, .inl (cy 0, 449, .inl (fun _ => 0))) :: (q0, .inl (cy 0, 449, .inl (fun _ => 0))) :: (h, .inr (8, [.ref q0, .ref q1, .ref q2, .int 0, .ref q3, .int 0, .int 0, .int 0, .int 0, .ref q4, .ref q5, .ref q6, .ref q7, .ref q8, .int 0, .int 0, .null, .int 0, .int 0, .null, .int 0, .int 0, .int 0, .null, .null, .null, .null])) :: R) H _ s := hw
  refine zn_putF (C := RX8) (T := TX8) (N := 27) (ref := "WheelBrookModel") (ty := (.array .int)) (ci := 8) (fs := [.ref q0, .ref q1, .ref q2, .int 0, .ref q3, .int 0, .int 0, .int 0, .int 0, .ref q4, .ref q5, .ref q6, .ref q7, .ref q8, .int 0, .int 0, .null, .int 0, .int 0, .null, .int 0, .int 0, .int 0, .null, .null, .null, .null]) (v := .ref q9) (a := h) 10 X hi2 hw inlX8 tyX8 tyX8_ok nmX8 rfl rfl 16 (by decide) zm_5_5 (fun _ h9 => h9) rfl rfl (by decide +kernel) rfl rfl (Nat.le_of_ble_eq_true rfl) dX8_init_85 (fun H locs hw => ?_)
  have hw : zNW D cy _ ((q9, .inl (cy 0, 9, .inl (fun _ => 0))) :: (q8, .inl (cy 0, 9, .inl (fun _ => 0))) :: (q7, .inl (cy 0, 13, .inl (fun _ => 0))) :: (q6, .inl (cy 0, 64, .inl (fun _ => 0))) :: (q5, .inl (cy 0, 128, .inl (fun _ => 0))) :: (q4, .inl (cy 0, 124, .inl (fun _ => 0))) :: (q3, .inl (cy 0, 7, .inl (fun _ => 0))) :: (q2, .inl (cy 0, 449, .inl (fun _ => 0))) :: (q1, .inl (cy 0, 449, .inl (fun _ => 0))) :: (q0, .inl (cy 0, 449, .inl (fun _ => 0))) :: (h, .inr (8, [.ref q0, .ref q1, .ref q2, .int 0, .ref q3, .int 0, .int 0, .int 0, .int 0, .ref q4, .ref q5, .ref q6, .ref q7, .ref q8, .int 0, .int 0, .ref q9, .int 0, .int 0, .null, .int 0, .int 0, .int 0, .null, .null, .null, .null])) :: R) H _ s := hw
  refine lv_aload_n hx hb dX8_init_88 rfl (lv_at hl 0 rfl) ?_
  refine lv_bipush (v := 30) hx hb dX8_init_89 (by decide) ?_
  refine zn_newI 30 X hw zm_2_12 (by decide) (by decide) (by decide) (by decide) (by decide) dX8_init_91 (fun q10 H hw => ?_)
  have hw : zNW D cy _ ((q10, .inl (cy 0, 30, .inl (fun _ => 0))) :: (q9, .inl (cy 0, 9, .inl (fun _ => 0))) :: (q8, .inl (cy 0, 9, .inl (fun _ => 0))) :: (q7, .inl (cy 0, 13, .inl (fun _ => 0))) :: (q6, .inl (cy 0, 64, .inl (fun _ => 0))) :: (q5, .inl (cy 0, 128, .inl (fun _ => 0))) :: (q4, .inl (cy 0, 124, .inl (fun _ => 0))) :: (q3, .inl (cy 0, 7, .inl (fun _ => 0))) :: (q2, .inl (cy 0, 449, .inl (fun _ => 0))) :: (q1, .inl (cy 0, 449, .inl (fun _ => 0))) :: (q0, .inl (cy 0, 449, .inl (fun _ => 0))) :: (h, .inr (8, [.ref q0, .ref q1, .ref q2, .int 0, .ref q3, .int 0, .int 0, .int 0, .int 0, .ref q4, .ref q5, .ref q6, .ref q7, .ref q8, .int 0, .int 0, .ref q9, .int 0, .int 0, .null, .int 0, .int 0, .int 0, .null, .null, .null, .null])) :: R) H _ s := hw
  refine zn_putF (C := RX8) (T := TX8) (N := 27) (ref := "WheelBrookModel") (ty := (.array .int)) (ci := 8) (fs := [.ref q0, .ref q1, .ref q2, .int 0, .ref q3, .int 0, .int 0, .int 0, .int 0, .ref q4, .ref q5, .ref q6, .ref q7, .ref q8, .int 0, .int 0, .ref q9, .int 0, .int 0, .null, .int 0, .int 0, .int 0, .null, .null, .null, .null]) (v := .ref q10) (a := h) 11 X hi2 hw inlX8 tyX8 tyX8_ok nmX8 rfl rfl 19 (by decide) zm_5_6 (fun _ h9 => h9) rfl rfl (by decide +kernel) rfl rfl (Nat.le_of_ble_eq_true rfl) dX8_init_93 (fun H locs hw => ?_)
  have hw : zNW D cy _ ((q10, .inl (cy 0, 30, .inl (fun _ => 0))) :: (q9, .inl (cy 0, 9, .inl (fun _ => 0))) :: (q8, .inl (cy 0, 9, .inl (fun _ => 0))) :: (q7, .inl (cy 0, 13, .inl (fun _ => 0))) :: (q6, .inl (cy 0, 64, .inl (fun _ => 0))) :: (q5, .inl (cy 0, 128, .inl (fun _ => 0))) :: (q4, .inl (cy 0, 124, .inl (fun _ => 0))) :: (q3, .inl (cy 0, 7, .inl (fun _ => 0))) :: (q2, .inl (cy 0, 449, .inl (fun _ => 0))) :: (q1, .inl (cy 0, 449, .inl (fun _ => 0))) :: (q0, .inl (cy 0, 449, .inl (fun _ => 0))) :: (h, .inr (8, [.ref q0, .ref q1, .ref q2, .int 0, .ref q3, .int 0, .int 0, .int 0, .int 0, .ref q4, .ref q5, .ref q6, .ref q7, .ref q8, .int 0, .int 0, .ref q9, .int 0, .int 0, .ref q10, .int 0, .int 0, .int 0, .null, .null, .null, .null])) :: R) H _ s := hw
  refine lv_aload_n hx hb dX8_init_96 rfl (lv_at hl 0 rfl) ?_
  refine lv_iconst (v := 4) hx hb dX8_init_97 (by decide) ?_
  refine zn_newI 4 X hw zm_2_12 (by decide) (by decide) (by decide) (by decide) (by decide) dX8_init_98 (fun q11 H hw => ?_)
  have hw : zNW D cy _ ((q11, .inl (cy 0, 4, .inl (fun _ => 0))) :: (q10, .inl (cy 0, 30, .inl (fun _ => 0))) :: (q9, .inl (cy 0, 9, .inl (fun _ => 0))) :: (q8, .inl (cy 0, 9, .inl (fun _ => 0))) :: (q7, .inl (cy 0, 13, .inl (fun _ => 0))) :: (q6, .inl (cy 0, 64, .inl (fun _ => 0))) :: (q5, .inl (cy 0, 128, .inl (fun _ => 0))) :: (q4, .inl (cy 0, 124, .inl (fun _ => 0))) :: (q3, .inl (cy 0, 7, .inl (fun _ => 0))) :: (q2, .inl (cy 0, 449, .inl (fun _ => 0))) :: (q1, .inl (cy 0, 449, .inl (fun _ => 0))) :: (q0, .inl (cy 0, 449, .inl (fun _ => 0))) :: (h, .inr (8, [.ref q0, .ref q1, .ref q2, .int 0, .ref q3, .int 0, .int 0, .int 0, .int 0, .ref q4, .ref q5, .ref q6, .ref q7, .ref q8, .int 0, .int 0, .ref q9, .int 0, .int 0, .ref q10, .int 0, .int 0, .int 0, .null, .null, .null, .null])) :: R) H _ s := hw
  refine zn_putF (C := RX8) (T := TX8) (N := 27) (ref := "WheelBrookModel") (ty := (.array .int)) (ci := 8) (fs := [.ref q0, .ref q1, .ref q2, .int 0, .ref q3, .int 0, .int 0, .int 0, .int 0, .ref q4, .ref q5, .ref q6, .ref q7, .ref q8, .int 0, .int 0, .ref q9, .int 0, .int 0, .ref q10, .int 0, .int 0, .int 0, .null, .null, .null, .null]) (v := .ref q11) (a := h) 12 X hi2 hw inlX8 tyX8 tyX8_ok nmX8 rfl rfl 23 (by decide) zm_5_7 (fun _ h9 => h9) rfl rfl (by decide +kernel) rfl rfl (Nat.le_of_ble_eq_true rfl) dX8_init_100 (fun H locs hw => ?_)
  have hw : zNW D cy _ ((q11, .inl (cy 0, 4, .inl (fun _ => 0))) :: (q10, .inl (cy 0, 30, .inl (fun _ => 0))) :: (q9, .inl (cy 0, 9, .inl (fun _ => 0))) :: (q8, .inl (cy 0, 9, .inl (fun _ => 0))) :: (q7, .inl (cy 0, 13, .inl (fun _ => 0))) :: (q6, .inl (cy 0, 64, .inl (fun _ => 0))) :: (q5, .inl (cy 0, 128, .inl (fun _ => 0))) :: (q4, .inl (cy 0, 124, .inl (fun _ => 0))) :: (q3, .inl (cy 0, 7, .inl (fun _ => 0))) :: (q2, .inl (cy 0, 449, .inl (fun _ => 0))) :: (q1, .inl (cy 0, 449, .inl (fun _ => 0))) :: (q0, .inl (cy 0, 449, .inl (fun _ => 0))) :: (h, .inr (8, [.ref q0, .ref q1, .ref q2, .int 0, .ref q3, .int 0, .int 0, .int 0, .int 0, .ref q4, .ref q5, .ref q6, .ref q7, .ref q8, .int 0, .int 0, .ref q9, .int 0, .int 0, .ref q10, .int 0, .int 0, .int 0, .ref q11, .null, .null, .null])) :: R) H _ s := hw
  refine lv_aload_n hx hb dX8_init_103 rfl (lv_at hl 0 rfl) ?_
  refine lv_iconst (v := 4) hx hb dX8_init_104 (by decide) ?_
  refine zn_newI 4 X hw zm_2_12 (by decide) (by decide) (by decide) (by decide) (by decide) dX8_init_105 (fun q12 H hw => ?_)
  have hw : zNW D cy _ ((q12, .inl (cy 0, 4, .inl (fun _ => 0))) :: (q11, .inl (cy 0, 4, .inl (fun _ => 0))) :: (q10, .inl (cy 0, 30, .inl (fun _ => 0))) :: (q9, .inl (cy 0, 9, .inl (fun _ => 0))) :: (q8, .inl (cy 0, 9, .inl (fun _ => 0))) :: (q7, .inl (cy 0, 13, .inl (fun _ => 0))) :: (q6, .inl (cy 0, 64, .inl (fun _ => 0))) :: (q5, .inl (cy 0, 128, .inl (fun _ => 0))) :: (q4, .inl (cy 0, 124, .inl (fun _ => 0))) :: (q3, .inl (cy 0, 7, .inl (fun _ => 0))) :: (q2, .inl (cy 0, 449, .inl (fun _ => 0))) :: (q1, .inl (cy 0, 449, .inl (fun _ => 0))) :: (q0, .inl (cy 0, 449, .inl (fun _ => 0))) :: (h, .inr (8, [.ref q0, .ref q1, .ref q2, .int 0, .ref q3, .int 0, .int 0, .int 0, .int 0, .ref q4, .ref q5, .ref q6, .ref q7, .ref q8, .int 0, .int 0, .ref q9, .int 0, .int 0, .ref q10, .int 0, .int 0, .int 0, .ref q11, .null, .null, .null])) :: R) H _ s := hw
  refine zn_putF (C := RX8) (T := TX8) (N := 27) (ref := "WheelBrookModel") (ty := (.array .int)) (ci := 8) (fs := [.ref q0, .ref q1, .ref q2, .int 0, .ref q3, .int 0, .int 0, .int 0, .int 0, .ref q4, .ref q5, .ref q6, .ref q7, .ref q8, .int 0, .int 0, .ref q9, .int 0, .int 0, .ref q10, .int 0, .int 0, .int 0, .ref q11, .null, .null, .null]) (v := .ref q12) (a := h) 13 X hi2 hw inlX8 tyX8 tyX8_ok nmX8 rfl rfl 24 (by decide) zm_5_8 (fun _ h9 => h9) rfl rfl (by decide +kernel) rfl rfl (Nat.le_of_ble_eq_true rfl) dX8_init_107 (fun H locs hw => ?_)
  have hw : zNW D cy _ ((q12, .inl (cy 0, 4, .inl (fun _ => 0))) :: (q11, .inl (cy 0, 4, .inl (fun _ => 0))) :: (q10, .inl (cy 0, 30, .inl (fun _ => 0))) :: (q9, .inl (cy 0, 9, .inl (fun _ => 0))) :: (q8, .inl (cy 0, 9, .inl (fun _ => 0))) :: (q7, .inl (cy 0, 13, .inl (fun _ => 0))) :: (q6, .inl (cy 0, 64, .inl (fun _ => 0))) :: (q5, .inl (cy 0, 128, .inl (fun _ => 0))) :: (q4, .inl (cy 0, 124, .inl (fun _ => 0))) :: (q3, .inl (cy 0, 7, .inl (fun _ => 0))) :: (q2, .inl (cy 0, 449, .inl (fun _ => 0))) :: (q1, .inl (cy 0, 449, .inl (fun _ => 0))) :: (q0, .inl (cy 0, 449, .inl (fun _ => 0))) :: (h, .inr (8, [.ref q0, .ref q1, .ref q2, .int 0, .ref q3, .int 0, .int 0, .int 0, .int 0, .ref q4, .ref q5, .ref q6, .ref q7, .ref q8, .int 0, .int 0, .ref q9, .int 0, .int 0, .ref q10, .int 0, .int 0, .int 0, .ref q11, .ref q12, .null, .null])) :: R) H _ s := hw
  refine lv_aload_n hx hb dX8_init_110 rfl (lv_at hl 0 rfl) ?_
  refine lv_bipush (v := 96) hx hb dX8_init_111 (by decide) ?_
  refine zn_newI 96 X hw zm_2_12 (by decide) (by decide) (by decide) (by decide) (by decide) dX8_init_113 (fun q13 H hw => ?_)
  have hw : zNW D cy _ ((q13, .inl (cy 0, 96, .inl (fun _ => 0))) :: (q12, .inl (cy 0, 4, .inl (fun _ => 0))) :: (q11, .inl (cy 0, 4, .inl (fun _ => 0))) :: (q10, .inl (cy 0, 30, .inl (fun _ => 0))) :: (q9, .inl (cy 0, 9, .inl (fun _ => 0))) :: (q8, .inl (cy 0, 9, .inl (fun _ => 0))) :: (q7, .inl (cy 0, 13, .inl (fun _ => 0))) :: (q6, .inl (cy 0, 64, .inl (fun _ => 0))) :: (q5, .inl (cy 0, 128, .inl (fun _ => 0))) :: (q4, .inl (cy 0, 124, .inl (fun _ => 0))) :: (q3, .inl (cy 0, 7, .inl (fun _ => 0))) :: (q2, .inl (cy 0, 449, .inl (fun _ => 0))) :: (q1, .inl (cy 0, 449, .inl (fun _ => 0))) :: (q0, .inl (cy 0, 449, .inl (fun _ => 0))) :: (h, .inr (8, [.ref q0, .ref q1, .ref q2, .int 0, .ref q3, .int 0, .int 0, .int 0, .int 0, .ref q4, .ref q5, .ref q6, .ref q7, .ref q8, .int 0, .int 0, .ref q9, .int 0, .int 0, .ref q10, .int 0, .int 0, .int 0, .ref q11, .ref q12, .null, .null])) :: R) H _ s := hw
  refine zn_putF (C := RX8) (T := TX8) (N := 27) (ref := "WheelBrookModel") (ty := (.array .int)) (ci := 8) (fs := [.ref q0, .ref q1, .ref q2, .int 0, .ref q3, .int 0, .int 0, .int 0, .int 0, .ref q4, .ref q5, .ref q6, .ref q7, .ref q8, .int 0, .int 0, .ref q9, .int 0, .int 0, .ref q10, .int 0, .int 0, .int 0, .ref q11, .ref q12, .null, .null]) (v := .ref q13) (a := h) 14 X hi2 hw inlX8 tyX8 tyX8_ok nmX8 rfl rfl 25 (by decide) zm_5_9 (fun _ h9 => h9) rfl rfl (by decide +kernel) rfl rfl (Nat.le_of_ble_eq_true rfl) dX8_init_115 (fun H locs hw => ?_)
  have hw : zNW D cy _ ((q13, .inl (cy 0, 96, .inl (fun _ => 0))) :: (q12, .inl (cy 0, 4, .inl (fun _ => 0))) :: (q11, .inl (cy 0, 4, .inl (fun _ => 0))) :: (q10, .inl (cy 0, 30, .inl (fun _ => 0))) :: (q9, .inl (cy 0, 9, .inl (fun _ => 0))) :: (q8, .inl (cy 0, 9, .inl (fun _ => 0))) :: (q7, .inl (cy 0, 13, .inl (fun _ => 0))) :: (q6, .inl (cy 0, 64, .inl (fun _ => 0))) :: (q5, .inl (cy 0, 128, .inl (fun _ => 0))) :: (q4, .inl (cy 0, 124, .inl (fun _ => 0))) :: (q3, .inl (cy 0, 7, .inl (fun _ => 0))) :: (q2, .inl (cy 0, 449, .inl (fun _ => 0))) :: (q1, .inl (cy 0, 449, .inl (fun _ => 0))) :: (q0, .inl (cy 0, 449, .inl (fun _ => 0))) :: (h, .inr (8, [.ref q0, .ref q1, .ref q2, .int 0, .ref q3, .int 0, .int 0, .int 0, .int 0, .ref q4, .ref q5, .ref q6, .ref q7, .ref q8, .int 0, .int 0, .ref q9, .int 0, .int 0, .ref q10, .int 0, .int 0, .int 0, .ref q11, .ref q12, .ref q13, .null])) :: R) H _ s := hw
  refine lv_aload_n hx hb dX8_init_118 rfl (lv_at hl 0 rfl) ?_
  refine lv_bipush (v := 24) hx hb dX8_init_119 (by decide) ?_
  refine zn_newI 24 X hw zm_2_12 (by decide) (by decide) (by decide) (by decide) (by decide) dX8_init_121 (fun q14 H hw => ?_)
  have hw : zNW D cy _ ((q14, .inl (cy 0, 24, .inl (fun _ => 0))) :: (q13, .inl (cy 0, 96, .inl (fun _ => 0))) :: (q12, .inl (cy 0, 4, .inl (fun _ => 0))) :: (q11, .inl (cy 0, 4, .inl (fun _ => 0))) :: (q10, .inl (cy 0, 30, .inl (fun _ => 0))) :: (q9, .inl (cy 0, 9, .inl (fun _ => 0))) :: (q8, .inl (cy 0, 9, .inl (fun _ => 0))) :: (q7, .inl (cy 0, 13, .inl (fun _ => 0))) :: (q6, .inl (cy 0, 64, .inl (fun _ => 0))) :: (q5, .inl (cy 0, 128, .inl (fun _ => 0))) :: (q4, .inl (cy 0, 124, .inl (fun _ => 0))) :: (q3, .inl (cy 0, 7, .inl (fun _ => 0))) :: (q2, .inl (cy 0, 449, .inl (fun _ => 0))) :: (q1, .inl (cy 0, 449, .inl (fun _ => 0))) :: (q0, .inl (cy 0, 449, .inl (fun _ => 0))) :: (h, .inr (8, [.ref q0, .ref q1, .ref q2, .int 0, .ref q3, .int 0, .int 0, .int 0, .int 0, .ref q4, .ref q5, .ref q6, .ref q7, .ref q8, .int 0, .int 0, .ref q9, .int 0, .int 0, .ref q10, .int 0, .int 0, .int 0, .ref q11, .ref q12, .ref q13, .null])) :: R) H _ s := hw
  refine zn_putF (C := RX8) (T := TX8) (N := 27) (ref := "WheelBrookModel") (ty := (.array .int)) (ci := 8) (fs := [.ref q0, .ref q1, .ref q2, .int 0, .ref q3, .int 0, .int 0, .int 0, .int 0, .ref q4, .ref q5, .ref q6, .ref q7, .ref q8, .int 0, .int 0, .ref q9, .int 0, .int 0, .ref q10, .int 0, .int 0, .int 0, .ref q11, .ref q12, .ref q13, .null]) (v := .ref q14) (a := h) 15 X hi2 hw inlX8 tyX8 tyX8_ok nmX8 rfl rfl 26 (by decide) zm_5_10 (fun _ h9 => h9) rfl rfl (by decide +kernel) rfl rfl (Nat.le_of_ble_eq_true rfl) dX8_init_123 (fun H locs hw => ?_)
  have hw : zNW D cy _ ((q14, .inl (cy 0, 24, .inl (fun _ => 0))) :: (q13, .inl (cy 0, 96, .inl (fun _ => 0))) :: (q12, .inl (cy 0, 4, .inl (fun _ => 0))) :: (q11, .inl (cy 0, 4, .inl (fun _ => 0))) :: (q10, .inl (cy 0, 30, .inl (fun _ => 0))) :: (q9, .inl (cy 0, 9, .inl (fun _ => 0))) :: (q8, .inl (cy 0, 9, .inl (fun _ => 0))) :: (q7, .inl (cy 0, 13, .inl (fun _ => 0))) :: (q6, .inl (cy 0, 64, .inl (fun _ => 0))) :: (q5, .inl (cy 0, 128, .inl (fun _ => 0))) :: (q4, .inl (cy 0, 124, .inl (fun _ => 0))) :: (q3, .inl (cy 0, 7, .inl (fun _ => 0))) :: (q2, .inl (cy 0, 449, .inl (fun _ => 0))) :: (q1, .inl (cy 0, 449, .inl (fun _ => 0))) :: (q0, .inl (cy 0, 449, .inl (fun _ => 0))) :: (h, .inr (8, [.ref q0, .ref q1, .ref q2, .int 0, .ref q3, .int 0, .int 0, .int 0, .int 0, .ref q4, .ref q5, .ref q6, .ref q7, .ref q8, .int 0, .int 0, .ref q9, .int 0, .int 0, .ref q10, .int 0, .int 0, .int 0, .ref q11, .ref q12, .ref q13, .ref q14])) :: R) H _ s := hw
  refine lv_aload_n hx hb dX8_init_126 rfl (lv_at hl 0 rfl) ?_
  refine zn_get (C := RX8) (T := TX8) (N := 27) (ref := "WheelBrookModel") 15 X hw inlX8 rfl rfl 0 (by decide) zm_4_20 (fun _ h9 => h9) rfl dX8_init_127 ?_
  refine lv_iconst (v := 5) hx hb dX8_init_130 (by decide) ?_
  refine lv_iconst (v := 1) hx hb dX8_init_131 (by decide) ?_
  refine zn_iast 14 X hw rfl (by decide) dX8_init_132 (fun H locs hw => ?_)
  refine lv_iconst (v := 0) hx hb dX8_init_133 (by decide) ?_
  refine lv_istore_n (lv' := [(1, .int 0), (0, .ref h)]) hx hb dX8_init_134 rfl hl (by decide) rfl (fun ls hl => ?_)
  have e8 : upd (fun _ => (0 : Int32)) ((5 : Int32).toNatClampNeg) 1 = rfl8 0 := funext fun j => by
    show (if j = 5 then (1 : Int32) else 0) = if j = 5 then 1 else if 6 ≤ j ∧ j < 6 + 0 then 30 else 0
    by_cases h : j = 5
    · rw [if_pos h, if_pos h]
    · rw [if_neg h, if_neg h, if_neg (by omega)]
  have hw : zNW D cy _ ((q14, .inl (cy 0, 24, .inl (fun _ => 0))) :: (q13, .inl (cy 0, 96, .inl (fun _ => 0))) :: (q12, .inl (cy 0, 4, .inl (fun _ => 0))) :: (q11, .inl (cy 0, 4, .inl (fun _ => 0))) :: (q10, .inl (cy 0, 30, .inl (fun _ => 0))) :: (q9, .inl (cy 0, 9, .inl (fun _ => 0))) :: (q8, .inl (cy 0, 9, .inl (fun _ => 0))) :: (q7, .inl (cy 0, 13, .inl (fun _ => 0))) :: (q6, .inl (cy 0, 64, .inl (fun _ => 0))) :: (q5, .inl (cy 0, 128, .inl (fun _ => 0))) :: (q4, .inl (cy 0, 124, .inl (fun _ => 0))) :: (q3, .inl (cy 0, 7, .inl (fun _ => 0))) :: (q2, .inl (cy 0, 449, .inl (fun _ => 0))) :: (q1, .inl (cy 0, 449, .inl (fun _ => 0))) :: (q0, .inl (cy 0, 449, .inl (upd (fun _ => 0) ((5 : Int32).toNatClampNeg) 1))) :: (h, .inr (8, [.ref q0, .ref q1, .ref q2, .int 0, .ref q3, .int 0, .int 0, .int 0, .int 0, .ref q4, .ref q5, .ref q6, .ref q7, .ref q8, .int 0, .int 0, .ref q9, .int 0, .int 0, .ref q10, .int 0, .int 0, .int 0, .ref q11, .ref q12, .ref q13, .ref q14])) :: R) H _ s := hw
  rw [e8] at hw
  refine nX8_fill X (fun f => (q14, .inl (cy 0, 24, .inl (fun _ => 0))) :: (q13, .inl (cy 0, 96, .inl (fun _ => 0))) :: (q12, .inl (cy 0, 4, .inl (fun _ => 0))) :: (q11, .inl (cy 0, 4, .inl (fun _ => 0))) :: (q10, .inl (cy 0, 30, .inl (fun _ => 0))) :: (q9, .inl (cy 0, 9, .inl (fun _ => 0))) :: (q8, .inl (cy 0, 9, .inl (fun _ => 0))) :: (q7, .inl (cy 0, 13, .inl (fun _ => 0))) :: (q6, .inl (cy 0, 64, .inl (fun _ => 0))) :: (q5, .inl (cy 0, 128, .inl (fun _ => 0))) :: (q4, .inl (cy 0, 124, .inl (fun _ => 0))) :: (q3, .inl (cy 0, 7, .inl (fun _ => 0))) :: (q2, .inl (cy 0, 449, .inl (fun _ => 0))) :: (q1, .inl (cy 0, 449, .inl (fun _ => 0))) :: (q0, .inl (cy 0, 449, .inl f)) :: (h, .inr (8, [.ref q0, .ref q1, .ref q2, .int 0, .ref q3, .int 0, .int 0, .int 0, .int 0, .ref q4, .ref q5, .ref q6, .ref q7, .ref q8, .int 0, .int 0, .ref q9, .int 0, .int 0, .ref q10, .int 0, .int 0, .int 0, .ref q11, .ref q12, .ref q13, .ref q14])) :: R) 15 14 h q0 _ (fun _ => rfl) rfl (fun _ => rfl) (fun _ _ => rfl) 24 0 (by decide) H locs ls hw (lv_sub hl [1, 0] rfl) (fun H locs ls hw => ?_)
  have hw : zNW D cy _ ((q14, .inl (cy 0, 24, .inl (fun _ => 0))) :: (q13, .inl (cy 0, 96, .inl (fun _ => 0))) :: (q12, .inl (cy 0, 4, .inl (fun _ => 0))) :: (q11, .inl (cy 0, 4, .inl (fun _ => 0))) :: (q10, .inl (cy 0, 30, .inl (fun _ => 0))) :: (q9, .inl (cy 0, 9, .inl (fun _ => 0))) :: (q8, .inl (cy 0, 9, .inl (fun _ => 0))) :: (q7, .inl (cy 0, 13, .inl (fun _ => 0))) :: (q6, .inl (cy 0, 64, .inl (fun _ => 0))) :: (q5, .inl (cy 0, 128, .inl (fun _ => 0))) :: (q4, .inl (cy 0, 124, .inl (fun _ => 0))) :: (q3, .inl (cy 0, 7, .inl (fun _ => 0))) :: (q2, .inl (cy 0, 449, .inl (fun _ => 0))) :: (q1, .inl (cy 0, 449, .inl (fun _ => 0))) :: (q0, .inl (cy 0, 449, .inl (fun j => if j = 5 then 1 else if 6 ≤ j ∧ j < 6 + 24 then 30 else 0))) :: (h, .inr (8, [.ref q0, .ref q1, .ref q2, .int 0, .ref q3, .int 0, .int 0, .int 0, .int 0, .ref q4, .ref q5, .ref q6, .ref q7, .ref q8, .int 0, .int 0, .ref q9, .int 0, .int 0, .ref q10, .int 0, .int 0, .int 0, .ref q11, .ref q12, .ref q13, .ref q14])) :: R) H _ s := hw
  have qe : ∃ Q : Nat → Nat, Q = (fun o => [h, q0, q1, q2, q3, q4, q5, q6, q7, q8, q9, q10, q11, q12, q13, q14].getD o 0) := ⟨_, rfl⟩
  obtain ⟨Q, eQ⟩ := qe
  subst eQ
  exact zn_ret (cs := nc8 cy) (fun o => [h, q0, q1, q2, q3, q4, q5, q6, q7, q8, q9, q10, q11, q12, q13, q14].getD o 0) X hw rfl dX8_init_158
set_option maxHeartbeats 4000000 in
set_option maxRecDepth 100000 in
theorem kX0_init (l : Launch) (D : va_G) (cy : Nat → ClassId) : zNC l D cy yX0_init cX0_init 2 ({ frames := 2, cells := 21, slots := 388, locals := 32 }) 0 [.null, .null, .null, .null, .null, .null, .null, .null, .null, .int 0, .int 0, .int 0, .int 0, .int 0, .int 0] (nc0 cy) 21 388 := by
  refine zNent (by decide) (by decide) ?_
  intro p e s m args below meth c ls h R X hi2 hX hw hl
  obtain ⟨hx, hb, hr, hml, hown, hW, hlocks⟩ := id X
  refine lv_aload_n hx hb dX0_init_0 rfl (lv_at hl 0 rfl) ?_
  refine zn_obj X zm_2_17 hl.1 (by decide) (by decide) dX0_init_1 ?_
  refine lv_aload_n hx hb dX0_init_4 rfl (lv_at hl 0 rfl) ?_
  refine lv_bipush (v := 24) hx hb dX0_init_5 (by decide) ?_
  refine zn_newI 24 X hw zm_2_12 (by decide) (by decide) (by decide) (by decide) (by decide) dX0_init_7 (fun q0 H hw => ?_)
  have hw : zNW D cy _ ((q0, .inl (cy 0, 24, .inl (fun _ => 0))) :: (h, .inr (0, [.null, .null, .null, .null, .null, .null, .null, .null, .null, .int 0, .int 0, .int 0, .int 0, .int 0, .int 0])) :: R) H _ s := hw
  refine zn_putF (C := RX0) (T := TX0) (N := 15) (ref := "WheelBrook$Brook") (ty := (.array .int)) (ci := 0) (fs := [.null, .null, .null, .null, .null, .null, .null, .null, .null, .int 0, .int 0, .int 0, .int 0, .int 0, .int 0]) (v := .ref q0) (a := h) 1 X hi2 hw inlX0 tyX0 tyX0_ok nmX0 rfl rfl 0 (by decide) zm_2_18 (fun _ h9 => h9) rfl rfl (by decide +kernel) rfl rfl (Nat.le_of_ble_eq_true rfl) dX0_init_9 (fun H locs hw => ?_)
  have hw : zNW D cy _ ((q0, .inl (cy 0, 24, .inl (fun _ => 0))) :: (h, .inr (0, [.ref q0, .null, .null, .null, .null, .null, .null, .null, .null, .int 0, .int 0, .int 0, .int 0, .int 0, .int 0])) :: R) H _ s := hw
  refine lv_aload_n hx hb dX0_init_12 rfl (lv_at hl 0 rfl) ?_
  refine lv_bipush (v := 12) hx hb dX0_init_13 (by decide) ?_
  refine zn_newI 12 X hw zm_2_12 (by decide) (by decide) (by decide) (by decide) (by decide) dX0_init_15 (fun q1 H hw => ?_)
  have hw : zNW D cy _ ((q1, .inl (cy 0, 12, .inl (fun _ => 0))) :: (q0, .inl (cy 0, 24, .inl (fun _ => 0))) :: (h, .inr (0, [.ref q0, .null, .null, .null, .null, .null, .null, .null, .null, .int 0, .int 0, .int 0, .int 0, .int 0, .int 0])) :: R) H _ s := hw
  refine zn_putF (C := RX0) (T := TX0) (N := 15) (ref := "WheelBrook$Brook") (ty := (.array .int)) (ci := 0) (fs := [.ref q0, .null, .null, .null, .null, .null, .null, .null, .null, .int 0, .int 0, .int 0, .int 0, .int 0, .int 0]) (v := .ref q1) (a := h) 2 X hi2 hw inlX0 tyX0 tyX0_ok nmX0 rfl rfl 1 (by decide) zm_2_19 (fun _ h9 => h9) rfl rfl (by decide +kernel) rfl rfl (Nat.le_of_ble_eq_true rfl) dX0_init_17 (fun H locs hw => ?_)
  have hw : zNW D cy _ ((q1, .inl (cy 0, 12, .inl (fun _ => 0))) :: (q0, .inl (cy 0, 24, .inl (fun _ => 0))) :: (h, .inr (0, [.ref q0, .ref q1, .null, .null, .null, .null, .null, .null, .null, .int 0, .int 0, .int 0, .int 0, .int 0, .int 0])) :: R) H _ s := hw
  refine lv_aload_n hx hb dX0_init_20 rfl (lv_at hl 0 rfl) ?_
  refine lv_iconst (v := 5) hx hb dX0_init_21 (by decide) ?_
  refine zn_newI 5 X hw zm_2_12 (by decide) (by decide) (by decide) (by decide) (by decide) dX0_init_22 (fun q2 H hw => ?_)
  have hw : zNW D cy _ ((q2, .inl (cy 0, 5, .inl (fun _ => 0))) :: (q1, .inl (cy 0, 12, .inl (fun _ => 0))) :: (q0, .inl (cy 0, 24, .inl (fun _ => 0))) :: (h, .inr (0, [.ref q0, .ref q1, .null, .null, .null, .null, .null, .null, .null, .int 0, .int 0, .int 0, .int 0, .int 0, .int 0])) :: R) H _ s := hw
  refine zn_putF (C := RX0) (T := TX0) (N := 15) (ref := "WheelBrook$Brook") (ty := (.array .int)) (ci := 0) (fs := [.ref q0, .ref q1, .null, .null, .null, .null, .null, .null, .null, .int 0, .int 0, .int 0, .int 0, .int 0, .int 0]) (v := .ref q2) (a := h) 3 X hi2 hw inlX0 tyX0 tyX0_ok nmX0 rfl rfl 2 (by decide) zm_2_20 (fun _ h9 => h9) rfl rfl (by decide +kernel) rfl rfl (Nat.le_of_ble_eq_true rfl) dX0_init_24 (fun H locs hw => ?_)
  have hw : zNW D cy _ ((q2, .inl (cy 0, 5, .inl (fun _ => 0))) :: (q1, .inl (cy 0, 12, .inl (fun _ => 0))) :: (q0, .inl (cy 0, 24, .inl (fun _ => 0))) :: (h, .inr (0, [.ref q0, .ref q1, .ref q2, .null, .null, .null, .null, .null, .null, .int 0, .int 0, .int 0, .int 0, .int 0, .int 0])) :: R) H _ s := hw
  refine lv_aload_n hx hb dX0_init_27 rfl (lv_at hl 0 rfl) ?_
  refine lv_iconst (v := 5) hx hb dX0_init_28 (by decide) ?_
  refine zn_newI 5 X hw zm_2_12 (by decide) (by decide) (by decide) (by decide) (by decide) dX0_init_29 (fun q3 H hw => ?_)
  have hw : zNW D cy _ ((q3, .inl (cy 0, 5, .inl (fun _ => 0))) :: (q2, .inl (cy 0, 5, .inl (fun _ => 0))) :: (q1, .inl (cy 0, 12, .inl (fun _ => 0))) :: (q0, .inl (cy 0, 24, .inl (fun _ => 0))) :: (h, .inr (0, [.ref q0, .ref q1, .ref q2, .null, .null, .null, .null, .null, .null, .int 0, .int 0, .int 0, .int 0, .int 0, .int 0])) :: R) H _ s := hw
  refine zn_putF (C := RX0) (T := TX0) (N := 15) (ref := "WheelBrook$Brook") (ty := (.array .int)) (ci := 0) (fs := [.ref q0, .ref q1, .ref q2, .null, .null, .null, .null, .null, .null, .int 0, .int 0, .int 0, .int 0, .int 0, .int 0]) (v := .ref q3) (a := h) 4 X hi2 hw inlX0 tyX0 tyX0_ok nmX0 rfl rfl 3 (by decide) zm_2_21 (fun _ h9 => h9) rfl rfl (by decide +kernel) rfl rfl (Nat.le_of_ble_eq_true rfl) dX0_init_31 (fun H locs hw => ?_)
  have hw : zNW D cy _ ((q3, .inl (cy 0, 5, .inl (fun _ => 0))) :: (q2, .inl (cy 0, 5, .inl (fun _ => 0))) :: (q1, .inl (cy 0, 12, .inl (fun _ => 0))) :: (q0, .inl (cy 0, 24, .inl (fun _ => 0))) :: (h, .inr (0, [.ref q0, .ref q1, .ref q2, .ref q3, .null, .null, .null, .null, .null, .int 0, .int 0, .int 0, .int 0, .int 0, .int 0])) :: R) H _ s := hw
  refine lv_aload_n hx hb dX0_init_34 rfl (lv_at hl 0 rfl) ?_
  refine lv_bipush (v := 8) hx hb dX0_init_35 (by decide) ?_
  refine zn_newW 8 X hw zm_2_22 hX (by decide) (by decide) (by decide) (by decide) (by decide) dX0_init_37 (fun q4 H hw => ?_)
  have hw : zNW D cy _ ((q4, .inl (cy 2, 8, .inr (.inr (.inr (.inr (fun _ => none)))))) :: (q3, .inl (cy 0, 5, .inl (fun _ => 0))) :: (q2, .inl (cy 0, 5, .inl (fun _ => 0))) :: (q1, .inl (cy 0, 12, .inl (fun _ => 0))) :: (q0, .inl (cy 0, 24, .inl (fun _ => 0))) :: (h, .inr (0, [.ref q0, .ref q1, .ref q2, .ref q3, .null, .null, .null, .null, .null, .int 0, .int 0, .int 0, .int 0, .int 0, .int 0])) :: R) H _ s := hw
  refine zn_putF (C := RX0) (T := TX0) (N := 15) (ref := "WheelBrook$Brook") (ty := (.array (.object "WheelBrook$Wheel"))) (ci := 0) (fs := [.ref q0, .ref q1, .ref q2, .ref q3, .null, .null, .null, .null, .null, .int 0, .int 0, .int 0, .int 0, .int 0, .int 0]) (v := .ref q4) (a := h) 5 X hi2 hw inlX0 tyX0 tyX0_ok nmX0 rfl rfl 4 (by decide) zm_2_23 (fun _ h9 => h9) rfl rfl (by decide +kernel) rfl rfl (Nat.le_of_ble_eq_true rfl) dX0_init_40 (fun H locs hw => ?_)
  have hw : zNW D cy _ ((q4, .inl (cy 2, 8, .inr (.inr (.inr (.inr (fun _ => none)))))) :: (q3, .inl (cy 0, 5, .inl (fun _ => 0))) :: (q2, .inl (cy 0, 5, .inl (fun _ => 0))) :: (q1, .inl (cy 0, 12, .inl (fun _ => 0))) :: (q0, .inl (cy 0, 24, .inl (fun _ => 0))) :: (h, .inr (0, [.ref q0, .ref q1, .ref q2, .ref q3, .ref q4, .null, .null, .null, .null, .int 0, .int 0, .int 0, .int 0, .int 0, .int 0])) :: R) H _ s := hw
  refine lv_aload_n hx hb dX0_init_43 rfl (lv_at hl 0 rfl) ?_
  refine zn_new (ci := 2) (fs := [.null, .null, .int 0]) X hw inlX2 tyX2 tyX2_ok zm_3_0 zm_3_1 zm_3_2 rfl (by decide +kernel) (by decide) (by decide) dX0_init_44 (fun q5 H hw => ?_)
  have hw : zNW D cy _ ((q5, .inr (2, [.null, .null, .int 0])) :: (q4, .inl (cy 2, 8, .inr (.inr (.inr (.inr (fun _ => none)))))) :: (q3, .inl (cy 0, 5, .inl (fun _ => 0))) :: (q2, .inl (cy 0, 5, .inl (fun _ => 0))) :: (q1, .inl (cy 0, 12, .inl (fun _ => 0))) :: (q0, .inl (cy 0, 24, .inl (fun _ => 0))) :: (h, .inr (0, [.ref q0, .ref q1, .ref q2, .ref q3, .ref q4, .null, .null, .null, .null, .int 0, .int 0, .int 0, .int 0, .int 0, .int 0])) :: R) H _ s := hw
  refine lv_dup hx hb dX0_init_47 rfl ?_
  refine zn_callN (host := RX7) (rest := [.ref q5, .ref h]) X hX hw (kX2_init l D cy) (hX.2.2.2.2.2.2.1) zm_3_10 zm_3_2 zm_3_11 rfl rfl rfl (by decide +kernel) (by decide) (Nat.le_of_ble_eq_true rfl) hl.1 (by decide) dX0_init_48 (fun u6 H locs eu6 hw2 => ?_)
  subst eu6
  have hw : zNW D cy _ ((nc2 cy u6 ++ ((q4, .inl (cy 2, 8, .inr (.inr (.inr (.inr (fun _ => none)))))) :: (q3, .inl (cy 0, 5, .inl (fun _ => 0))) :: (q2, .inl (cy 0, 5, .inl (fun _ => 0))) :: (q1, .inl (cy 0, 12, .inl (fun _ => 0))) :: (q0, .inl (cy 0, 24, .inl (fun _ => 0))) :: (h, .inr (0, [.ref q0, .ref q1, .ref q2, .ref q3, .ref q4, .null, .null, .null, .null, .int 0, .int 0, .int 0, .int 0, .int 0, .int 0])) :: R))) H _ s := hw2
  refine zn_putF (C := RX0) (T := TX0) (N := 15) (ref := "WheelBrook$Brook") (ty := (.object "WheelBrook$Law")) (ci := 0) (fs := [.ref q0, .ref q1, .ref q2, .ref q3, .ref q4, .null, .null, .null, .null, .int 0, .int 0, .int 0, .int 0, .int 0, .int 0]) (v := .ref (u6 0)) (a := h) 8 X hi2 hw inlX0 tyX0 tyX0_ok nmX0 rfl rfl 5 (by decide) zm_3_3 (fun _ h9 => h9) rfl rfl (by decide +kernel) rfl rfl (Nat.le_of_ble_eq_true rfl) dX0_init_51 (fun H locs hw => ?_)
  have hw : zNW D cy _ ((nc2 cy u6 ++ ((q4, .inl (cy 2, 8, .inr (.inr (.inr (.inr (fun _ => none)))))) :: (q3, .inl (cy 0, 5, .inl (fun _ => 0))) :: (q2, .inl (cy 0, 5, .inl (fun _ => 0))) :: (q1, .inl (cy 0, 12, .inl (fun _ => 0))) :: (q0, .inl (cy 0, 24, .inl (fun _ => 0))) :: (h, .inr (0, [.ref q0, .ref q1, .ref q2, .ref q3, .ref q4, .ref (u6 0), .null, .null, .null, .int 0, .int 0, .int 0, .int 0, .int 0, .int 0])) :: R))) H _ s := hw
  refine lv_aload_n hx hb dX0_init_54 rfl (lv_at hl 0 rfl) ?_
  refine zn_new (ci := 2) (fs := [.null, .null, .int 0]) X hw inlX2 tyX2 tyX2_ok zm_3_0 zm_3_1 zm_3_2 rfl (by decide +kernel) (by decide) (by decide) dX0_init_55 (fun q6 H hw => ?_)
  have hw : zNW D cy _ ((q6, .inr (2, [.null, .null, .int 0])) :: (nc2 cy u6 ++ ((q4, .inl (cy 2, 8, .inr (.inr (.inr (.inr (fun _ => none)))))) :: (q3, .inl (cy 0, 5, .inl (fun _ => 0))) :: (q2, .inl (cy 0, 5, .inl (fun _ => 0))) :: (q1, .inl (cy 0, 12, .inl (fun _ => 0))) :: (q0, .inl (cy 0, 24, .inl (fun _ => 0))) :: (h, .inr (0, [.ref q0, .ref q1, .ref q2, .ref q3, .ref q4, .ref (u6 0), .null, .null, .null, .int 0, .int 0, .int 0, .int 0, .int 0, .int 0])) :: R))) H _ s := hw
  refine lv_dup hx hb dX0_init_58 rfl ?_
  refine zn_callN (host := RX7) (rest := [.ref q6, .ref h]) X hX hw (kX2_init l D cy) (hX.2.2.2.2.2.2.1) zm_3_10 zm_3_2 zm_3_11 rfl rfl rfl (by decide +kernel) (by decide) (Nat.le_of_ble_eq_true rfl) hl.1 (by decide) dX0_init_59 (fun u7 H locs eu7 hw2 => ?_)
  subst eu7
  have hw : zNW D cy _ ((nc2 cy u7 ++ ((nc2 cy u6 ++ ((q4, .inl (cy 2, 8, .inr (.inr (.inr (.inr (fun _ => none)))))) :: (q3, .inl (cy 0, 5, .inl (fun _ => 0))) :: (q2, .inl (cy 0, 5, .inl (fun _ => 0))) :: (q1, .inl (cy 0, 12, .inl (fun _ => 0))) :: (q0, .inl (cy 0, 24, .inl (fun _ => 0))) :: (h, .inr (0, [.ref q0, .ref q1, .ref q2, .ref q3, .ref q4, .ref (u6 0), .null, .null, .null, .int 0, .int 0, .int 0, .int 0, .int 0, .int 0])) :: R))))) H _ s := hw2
  refine zn_putF (C := RX0) (T := TX0) (N := 15) (ref := "WheelBrook$Brook") (ty := (.object "WheelBrook$Law")) (ci := 0) (fs := [.ref q0, .ref q1, .ref q2, .ref q3, .ref q4, .ref (u6 0), .null, .null, .null, .int 0, .int 0, .int 0, .int 0, .int 0, .int 0]) (v := .ref (u7 0)) (a := h) 11 X hi2 hw inlX0 tyX0 tyX0_ok nmX0 rfl rfl 6 (by decide) zm_3_4 (fun _ h9 => h9) rfl rfl (by decide +kernel) rfl rfl (Nat.le_of_ble_eq_true rfl) dX0_init_62 (fun H locs hw => ?_)
  have hw : zNW D cy _ ((nc2 cy u7 ++ ((nc2 cy u6 ++ ((q4, .inl (cy 2, 8, .inr (.inr (.inr (.inr (fun _ => none)))))) :: (q3, .inl (cy 0, 5, .inl (fun _ => 0))) :: (q2, .inl (cy 0, 5, .inl (fun _ => 0))) :: (q1, .inl (cy 0, 12, .inl (fun _ => 0))) :: (q0, .inl (cy 0, 24, .inl (fun _ => 0))) :: (h, .inr (0, [.ref q0, .ref q1, .ref q2, .ref q3, .ref q4, .ref (u6 0), .ref (u7 0), .null, .null, .int 0, .int 0, .int 0, .int 0, .int 0, .int 0])) :: R))))) H _ s := hw
  refine lv_aload_n hx hb dX0_init_65 rfl (lv_at hl 0 rfl) ?_
  refine lv_iconst (v := 4) hx hb dX0_init_66 (by decide) ?_
  refine zn_newI 4 X hw zm_2_12 (by decide) (by decide) (by decide) (by decide) (by decide) dX0_init_67 (fun q7 H hw => ?_)
  have hw : zNW D cy _ ((q7, .inl (cy 0, 4, .inl (fun _ => 0))) :: (nc2 cy u7 ++ ((nc2 cy u6 ++ ((q4, .inl (cy 2, 8, .inr (.inr (.inr (.inr (fun _ => none)))))) :: (q3, .inl (cy 0, 5, .inl (fun _ => 0))) :: (q2, .inl (cy 0, 5, .inl (fun _ => 0))) :: (q1, .inl (cy 0, 12, .inl (fun _ => 0))) :: (q0, .inl (cy 0, 24, .inl (fun _ => 0))) :: (h, .inr (0, [.ref q0, .ref q1, .ref q2, .ref q3, .ref q4, .ref (u6 0), .ref (u7 0), .null, .null, .int 0, .int 0, .int 0, .int 0, .int 0, .int 0])) :: R))))) H _ s := hw
  refine zn_putF (C := RX0) (T := TX0) (N := 15) (ref := "WheelBrook$Brook") (ty := (.array .int)) (ci := 0) (fs := [.ref q0, .ref q1, .ref q2, .ref q3, .ref q4, .ref (u6 0), .ref (u7 0), .null, .null, .int 0, .int 0, .int 0, .int 0, .int 0, .int 0]) (v := .ref q7) (a := h) 12 X hi2 hw inlX0 tyX0 tyX0_ok nmX0 rfl rfl 7 (by decide) zm_3_5 (fun _ h9 => h9) rfl rfl (by decide +kernel) rfl rfl (Nat.le_of_ble_eq_true rfl) dX0_init_69 (fun H locs hw => ?_)
  have hw : zNW D cy _ ((q7, .inl (cy 0, 4, .inl (fun _ => 0))) :: (nc2 cy u7 ++ ((nc2 cy u6 ++ ((q4, .inl (cy 2, 8, .inr (.inr (.inr (.inr (fun _ => none)))))) :: (q3, .inl (cy 0, 5, .inl (fun _ => 0))) :: (q2, .inl (cy 0, 5, .inl (fun _ => 0))) :: (q1, .inl (cy 0, 12, .inl (fun _ => 0))) :: (q0, .inl (cy 0, 24, .inl (fun _ => 0))) :: (h, .inr (0, [.ref q0, .ref q1, .ref q2, .ref q3, .ref q4, .ref (u6 0), .ref (u7 0), .ref q7, .null, .int 0, .int 0, .int 0, .int 0, .int 0, .int 0])) :: R))))) H _ s := hw
  refine lv_aload_n hx hb dX0_init_72 rfl (lv_at hl 0 rfl) ?_
  refine lv_bipush (v := 12) hx hb dX0_init_73 (by decide) ?_
  refine zn_newI 12 X hw zm_2_12 (by decide) (by decide) (by decide) (by decide) (by decide) dX0_init_75 (fun q8 H hw => ?_)
  have hw : zNW D cy _ ((q8, .inl (cy 0, 12, .inl (fun _ => 0))) :: (q7, .inl (cy 0, 4, .inl (fun _ => 0))) :: (nc2 cy u7 ++ ((nc2 cy u6 ++ ((q4, .inl (cy 2, 8, .inr (.inr (.inr (.inr (fun _ => none)))))) :: (q3, .inl (cy 0, 5, .inl (fun _ => 0))) :: (q2, .inl (cy 0, 5, .inl (fun _ => 0))) :: (q1, .inl (cy 0, 12, .inl (fun _ => 0))) :: (q0, .inl (cy 0, 24, .inl (fun _ => 0))) :: (h, .inr (0, [.ref q0, .ref q1, .ref q2, .ref q3, .ref q4, .ref (u6 0), .ref (u7 0), .ref q7, .null, .int 0, .int 0, .int 0, .int 0, .int 0, .int 0])) :: R))))) H _ s := hw
  refine zn_putF (C := RX0) (T := TX0) (N := 15) (ref := "WheelBrook$Brook") (ty := (.array .int)) (ci := 0) (fs := [.ref q0, .ref q1, .ref q2, .ref q3, .ref q4, .ref (u6 0), .ref (u7 0), .ref q7, .null, .int 0, .int 0, .int 0, .int 0, .int 0, .int 0]) (v := .ref q8) (a := h) 13 X hi2 hw inlX0 tyX0 tyX0_ok nmX0 rfl rfl 8 (by decide) zm_3_6 (fun _ h9 => h9) rfl rfl (by decide +kernel) rfl rfl (Nat.le_of_ble_eq_true rfl) dX0_init_77 (fun H locs hw => ?_)
  have hw : zNW D cy _ ((q8, .inl (cy 0, 12, .inl (fun _ => 0))) :: (q7, .inl (cy 0, 4, .inl (fun _ => 0))) :: (nc2 cy u7 ++ ((nc2 cy u6 ++ ((q4, .inl (cy 2, 8, .inr (.inr (.inr (.inr (fun _ => none)))))) :: (q3, .inl (cy 0, 5, .inl (fun _ => 0))) :: (q2, .inl (cy 0, 5, .inl (fun _ => 0))) :: (q1, .inl (cy 0, 12, .inl (fun _ => 0))) :: (q0, .inl (cy 0, 24, .inl (fun _ => 0))) :: (h, .inr (0, [.ref q0, .ref q1, .ref q2, .ref q3, .ref q4, .ref (u6 0), .ref (u7 0), .ref q7, .ref q8, .int 0, .int 0, .int 0, .int 0, .int 0, .int 0])) :: R))))) H _ s := hw
  refine lv_aload_n hx hb dX0_init_80 rfl (lv_at hl 0 rfl) ?_
  refine lv_iconst (v := 1) hx hb dX0_init_81 (by decide) ?_
  refine zn_put (C := RX0) (T := TX0) (N := 15) (ref := "WheelBrook$Brook") (ty := .int) (ci := 0) (fs := [.ref q0, .ref q1, .ref q2, .ref q3, .ref q4, .ref (u6 0), .ref (u7 0), .ref q7, .ref q8, .int 0, .int 0, .int 0, .int 0, .int 0, .int 0]) (v := .int 1) (a := h) 13 X hw inlX0 tyX0 tyX0_ok nmX0 rfl rfl 12 (by decide) zm_3_7 (fun _ h9 => h9) rfl (by decide +kernel) rfl rfl (Nat.le_of_ble_eq_true rfl) dX0_init_82 (fun H locs hw => ?_)
  have hw : zNW D cy _ ((q8, .inl (cy 0, 12, .inl (fun _ => 0))) :: (q7, .inl (cy 0, 4, .inl (fun _ => 0))) :: (nc2 cy u7 ++ ((nc2 cy u6 ++ ((q4, .inl (cy 2, 8, .inr (.inr (.inr (.inr (fun _ => none)))))) :: (q3, .inl (cy 0, 5, .inl (fun _ => 0))) :: (q2, .inl (cy 0, 5, .inl (fun _ => 0))) :: (q1, .inl (cy 0, 12, .inl (fun _ => 0))) :: (q0, .inl (cy 0, 24, .inl (fun _ => 0))) :: (h, .inr (0, [.ref q0, .ref q1, .ref q2, .ref q3, .ref q4, .ref (u6 0), .ref (u7 0), .ref q7, .ref q8, .int 0, .int 0, .int 0, .int 1, .int 0, .int 0])) :: R))))) H _ s := hw
  refine lv_iconst (v := 0) hx hb dX0_init_85 (by decide) ?_
  refine lv_istore_n (lv' := [(1, .int 0), (0, .ref h)]) hx hb dX0_init_86 rfl hl (by decide) rfl (fun ls hl => ?_)
  refine nX0_fill X (fun f => (q8, .inl (cy 0, 12, .inl (fun _ => 0))) :: (q7, .inl (cy 0, 4, .inl (fun _ => 0))) :: (nc2 cy u7 ++ ((nc2 cy u6 ++ ((q4, .inl (cy 2, 8, .inr (.inr (.inr (.inr (fun _ => none)))))) :: (q3, .inl (cy 0, 5, .inl (fun _ => 0))) :: (q2, .inl (cy 0, 5, .inl (fun _ => 0))) :: (q1, .inl (cy 0, 12, .inl (fun _ => 0))) :: (q0, .inl (cy 0, 24, .inl f)) :: (h, .inr (0, [.ref q0, .ref q1, .ref q2, .ref q3, .ref q4, .ref (u6 0), .ref (u7 0), .ref q7, .ref q8, .int 0, .int 0, .int 0, .int 1, .int 0, .int 0])) :: R))))) 13 12 h q0 _ (fun _ => rfl) rfl (fun _ => rfl) (fun _ _ => rfl) 24 0 (by decide) H locs ls hw (lv_sub hl [1, 0] rfl) (fun H locs ls hw hl => ?_)
  have hw : zNW D cy _ ((q8, .inl (cy 0, 12, .inl (fun _ => 0))) :: (q7, .inl (cy 0, 4, .inl (fun _ => 0))) :: (nc2 cy u7 ++ ((nc2 cy u6 ++ ((q4, .inl (cy 2, 8, .inr (.inr (.inr (.inr (fun _ => none)))))) :: (q3, .inl (cy 0, 5, .inl (fun _ => 0))) :: (q2, .inl (cy 0, 5, .inl (fun _ => 0))) :: (q1, .inl (cy 0, 12, .inl (fun _ => 0))) :: (q0, .inl (cy 0, 24, .inl (fun j => if j < 24 then 30 else 0))) :: (h, .inr (0, [.ref q0, .ref q1, .ref q2, .ref q3, .ref q4, .ref (u6 0), .ref (u7 0), .ref q7, .ref q8, .int 0, .int 0, .int 0, .int 1, .int 0, .int 0])) :: R))))) H _ s := hw
  refine lv_iconst (v := 0) hx hb dX0_init_107 (by decide) ?_
  refine lv_istore_n (lv' := [(1, .int 0), (0, .ref h)]) hx hb dX0_init_108 rfl hl (by decide) rfl (fun ls hl => ?_)
  refine lv_iload_n hx hb dX0_init_109 rfl (lv_at hl 0 rfl) ?_
  refine lv_bipush (v := 8) hx hb dX0_init_110 (by decide) ?_
  refine lv_icmp_ge (tgt := 134) hx hb dX0_init_112 (by decide) (fun c1 => absurd c1 (show ¬ (8 : Int32) ≤ 0 by decide)) (fun c1 => ?_)
  refine lv_aload_n hx hb dX0_init_115 rfl (lv_at hl 1 rfl) ?_
  refine zn_get (C := RX0) (T := TX0) (N := 15) (ref := "WheelBrook$Brook") 13 X hw inlX0 rfl rfl 4 (by decide) zm_2_23 (fun _ h9 => h9) rfl dX0_init_116 ?_
  refine lv_iload_n hx hb dX0_init_119 rfl (lv_at hl 0 rfl) ?_
  refine zn_new (ci := 6) (fs := [.int 0, .int 0, .int 0, .int 0, .int 0, .int 0, .int 0, .int 0, .int 0]) X hw inlX6 tyX6 tyX6_ok zm_2_22 zm_3_8 zm_3_9 rfl (by decide +kernel) (by decide) (by decide) dX0_init_120 (fun q9 H hw => ?_)
  have hw : zNW D cy _ ((q9, .inr (6, [.int 0, .int 0, .int 0, .int 0, .int 0, .int 0, .int 0, .int 0, .int 0])) :: (q8, .inl (cy 0, 12, .inl (fun _ => 0))) :: (q7, .inl (cy 0, 4, .inl (fun _ => 0))) :: (nc2 cy u7 ++ ((nc2 cy u6 ++ ((q4, .inl (cy 2, 8, .inr (.inr (.inr (.inr (fun _ => none)))))) :: (q3, .inl (cy 0, 5, .inl (fun _ => 0))) :: (q2, .inl (cy 0, 5, .inl (fun _ => 0))) :: (q1, .inl (cy 0, 12, .inl (fun _ => 0))) :: (q0, .inl (cy 0, 24, .inl (fun j => if j < 24 then 30 else 0))) :: (h, .inr (0, [.ref q0, .ref q1, .ref q2, .ref q3, .ref q4, .ref (u6 0), .ref (u7 0), .ref q7, .ref q8, .int 0, .int 0, .int 0, .int 1, .int 0, .int 0])) :: R))))) H _ s := hw
  refine lv_dup hx hb dX0_init_123 rfl ?_
  refine zn_callN (host := RX7) (rest := [.ref q9, .int 0, .ref q4]) X hX hw (kX6_init l D cy) (hX.2.2.2.2.2.2.2) zm_3_15 zm_3_9 zm_3_16 rfl rfl rfl (by decide +kernel) (by decide) (Nat.le_of_ble_eq_true rfl) hl.1 (by decide) dX0_init_124 (fun u10 H locs eu10 hw2 => ?_)
  have hw : zNW D cy _ ((u10 0, .inr (6, [.int 0, .int 0, .int 0, .int 0, .int 0, .int 0, .int 0, .int 0, .int 0])) :: (q8, .inl (cy 0, 12, .inl (fun _ => 0))) :: (q7, .inl (cy 0, 4, .inl (fun _ => 0))) :: (nc2 cy u7 ++ ((nc2 cy u6 ++ ((q4, .inl (cy 2, 8, .inr (.inr (.inr (.inr (fun _ => none)))))) :: (q3, .inl (cy 0, 5, .inl (fun _ => 0))) :: (q2, .inl (cy 0, 5, .inl (fun _ => 0))) :: (q1, .inl (cy 0, 12, .inl (fun _ => 0))) :: (q0, .inl (cy 0, 24, .inl (fun j => if j < 24 then 30 else 0))) :: (h, .inr (0, [.ref q0, .ref q1, .ref q2, .ref q3, .ref q4, .ref (u6 0), .ref (u7 0), .ref q7, .ref q8, .int 0, .int 0, .int 0, .int 1, .int 0, .int 0])) :: R))))) H _ s := hw2
  rw [eu10] at hw
  refine zn_astq 9 0 X hw rfl rfl (by decide) dX0_init_127 (fun H locs hw => ?_)
  have hw : zNW D cy _ ((q9, .inr (6, [.int 0, .int 0, .int 0, .int 0, .int 0, .int 0, .int 0, .int 0, .int 0])) :: (q8, .inl (cy 0, 12, .inl (fun _ => 0))) :: (q7, .inl (cy 0, 4, .inl (fun _ => 0))) :: (nc2 cy u7 ++ ((nc2 cy u6 ++ ((q4, .inl (cy 2, 8, .inr (.inr (.inr (.inr (va_up (fun _ => none) 0 (some q9))))))) :: (q3, .inl (cy 0, 5, .inl (fun _ => 0))) :: (q2, .inl (cy 0, 5, .inl (fun _ => 0))) :: (q1, .inl (cy 0, 12, .inl (fun _ => 0))) :: (q0, .inl (cy 0, 24, .inl (fun j => if j < 24 then 30 else 0))) :: (h, .inr (0, [.ref q0, .ref q1, .ref q2, .ref q3, .ref q4, .ref (u6 0), .ref (u7 0), .ref q7, .ref q8, .int 0, .int 0, .int 0, .int 1, .int 0, .int 0])) :: R))))) H _ s := hw
  refine lv_iinc (v := 1) (lv' := [(1, .int 1), (0, .ref h)]) hx hb dX0_init_128 hl (k := 0) rfl (by decide) (by decide) rfl (fun ls hl => ?_)
  refine lv_goto (tgt := 109) hx hb dX0_init_131 (by decide) ?_
  refine lv_iload_n hx hb dX0_init_109 rfl (lv_at hl 0 rfl) ?_
  refine lv_bipush (v := 8) hx hb dX0_init_110 (by decide) ?_
  refine lv_icmp_ge (tgt := 134) hx hb dX0_init_112 (by decide) (fun c1 => absurd c1 (show ¬ (8 : Int32) ≤ 1 by decide)) (fun c1 => ?_)
  refine lv_aload_n hx hb dX0_init_115 rfl (lv_at hl 1 rfl) ?_
  refine zn_get (C := RX0) (T := TX0) (N := 15) (ref := "WheelBrook$Brook") 14 X hw inlX0 rfl rfl 4 (by decide) zm_2_23 (fun _ h9 => h9) rfl dX0_init_116 ?_
  refine lv_iload_n hx hb dX0_init_119 rfl (lv_at hl 0 rfl) ?_
  refine zn_new (ci := 6) (fs := [.int 0, .int 0, .int 0, .int 0, .int 0, .int 0, .int 0, .int 0, .int 0]) X hw inlX6 tyX6 tyX6_ok zm_2_22 zm_3_8 zm_3_9 rfl (by decide +kernel) (by decide) (by decide) dX0_init_120 (fun q10 H hw => ?_)
  have hw : zNW D cy _ ((q10, .inr (6, [.int 0, .int 0, .int 0, .int 0, .int 0, .int 0, .int 0, .int 0, .int 0])) :: (q9, .inr (6, [.int 0, .int 0, .int 0, .int 0, .int 0, .int 0, .int 0, .int 0, .int 0])) :: (q8, .inl (cy 0, 12, .inl (fun _ => 0))) :: (q7, .inl (cy 0, 4, .inl (fun _ => 0))) :: (nc2 cy u7 ++ ((nc2 cy u6 ++ ((q4, .inl (cy 2, 8, .inr (.inr (.inr (.inr (va_up (fun _ => none) 0 (some q9))))))) :: (q3, .inl (cy 0, 5, .inl (fun _ => 0))) :: (q2, .inl (cy 0, 5, .inl (fun _ => 0))) :: (q1, .inl (cy 0, 12, .inl (fun _ => 0))) :: (q0, .inl (cy 0, 24, .inl (fun j => if j < 24 then 30 else 0))) :: (h, .inr (0, [.ref q0, .ref q1, .ref q2, .ref q3, .ref q4, .ref (u6 0), .ref (u7 0), .ref q7, .ref q8, .int 0, .int 0, .int 0, .int 1, .int 0, .int 0])) :: R))))) H _ s := hw
  refine lv_dup hx hb dX0_init_123 rfl ?_
  refine zn_callN (host := RX7) (rest := [.ref q10, .int 1, .ref q4]) X hX hw (kX6_init l D cy) (hX.2.2.2.2.2.2.2) zm_3_15 zm_3_9 zm_3_16 rfl rfl rfl (by decide +kernel) (by decide) (Nat.le_of_ble_eq_true rfl) hl.1 (by decide) dX0_init_124 (fun u11 H locs eu11 hw2 => ?_)
  have hw : zNW D cy _ ((u11 0, .inr (6, [.int 0, .int 0, .int 0, .int 0, .int 0, .int 0, .int 0, .int 0, .int 0])) :: (q9, .inr (6, [.int 0, .int 0, .int 0, .int 0, .int 0, .int 0, .int 0, .int 0, .int 0])) :: (q8, .inl (cy 0, 12, .inl (fun _ => 0))) :: (q7, .inl (cy 0, 4, .inl (fun _ => 0))) :: (nc2 cy u7 ++ ((nc2 cy u6 ++ ((q4, .inl (cy 2, 8, .inr (.inr (.inr (.inr (va_up (fun _ => none) 0 (some q9))))))) :: (q3, .inl (cy 0, 5, .inl (fun _ => 0))) :: (q2, .inl (cy 0, 5, .inl (fun _ => 0))) :: (q1, .inl (cy 0, 12, .inl (fun _ => 0))) :: (q0, .inl (cy 0, 24, .inl (fun j => if j < 24 then 30 else 0))) :: (h, .inr (0, [.ref q0, .ref q1, .ref q2, .ref q3, .ref q4, .ref (u6 0), .ref (u7 0), .ref q7, .ref q8, .int 0, .int 0, .int 0, .int 1, .int 0, .int 0])) :: R))))) H _ s := hw2
  rw [eu11] at hw
  refine zn_astq 10 0 X hw rfl rfl (by decide) dX0_init_127 (fun H locs hw => ?_)
  have hw : zNW D cy _ ((q10, .inr (6, [.int 0, .int 0, .int 0, .int 0, .int 0, .int 0, .int 0, .int 0, .int 0])) :: (q9, .inr (6, [.int 0, .int 0, .int 0, .int 0, .int 0, .int 0, .int 0, .int 0, .int 0])) :: (q8, .inl (cy 0, 12, .inl (fun _ => 0))) :: (q7, .inl (cy 0, 4, .inl (fun _ => 0))) :: (nc2 cy u7 ++ ((nc2 cy u6 ++ ((q4, .inl (cy 2, 8, .inr (.inr (.inr (.inr (va_up (va_up (fun _ => none) 0 (some q9)) 1 (some q10))))))) :: (q3, .inl (cy 0, 5, .inl (fun _ => 0))) :: (q2, .inl (cy 0, 5, .inl (fun _ => 0))) :: (q1, .inl (cy 0, 12, .inl (fun _ => 0))) :: (q0, .inl (cy 0, 24, .inl (fun j => if j < 24 then 30 else 0))) :: (h, .inr (0, [.ref q0, .ref q1, .ref q2, .ref q3, .ref q4, .ref (u6 0), .ref (u7 0), .ref q7, .ref q8, .int 0, .int 0, .int 0, .int 1, .int 0, .int 0])) :: R))))) H _ s := hw
  refine lv_iinc (v := 2) (lv' := [(1, .int 2), (0, .ref h)]) hx hb dX0_init_128 hl (k := 0) rfl (by decide) (by decide) rfl (fun ls hl => ?_)
  refine lv_goto (tgt := 109) hx hb dX0_init_131 (by decide) ?_
  refine lv_iload_n hx hb dX0_init_109 rfl (lv_at hl 0 rfl) ?_
  refine lv_bipush (v := 8) hx hb dX0_init_110 (by decide) ?_
  refine lv_icmp_ge (tgt := 134) hx hb dX0_init_112 (by decide) (fun c1 => absurd c1 (show ¬ (8 : Int32) ≤ 2 by decide)) (fun c1 => ?_)
  refine lv_aload_n hx hb dX0_init_115 rfl (lv_at hl 1 rfl) ?_
  refine zn_get (C := RX0) (T := TX0) (N := 15) (ref := "WheelBrook$Brook") 15 X hw inlX0 rfl rfl 4 (by decide) zm_2_23 (fun _ h9 => h9) rfl dX0_init_116 ?_
  refine lv_iload_n hx hb dX0_init_119 rfl (lv_at hl 0 rfl) ?_
  refine zn_new (ci := 6) (fs := [.int 0, .int 0, .int 0, .int 0, .int 0, .int 0, .int 0, .int 0, .int 0]) X hw inlX6 tyX6 tyX6_ok zm_2_22 zm_3_8 zm_3_9 rfl (by decide +kernel) (by decide) (by decide) dX0_init_120 (fun q11 H hw => ?_)
  have hw : zNW D cy _ ((q11, .inr (6, [.int 0, .int 0, .int 0, .int 0, .int 0, .int 0, .int 0, .int 0, .int 0])) :: (q10, .inr (6, [.int 0, .int 0, .int 0, .int 0, .int 0, .int 0, .int 0, .int 0, .int 0])) :: (q9, .inr (6, [.int 0, .int 0, .int 0, .int 0, .int 0, .int 0, .int 0, .int 0, .int 0])) :: (q8, .inl (cy 0, 12, .inl (fun _ => 0))) :: (q7, .inl (cy 0, 4, .inl (fun _ => 0))) :: (nc2 cy u7 ++ ((nc2 cy u6 ++ ((q4, .inl (cy 2, 8, .inr (.inr (.inr (.inr (va_up (va_up (fun _ => none) 0 (some q9)) 1 (some q10))))))) :: (q3, .inl (cy 0, 5, .inl (fun _ => 0))) :: (q2, .inl (cy 0, 5, .inl (fun _ => 0))) :: (q1, .inl (cy 0, 12, .inl (fun _ => 0))) :: (q0, .inl (cy 0, 24, .inl (fun j => if j < 24 then 30 else 0))) :: (h, .inr (0, [.ref q0, .ref q1, .ref q2, .ref q3, .ref q4, .ref (u6 0), .ref (u7 0), .ref q7, .ref q8, .int 0, .int 0, .int 0, .int 1, .int 0, .int 0])) :: R))))) H _ s := hw
  refine lv_dup hx hb dX0_init_123 rfl ?_
  refine zn_callN (host := RX7) (rest := [.ref q11, .int 2, .ref q4]) X hX hw (kX6_init l D cy) (hX.2.2.2.2.2.2.2) zm_3_15 zm_3_9 zm_3_16 rfl rfl rfl (by decide +kernel) (by decide) (Nat.le_of_ble_eq_true rfl) hl.1 (by decide) dX0_init_124 (fun u12 H locs eu12 hw2 => ?_)
  have hw : zNW D cy _ ((u12 0, .inr (6, [.int 0, .int 0, .int 0, .int 0, .int 0, .int 0, .int 0, .int 0, .int 0])) :: (q10, .inr (6, [.int 0, .int 0, .int 0, .int 0, .int 0, .int 0, .int 0, .int 0, .int 0])) :: (q9, .inr (6, [.int 0, .int 0, .int 0, .int 0, .int 0, .int 0, .int 0, .int 0, .int 0])) :: (q8, .inl (cy 0, 12, .inl (fun _ => 0))) :: (q7, .inl (cy 0, 4, .inl (fun _ => 0))) :: (nc2 cy u7 ++ ((nc2 cy u6 ++ ((q4, .inl (cy 2, 8, .inr (.inr (.inr (.inr (va_up (va_up (fun _ => none) 0 (some q9)) 1 (some q10))))))) :: (q3, .inl (cy 0, 5, .inl (fun _ => 0))) :: (q2, .inl (cy 0, 5, .inl (fun _ => 0))) :: (q1, .inl (cy 0, 12, .inl (fun _ => 0))) :: (q0, .inl (cy 0, 24, .inl (fun j => if j < 24 then 30 else 0))) :: (h, .inr (0, [.ref q0, .ref q1, .ref q2, .ref q3, .ref q4, .ref (u6 0), .ref (u7 0), .ref q7, .ref q8, .int 0, .int 0, .int 0, .int 1, .int 0, .int 0])) :: R))))) H _ s := hw2
  rw [eu12] at hw
  refine zn_astq 11 0 X hw rfl rfl (by decide) dX0_init_127 (fun H locs hw => ?_)
  have hw : zNW D cy _ ((q11, .inr (6, [.int 0, .int 0, .int 0, .int 0, .int 0, .int 0, .int 0, .int 0, .int 0])) :: (q10, .inr (6, [.int 0, .int 0, .int 0, .int 0, .int 0, .int 0, .int 0, .int 0, .int 0])) :: (q9, .inr (6, [.int 0, .int 0, .int 0, .int 0, .int 0, .int 0, .int 0, .int 0, .int 0])) :: (q8, .inl (cy 0, 12, .inl (fun _ => 0))) :: (q7, .inl (cy 0, 4, .inl (fun _ => 0))) :: (nc2 cy u7 ++ ((nc2 cy u6 ++ ((q4, .inl (cy 2, 8, .inr (.inr (.inr (.inr (va_up (va_up (va_up (fun _ => none) 0 (some q9)) 1 (some q10)) 2 (some q11))))))) :: (q3, .inl (cy 0, 5, .inl (fun _ => 0))) :: (q2, .inl (cy 0, 5, .inl (fun _ => 0))) :: (q1, .inl (cy 0, 12, .inl (fun _ => 0))) :: (q0, .inl (cy 0, 24, .inl (fun j => if j < 24 then 30 else 0))) :: (h, .inr (0, [.ref q0, .ref q1, .ref q2, .ref q3, .ref q4, .ref (u6 0), .ref (u7 0), .ref q7, .ref q8, .int 0, .int 0, .int 0, .int 1, .int 0, .int 0])) :: R))))) H _ s := hw
  refine lv_iinc (v := 3) (lv' := [(1, .int 3), (0, .ref h)]) hx hb dX0_init_128 hl (k := 0) rfl (by decide) (by decide) rfl (fun ls hl => ?_)
  refine lv_goto (tgt := 109) hx hb dX0_init_131 (by decide) ?_
  refine lv_iload_n hx hb dX0_init_109 rfl (lv_at hl 0 rfl) ?_
  refine lv_bipush (v := 8) hx hb dX0_init_110 (by decide) ?_
  refine lv_icmp_ge (tgt := 134) hx hb dX0_init_112 (by decide) (fun c1 => absurd c1 (show ¬ (8 : Int32) ≤ 3 by decide)) (fun c1 => ?_)
  refine lv_aload_n hx hb dX0_init_115 rfl (lv_at hl 1 rfl) ?_
  refine zn_get (C := RX0) (T := TX0) (N := 15) (ref := "WheelBrook$Brook") 16 X hw inlX0 rfl rfl 4 (by decide) zm_2_23 (fun _ h9 => h9) rfl dX0_init_116 ?_
  refine lv_iload_n hx hb dX0_init_119 rfl (lv_at hl 0 rfl) ?_
  refine zn_new (ci := 6) (fs := [.int 0, .int 0, .int 0, .int 0, .int 0, .int 0, .int 0, .int 0, .int 0]) X hw inlX6 tyX6 tyX6_ok zm_2_22 zm_3_8 zm_3_9 rfl (by decide +kernel) (by decide) (by decide) dX0_init_120 (fun q12 H hw => ?_)
  have hw : zNW D cy _ ((q12, .inr (6, [.int 0, .int 0, .int 0, .int 0, .int 0, .int 0, .int 0, .int 0, .int 0])) :: (q11, .inr (6, [.int 0, .int 0, .int 0, .int 0, .int 0, .int 0, .int 0, .int 0, .int 0])) :: (q10, .inr (6, [.int 0, .int 0, .int 0, .int 0, .int 0, .int 0, .int 0, .int 0, .int 0])) :: (q9, .inr (6, [.int 0, .int 0, .int 0, .int 0, .int 0, .int 0, .int 0, .int 0, .int 0])) :: (q8, .inl (cy 0, 12, .inl (fun _ => 0))) :: (q7, .inl (cy 0, 4, .inl (fun _ => 0))) :: (nc2 cy u7 ++ ((nc2 cy u6 ++ ((q4, .inl (cy 2, 8, .inr (.inr (.inr (.inr (va_up (va_up (va_up (fun _ => none) 0 (some q9)) 1 (some q10)) 2 (some q11))))))) :: (q3, .inl (cy 0, 5, .inl (fun _ => 0))) :: (q2, .inl (cy 0, 5, .inl (fun _ => 0))) :: (q1, .inl (cy 0, 12, .inl (fun _ => 0))) :: (q0, .inl (cy 0, 24, .inl (fun j => if j < 24 then 30 else 0))) :: (h, .inr (0, [.ref q0, .ref q1, .ref q2, .ref q3, .ref q4, .ref (u6 0), .ref (u7 0), .ref q7, .ref q8, .int 0, .int 0, .int 0, .int 1, .int 0, .int 0])) :: R))))) H _ s := hw
  refine lv_dup hx hb dX0_init_123 rfl ?_
  refine zn_callN (host := RX7) (rest := [.ref q12, .int 3, .ref q4]) X hX hw (kX6_init l D cy) (hX.2.2.2.2.2.2.2) zm_3_15 zm_3_9 zm_3_16 rfl rfl rfl (by decide +kernel) (by decide) (Nat.le_of_ble_eq_true rfl) hl.1 (by decide) dX0_init_124 (fun u13 H locs eu13 hw2 => ?_)
  have hw : zNW D cy _ ((u13 0, .inr (6, [.int 0, .int 0, .int 0, .int 0, .int 0, .int 0, .int 0, .int 0, .int 0])) :: (q11, .inr (6, [.int 0, .int 0, .int 0, .int 0, .int 0, .int 0, .int 0, .int 0, .int 0])) :: (q10, .inr (6, [.int 0, .int 0, .int 0, .int 0, .int 0, .int 0, .int 0, .int 0, .int 0])) :: (q9, .inr (6, [.int 0, .int 0, .int 0, .int 0, .int 0, .int 0, .int 0, .int 0, .int 0])) :: (q8, .inl (cy 0, 12, .inl (fun _ => 0))) :: (q7, .inl (cy 0, 4, .inl (fun _ => 0))) :: (nc2 cy u7 ++ ((nc2 cy u6 ++ ((q4, .inl (cy 2, 8, .inr (.inr (.inr (.inr (va_up (va_up (va_up (fun _ => none) 0 (some q9)) 1 (some q10)) 2 (some q11))))))) :: (q3, .inl (cy 0, 5, .inl (fun _ => 0))) :: (q2, .inl (cy 0, 5, .inl (fun _ => 0))) :: (q1, .inl (cy 0, 12, .inl (fun _ => 0))) :: (q0, .inl (cy 0, 24, .inl (fun j => if j < 24 then 30 else 0))) :: (h, .inr (0, [.ref q0, .ref q1, .ref q2, .ref q3, .ref q4, .ref (u6 0), .ref (u7 0), .ref q7, .ref q8, .int 0, .int 0, .int 0, .int 1, .int 0, .int 0])) :: R))))) H _ s := hw2
  rw [eu13] at hw
  refine zn_astq 12 0 X hw rfl rfl (by decide) dX0_init_127 (fun H locs hw => ?_)
  have hw : zNW D cy _ ((q12, .inr (6, [.int 0, .int 0, .int 0, .int 0, .int 0, .int 0, .int 0, .int 0, .int 0])) :: (q11, .inr (6, [.int 0, .int 0, .int 0, .int 0, .int 0, .int 0, .int 0, .int 0, .int 0])) :: (q10, .inr (6, [.int 0, .int 0, .int 0, .int 0, .int 0, .int 0, .int 0, .int 0, .int 0])) :: (q9, .inr (6, [.int 0, .int 0, .int 0, .int 0, .int 0, .int 0, .int 0, .int 0, .int 0])) :: (q8, .inl (cy 0, 12, .inl (fun _ => 0))) :: (q7, .inl (cy 0, 4, .inl (fun _ => 0))) :: (nc2 cy u7 ++ ((nc2 cy u6 ++ ((q4, .inl (cy 2, 8, .inr (.inr (.inr (.inr (va_up (va_up (va_up (va_up (fun _ => none) 0 (some q9)) 1 (some q10)) 2 (some q11)) 3 (some q12))))))) :: (q3, .inl (cy 0, 5, .inl (fun _ => 0))) :: (q2, .inl (cy 0, 5, .inl (fun _ => 0))) :: (q1, .inl (cy 0, 12, .inl (fun _ => 0))) :: (q0, .inl (cy 0, 24, .inl (fun j => if j < 24 then 30 else 0))) :: (h, .inr (0, [.ref q0, .ref q1, .ref q2, .ref q3, .ref q4, .ref (u6 0), .ref (u7 0), .ref q7, .ref q8, .int 0, .int 0, .int 0, .int 1, .int 0, .int 0])) :: R))))) H _ s := hw
  refine lv_iinc (v := 4) (lv' := [(1, .int 4), (0, .ref h)]) hx hb dX0_init_128 hl (k := 0) rfl (by decide) (by decide) rfl (fun ls hl => ?_)
  refine lv_goto (tgt := 109) hx hb dX0_init_131 (by decide) ?_
  refine lv_iload_n hx hb dX0_init_109 rfl (lv_at hl 0 rfl) ?_
  refine lv_bipush (v := 8) hx hb dX0_init_110 (by decide) ?_
  refine lv_icmp_ge (tgt := 134) hx hb dX0_init_112 (by decide) (fun c1 => absurd c1 (show ¬ (8 : Int32) ≤ 4 by decide)) (fun c1 => ?_)
  refine lv_aload_n hx hb dX0_init_115 rfl (lv_at hl 1 rfl) ?_
  refine zn_get (C := RX0) (T := TX0) (N := 15) (ref := "WheelBrook$Brook") 17 X hw inlX0 rfl rfl 4 (by decide) zm_2_23 (fun _ h9 => h9) rfl dX0_init_116 ?_
  refine lv_iload_n hx hb dX0_init_119 rfl (lv_at hl 0 rfl) ?_
  refine zn_new (ci := 6) (fs := [.int 0, .int 0, .int 0, .int 0, .int 0, .int 0, .int 0, .int 0, .int 0]) X hw inlX6 tyX6 tyX6_ok zm_2_22 zm_3_8 zm_3_9 rfl (by decide +kernel) (by decide) (by decide) dX0_init_120 (fun q13 H hw => ?_)
  have hw : zNW D cy _ ((q13, .inr (6, [.int 0, .int 0, .int 0, .int 0, .int 0, .int 0, .int 0, .int 0, .int 0])) :: (q12, .inr (6, [.int 0, .int 0, .int 0, .int 0, .int 0, .int 0, .int 0, .int 0, .int 0])) :: (q11, .inr (6, [.int 0, .int 0, .int 0, .int 0, .int 0, .int 0, .int 0, .int 0, .int 0])) :: (q10, .inr (6, [.int 0, .int 0, .int 0, .int 0, .int 0, .int 0, .int 0, .int 0, .int 0])) :: (q9, .inr (6, [.int 0, .int 0, .int 0, .int 0, .int 0, .int 0, .int 0, .int 0, .int 0])) :: (q8, .inl (cy 0, 12, .inl (fun _ => 0))) :: (q7, .inl (cy 0, 4, .inl (fun _ => 0))) :: (nc2 cy u7 ++ ((nc2 cy u6 ++ ((q4, .inl (cy 2, 8, .inr (.inr (.inr (.inr (va_up (va_up (va_up (va_up (fun _ => none) 0 (some q9)) 1 (some q10)) 2 (some q11)) 3 (some q12))))))) :: (q3, .inl (cy 0, 5, .inl (fun _ => 0))) :: (q2, .inl (cy 0, 5, .inl (fun _ => 0))) :: (q1, .inl (cy 0, 12, .inl (fun _ => 0))) :: (q0, .inl (cy 0, 24, .inl (fun j => if j < 24 then 30 else 0))) :: (h, .inr (0, [.ref q0, .ref q1, .ref q2, .ref q3, .ref q4, .ref (u6 0), .ref (u7 0), .ref q7, .ref q8, .int 0, .int 0, .int 0, .int 1, .int 0, .int 0])) :: R))))) H _ s := hw
  refine lv_dup hx hb dX0_init_123 rfl ?_
  refine zn_callN (host := RX7) (rest := [.ref q13, .int 4, .ref q4]) X hX hw (kX6_init l D cy) (hX.2.2.2.2.2.2.2) zm_3_15 zm_3_9 zm_3_16 rfl rfl rfl (by decide +kernel) (by decide) (Nat.le_of_ble_eq_true rfl) hl.1 (by decide) dX0_init_124 (fun u14 H locs eu14 hw2 => ?_)
  have hw : zNW D cy _ ((u14 0, .inr (6, [.int 0, .int 0, .int 0, .int 0, .int 0, .int 0, .int 0, .int 0, .int 0])) :: (q12, .inr (6, [.int 0, .int 0, .int 0, .int 0, .int 0, .int 0, .int 0, .int 0, .int 0])) :: (q11, .inr (6, [.int 0, .int 0, .int 0, .int 0, .int 0, .int 0, .int 0, .int 0, .int 0])) :: (q10, .inr (6, [.int 0, .int 0, .int 0, .int 0, .int 0, .int 0, .int 0, .int 0, .int 0])) :: (q9, .inr (6, [.int 0, .int 0, .int 0, .int 0, .int 0, .int 0, .int 0, .int 0, .int 0])) :: (q8, .inl (cy 0, 12, .inl (fun _ => 0))) :: (q7, .inl (cy 0, 4, .inl (fun _ => 0))) :: (nc2 cy u7 ++ ((nc2 cy u6 ++ ((q4, .inl (cy 2, 8, .inr (.inr (.inr (.inr (va_up (va_up (va_up (va_up (fun _ => none) 0 (some q9)) 1 (some q10)) 2 (some q11)) 3 (some q12))))))) :: (q3, .inl (cy 0, 5, .inl (fun _ => 0))) :: (q2, .inl (cy 0, 5, .inl (fun _ => 0))) :: (q1, .inl (cy 0, 12, .inl (fun _ => 0))) :: (q0, .inl (cy 0, 24, .inl (fun j => if j < 24 then 30 else 0))) :: (h, .inr (0, [.ref q0, .ref q1, .ref q2, .ref q3, .ref q4, .ref (u6 0), .ref (u7 0), .ref q7, .ref q8, .int 0, .int 0, .int 0, .int 1, .int 0, .int 0])) :: R))))) H _ s := hw2
  rw [eu14] at hw
  refine zn_astq 13 0 X hw rfl rfl (by decide) dX0_init_127 (fun H locs hw => ?_)
  have hw : zNW D cy _ ((q13, .inr (6, [.int 0, .int 0, .int 0, .int 0, .int 0, .int 0, .int 0, .int 0, .int 0])) :: (q12, .inr (6, [.int 0, .int 0, .int 0, .int 0, .int 0, .int 0, .int 0, .int 0, .int 0])) :: (q11, .inr (6, [.int 0, .int 0, .int 0, .int 0, .int 0, .int 0, .int 0, .int 0, .int 0])) :: (q10, .inr (6, [.int 0, .int 0, .int 0, .int 0, .int 0, .int 0, .int 0, .int 0, .int 0])) :: (q9, .inr (6, [.int 0, .int 0, .int 0, .int 0, .int 0, .int 0, .int 0, .int 0, .int 0])) :: (q8, .inl (cy 0, 12, .inl (fun _ => 0))) :: (q7, .inl (cy 0, 4, .inl (fun _ => 0))) :: (nc2 cy u7 ++ ((nc2 cy u6 ++ ((q4, .inl (cy 2, 8, .inr (.inr (.inr (.inr (va_up (va_up (va_up (va_up (va_up (fun _ => none) 0 (some q9)) 1 (some q10)) 2 (some q11)) 3 (some q12)) 4 (some q13))))))) :: (q3, .inl (cy 0, 5, .inl (fun _ => 0))) :: (q2, .inl (cy 0, 5, .inl (fun _ => 0))) :: (q1, .inl (cy 0, 12, .inl (fun _ => 0))) :: (q0, .inl (cy 0, 24, .inl (fun j => if j < 24 then 30 else 0))) :: (h, .inr (0, [.ref q0, .ref q1, .ref q2, .ref q3, .ref q4, .ref (u6 0), .ref (u7 0), .ref q7, .ref q8, .int 0, .int 0, .int 0, .int 1, .int 0, .int 0])) :: R))))) H _ s := hw
  refine lv_iinc (v := 5) (lv' := [(1, .int 5), (0, .ref h)]) hx hb dX0_init_128 hl (k := 0) rfl (by decide) (by decide) rfl (fun ls hl => ?_)
  refine lv_goto (tgt := 109) hx hb dX0_init_131 (by decide) ?_
  refine lv_iload_n hx hb dX0_init_109 rfl (lv_at hl 0 rfl) ?_
  refine lv_bipush (v := 8) hx hb dX0_init_110 (by decide) ?_
  refine lv_icmp_ge (tgt := 134) hx hb dX0_init_112 (by decide) (fun c1 => absurd c1 (show ¬ (8 : Int32) ≤ 5 by decide)) (fun c1 => ?_)
  refine lv_aload_n hx hb dX0_init_115 rfl (lv_at hl 1 rfl) ?_
  refine zn_get (C := RX0) (T := TX0) (N := 15) (ref := "WheelBrook$Brook") 18 X hw inlX0 rfl rfl 4 (by decide) zm_2_23 (fun _ h9 => h9) rfl dX0_init_116 ?_
  refine lv_iload_n hx hb dX0_init_119 rfl (lv_at hl 0 rfl) ?_
  refine zn_new (ci := 6) (fs := [.int 0, .int 0, .int 0, .int 0, .int 0, .int 0, .int 0, .int 0, .int 0]) X hw inlX6 tyX6 tyX6_ok zm_2_22 zm_3_8 zm_3_9 rfl (by decide +kernel) (by decide) (by decide) dX0_init_120 (fun q14 H hw => ?_)
  have hw : zNW D cy _ ((q14, .inr (6, [.int 0, .int 0, .int 0, .int 0, .int 0, .int 0, .int 0, .int 0, .int 0])) :: (q13, .inr (6, [.int 0, .int 0, .int 0, .int 0, .int 0, .int 0, .int 0, .int 0, .int 0])) :: (q12, .inr (6, [.int 0, .int 0, .int 0, .int 0, .int 0, .int 0, .int 0, .int 0, .int 0])) :: (q11, .inr (6, [.int 0, .int 0, .int 0, .int 0, .int 0, .int 0, .int 0, .int 0, .int 0])) :: (q10, .inr (6, [.int 0, .int 0, .int 0, .int 0, .int 0, .int 0, .int 0, .int 0, .int 0])) :: (q9, .inr (6, [.int 0, .int 0, .int 0, .int 0, .int 0, .int 0, .int 0, .int 0, .int 0])) :: (q8, .inl (cy 0, 12, .inl (fun _ => 0))) :: (q7, .inl (cy 0, 4, .inl (fun _ => 0))) :: (nc2 cy u7 ++ ((nc2 cy u6 ++ ((q4, .inl (cy 2, 8, .inr (.inr (.inr (.inr (va_up (va_up (va_up (va_up (va_up (fun _ => none) 0 (some q9)) 1 (some q10)) 2 (some q11)) 3 (some q12)) 4 (some q13))))))) :: (q3, .inl (cy 0, 5, .inl (fun _ => 0))) :: (q2, .inl (cy 0, 5, .inl (fun _ => 0))) :: (q1, .inl (cy 0, 12, .inl (fun _ => 0))) :: (q0, .inl (cy 0, 24, .inl (fun j => if j < 24 then 30 else 0))) :: (h, .inr (0, [.ref q0, .ref q1, .ref q2, .ref q3, .ref q4, .ref (u6 0), .ref (u7 0), .ref q7, .ref q8, .int 0, .int 0, .int 0, .int 1, .int 0, .int 0])) :: R))))) H _ s := hw
  refine lv_dup hx hb dX0_init_123 rfl ?_
  refine zn_callN (host := RX7) (rest := [.ref q14, .int 5, .ref q4]) X hX hw (kX6_init l D cy) (hX.2.2.2.2.2.2.2) zm_3_15 zm_3_9 zm_3_16 rfl rfl rfl (by decide +kernel) (by decide) (Nat.le_of_ble_eq_true rfl) hl.1 (by decide) dX0_init_124 (fun u15 H locs eu15 hw2 => ?_)
  have hw : zNW D cy _ ((u15 0, .inr (6, [.int 0, .int 0, .int 0, .int 0, .int 0, .int 0, .int 0, .int 0, .int 0])) :: (q13, .inr (6, [.int 0, .int 0, .int 0, .int 0, .int 0, .int 0, .int 0, .int 0, .int 0])) :: (q12, .inr (6, [.int 0, .int 0, .int 0, .int 0, .int 0, .int 0, .int 0, .int 0, .int 0])) :: (q11, .inr (6, [.int 0, .int 0, .int 0, .int 0, .int 0, .int 0, .int 0, .int 0, .int 0])) :: (q10, .inr (6, [.int 0, .int 0, .int 0, .int 0, .int 0, .int 0, .int 0, .int 0, .int 0])) :: (q9, .inr (6, [.int 0, .int 0, .int 0, .int 0, .int 0, .int 0, .int 0, .int 0, .int 0])) :: (q8, .inl (cy 0, 12, .inl (fun _ => 0))) :: (q7, .inl (cy 0, 4, .inl (fun _ => 0))) :: (nc2 cy u7 ++ ((nc2 cy u6 ++ ((q4, .inl (cy 2, 8, .inr (.inr (.inr (.inr (va_up (va_up (va_up (va_up (va_up (fun _ => none) 0 (some q9)) 1 (some q10)) 2 (some q11)) 3 (some q12)) 4 (some q13))))))) :: (q3, .inl (cy 0, 5, .inl (fun _ => 0))) :: (q2, .inl (cy 0, 5, .inl (fun _ => 0))) :: (q1, .inl (cy 0, 12, .inl (fun _ => 0))) :: (q0, .inl (cy 0, 24, .inl (fun j => if j < 24 then 30 else 0))) :: (h, .inr (0, [.ref q0, .ref q1, .ref q2, .ref q3, .ref q4, .ref (u6 0), .ref (u7 0), .ref q7, .ref q8, .int 0, .int 0, .int 0, .int 1, .int 0, .int 0])) :: R))))) H _ s := hw2
  rw [eu15] at hw
  refine zn_astq 14 0 X hw rfl rfl (by decide) dX0_init_127 (fun H locs hw => ?_)
  have hw : zNW D cy _ ((q14, .inr (6, [.int 0, .int 0, .int 0, .int 0, .int 0, .int 0, .int 0, .int 0, .int 0])) :: (q13, .inr (6, [.int 0, .int 0, .int 0, .int 0, .int 0, .int 0, .int 0, .int 0, .int 0])) :: (q12, .inr (6, [.int 0, .int 0, .int 0, .int 0, .int 0, .int 0, .int 0, .int 0, .int 0])) :: (q11, .inr (6, [.int 0, .int 0, .int 0, .int 0, .int 0, .int 0, .int 0, .int 0, .int 0])) :: (q10, .inr (6, [.int 0, .int 0, .int 0, .int 0, .int 0, .int 0, .int 0, .int 0, .int 0])) :: (q9, .inr (6, [.int 0, .int 0, .int 0, .int 0, .int 0, .int 0, .int 0, .int 0, .int 0])) :: (q8, .inl (cy 0, 12, .inl (fun _ => 0))) :: (q7, .inl (cy 0, 4, .inl (fun _ => 0))) :: (nc2 cy u7 ++ ((nc2 cy u6 ++ ((q4, .inl (cy 2, 8, .inr (.inr (.inr (.inr (va_up (va_up (va_up (va_up (va_up (va_up (fun _ => none) 0 (some q9)) 1 (some q10)) 2 (some q11)) 3 (some q12)) 4 (some q13)) 5 (some q14))))))) :: (q3, .inl (cy 0, 5, .inl (fun _ => 0))) :: (q2, .inl (cy 0, 5, .inl (fun _ => 0))) :: (q1, .inl (cy 0, 12, .inl (fun _ => 0))) :: (q0, .inl (cy 0, 24, .inl (fun j => if j < 24 then 30 else 0))) :: (h, .inr (0, [.ref q0, .ref q1, .ref q2, .ref q3, .ref q4, .ref (u6 0), .ref (u7 0), .ref q7, .ref q8, .int 0, .int 0, .int 0, .int 1, .int 0, .int 0])) :: R))))) H _ s := hw
  refine lv_iinc (v := 6) (lv' := [(1, .int 6), (0, .ref h)]) hx hb dX0_init_128 hl (k := 0) rfl (by decide) (by decide) rfl (fun ls hl => ?_)
  refine lv_goto (tgt := 109) hx hb dX0_init_131 (by decide) ?_
  refine lv_iload_n hx hb dX0_init_109 rfl (lv_at hl 0 rfl) ?_
  refine lv_bipush (v := 8) hx hb dX0_init_110 (by decide) ?_
  refine lv_icmp_ge (tgt := 134) hx hb dX0_init_112 (by decide) (fun c1 => absurd c1 (show ¬ (8 : Int32) ≤ 6 by decide)) (fun c1 => ?_)
  refine lv_aload_n hx hb dX0_init_115 rfl (lv_at hl 1 rfl) ?_
  refine zn_get (C := RX0) (T := TX0) (N := 15) (ref := "WheelBrook$Brook") 19 X hw inlX0 rfl rfl 4 (by decide) zm_2_23 (fun _ h9 => h9) rfl dX0_init_116 ?_
  refine lv_iload_n hx hb dX0_init_119 rfl (lv_at hl 0 rfl) ?_
  refine zn_new (ci := 6) (fs := [.int 0, .int 0, .int 0, .int 0, .int 0, .int 0, .int 0, .int 0, .int 0]) X hw inlX6 tyX6 tyX6_ok zm_2_22 zm_3_8 zm_3_9 rfl (by decide +kernel) (by decide) (by decide) dX0_init_120 (fun q15 H hw => ?_)
  have hw : zNW D cy _ ((q15, .inr (6, [.int 0, .int 0, .int 0, .int 0, .int 0, .int 0, .int 0, .int 0, .int 0])) :: (q14, .inr (6, [.int 0, .int 0, .int 0, .int 0, .int 0, .int 0, .int 0, .int 0, .int 0])) :: (q13, .inr (6, [.int 0, .int 0, .int 0, .int 0, .int 0, .int 0, .int 0, .int 0, .int 0])) :: (q12, .inr (6, [.int 0, .int 0, .int 0, .int 0, .int 0, .int 0, .int 0, .int 0, .int 0])) :: (q11, .inr (6, [.int 0, .int 0, .int 0, .int 0, .int 0, .int 0, .int 0, .int 0, .int 0])) :: (q10, .inr (6, [.int 0, .int 0, .int 0, .int 0, .int 0, .int 0, .int 0, .int 0, .int 0])) :: (q9, .inr (6, [.int 0, .int 0, .int 0, .int 0, .int 0, .int 0, .int 0, .int 0, .int 0])) :: (q8, .inl (cy 0, 12, .inl (fun _ => 0))) :: (q7, .inl (cy 0, 4, .inl (fun _ => 0))) :: (nc2 cy u7 ++ ((nc2 cy u6 ++ ((q4, .inl (cy 2, 8, .inr (.inr (.inr (.inr (va_up (va_up (va_up (va_up (va_up (va_up (fun _ => none) 0 (some q9)) 1 (some q10)) 2 (some q11)) 3 (some q12)) 4 (some q13)) 5 (some q14))))))) :: (q3, .inl (cy 0, 5, .inl (fun _ => 0))) :: (q2, .inl (cy 0, 5, .inl (fun _ => 0))) :: (q1, .inl (cy 0, 12, .inl (fun _ => 0))) :: (q0, .inl (cy 0, 24, .inl (fun j => if j < 24 then 30 else 0))) :: (h, .inr (0, [.ref q0, .ref q1, .ref q2, .ref q3, .ref q4, .ref (u6 0), .ref (u7 0), .ref q7, .ref q8, .int 0, .int 0, .int 0, .int 1, .int 0, .int 0])) :: R))))) H _ s := hw
  refine lv_dup hx hb dX0_init_123 rfl ?_
  refine zn_callN (host := RX7) (rest := [.ref q15, .int 6, .ref q4]) X hX hw (kX6_init l D cy) (hX.2.2.2.2.2.2.2) zm_3_15 zm_3_9 zm_3_16 rfl rfl rfl (by decide +kernel) (by decide) (Nat.le_of_ble_eq_true rfl) hl.1 (by decide) dX0_init_124 (fun u16 H locs eu16 hw2 => ?_)
  have hw : zNW D cy _ ((u16 0, .inr (6, [.int 0, .int 0, .int 0, .int 0, .int 0, .int 0, .int 0, .int 0, .int 0])) :: (q14, .inr (6, [.int 0, .int 0, .int 0, .int 0, .int 0, .int 0, .int 0, .int 0, .int 0])) :: (q13, .inr (6, [.int 0, .int 0, .int 0, .int 0, .int 0, .int 0, .int 0, .int 0, .int 0])) :: (q12, .inr (6, [.int 0, .int 0, .int 0, .int 0, .int 0, .int 0, .int 0, .int 0, .int 0])) :: (q11, .inr (6, [.int 0, .int 0, .int 0, .int 0, .int 0, .int 0, .int 0, .int 0, .int 0])) :: (q10, .inr (6, [.int 0, .int 0, .int 0, .int 0, .int 0, .int 0, .int 0, .int 0, .int 0])) :: (q9, .inr (6, [.int 0, .int 0, .int 0, .int 0, .int 0, .int 0, .int 0, .int 0, .int 0])) :: (q8, .inl (cy 0, 12, .inl (fun _ => 0))) :: (q7, .inl (cy 0, 4, .inl (fun _ => 0))) :: (nc2 cy u7 ++ ((nc2 cy u6 ++ ((q4, .inl (cy 2, 8, .inr (.inr (.inr (.inr (va_up (va_up (va_up (va_up (va_up (va_up (fun _ => none) 0 (some q9)) 1 (some q10)) 2 (some q11)) 3 (some q12)) 4 (some q13)) 5 (some q14))))))) :: (q3, .inl (cy 0, 5, .inl (fun _ => 0))) :: (q2, .inl (cy 0, 5, .inl (fun _ => 0))) :: (q1, .inl (cy 0, 12, .inl (fun _ => 0))) :: (q0, .inl (cy 0, 24, .inl (fun j => if j < 24 then 30 else 0))) :: (h, .inr (0, [.ref q0, .ref q1, .ref q2, .ref q3, .ref q4, .ref (u6 0), .ref (u7 0), .ref q7, .ref q8, .int 0, .int 0, .int 0, .int 1, .int 0, .int 0])) :: R))))) H _ s := hw2
  rw [eu16] at hw
  refine zn_astq 15 0 X hw rfl rfl (by decide) dX0_init_127 (fun H locs hw => ?_)
  have hw : zNW D cy _ ((q15, .inr (6, [.int 0, .int 0, .int 0, .int 0, .int 0, .int 0, .int 0, .int 0, .int 0])) :: (q14, .inr (6, [.int 0, .int 0, .int 0, .int 0, .int 0, .int 0, .int 0, .int 0, .int 0])) :: (q13, .inr (6, [.int 0, .int 0, .int 0, .int 0, .int 0, .int 0, .int 0, .int 0, .int 0])) :: (q12, .inr (6, [.int 0, .int 0, .int 0, .int 0, .int 0, .int 0, .int 0, .int 0, .int 0])) :: (q11, .inr (6, [.int 0, .int 0, .int 0, .int 0, .int 0, .int 0, .int 0, .int 0, .int 0])) :: (q10, .inr (6, [.int 0, .int 0, .int 0, .int 0, .int 0, .int 0, .int 0, .int 0, .int 0])) :: (q9, .inr (6, [.int 0, .int 0, .int 0, .int 0, .int 0, .int 0, .int 0, .int 0, .int 0])) :: (q8, .inl (cy 0, 12, .inl (fun _ => 0))) :: (q7, .inl (cy 0, 4, .inl (fun _ => 0))) :: (nc2 cy u7 ++ ((nc2 cy u6 ++ ((q4, .inl (cy 2, 8, .inr (.inr (.inr (.inr (va_up (va_up (va_up (va_up (va_up (va_up (va_up (fun _ => none) 0 (some q9)) 1 (some q10)) 2 (some q11)) 3 (some q12)) 4 (some q13)) 5 (some q14)) 6 (some q15))))))) :: (q3, .inl (cy 0, 5, .inl (fun _ => 0))) :: (q2, .inl (cy 0, 5, .inl (fun _ => 0))) :: (q1, .inl (cy 0, 12, .inl (fun _ => 0))) :: (q0, .inl (cy 0, 24, .inl (fun j => if j < 24 then 30 else 0))) :: (h, .inr (0, [.ref q0, .ref q1, .ref q2, .ref q3, .ref q4, .ref (u6 0), .ref (u7 0), .ref q7, .ref q8, .int 0, .int 0, .int 0, .int 1, .int 0, .int 0])) :: R))))) H _ s := hw
  refine lv_iinc (v := 7) (lv' := [(1, .int 7), (0, .ref h)]) hx hb dX0_init_128 hl (k := 0) rfl (by decide) (by decide) rfl (fun ls hl => ?_)
  refine lv_goto (tgt := 109) hx hb dX0_init_131 (by decide) ?_
  refine lv_iload_n hx hb dX0_init_109 rfl (lv_at hl 0 rfl) ?_
  refine lv_bipush (v := 8) hx hb dX0_init_110 (by decide) ?_
  refine lv_icmp_ge (tgt := 134) hx hb dX0_init_112 (by decide) (fun c1 => absurd c1 (show ¬ (8 : Int32) ≤ 7 by decide)) (fun c1 => ?_)
  refine lv_aload_n hx hb dX0_init_115 rfl (lv_at hl 1 rfl) ?_
  refine zn_get (C := RX0) (T := TX0) (N := 15) (ref := "WheelBrook$Brook") 20 X hw inlX0 rfl rfl 4 (by decide) zm_2_23 (fun _ h9 => h9) rfl dX0_init_116 ?_
  refine lv_iload_n hx hb dX0_init_119 rfl (lv_at hl 0 rfl) ?_
  refine zn_new (ci := 6) (fs := [.int 0, .int 0, .int 0, .int 0, .int 0, .int 0, .int 0, .int 0, .int 0]) X hw inlX6 tyX6 tyX6_ok zm_2_22 zm_3_8 zm_3_9 rfl (by decide +kernel) (by decide) (by decide) dX0_init_120 (fun q16 H hw => ?_)
  have hw : zNW D cy _ ((q16, .inr (6, [.int 0, .int 0, .int 0, .int 0, .int 0, .int 0, .int 0, .int 0, .int 0])) :: (q15, .inr (6, [.int 0, .int 0, .int 0, .int 0, .int 0, .int 0, .int 0, .int 0, .int 0])) :: (q14, .inr (6, [.int 0, .int 0, .int 0, .int 0, .int 0, .int 0, .int 0, .int 0, .int 0])) :: (q13, .inr (6, [.int 0, .int 0, .int 0, .int 0, .int 0, .int 0, .int 0, .int 0, .int 0])) :: (q12, .inr (6, [.int 0, .int 0, .int 0, .int 0, .int 0, .int 0, .int 0, .int 0, .int 0])) :: (q11, .inr (6, [.int 0, .int 0, .int 0, .int 0, .int 0, .int 0, .int 0, .int 0, .int 0])) :: (q10, .inr (6, [.int 0, .int 0, .int 0, .int 0, .int 0, .int 0, .int 0, .int 0, .int 0])) :: (q9, .inr (6, [.int 0, .int 0, .int 0, .int 0, .int 0, .int 0, .int 0, .int 0, .int 0])) :: (q8, .inl (cy 0, 12, .inl (fun _ => 0))) :: (q7, .inl (cy 0, 4, .inl (fun _ => 0))) :: (nc2 cy u7 ++ ((nc2 cy u6 ++ ((q4, .inl (cy 2, 8, .inr (.inr (.inr (.inr (va_up (va_up (va_up (va_up (va_up (va_up (va_up (fun _ => none) 0 (some q9)) 1 (some q10)) 2 (some q11)) 3 (some q12)) 4 (some q13)) 5 (some q14)) 6 (some q15))))))) :: (q3, .inl (cy 0, 5, .inl (fun _ => 0))) :: (q2, .inl (cy 0, 5, .inl (fun _ => 0))) :: (q1, .inl (cy 0, 12, .inl (fun _ => 0))) :: (q0, .inl (cy 0, 24, .inl (fun j => if j < 24 then 30 else 0))) :: (h, .inr (0, [.ref q0, .ref q1, .ref q2, .ref q3, .ref q4, .ref (u6 0), .ref (u7 0), .ref q7, .ref q8, .int 0, .int 0, .int 0, .int 1, .int 0, .int 0])) :: R))))) H _ s := hw
  refine lv_dup hx hb dX0_init_123 rfl ?_
  refine zn_callN (host := RX7) (rest := [.ref q16, .int 7, .ref q4]) X hX hw (kX6_init l D cy) (hX.2.2.2.2.2.2.2) zm_3_15 zm_3_9 zm_3_16 rfl rfl rfl (by decide +kernel) (by decide) (Nat.le_of_ble_eq_true rfl) hl.1 (by decide) dX0_init_124 (fun u17 H locs eu17 hw2 => ?_)
  have hw : zNW D cy _ ((u17 0, .inr (6, [.int 0, .int 0, .int 0, .int 0, .int 0, .int 0, .int 0, .int 0, .int 0])) :: (q15, .inr (6, [.int 0, .int 0, .int 0, .int 0, .int 0, .int 0, .int 0, .int 0, .int 0])) :: (q14, .inr (6, [.int 0, .int 0, .int 0, .int 0, .int 0, .int 0, .int 0, .int 0, .int 0])) :: (q13, .inr (6, [.int 0, .int 0, .int 0, .int 0, .int 0, .int 0, .int 0, .int 0, .int 0])) :: (q12, .inr (6, [.int 0, .int 0, .int 0, .int 0, .int 0, .int 0, .int 0, .int 0, .int 0])) :: (q11, .inr (6, [.int 0, .int 0, .int 0, .int 0, .int 0, .int 0, .int 0, .int 0, .int 0])) :: (q10, .inr (6, [.int 0, .int 0, .int 0, .int 0, .int 0, .int 0, .int 0, .int 0, .int 0])) :: (q9, .inr (6, [.int 0, .int 0, .int 0, .int 0, .int 0, .int 0, .int 0, .int 0, .int 0])) :: (q8, .inl (cy 0, 12, .inl (fun _ => 0))) :: (q7, .inl (cy 0, 4, .inl (fun _ => 0))) :: (nc2 cy u7 ++ ((nc2 cy u6 ++ ((q4, .inl (cy 2, 8, .inr (.inr (.inr (.inr (va_up (va_up (va_up (va_up (va_up (va_up (va_up (fun _ => none) 0 (some q9)) 1 (some q10)) 2 (some q11)) 3 (some q12)) 4 (some q13)) 5 (some q14)) 6 (some q15))))))) :: (q3, .inl (cy 0, 5, .inl (fun _ => 0))) :: (q2, .inl (cy 0, 5, .inl (fun _ => 0))) :: (q1, .inl (cy 0, 12, .inl (fun _ => 0))) :: (q0, .inl (cy 0, 24, .inl (fun j => if j < 24 then 30 else 0))) :: (h, .inr (0, [.ref q0, .ref q1, .ref q2, .ref q3, .ref q4, .ref (u6 0), .ref (u7 0), .ref q7, .ref q8, .int 0, .int 0, .int 0, .int 1, .int 0, .int 0])) :: R))))) H _ s := hw2
  rw [eu17] at hw
  refine zn_astq 16 0 X hw rfl rfl (by decide) dX0_init_127 (fun H locs hw => ?_)
  have hw : zNW D cy _ ((q16, .inr (6, [.int 0, .int 0, .int 0, .int 0, .int 0, .int 0, .int 0, .int 0, .int 0])) :: (q15, .inr (6, [.int 0, .int 0, .int 0, .int 0, .int 0, .int 0, .int 0, .int 0, .int 0])) :: (q14, .inr (6, [.int 0, .int 0, .int 0, .int 0, .int 0, .int 0, .int 0, .int 0, .int 0])) :: (q13, .inr (6, [.int 0, .int 0, .int 0, .int 0, .int 0, .int 0, .int 0, .int 0, .int 0])) :: (q12, .inr (6, [.int 0, .int 0, .int 0, .int 0, .int 0, .int 0, .int 0, .int 0, .int 0])) :: (q11, .inr (6, [.int 0, .int 0, .int 0, .int 0, .int 0, .int 0, .int 0, .int 0, .int 0])) :: (q10, .inr (6, [.int 0, .int 0, .int 0, .int 0, .int 0, .int 0, .int 0, .int 0, .int 0])) :: (q9, .inr (6, [.int 0, .int 0, .int 0, .int 0, .int 0, .int 0, .int 0, .int 0, .int 0])) :: (q8, .inl (cy 0, 12, .inl (fun _ => 0))) :: (q7, .inl (cy 0, 4, .inl (fun _ => 0))) :: (nc2 cy u7 ++ ((nc2 cy u6 ++ ((q4, .inl (cy 2, 8, .inr (.inr (.inr (.inr (va_up (va_up (va_up (va_up (va_up (va_up (va_up (va_up (fun _ => none) 0 (some q9)) 1 (some q10)) 2 (some q11)) 3 (some q12)) 4 (some q13)) 5 (some q14)) 6 (some q15)) 7 (some q16))))))) :: (q3, .inl (cy 0, 5, .inl (fun _ => 0))) :: (q2, .inl (cy 0, 5, .inl (fun _ => 0))) :: (q1, .inl (cy 0, 12, .inl (fun _ => 0))) :: (q0, .inl (cy 0, 24, .inl (fun j => if j < 24 then 30 else 0))) :: (h, .inr (0, [.ref q0, .ref q1, .ref q2, .ref q3, .ref q4, .ref (u6 0), .ref (u7 0), .ref q7, .ref q8, .int 0, .int 0, .int 0, .int 1, .int 0, .int 0])) :: R))))) H _ s := hw
  refine lv_iinc (v := 8) (lv' := [(1, .int 8), (0, .ref h)]) hx hb dX0_init_128 hl (k := 0) rfl (by decide) (by decide) rfl (fun ls hl => ?_)
  refine lv_goto (tgt := 109) hx hb dX0_init_131 (by decide) ?_
  refine lv_iload_n hx hb dX0_init_109 rfl (lv_at hl 0 rfl) ?_
  refine lv_bipush (v := 8) hx hb dX0_init_110 (by decide) ?_
  refine lv_icmp_ge (tgt := 134) hx hb dX0_init_112 (by decide) (fun c1 => ?_) (fun c1 => absurd (show (8 : Int32) ≤ 8 by decide) c1)
  have qe : ∃ Q : Nat → Nat, Q = (fun o => [h, q0, q1, q2, q3, q4, q7, q8, q9, q10, q11, q12, q13, q14, q15, q16, u6 0, u6 1, u6 2, u7 0, u7 1, u7 2].getD o 0) := ⟨_, rfl⟩
  obtain ⟨Q, eQ⟩ := qe
  have hf : (va_up (va_up (va_up (va_up (va_up (va_up (va_up (va_up (fun _ => none) 0 (some q9)) 1 (some q10)) 2 (some q11)) 3 (some q12)) 4 (some q13)) 5 (some q14)) 6 (some q15)) 7 (some q16)) = (fun i => if i < 8 then some (Q (8 + i)) else none) := funext fun i => by
    by_cases h : i < 8
    · rw [if_pos h, eQ]
      match i, h with
      | 0, _ => rfl
      | 1, _ => rfl
      | 2, _ => rfl
      | 3, _ => rfl
      | 4, _ => rfl
      | 5, _ => rfl
      | 6, _ => rfl
      | 7, _ => rfl
    · rw [if_neg h]
      simp [va_up, show i ≠ 0 by omega, show i ≠ 1 by omega, show i ≠ 2 by omega, show i ≠ 3 by omega, show i ≠ 4 by omega, show i ≠ 5 by omega, show i ≠ 6 by omega, show i ≠ 7 by omega]
  rw [hf] at hw
  subst eQ
  exact zn_ret (cs := nc0 cy) (fun o => [h, q0, q1, q2, q3, q4, q7, q8, q9, q10, q11, q12, q13, q14, q15, q16, u6 0, u6 1, u6 2, u7 0, u7 1, u7 2].getD o 0) X hw rfl dX0_init_134
set_option maxHeartbeats 4000000 in
set_option maxRecDepth 100000 in
theorem kX7_init (l : Launch) (D : va_G) (cy : Nat → ClassId) : zNC l D cy yX7_init cX7_init 1 ({ frames := 3, cells := 86, slots := 1667, locals := 53 }) 7 [.null, .null, .null, .null, .null, .null, .null, .null, .null, .int 0] (nc7 cy) 86 1667 := by
  refine zNent (by decide) (by decide) ?_
  intro p e s m args below meth c ls h R X hi2 hX hw hl
  obtain ⟨hx, hb, hr, hml, hown, hW, hlocks⟩ := id X
  refine lv_aload_n hx hb dX7_init_0 rfl (lv_at hl 0 rfl) ?_
  refine zn_obj X zm_1_10 hl.1 (by decide) (by decide) dX7_init_1 ?_
  refine lv_aload_n hx hb dX7_init_4 rfl (lv_at hl 0 rfl) ?_
  refine zn_new (ci := 0) (fs := [.null, .null, .null, .null, .null, .null, .null, .null, .null, .int 0, .int 0, .int 0, .int 0, .int 0, .int 0]) X hw inlX0 tyX0 tyX0_ok zm_1_13 zm_1_14 zm_1_15 rfl (by decide +kernel) (by decide) (by decide) dX7_init_5 (fun q0 H hw => ?_)
  have hw : zNW D cy _ ((q0, .inr (0, [.null, .null, .null, .null, .null, .null, .null, .null, .null, .int 0, .int 0, .int 0, .int 0, .int 0, .int 0])) :: (h, .inr (7, [.null, .null, .null, .null, .null, .null, .null, .null, .null, .int 0])) :: R) H _ s := hw
  refine lv_dup hx hb dX7_init_8 rfl ?_
  refine zn_call (rest := [.ref q0, .ref h]) X hX hw (kX0_init l D cy) (zm_2_14) zm_2_15 zm_1_15 zm_2_16 rfl rfl rfl (by decide +kernel) (by decide) (Nat.le_of_ble_eq_true rfl) hl.1 (by decide) dX7_init_9 (fun u1 H locs eu1 hw2 => ?_)
  subst eu1
  have hw : zNW D cy _ ((nc0 cy u1 ++ ((h, .inr (7, [.null, .null, .null, .null, .null, .null, .null, .null, .null, .int 0])) :: R))) H _ s := hw2
  refine zn_putF (C := RX7) (T := TX7) (N := 10) (ref := "WheelBrook") (ty := (.object "WheelBrook$Brook")) (ci := 7) (fs := [.null, .null, .null, .null, .null, .null, .null, .null, .null, .int 0]) (v := .ref (u1 0)) (a := h) 22 X hi2 hw inlX7 tyX7 tyX7_ok nmX7 rfl rfl 0 (by decide) zm_1_16 (fun _ h9 => h9) rfl rfl (by decide +kernel) rfl rfl (Nat.le_of_ble_eq_true rfl) dX7_init_12 (fun H locs hw => ?_)
  have hw : zNW D cy _ ((nc0 cy u1 ++ ((h, .inr (7, [.ref (u1 0), .null, .null, .null, .null, .null, .null, .null, .null, .int 0])) :: R))) H _ s := hw
  refine lv_aload_n hx hb dX7_init_15 rfl (lv_at hl 0 rfl) ?_
  refine zn_new (ci := 0) (fs := [.null, .null, .null, .null, .null, .null, .null, .null, .null, .int 0, .int 0, .int 0, .int 0, .int 0, .int 0]) X hw inlX0 tyX0 tyX0_ok zm_1_13 zm_1_14 zm_1_15 rfl (by decide +kernel) (by decide) (by decide) dX7_init_16 (fun q1 H hw => ?_)
  have hw : zNW D cy _ ((q1, .inr (0, [.null, .null, .null, .null, .null, .null, .null, .null, .null, .int 0, .int 0, .int 0, .int 0, .int 0, .int 0])) :: (nc0 cy u1 ++ ((h, .inr (7, [.ref (u1 0), .null, .null, .null, .null, .null, .null, .null, .null, .int 0])) :: R))) H _ s := hw
  refine lv_dup hx hb dX7_init_19 rfl ?_
  refine zn_call (rest := [.ref q1, .ref h]) X hX hw (kX0_init l D cy) (zm_2_14) zm_2_15 zm_1_15 zm_2_16 rfl rfl rfl (by decide +kernel) (by decide) (Nat.le_of_ble_eq_true rfl) hl.1 (by decide) dX7_init_20 (fun u2 H locs eu2 hw2 => ?_)
  subst eu2
  have hw : zNW D cy _ ((nc0 cy u2 ++ ((nc0 cy u1 ++ ((h, .inr (7, [.ref (u1 0), .null, .null, .null, .null, .null, .null, .null, .null, .int 0])) :: R))))) H _ s := hw2
  refine zn_putF (C := RX7) (T := TX7) (N := 10) (ref := "WheelBrook") (ty := (.object "WheelBrook$Brook")) (ci := 7) (fs := [.ref (u1 0), .null, .null, .null, .null, .null, .null, .null, .null, .int 0]) (v := .ref (u2 0)) (a := h) 44 X hi2 hw inlX7 tyX7 tyX7_ok nmX7 rfl rfl 1 (by decide) zm_1_17 (fun _ h9 => h9) rfl rfl (by decide +kernel) rfl rfl (Nat.le_of_ble_eq_true rfl) dX7_init_23 (fun H locs hw => ?_)
  have hw : zNW D cy _ ((nc0 cy u2 ++ ((nc0 cy u1 ++ ((h, .inr (7, [.ref (u1 0), .ref (u2 0), .null, .null, .null, .null, .null, .null, .null, .int 0])) :: R))))) H _ s := hw
  refine lv_aload_n hx hb dX7_init_26 rfl (lv_at hl 0 rfl) ?_
  refine zn_new (ci := 0) (fs := [.null, .null, .null, .null, .null, .null, .null, .null, .null, .int 0, .int 0, .int 0, .int 0, .int 0, .int 0]) X hw inlX0 tyX0 tyX0_ok zm_1_13 zm_1_14 zm_1_15 rfl (by decide +kernel) (by decide) (by decide) dX7_init_27 (fun q2 H hw => ?_)
  have hw : zNW D cy _ ((q2, .inr (0, [.null, .null, .null, .null, .null, .null, .null, .null, .null, .int 0, .int 0, .int 0, .int 0, .int 0, .int 0])) :: (nc0 cy u2 ++ ((nc0 cy u1 ++ ((h, .inr (7, [.ref (u1 0), .ref (u2 0), .null, .null, .null, .null, .null, .null, .null, .int 0])) :: R))))) H _ s := hw
  refine lv_dup hx hb dX7_init_30 rfl ?_
  refine zn_call (rest := [.ref q2, .ref h]) X hX hw (kX0_init l D cy) (zm_2_14) zm_2_15 zm_1_15 zm_2_16 rfl rfl rfl (by decide +kernel) (by decide) (Nat.le_of_ble_eq_true rfl) hl.1 (by decide) dX7_init_31 (fun u3 H locs eu3 hw2 => ?_)
  subst eu3
  have hw : zNW D cy _ ((nc0 cy u3 ++ ((nc0 cy u2 ++ ((nc0 cy u1 ++ ((h, .inr (7, [.ref (u1 0), .ref (u2 0), .null, .null, .null, .null, .null, .null, .null, .int 0])) :: R))))))) H _ s := hw2
  refine zn_putF (C := RX7) (T := TX7) (N := 10) (ref := "WheelBrook") (ty := (.object "WheelBrook$Brook")) (ci := 7) (fs := [.ref (u1 0), .ref (u2 0), .null, .null, .null, .null, .null, .null, .null, .int 0]) (v := .ref (u3 0)) (a := h) 66 X hi2 hw inlX7 tyX7 tyX7_ok nmX7 rfl rfl 2 (by decide) zm_1_18 (fun _ h9 => h9) rfl rfl (by decide +kernel) rfl rfl (Nat.le_of_ble_eq_true rfl) dX7_init_34 (fun H locs hw => ?_)
  have hw : zNW D cy _ ((nc0 cy u3 ++ ((nc0 cy u2 ++ ((nc0 cy u1 ++ ((h, .inr (7, [.ref (u1 0), .ref (u2 0), .ref (u3 0), .null, .null, .null, .null, .null, .null, .int 0])) :: R))))))) H _ s := hw
  refine lv_aload_n hx hb dX7_init_37 rfl (lv_at hl 0 rfl) ?_
  refine zn_new (ci := 1) (fs := [.null, .null, .int 0, .int 0]) X hw inlX1 tyX1 tyX1_ok zm_1_19 zm_1_20 zm_1_21 rfl (by decide +kernel) (by decide) (by decide) dX7_init_38 (fun q3 H hw => ?_)
  have hw : zNW D cy _ ((q3, .inr (1, [.null, .null, .int 0, .int 0])) :: (nc0 cy u3 ++ ((nc0 cy u2 ++ ((nc0 cy u1 ++ ((h, .inr (7, [.ref (u1 0), .ref (u2 0), .ref (u3 0), .null, .null, .null, .null, .null, .null, .int 0])) :: R))))))) H _ s := hw
  refine lv_dup hx hb dX7_init_41 rfl ?_
  refine zn_callN (host := RX7) (rest := [.ref q3, .ref h]) X hX hw (kX1_init l D cy) (hX.2.2.1) zm_3_18 zm_1_21 zm_3_19 rfl rfl rfl (by decide +kernel) (by decide) (Nat.le_of_ble_eq_true rfl) hl.1 (by decide) dX7_init_42 (fun u4 H locs eu4 hw2 => ?_)
  subst eu4
  have hw : zNW D cy _ ((nc1 cy u4 ++ ((nc0 cy u3 ++ ((nc0 cy u2 ++ ((nc0 cy u1 ++ ((h, .inr (7, [.ref (u1 0), .ref (u2 0), .ref (u3 0), .null, .null, .null, .null, .null, .null, .int 0])) :: R))))))))) H _ s := hw2
  refine zn_putF (C := RX7) (T := TX7) (N := 10) (ref := "WheelBrook") (ty := (.object "WheelBrook$Desk")) (ci := 7) (fs := [.ref (u1 0), .ref (u2 0), .ref (u3 0), .null, .null, .null, .null, .null, .null, .int 0]) (v := .ref (u4 0)) (a := h) 69 X hi2 hw inlX7 tyX7 tyX7_ok nmX7 rfl rfl 3 (by decide) zm_1_22 (fun _ h9 => h9) rfl rfl (by decide +kernel) rfl rfl (Nat.le_of_ble_eq_true rfl) dX7_init_45 (fun H locs hw => ?_)
  have hw : zNW D cy _ ((nc1 cy u4 ++ ((nc0 cy u3 ++ ((nc0 cy u2 ++ ((nc0 cy u1 ++ ((h, .inr (7, [.ref (u1 0), .ref (u2 0), .ref (u3 0), .ref (u4 0), .null, .null, .null, .null, .null, .int 0])) :: R))))))))) H _ s := hw
  refine lv_aload_n hx hb dX7_init_48 rfl (lv_at hl 0 rfl) ?_
  refine zn_new (ci := 1) (fs := [.null, .null, .int 0, .int 0]) X hw inlX1 tyX1 tyX1_ok zm_1_19 zm_1_20 zm_1_21 rfl (by decide +kernel) (by decide) (by decide) dX7_init_49 (fun q4 H hw => ?_)
  have hw : zNW D cy _ ((q4, .inr (1, [.null, .null, .int 0, .int 0])) :: (nc1 cy u4 ++ ((nc0 cy u3 ++ ((nc0 cy u2 ++ ((nc0 cy u1 ++ ((h, .inr (7, [.ref (u1 0), .ref (u2 0), .ref (u3 0), .ref (u4 0), .null, .null, .null, .null, .null, .int 0])) :: R))))))))) H _ s := hw
  refine lv_dup hx hb dX7_init_52 rfl ?_
  refine zn_callN (host := RX7) (rest := [.ref q4, .ref h]) X hX hw (kX1_init l D cy) (hX.2.2.1) zm_3_18 zm_1_21 zm_3_19 rfl rfl rfl (by decide +kernel) (by decide) (Nat.le_of_ble_eq_true rfl) hl.1 (by decide) dX7_init_53 (fun u5 H locs eu5 hw2 => ?_)
  subst eu5
  have hw : zNW D cy _ ((nc1 cy u5 ++ ((nc1 cy u4 ++ ((nc0 cy u3 ++ ((nc0 cy u2 ++ ((nc0 cy u1 ++ ((h, .inr (7, [.ref (u1 0), .ref (u2 0), .ref (u3 0), .ref (u4 0), .null, .null, .null, .null, .null, .int 0])) :: R))))))))))) H _ s := hw2
  refine zn_putF (C := RX7) (T := TX7) (N := 10) (ref := "WheelBrook") (ty := (.object "WheelBrook$Desk")) (ci := 7) (fs := [.ref (u1 0), .ref (u2 0), .ref (u3 0), .ref (u4 0), .null, .null, .null, .null, .null, .int 0]) (v := .ref (u5 0)) (a := h) 72 X hi2 hw inlX7 tyX7 tyX7_ok nmX7 rfl rfl 4 (by decide) zm_1_23 (fun _ h9 => h9) rfl rfl (by decide +kernel) rfl rfl (Nat.le_of_ble_eq_true rfl) dX7_init_56 (fun H locs hw => ?_)
  have hw : zNW D cy _ ((nc1 cy u5 ++ ((nc1 cy u4 ++ ((nc0 cy u3 ++ ((nc0 cy u2 ++ ((nc0 cy u1 ++ ((h, .inr (7, [.ref (u1 0), .ref (u2 0), .ref (u3 0), .ref (u4 0), .ref (u5 0), .null, .null, .null, .null, .int 0])) :: R))))))))))) H _ s := hw
  refine lv_aload_n hx hb dX7_init_59 rfl (lv_at hl 0 rfl) ?_
  refine zn_new (ci := 3) (fs := [.null, .null, .int 0, .int 0, .int 0, .int 0, .int 0, .int 0]) X hw inlX3 tyX3 tyX3_ok zm_2_0 zm_2_1 zm_2_2 rfl (by decide +kernel) (by decide) (by decide) dX7_init_60 (fun q5 H hw => ?_)
  have hw : zNW D cy _ ((q5, .inr (3, [.null, .null, .int 0, .int 0, .int 0, .int 0, .int 0, .int 0])) :: (nc1 cy u5 ++ ((nc1 cy u4 ++ ((nc0 cy u3 ++ ((nc0 cy u2 ++ ((nc0 cy u1 ++ ((h, .inr (7, [.ref (u1 0), .ref (u2 0), .ref (u3 0), .ref (u4 0), .ref (u5 0), .null, .null, .null, .null, .int 0])) :: R))))))))))) H _ s := hw
  refine lv_dup hx hb dX7_init_63 rfl ?_
  refine zn_callN (host := RX7) (rest := [.ref q5, .ref h]) X hX hw (kX3_init l D cy) (hX.2.2.2.1) zm_4_0 zm_2_2 zm_4_1 rfl rfl rfl (by decide +kernel) (by decide) (Nat.le_of_ble_eq_true rfl) hl.1 (by decide) dX7_init_64 (fun u6 H locs eu6 hw2 => ?_)
  subst eu6
  have hw : zNW D cy _ ((nc3 cy u6 ++ ((nc1 cy u5 ++ ((nc1 cy u4 ++ ((nc0 cy u3 ++ ((nc0 cy u2 ++ ((nc0 cy u1 ++ ((h, .inr (7, [.ref (u1 0), .ref (u2 0), .ref (u3 0), .ref (u4 0), .ref (u5 0), .null, .null, .null, .null, .int 0])) :: R))))))))))))) H _ s := hw2
  refine zn_putF (C := RX7) (T := TX7) (N := 10) (ref := "WheelBrook") (ty := (.object "WheelBrook$Reader")) (ci := 7) (fs := [.ref (u1 0), .ref (u2 0), .ref (u3 0), .ref (u4 0), .ref (u5 0), .null, .null, .null, .null, .int 0]) (v := .ref (u6 0)) (a := h) 75 X hi2 hw inlX7 tyX7 tyX7_ok nmX7 rfl rfl 5 (by decide) zm_2_3 (fun _ h9 => h9) rfl rfl (by decide +kernel) rfl rfl (Nat.le_of_ble_eq_true rfl) dX7_init_67 (fun H locs hw => ?_)
  have hw : zNW D cy _ ((nc3 cy u6 ++ ((nc1 cy u5 ++ ((nc1 cy u4 ++ ((nc0 cy u3 ++ ((nc0 cy u2 ++ ((nc0 cy u1 ++ ((h, .inr (7, [.ref (u1 0), .ref (u2 0), .ref (u3 0), .ref (u4 0), .ref (u5 0), .ref (u6 0), .null, .null, .null, .int 0])) :: R))))))))))))) H _ s := hw
  refine lv_aload_n hx hb dX7_init_70 rfl (lv_at hl 0 rfl) ?_
  refine zn_new (ci := 5) (fs := [.null, .int 0, .int 0, .int 0, .int 0, .int 0]) X hw inlX5 tyX5 tyX5_ok zm_2_4 zm_2_5 zm_2_6 rfl (by decide +kernel) (by decide) (by decide) dX7_init_71 (fun q6 H hw => ?_)
  have hw : zNW D cy _ ((q6, .inr (5, [.null, .int 0, .int 0, .int 0, .int 0, .int 0])) :: (nc3 cy u6 ++ ((nc1 cy u5 ++ ((nc1 cy u4 ++ ((nc0 cy u3 ++ ((nc0 cy u2 ++ ((nc0 cy u1 ++ ((h, .inr (7, [.ref (u1 0), .ref (u2 0), .ref (u3 0), .ref (u4 0), .ref (u5 0), .ref (u6 0), .null, .null, .null, .int 0])) :: R))))))))))))) H _ s := hw
  refine lv_dup hx hb dX7_init_74 rfl ?_
  refine zn_callN (host := RX7) (rest := [.ref q6, .ref h]) X hX hw (kX5_init l D cy) (hX.2.2.2.2.1) zm_4_5 zm_2_6 zm_4_6 rfl rfl rfl (by decide +kernel) (by decide) (Nat.le_of_ble_eq_true rfl) hl.1 (by decide) dX7_init_75 (fun u7 H locs eu7 hw2 => ?_)
  subst eu7
  have hw : zNW D cy _ ((nc5 cy u7 ++ ((nc3 cy u6 ++ ((nc1 cy u5 ++ ((nc1 cy u4 ++ ((nc0 cy u3 ++ ((nc0 cy u2 ++ ((nc0 cy u1 ++ ((h, .inr (7, [.ref (u1 0), .ref (u2 0), .ref (u3 0), .ref (u4 0), .ref (u5 0), .ref (u6 0), .null, .null, .null, .int 0])) :: R))))))))))))))) H _ s := hw2
  refine zn_putF (C := RX7) (T := TX7) (N := 10) (ref := "WheelBrook") (ty := (.object "WheelBrook$Speaker")) (ci := 7) (fs := [.ref (u1 0), .ref (u2 0), .ref (u3 0), .ref (u4 0), .ref (u5 0), .ref (u6 0), .null, .null, .null, .int 0]) (v := .ref (u7 0)) (a := h) 77 X hi2 hw inlX7 tyX7 tyX7_ok nmX7 rfl rfl 6 (by decide) zm_2_7 (fun _ h9 => h9) rfl rfl (by decide +kernel) rfl rfl (Nat.le_of_ble_eq_true rfl) dX7_init_78 (fun H locs hw => ?_)
  have hw : zNW D cy _ ((nc5 cy u7 ++ ((nc3 cy u6 ++ ((nc1 cy u5 ++ ((nc1 cy u4 ++ ((nc0 cy u3 ++ ((nc0 cy u2 ++ ((nc0 cy u1 ++ ((h, .inr (7, [.ref (u1 0), .ref (u2 0), .ref (u3 0), .ref (u4 0), .ref (u5 0), .ref (u6 0), .ref (u7 0), .null, .null, .int 0])) :: R))))))))))))))) H _ s := hw
  refine lv_aload_n hx hb dX7_init_81 rfl (lv_at hl 0 rfl) ?_
  refine zn_new (ci := 4) (fs := [.null, .null, .null]) X hw inlX4 tyX4 tyX4_ok zm_2_8 zm_2_9 zm_2_10 rfl (by decide +kernel) (by decide) (by decide) dX7_init_82 (fun q7 H hw => ?_)
  have hw : zNW D cy _ ((q7, .inr (4, [.null, .null, .null])) :: (nc5 cy u7 ++ ((nc3 cy u6 ++ ((nc1 cy u5 ++ ((nc1 cy u4 ++ ((nc0 cy u3 ++ ((nc0 cy u2 ++ ((nc0 cy u1 ++ ((h, .inr (7, [.ref (u1 0), .ref (u2 0), .ref (u3 0), .ref (u4 0), .ref (u5 0), .ref (u6 0), .ref (u7 0), .null, .null, .int 0])) :: R))))))))))))))) H _ s := hw
  refine lv_dup hx hb dX7_init_85 rfl ?_
  refine zn_callN (host := RX7) (rest := [.ref q7, .ref h]) X hX hw (kX4_init l D cy) (hX.2.2.2.2.2.1) zm_4_9 zm_2_10 zm_4_10 rfl rfl rfl (by decide +kernel) (by decide) (Nat.le_of_ble_eq_true rfl) hl.1 (by decide) dX7_init_86 (fun u8 H locs eu8 hw2 => ?_)
  subst eu8
  have hw : zNW D cy _ ((nc4 cy u8 ++ ((nc5 cy u7 ++ ((nc3 cy u6 ++ ((nc1 cy u5 ++ ((nc1 cy u4 ++ ((nc0 cy u3 ++ ((nc0 cy u2 ++ ((nc0 cy u1 ++ ((h, .inr (7, [.ref (u1 0), .ref (u2 0), .ref (u3 0), .ref (u4 0), .ref (u5 0), .ref (u6 0), .ref (u7 0), .null, .null, .int 0])) :: R))))))))))))))))) H _ s := hw2
  refine zn_putF (C := RX7) (T := TX7) (N := 10) (ref := "WheelBrook") (ty := (.object "WheelBrook$Sheets")) (ci := 7) (fs := [.ref (u1 0), .ref (u2 0), .ref (u3 0), .ref (u4 0), .ref (u5 0), .ref (u6 0), .ref (u7 0), .null, .null, .int 0]) (v := .ref (u8 0)) (a := h) 85 X hi2 hw inlX7 tyX7 tyX7_ok nmX7 rfl rfl 7 (by decide) zm_2_11 (fun _ h9 => h9) rfl rfl (by decide +kernel) rfl rfl (Nat.le_of_ble_eq_true rfl) dX7_init_89 (fun H locs hw => ?_)
  have hw : zNW D cy _ ((nc4 cy u8 ++ ((nc5 cy u7 ++ ((nc3 cy u6 ++ ((nc1 cy u5 ++ ((nc1 cy u4 ++ ((nc0 cy u3 ++ ((nc0 cy u2 ++ ((nc0 cy u1 ++ ((h, .inr (7, [.ref (u1 0), .ref (u2 0), .ref (u3 0), .ref (u4 0), .ref (u5 0), .ref (u6 0), .ref (u7 0), .ref (u8 0), .null, .int 0])) :: R))))))))))))))))) H _ s := hw
  refine lv_aload_n hx hb dX7_init_92 rfl (lv_at hl 0 rfl) ?_
  refine lv_bipush (v := 7) hx hb dX7_init_93 (by decide) ?_
  refine zn_newI 7 X hw zm_2_12 (by decide) (by decide) (by decide) (by decide) (by decide) dX7_init_95 (fun q8 H hw => ?_)
  have hw : zNW D cy _ ((q8, .inl (cy 0, 7, .inl (fun _ => 0))) :: (nc4 cy u8 ++ ((nc5 cy u7 ++ ((nc3 cy u6 ++ ((nc1 cy u5 ++ ((nc1 cy u4 ++ ((nc0 cy u3 ++ ((nc0 cy u2 ++ ((nc0 cy u1 ++ ((h, .inr (7, [.ref (u1 0), .ref (u2 0), .ref (u3 0), .ref (u4 0), .ref (u5 0), .ref (u6 0), .ref (u7 0), .ref (u8 0), .null, .int 0])) :: R))))))))))))))))) H _ s := hw
  refine zn_putF (C := RX7) (T := TX7) (N := 10) (ref := "WheelBrook") (ty := (.array .int)) (ci := 7) (fs := [.ref (u1 0), .ref (u2 0), .ref (u3 0), .ref (u4 0), .ref (u5 0), .ref (u6 0), .ref (u7 0), .ref (u8 0), .null, .int 0]) (v := .ref q8) (a := h) 86 X hi2 hw inlX7 tyX7 tyX7_ok nmX7 rfl rfl 8 (by decide) zm_2_13 (fun _ h9 => h9) rfl rfl (by decide +kernel) rfl rfl (Nat.le_of_ble_eq_true rfl) dX7_init_97 (fun H locs hw => ?_)
  have hw : zNW D cy _ ((q8, .inl (cy 0, 7, .inl (fun _ => 0))) :: (nc4 cy u8 ++ ((nc5 cy u7 ++ ((nc3 cy u6 ++ ((nc1 cy u5 ++ ((nc1 cy u4 ++ ((nc0 cy u3 ++ ((nc0 cy u2 ++ ((nc0 cy u1 ++ ((h, .inr (7, [.ref (u1 0), .ref (u2 0), .ref (u3 0), .ref (u4 0), .ref (u5 0), .ref (u6 0), .ref (u7 0), .ref (u8 0), .ref q8, .int 0])) :: R))))))))))))))))) H _ s := hw
  have qe : ∃ Q : Nat → Nat, Q = (fun o => if o < 1 then h else if o < 23 then u1 (o - 1) else if o < 45 then u2 (o - 23) else if o < 67 then u3 (o - 45) else if o < 70 then u4 (o - 67) else if o < 73 then u5 (o - 70) else if o < 76 then u6 (o - 73) else if o < 78 then u7 (o - 76) else if o < 86 then u8 (o - 78) else q8) := ⟨_, rfl⟩
  obtain ⟨Q, eQ⟩ := qe
  have hQ0 : ∀ o, o < 22 → Q (1 + o) = u1 o := fun o ho => by
    rw [eQ]
    dsimp only
    rw [if_neg (show ¬ 1 + o < 1 by omega), if_pos (show 1 + o < 23 by omega), Nat.add_sub_cancel_left]
  have hQ1 : ∀ o, o < 22 → Q (23 + o) = u2 o := fun o ho => by
    rw [eQ]
    dsimp only
    rw [if_neg (show ¬ 23 + o < 1 by omega), if_neg (show ¬ 23 + o < 23 by omega), if_pos (show 23 + o < 45 by omega), Nat.add_sub_cancel_left]
  have hQ2 : ∀ o, o < 22 → Q (45 + o) = u3 o := fun o ho => by
    rw [eQ]
    dsimp only
    rw [if_neg (show ¬ 45 + o < 1 by omega), if_neg (show ¬ 45 + o < 23 by omega), if_neg (show ¬ 45 + o < 45 by omega), if_pos (show 45 + o < 67 by omega), Nat.add_sub_cancel_left]
  have hQ3 : ∀ o, o < 3 → Q (67 + o) = u4 o := fun o ho => by
    rw [eQ]
    dsimp only
    rw [if_neg (show ¬ 67 + o < 1 by omega), if_neg (show ¬ 67 + o < 23 by omega), if_neg (show ¬ 67 + o < 45 by omega), if_neg (show ¬ 67 + o < 67 by omega), if_pos (show 67 + o < 70 by omega), Nat.add_sub_cancel_left]
  have hQ4 : ∀ o, o < 3 → Q (70 + o) = u5 o := fun o ho => by
    rw [eQ]
    dsimp only
    rw [if_neg (show ¬ 70 + o < 1 by omega), if_neg (show ¬ 70 + o < 23 by omega), if_neg (show ¬ 70 + o < 45 by omega), if_neg (show ¬ 70 + o < 67 by omega), if_neg (show ¬ 70 + o < 70 by omega), if_pos (show 70 + o < 73 by omega), Nat.add_sub_cancel_left]
  have hQ5 : ∀ o, o < 3 → Q (73 + o) = u6 o := fun o ho => by
    rw [eQ]
    dsimp only
    rw [if_neg (show ¬ 73 + o < 1 by omega), if_neg (show ¬ 73 + o < 23 by omega), if_neg (show ¬ 73 + o < 45 by omega), if_neg (show ¬ 73 + o < 67 by omega), if_neg (show ¬ 73 + o < 70 by omega), if_neg (show ¬ 73 + o < 73 by omega), if_pos (show 73 + o < 76 by omega), Nat.add_sub_cancel_left]
  have hQ6 : ∀ o, o < 2 → Q (76 + o) = u7 o := fun o ho => by
    rw [eQ]
    dsimp only
    rw [if_neg (show ¬ 76 + o < 1 by omega), if_neg (show ¬ 76 + o < 23 by omega), if_neg (show ¬ 76 + o < 45 by omega), if_neg (show ¬ 76 + o < 67 by omega), if_neg (show ¬ 76 + o < 70 by omega), if_neg (show ¬ 76 + o < 73 by omega), if_neg (show ¬ 76 + o < 76 by omega), if_pos (show 76 + o < 78 by omega), Nat.add_sub_cancel_left]
  have hQ7 : ∀ o, o < 8 → Q (78 + o) = u8 o := fun o ho => by
    rw [eQ]
    dsimp only
    rw [if_neg (show ¬ 78 + o < 1 by omega), if_neg (show ¬ 78 + o < 23 by omega), if_neg (show ¬ 78 + o < 45 by omega), if_neg (show ¬ 78 + o < 67 by omega), if_neg (show ¬ 78 + o < 70 by omega), if_neg (show ¬ 78 + o < 73 by omega), if_neg (show ¬ 78 + o < 76 by omega), if_neg (show ¬ 78 + o < 78 by omega), if_pos (show 78 + o < 86 by omega), Nat.add_sub_cancel_left]
  refine zn_ret (cs := nc7 cy) Q X ?_ (by rw [eQ]; rfl) dX7_init_100
  unfold nc7
  rw [nc4_cg (q := fun o => Q (78 + o)) (q2 := u8) hQ7, nc5_cg (q := fun o => Q (76 + o)) (q2 := u7) hQ6, nc3_cg (q := fun o => Q (73 + o)) (q2 := u6) hQ5, nc1_cg (q := fun o => Q (70 + o)) (q2 := u5) hQ4, nc1_cg (q := fun o => Q (67 + o)) (q2 := u4) hQ3, nc0_cg (q := fun o => Q (45 + o)) (q2 := u3) hQ2, nc0_cg (q := fun o => Q (23 + o)) (q2 := u2) hQ1, nc0_cg (q := fun o => Q (1 + o)) (q2 := u1) hQ0, show Q 0 = h from by rw [eQ]; rfl, show Q 1 = u1 0 from hQ0 0 (by decide), show Q 23 = u2 0 from hQ1 0 (by decide), show Q 45 = u3 0 from hQ2 0 (by decide), show Q 67 = u4 0 from hQ3 0 (by decide), show Q 70 = u5 0 from hQ4 0 (by decide), show Q 73 = u6 0 from hQ5 0 (by decide), show Q 76 = u7 0 from hQ6 0 (by decide), show Q 78 = u8 0 from hQ7 0 (by decide), show Q 86 = q8 from by rw [eQ]; rfl]
  exact hw
