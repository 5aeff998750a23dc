/-! ===== worlds that grow: rows for the constructors ===== -/
def zNX (U : State) : Prop := va_AO "WheelBrook$Wheel" U ∧ zAOA .int U ∧ va_Nw (.methodLinkNest RX7 24 yX1_init RX7) U ∧ va_Nw (.methodLinkNest RX7 34 yX3_init RX7) U ∧ va_Nw (.methodLinkNest RX7 41 yX5_init RX7) U ∧ va_Nw (.methodLinkNest RX7 48 yX4_init RX7) U ∧ va_Nw (.methodLinkNest RX0 32 yX2_init RX7) U ∧ va_Nw (.methodLinkNest RX0 50 yX6_init RX7) U
theorem zNX.warm {s U : State} (h : zNX s) (hW : s.WarmedH U.vm) : zNX U := by
  obtain ⟨h1, h2, n1, n2, n3, n4, n5, n6⟩ := h
  exact ⟨h1.moved hW.alike, h2.moved hW.alike, n1.warmM hW, n2.warmM hW, n3.warmM hW, n4.warmM hW, n5.warmM hW, n6.warmM hW⟩
theorem zNX.calling {U : State} {g : JFrame} {mk : MethodId} {a : Array Value} (h : zNX U) : zNX (U.calling g mk a) := by
  obtain ⟨h1, h2, n1, n2, n3, n4, n5, n6⟩ := h
  have hv : U.vm.Alike (U.calling g mk a).vm := Vm.Alike.refl U.vm
  exact ⟨va_AO.moved hv h1, zAOA.moved hv h2, va_Nw.same rfl rfl n1, va_Nw.same rfl rfl n2, va_Nw.same rfl rfl n3, va_Nw.same rfl rfl n4, va_Nw.same rfl rfl n5, va_Nw.same rfl rfl n6⟩
def zNW (D : va_G) (cy : Nat → ClassId) (A : Nat → Prop) (ws : va_W) (H : Heap) (locs : List Loc) (s : State) : Prop := va_P D vwCl ws H ∧ va_D A ws ∧ va_S A s.heap H locs ∧ va_K D vwCl (zTY cy) s ∧ ∀ q, s.heap.size ≤ q → A q
theorem zP_front {D : va_G} {cl : List vw_C} {ws w2 : va_W} {H : Heap} (h : va_P D cl (ws ++ w2) H) : va_P D cl (w2 ++ ws) H := by
  intro k q hk
  have h1 : q ∈ ws ++ w2 := (List.mem_append.mp (List.mem_of_getElem? hk)).elim (fun z => List.mem_append_right _ z) (fun z => List.mem_append_left _ z)
  obtain ⟨i, hi⟩ := List.getElem?_of_mem h1
  exact h i q hi
theorem zD_front {A : Nat → Prop} {ws w2 : va_W} (h : va_D A (ws ++ w2)) : va_D A (w2 ++ ws) := by
  have key : ∀ (i : Nat) (q : Nat × va_E), (w2 ++ ws)[i]? = some q → ∃ j, (ws ++ w2)[j]? = some q ∧ ((i < w2.length ∧ j = ws.length + i) ∨ (w2.length ≤ i ∧ i = w2.length + j ∧ j < ws.length)) := by
    intro i q hi
    by_cases c : i < w2.length
    · rw [List.getElem?_append_left c] at hi
      exact ⟨ws.length + i, by rw [List.getElem?_append_right (by omega), Nat.add_sub_cancel_left]; exact hi, Or.inl ⟨c, rfl⟩⟩
    · rw [List.getElem?_append_right (by omega)] at hi
      have hl := (List.getElem?_eq_some_iff.mp hi).1
      exact ⟨i - w2.length, by rw [List.getElem?_append_left hl]; exact hi, Or.inr ⟨by omega, by omega, hl⟩⟩
  refine ⟨fun i j p q hi hj e => ?_, fun k q hk => ?_⟩
  · obtain ⟨i', a1, a2⟩ := key i p hi
    obtain ⟨j', b1, b2⟩ := key j q hj
    have := h.1 i' j' p q a1 b1 e
    omega
  · obtain ⟨k', a1, -⟩ := key k q hk
    exact h.2 k' q a1
theorem zK_int {D : va_G} {cy : Nat → ClassId} {s : State} {cA : ClassId} (h : va_K D vwCl (zTY cy ++ [(cA, .int)]) s) : cA = cy 0 := by
  have h1 : s.vm.findClass ("[" ++ FieldType.int.toString) = some cA := (h.2 4 (cA, .int) rfl).2
  have h2 : s.vm.findClass ("[" ++ FieldType.int.toString) = some (cy 0) := (h.2 0 (cy 0, .int) rfl).2
  exact Option.some.inj (h1.symm.trans h2)
theorem zK_byte {D : va_G} {cy : Nat → ClassId} {s : State} {cA : ClassId} (h : va_K D vwCl (zTY cy ++ [(cA, .byte)]) s) : cA = cy 1 := by
  have h1 : s.vm.findClass ("[" ++ FieldType.byte.toString) = some cA := (h.2 4 (cA, .byte) rfl).2
  have h2 : s.vm.findClass ("[" ++ FieldType.byte.toString) = some (cy 1) := (h.2 1 (cy 1, .byte) rfl).2
  exact Option.some.inj (h1.symm.trans h2)
theorem zK_whl {D : va_G} {cy : Nat → ClassId} {s : State} {cA : ClassId} (h : va_K D vwCl (zTY cy ++ [(cA, .object "WheelBrook$Wheel")]) s) : cA = cy 2 := by
  obtain ⟨-, -, -, -, -, h1⟩ := (h.2 4 (cA, .object "WheelBrook$Wheel") rfl).2
  obtain ⟨-, -, -, -, -, h2⟩ := (h.2 2 (cy 2, .object "WheelBrook$Wheel") rfl).2
  exact Option.some.inj (h1.symm.trans h2)
theorem zK_aoi {D : va_G} {cy : Nat → ClassId} {s : State} {cA : ClassId} (h : va_K D vwCl (zTY cy ++ [(cA, .array .int)]) s) : cA = cy 3 := by
  have h1 : s.vm.findClass ("[" ++ (FieldType.array .int).toString) = some cA := (h.2 4 (cA, .array .int) rfl).2
  have h2 : s.vm.findClass ("[" ++ (FieldType.array .int).toString) = some (cy 3) := (h.2 3 (cy 3, .array .int) rfl).2
  exact Option.some.inj (h1.symm.trans h2)
section ZN
variable {p : Program} {l : Launch} {e : Env} {R : Room} {s : State} {m : MethodId} {args : Array Value} {below : List Frame} {meth : Method} {c : Code} {H : Heap} {locs : List Loc} {cells slots : Nat} {Q : State → Prop}
variable {cc : ByteArray} {pc : Nat} {ls : Array Slot} {rest : List Value} {D : va_G} {cy : Nat → ClassId} {A : Nat → Prop} {ws : va_W} {nL a : Nat} {ret : Option FieldType} {own : String}
theorem zn_new {C : String} {T : u_T} {N ci index : Nat} {fs : List Value} (X : zCX p s m meth c args cc nL ret own) (hw : zNW D cy A ws H locs s) (hin : ∀ w ∈ u_ws C T N, w ∈ zW0) (ty : Nat → FieldType) (hty : ∀ k, k < N → parseFieldDescriptor (T k).2.2.1 = some (ty k)) (h1 : Cond.classLink own index C ∈ zW0) (h2 : Cond.instantiable C N ∈ zW0) (h3 : Cond.initialized C ∈ zW0) (hc : vwCl[ci]? = some (C, T, N)) (hfs : ∀ j, j < N → defaultValue (ty j) = vp_V fs j) (hcells : cells + 1 ≤ R.cells) (hslots : slots + N ≤ R.slots) (hdg : decode cc pc = .ok (.new index, 3))
    (kk : ∀ (q : Nat) (H1 : Heap), zNW D cy A ((q, .inr (ci, fs)) :: ws) H1 locs s → W p l e R s m args below meth c H1 locs (cells + 1) (slots + N) Q (F0 m (pc + 3) ls (.ref q :: rest))) : W p l e R s m args below meth c H locs cells slots Q (F0 m pc ls rest) := by
  obtain ⟨hx, hb, hr, hml, hown, hW, hlocks⟩ := X
  obtain ⟨hP, hD, hS, hK, hA⟩ := hw
  exact va_new hx hb hW hin ty hty hown (hW _ h1) (hW _ h2) (hW _ h3) hK hP hD hS hA hc hfs hcells hslots hdg fun q H1 hP1 hD1 hS1 => kk q H1 ⟨zP_front hP1, zD_front hD1, hS1, hK, hA⟩
theorem zn_newI {n : Int32} (N : Nat) (X : zCX p s m meth c args cc nL ret own) (hw : zNW D cy A ws H locs s) (hm : Cond.arrayClass .int ∈ zW0) (hn : ¬ n < 0) (hN : n.toNatClampNeg = N) (hb2 : N * 4 ≤ 536870912) (hcells : cells + 1 ≤ R.cells) (hslots : slots + N ≤ R.slots) (hdg : decode cc pc = .ok (.newarray .int, 2))
    (kk : ∀ (q : Nat) (H1 : Heap), zNW D cy A ((q, .inl (cy 0, N, .inl (fun _ => 0))) :: ws) H1 locs s → W p l e R s m args below meth c H1 locs (cells + 1) (slots + N) Q (F0 m (pc + 2) ls (.ref q :: rest))) : W p l e R s m args below meth c H locs cells slots Q (F0 m pc ls (.int n :: rest)) := by
  obtain ⟨hx, hb, hr, hml, hown, hW, hlocks⟩ := X
  obtain ⟨hP, hD, hS, hK, hA⟩ := hw
  refine va_newa (atype := .int) (ty := .int) (a0 := (N, .inl (fun _ => 0))) hx hb (hW _ hm) rfl hK hP hD hS hA (fun cA => rfl) hn hN hb2 hcells hslots hdg fun q cA H1 hK1 hP1 hD1 hS1 => ?_
  rw [zK_int hK1] at hP1 hD1
  exact kk q H1 ⟨zP_front hP1, zD_front hD1, hS1, hK, hA⟩
theorem zn_newB {n : Int32} (N : Nat) (X : zCX p s m meth c args cc nL ret own) (hw : zNW D cy A ws H locs s) (hm : Cond.arrayClass .byte ∈ zW0) (hn : ¬ n < 0) (hN : n.toNatClampNeg = N) (hb2 : N * 1 ≤ 536870912) (hcells : cells + 1 ≤ R.cells) (hslots : slots + N ≤ R.slots) (hdg : decode cc pc = .ok (.newarray .byte, 2))
    (kk : ∀ (q : Nat) (H1 : Heap), zNW D cy A ((q, .inl (cy 1, N, .inl (fun _ => 0))) :: ws) H1 locs s → W p l e R s m args below meth c H1 locs (cells + 1) (slots + N) Q (F0 m (pc + 2) ls (.ref q :: rest))) : W p l e R s m args below meth c H locs cells slots Q (F0 m pc ls (.int n :: rest)) := by
  obtain ⟨hx, hb, hr, hml, hown, hW, hlocks⟩ := X
  obtain ⟨hP, hD, hS, hK, hA⟩ := hw
  refine va_newa (atype := .byte) (ty := .byte) (a0 := (N, .inl (fun _ => 0))) hx hb (hW _ hm) rfl hK hP hD hS hA (fun cA => rfl) hn hN hb2 hcells hslots hdg fun q cA H1 hK1 hP1 hD1 hS1 => ?_
  rw [zK_byte hK1] at hP1 hD1
  exact kk q H1 ⟨zP_front hP1, zD_front hD1, hS1, hK, hA⟩
theorem zn_newW {n : Int32} {index : Nat} (N : Nat) (X : zCX p s m meth c args cc nL ret own) (hw : zNW D cy A ws H locs s) (h1 : Cond.classLink own index "WheelBrook$Wheel" ∈ zW0) (hX : zNX s) (hn : ¬ n < 0) (hN : n.toNatClampNeg = N) (hb2 : N * 4 ≤ 536870912) (hcells : cells + 1 ≤ R.cells) (hslots : slots + N ≤ R.slots) (hdg : decode cc pc = .ok (.anewarray index, 3))
    (kk : ∀ (q : Nat) (H1 : Heap), zNW D cy A ((q, .inl (cy 2, N, .inr (.inr (.inr (.inr (fun _ => none)))))) :: ws) H1 locs s → W p l e R s m args below meth c H1 locs (cells + 1) (slots + N) Q (F0 m (pc + 3) ls (.ref q :: rest))) : W p l e R s m args below meth c H locs cells slots Q (F0 m pc ls (.int n :: rest)) := by
  obtain ⟨hx, hb, hr, hml, hown, hW, hlocks⟩ := X
  obtain ⟨hP, hD, hS, hK, hA⟩ := hw
  refine va_newq (C := "WheelBrook$Wheel") hx hb hown (hW _ h1) hX.1 hK hP hD hS hA hn hN hb2 hcells hslots hdg fun q cA H1 hK1 hP1 hD1 hS1 => ?_
  rw [zK_whl hK1] at hP1 hD1
  exact kk q H1 ⟨zP_front hP1, zD_front hD1, hS1, hK, hA⟩
theorem zn_mna {index : Nat} (X : zCX p s m meth c args cc nL ret own) (hw : zNW D cy A ws H locs s) (h1 : Cond.classLink own index "[[I" ∈ zW0) (hX : zNX s) (hm : Cond.arrayClass .int ∈ zW0) (hcells : cells + (1 + 4) ≤ R.cells) (hslots : slots + (4 + 4 * 24) ≤ R.slots) (hdg : decode cc pc = .ok (.multianewarray index 2, 4))
    (kk : ∀ (q q0 q1 q2 q3 : Nat) (H1 : Heap), zNW D cy A ((q, .inl (cy 3, 4, .inr (.inr (.inr (.inr (fun i => if i < 4 then some ([q0, q1, q2, q3].getD i 0) else none)))))) :: (q0, .inl (cy 0, 24, .inl (fun _ => 0))) :: (q1, .inl (cy 0, 24, .inl (fun _ => 0))) :: (q2, .inl (cy 0, 24, .inl (fun _ => 0))) :: (q3, .inl (cy 0, 24, .inl (fun _ => 0))) :: ws) H1 locs s → W p l e R s m args below meth c H1 locs (cells + 1 + 4) (slots + 4 + 4 * 24) Q (F0 m (pc + 4) ls (.ref q :: rest))) : W p l e R s m args below meth c H locs cells slots Q (F0 m pc ls (.int 24 :: .int 4 :: rest)) := by
  obtain ⟨hx, hb, hr, hml, hown, hW, hlocks⟩ := X
  obtain ⟨hP, hD, hS, hK, hA⟩ := hw
  have hcy : s.vm.findClass (FieldType.array .int).toString = some (cy 0) := (hK.2 0 (cy 0, .int) rfl).2
  have hP0 : va_P D vwCl (ws ++ va_pl [] (fun _ => .inr (0, []))) H := by
    show va_P D vwCl (ws ++ []) H
    rw [List.append_nil]
    exact hP
  have hD0 : va_D A (ws ++ va_pl [] (fun _ => .inr (0, []))) := by
    show va_D A (ws ++ [])
    rw [List.append_nil]
    exact hD
  refine va_mna (z := (24, .inl (fun _ => 0))) (N' := 4) (K' := 24) (ty := .int) hx hb hown (hW _ h1) hX.2.1 (hW _ hm) hcy hK hP0 hD0 hS hA (by decide) (by decide) (by decide) (by decide) (by decide) (by decide) (by decide) rfl rfl hcells hslots (fun cA => ?_) hdg fun q r cA H1 hr1 hr2 hK1 hP1 hD1 hS1 => ?_
  · show ({ cls := cA, slots := Array.replicate 24 (.int 0), vm := .none } : Cell) = arrV cA 24 (fun _ => .int 0)
    rw [arrV_new]
  rw [zK_aoi hK1, List.append_assoc] at hP1 hD1
  have hf : (fun i => if i < 4 then some (r i) else none) = (fun i => if i < 4 then some ([r 0, r 1, r 2, r 3].getD i 0) else none) := funext fun i => by
    by_cases h : i < 4
    · rw [if_pos h, if_pos h]
      match i, h with
      | 0, _ => rfl
      | 1, _ => rfl
      | 2, _ => rfl
      | 3, _ => rfl
    · rw [if_neg h, if_neg h]
  have hl : va_pl ([] ++ (List.range 4).map r) (vr_up (fun _ => .inr (0, [])) ((List.range 4).map r) (.inl (cy 0, (24, .inl (fun _ => 0))))) = [(r 0, .inl (cy 0, 24, .inl (fun _ => 0))), (r 1, .inl (cy 0, 24, .inl (fun _ => 0))), (r 2, .inl (cy 0, 24, .inl (fun _ => 0))), (r 3, .inl (cy 0, 24, .inl (fun _ => 0)))] := by
    simp [va_pl, vr_up, List.range, List.range.loop]
  rw [hl, hf] at hP1 hD1
  exact kk q (r 0) (r 1) (r 2) (r 3) H1 ⟨zP_front hP1, zD_front hD1, hS1, hK, hA⟩
theorem zn_put {ref C : String} {T : u_T} {N ci index : Nat} (q0 : Nat) {fs : List Value} (X : zCX p s m meth c args cc nL ret own) (hw : zNW D cy A ws H locs s) (hin : ∀ w ∈ u_ws C T N, w ∈ zW0) (ty0 : Nat → FieldType) (hty : ∀ k, k < N → parseFieldDescriptor (T k).2.2.1 = some (ty0 k)) (hnm : ∀ a, a < N → ∀ b, b < N → a ≠ b → (T a).2.1 ≠ (T b).2.1) (he : ws[q0]? = some (a, .inr (ci, fs))) (hc : vwCl[ci]? = some (C, T, N)) (k : Nat) (hk : k < N) (hl : Cond.fieldLink own index ref (T k).2.1 (T k).2.2.1 ∈ zW0) (hsame : ∀ x, s.fieldFound? (T k).1 (T k).2.1 (T k).2.2.1 = some x → s.fieldFound? ref (T k).2.1 (T k).2.2.1 = some x) (hfin : (T k).2.2.2 = false) {ty : FieldType} {v : Value} (hd : parseFieldDescriptor (T k).2.2.1 = some ty) (hn : narrow ty v = v) (hfit : fits ty v = true) (hlen : k < fs.length) (hdg : decode cc pc = .ok (.putfield index, 3))
    (kk : ∀ (H1 : Heap) (locs1 : List Loc), zNW D cy A (ws.set q0 (a, .inr (ci, fs.set k v))) H1 locs1 s → W p l e R s m args below meth c H1 locs1 cells slots Q (F0 m (pc + 3) ls rest)) : W p l e R s m args below meth c H locs cells slots Q (F0 m pc ls (v :: .ref a :: rest)) := by
  obtain ⟨hx, hb, hr, hml, hown, hW, hlocks⟩ := X
  obtain ⟨hP, hD, hS, hK, hA⟩ := hw
  exact va_put hx hb hW hin ty0 hty hnm hown hK hP hD hS q0 he hc k hk (hW _ hl) hsame hfin hd hn hfit hlen hdg fun H1 locs1 hP1 hD1 hS1 => kk H1 locs1 ⟨hP1, hD1, hS1, hK, hA⟩
theorem zn_putF {ref C : String} {T : u_T} {N ci index : Nat} (q0 : Nat) {fs : List Value} (X : zCX p s m meth c args cc nL ret own) (hi2 : meth.name = "<init>") (hw : zNW D cy A ws H locs s) (hin : ∀ w ∈ u_ws C T N, w ∈ zW0) (ty0 : Nat → FieldType) (hty : ∀ k, k < N → parseFieldDescriptor (T k).2.2.1 = some (ty0 k)) (hnm : ∀ a, a < N → ∀ b, b < N → a ≠ b → (T a).2.1 ≠ (T b).2.1) (he : ws[q0]? = some (a, .inr (ci, fs))) (hc : vwCl[ci]? = some (C, T, N)) (k : Nat) (hk : k < N) (hl : Cond.fieldLink own index ref (T k).2.1 (T k).2.2.1 ∈ zW0) (hsame : ∀ x, s.fieldFound? (T k).1 (T k).2.1 (T k).2.2.1 = some x → s.fieldFound? ref (T k).2.1 (T k).2.2.1 = some x) (hfin : (T k).2.2.2 = true) (hdecl : (T k).1 = own) {ty : FieldType} {v : Value} (hd : parseFieldDescriptor (T k).2.2.1 = some ty) (hn : narrow ty v = v) (hfit : fits ty v = true) (hlen : k < fs.length) (hdg : decode cc pc = .ok (.putfield index, 3))
    (kk : ∀ (H1 : Heap) (locs1 : List Loc), zNW D cy A (ws.set q0 (a, .inr (ci, fs.set k v))) H1 locs1 s → W p l e R s m args below meth c H1 locs1 cells slots Q (F0 m (pc + 3) ls rest)) : W p l e R s m args below meth c H locs cells slots Q (F0 m pc ls (v :: .ref a :: rest)) := by
  obtain ⟨hx, hb, hr, hml, hown, hW, hlocks⟩ := X
  obtain ⟨hP, hD, hS, hK, hA⟩ := hw
  exact va_putF hx hb hW hin ty0 hty hnm hown hK hP hD hS q0 he hc k hk (hW _ hl) hsame hfin hi2 hdecl hd hn hfit hlen hdg fun H1 locs1 hP1 hD1 hS1 => kk H1 locs1 ⟨hP1, hD1, hS1, hK, hA⟩
theorem zn_get {ref C : String} {T : u_T} {N ci index : Nat} (q0 : Nat) {fs : List Value} (X : zCX p s m meth c args cc nL ret own) (hw : zNW D cy A ws H locs s) (hin : ∀ w ∈ u_ws C T N, w ∈ zW0) (he : ws[q0]? = some (a, .inr (ci, fs))) (hc : vwCl[ci]? = some (C, T, N)) (k : Nat) (hk : k < N) (hl : Cond.fieldLink own index ref (T k).2.1 (T k).2.2.1 ∈ zW0) (hsame : ∀ x, s.fieldFound? (T k).1 (T k).2.1 (T k).2.2.1 = some x → s.fieldFound? ref (T k).2.1 (T k).2.2.1 = some x) {v : Value} (hv : fs[k]? = some v) (hdg : decode cc pc = .ok (.getfield index, 3))
    (kk : W p l e R s m args below meth c H locs cells slots Q (F0 m (pc + 3) ls (v :: rest))) : W p l e R s m args below meth c H locs cells slots Q (F0 m pc ls (.ref a :: rest)) := by
  obtain ⟨hx, hb, hr, hml, hown, hW, hlocks⟩ := X
  obtain ⟨hP, hD, hS, hK, hA⟩ := hw
  exact va_get hx hb hW hin hown hK hP q0 he hc k hk (hW _ hl) hsame hv hdg kk
theorem zn_iast {n : Nat} {f : Nat → Int32} (q0 : Nat) (X : zCX p s m meth c args cc nL ret own) (hw : zNW D cy A ws H locs s) (he : ws[q0]? = some (a, .inl (cy 0, n, .inl f))) {i x : Int32} (hi : ¬ (i < 0 ∨ n ≤ i.toNatClampNeg)) (hdg : decode cc pc = .ok (.iastore, 1))
    (kk : ∀ (H1 : Heap) (locs1 : List Loc), zNW D cy A (ws.set q0 (a, .inl (cy 0, n, .inl (upd f i.toNatClampNeg x)))) H1 locs1 s → W p l e R s m args below meth c H1 locs1 cells slots Q (F0 m (pc + 1) ls rest)) : W p l e R s m args below meth c H locs cells slots Q (F0 m pc ls (.int x :: .int i :: .ref a :: rest)) := by
  obtain ⟨hx, hb, hr, hml, hown, hW, hlocks⟩ := X
  obtain ⟨hP, hD, hS, hK, hA⟩ := hw
  exact va_iast hx hb hK hP hD hS q0 0 he rfl hi hdg fun H1 locs1 hP1 hD1 hS1 => kk H1 locs1 ⟨hP1, hD1, hS1, hK, hA⟩
theorem zn_astq {n v : Nat} {vs : List Value} {f : Nat → Option Nat} (q0 qk : Nat) (X : zCX p s m meth c args cc nL ret own) (hw : zNW D cy A ws H locs s) (he : ws[q0]? = some (a, .inl (cy 2, n, .inr (.inr (.inr (.inr f)))))) (hv : ws[qk]? = some (v, .inr (6, vs))) {i : Int32} (hi : ¬ (i < 0 ∨ n ≤ i.toNatClampNeg)) (hdg : decode cc pc = .ok (.aastore, 1))
    (kk : ∀ (H1 : Heap) (locs1 : List Loc), zNW D cy A (ws.set q0 (a, .inl (cy 2, n, .inr (.inr (.inr (.inr (va_up f i.toNatClampNeg (some v)))))))) H1 locs1 s → W p l e R s m args below meth c H1 locs1 cells slots Q (F0 m (pc + 1) ls rest)) : W p l e R s m args below meth c H locs cells slots Q (F0 m pc ls (.ref v :: .int i :: .ref a :: rest)) := by
  obtain ⟨hx, hb, hr, hml, hown, hW, hlocks⟩ := X
  obtain ⟨hP, hD, hS, hK, hA⟩ := hw
  exact va_astq (r := (RX6, TX6, 9)) hx hb hK hP hD hS q0 2 qk 6 he rfl hv rfl hi hdg fun H1 locs1 hP1 hD1 hS1 => kk H1 locs1 ⟨hP1, hD1, hS1, hK, hA⟩
theorem zn_obj {index : Nat} (X : zCX p s m meth c args cc nL ret own) (h1 : Cond.methodLink own index objectInit ∈ zW0) (hsz : ls.size = nL) (hfr : 1 ≤ R.frames) (hlo : 12 ≤ R.locals) (hdg : decode cc pc = .ok (.invokespecial index, 3))
    (kk : W p l e R s m args below meth c H locs cells slots Q (F0 m (pc + 3) ls [])) : W p l e R s m args below meth c H locs cells slots Q (F0 m pc ls [.ref a]) := by
  obtain ⟨hx, hb, hr, hml, hown, hW, hlocks⟩ := X
  refine W.objInit hx hb hown (hW _ h1) (hW _ zm_1_11) (hW _ zm_1_12) rfl (by rw [hml]; exact hsz) rfl hdg hfr (by exact hlo) ?_
  exact W.eq (g2 := F0 m (pc + 3) ls []) rfl kk
/-- a constructor's contract: it takes an object of blank fields, with whatever stands beside it, to the cells of the post -/
def zNC (l : Launch) (D : va_G) (cy : Nat → ClassId) (y : MethodName) (bytes : ByteArray) (nL : Nat) (rm : Room) (ci : Nat) (fs : List Value) (cs : (Nat → Nat) → va_W) (mc ms : Nat) : Prop :=
  ∀ (sz h : Nat) (R : va_W), Met l y (.code y bytes nL none :: zW0) rm (va_Pc [.ref h] (fun U => U.heap.size = sz ∧ va_P D vwCl ((h, .inr (ci, fs)) :: R) U.heap ∧ va_K D vwCl (zTY cy) U ∧ zNX U ∧ va_D (fun _ => True) ((h, .inr (ci, fs)) :: R))) (va_Qv (fun q : Nat → Nat => q 0 = h) (fun q t => va_P D vwCl (cs q ++ R) t.heap ∧ va_K D vwCl (zTY cy) t ∧ va_D (va_A ((h, .inr (ci, fs)) :: R) sz) (cs q ++ R)) (va_A ((h, .inr (ci, fs)) :: R) sz)) mc ms (va_A ((h, .inr (ci, fs)) :: R) sz)
abbrev zNQ (D : va_G) (cy : Nat → ClassId) (h ci : Nat) (fs : List Value) (cs : (Nat → Nat) → va_W) (R : va_W) (sz : Nat) : Array Value → State → Outcome → State → Prop := va_Qv (fun q : Nat → Nat => q 0 = h) (fun q t => va_P D vwCl (cs q ++ R) t.heap ∧ va_K D vwCl (zTY cy) t ∧ va_D (va_A ((h, .inr (ci, fs)) :: R) sz) (cs q ++ R)) (va_A ((h, .inr (ci, fs)) :: R) sz)
theorem zNent {bytes : ByteArray} {rm : Room} {ci : Nat} {fs : List Value} {cs : (Nat → Nat) → va_W} {mc ms : Nat} (hy : plainName own = true) (h1 : 1 ≤ nL)
    (body : ∀ (p : Program) (e : Env) (s : State) (m : MethodId) (args : Array Value) (below : List Frame) (meth : Method) (c : Code) (ls : Array Slot) (h : Nat) (R : va_W), zCX p s m meth c args bytes nL none own → meth.name = "<init>" → zNX s → zNW D cy (va_A ((h, .inr (ci, fs)) :: R) s.heap.size) ((h, .inr (ci, fs)) :: R) s.heap [] s → lv_has ls nL [(0, .ref h)] →
      W p l e rm s m args below meth c s.heap [] 0 0 (MQ below (zNQ D cy h ci fs cs R s.heap.size) args s mc ms (va_A ((h, .inr (ci, fs)) :: R) s.heap.size)) (F0 m 0 ls [])) :
    zNC l D cy ⟨own, "<init>", "()V"⟩ bytes nL rm ci fs cs mc ms := by
  intro sz h R
  refine Met.ofW (cc := bytes) (maxL := nL) (ret := none) hy rfl ?_
  intro p e s m args below meth c s₁ B hml hv
  obtain ⟨rfl, hsz, hP, hK, hX, hD0⟩ := hv
  have hts := atoms_spec (ws := .code ⟨own, "<init>", "()V"⟩ bytes nL none :: zW0) B.pre
  have hown : s.vm.findClass own = some m.cls := findClass_of_methodNamed B.named
  have hi2 : meth.name = "<init>" := (name_of_methodNamed B.named B.method).1
  subst hsz
  rw [lg_entry_eq]
  exact body p e s m _ below meth c _ h R ⟨B.exec, B.bytes, B.returns, hml, hown, fun w hw => hts w (List.mem_cons_of_mem _ hw), B.notSynchronized⟩ hi2 hX ⟨hP, hD0.self, va_S.rf, hK, fun q hq => Or.inr hq⟩ (lv_entry [.ref h] h1)
theorem zn_ret {h ci : Nat} {fs : List Value} {cs : (Nat → Nat) → va_W} {Rw : va_W} (q : Nat → Nat) (X : zCX p s m meth c args cc nL none own) (hw : zNW D cy (va_A ((h, .inr (ci, fs)) :: Rw) s.heap.size) (cs q ++ Rw) H locs s) (hq : q 0 = h) (hdg : decode cc pc = .ok (.return_, 1)) :
    W p l e R s m args below meth c H locs cells slots (MQ below (zNQ D cy h ci fs cs Rw s.heap.size) args s cells slots (va_A ((h, .inr (ci, fs)) :: Rw) s.heap.size)) (F0 m pc ls []) := by
  obtain ⟨hx, hb, hr, hml, hown, hW, hlocks⟩ := X
  obtain ⟨hP, hD, hS, hK, hA⟩ := hw
  exact W.vret hx hb hr (fun t ht hWd => ⟨⟨q, rfl, hq, by rw [ht]; exact hP, va_K.moved hWd.alike hK, hD⟩, hS.F ht⟩) hS.2.2 hdg hlocks
theorem zN_blind {sz h ci : Nat} {fs : List Value} {Rw : va_W} : FrameBlind (va_Pc [.ref h] (fun U => U.heap.size = sz ∧ va_P D vwCl ((h, .inr (ci, fs)) :: Rw) U.heap ∧ va_K D vwCl (zTY cy) U ∧ zNX U ∧ va_D (fun _ => True) ((h, .inr (ci, fs)) :: Rw))) := by
  intro v U g mk hv
  obtain ⟨h0, h1, h2, h3, h4, h5⟩ := hv
  exact ⟨h0, h1, h2, va_K.moved (u := U) (U := U.calling g mk v) (Vm.Alike.refl U.vm) h3, h4.calling, h5⟩
theorem zN_pre {h ci : Nat} {fs : List Value} (hw : zNW D cy A ((h, .inr (ci, fs)) :: ws) H locs s) (hX : zNX s) : PreS s H (va_Pc [.ref h] (fun U => U.heap.size = H.size ∧ va_P D vwCl ((h, .inr (ci, fs)) :: ws) U.heap ∧ va_K D vwCl (zTY cy) U ∧ zNX U ∧ va_D (fun _ => True) ((h, .inr (ci, fs)) :: ws))) (.ref h :: []) := by
  obtain ⟨hP, hD, hS, hK, hA⟩ := hw
  exact ⟨zN_blind, fun U hU hW => ⟨rfl, by rw [hU], by rw [hU]; exact hP, va_K.moved hW.alike hK, hX.warm hW, hD.weaken (fun _ _ _ _ => trivial)⟩⟩
theorem zN_free {w1 : va_W} (hw : zNW D cy A w1 H locs s) : ∀ q, va_A w1 H.size q → A q := by
  intro q h
  obtain ⟨hP, hD, hS, hK, hA⟩ := hw
  rcases h with ⟨k, e, hk⟩ | h
  · exact hD.2 k _ hk
  · exact hA q (Nat.le_trans hS.1 h)
theorem zn_call {y : MethodName} {bytes : ByteArray} {maxL index h ci mc ms : Nat} {rm : Room} {fs : List Value} {cs : (Nat → Nat) → va_W} (X : zCX p s m meth c args cc nL ret own) (hX : zNX s) (hw : zNW D cy A ((h, .inr (ci, fs)) :: ws) H locs s) (hM : zNC l D cy y bytes maxL rm ci fs cs mc ms)
    (m1 : Cond.methodLink own index y ∈ zW0) (m2 : Cond.instanceMethod y ∈ zW0) (m4 : Cond.initialized y.cls ∈ zW0) (m5 : Cond.code y bytes maxL none ∈ zW0) (hc : rm.cells = mc) (hs : rm.slots = ms) (hn : y.name = "<init>") (hd : y.cls ≠ "java/lang/invoke/MethodHandle" ∧ y.cls ≠ "java/lang/invoke/VarHandle" ∧ (parseMethodDescriptor y.desc).map (fun d => d.parameters.length) = some 0) (hR : rm.frames + 1 ≤ R.frames ∧ 8 + (maxL + 11) + rm.locals ≤ R.locals)
    (hcat : (rest.map fun v => v.category).sum ≤ 8) (hsz : ls.size = nL) (hcs : cells + mc ≤ R.cells ∧ slots + ms ≤ R.slots) (hdg : decode cc pc = .ok (.invokespecial index, 3))
    (kk : ∀ (q : Nat → Nat) (H1 : Heap) (locs1 : List Loc), q 0 = h → zNW D cy A (cs q ++ ws) H1 locs1 s → W p l e R s m args below meth c H1 locs1 (cells + mc) (slots + ms) Q (F0 m (pc + 3) ls rest)) : W p l e R s m args below meth c H locs cells slots Q (F0 m pc ls (.ref h :: rest)) := by
  obtain ⟨hx, hb, hr, hml, hown, hW, hlocks⟩ := id X
  have hfr := zN_free hw
  refine va_callv (va_runI (As := []) (rest := rest) ⟨hx, hb, hml, hown, hW⟩ (hM H.size h ws) (cwI 0 hW (zgood1 m5) rfl hc hs (hW _ m4) (hW _ m1) (hW _ m2) hn hd hR) (zN_pre hw hX) rfl rfl hsz rfl (lv_room hcat) hdg hcs) hw.2.2.1 (fun q _ h => hfr q h) hfr (fun q t H1 locs1 ht hvm hp hB hz1 hk1 hS1 => kk q H1 locs1 hp ?_)
  obtain ⟨hP, hD, hS, hK, hA⟩ := hw
  exact ⟨by rw [← ht]; exact hB.1, hB.2.2.weaken (fun k q _ h => hfr _ h), hS1, hK, hA⟩
theorem zn_callN {y : MethodName} {host : String} {bytes : ByteArray} {maxL index h ci mc ms : Nat} {rm : Room} {fs : List Value} {cs : (Nat → Nat) → va_W} (X : zCX p s m meth c args cc nL ret own) (hX : zNX s) (hw : zNW D cy A ((h, .inr (ci, fs)) :: ws) H locs s) (hM : zNC l D cy y bytes maxL rm ci fs cs mc ms)
    (m1 : va_Nw (.methodLinkNest own index y host) s) (m2 : Cond.instanceMethod y ∈ zW0) (m4 : Cond.initialized y.cls ∈ zW0) (m5 : Cond.code y bytes maxL none ∈ zW0) (hc : rm.cells = mc) (hs : rm.slots = ms) (hn : y.name = "<init>") (hd : y.cls ≠ "java/lang/invoke/MethodHandle" ∧ y.cls ≠ "java/lang/invoke/VarHandle" ∧ (parseMethodDescriptor y.desc).map (fun d => d.parameters.length) = some 0) (hR : rm.frames + 1 ≤ R.frames ∧ 8 + (maxL + 11) + rm.locals ≤ R.locals)
    (hcat : (rest.map fun v => v.category).sum ≤ 8) (hsz : ls.size = nL) (hcs : cells + mc ≤ R.cells ∧ slots + ms ≤ R.slots) (hdg : decode cc pc = .ok (.invokespecial index, 3))
    (kk : ∀ (q : Nat → Nat) (H1 : Heap) (locs1 : List Loc), q 0 = h → zNW D cy A (cs q ++ ws) H1 locs1 s → W p l e R s m args below meth c H1 locs1 (cells + mc) (slots + ms) Q (F0 m (pc + 3) ls rest)) : W p l e R s m args below meth c H locs cells slots Q (F0 m pc ls (.ref h :: rest)) := by
  obtain ⟨hx, hb, hr, hml, hown, hW, hlocks⟩ := id X
  have hfr := zN_free hw
  refine va_callv (va_runIN (As := []) (rest := rest) ⟨hx, hb, hml, hown, hW⟩ (hM H.size h ws) ⟨va_cnB 0 hW (zgood1 m5) rfl hc hs m1 (hW _ m4) hd hR, hn, hW _ m2⟩ (zN_pre hw hX) rfl rfl hsz rfl (lv_room hcat) hdg hcs) hw.2.2.1 (fun q _ h => hfr q h) hfr (fun q t H1 locs1 ht hvm hp hB hz1 hk1 hS1 => kk q H1 locs1 hp ?_)
  obtain ⟨hP, hD, hS, hK, hA⟩ := hw
  exact ⟨by rw [← ht]; exact hB.1, hB.2.2.weaken (fun k q _ h => hfr _ h), hS1, hK, hA⟩
end ZN
