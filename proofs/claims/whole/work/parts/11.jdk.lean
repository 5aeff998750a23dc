/-! ===== String.indexOf(int) of a literal, walked down to its bytes ===== -/
def zNo : Nat → Prop := fun _ => False
def zSF (k v : Nat) (bs : List Int32) (U : State) : Prop := va_Z "java/lang/String" "COMPACT_STRINGS" "Z" (.int 1) zNo U U.heap ∧ va_O "java/lang/String" k zNo U U.heap ∧ va_OF "java/lang/String" "coder" "B" (.int 0) k zNo U U.heap ∧ va_OF "java/lang/String" "value" "[B" (.ref v) k zNo U U.heap ∧ va_T .byte v bs.length (fun j => .int (bs.getD j 0)) zNo U U.heap
theorem zSF.to {k v : Nat} {bs : List Int32} {s U : State} (h : zSF k v bs s) (hv : s.vm.Alike U.vm) (hh : U.heap = s.heap) : zSF k v bs U := by
  obtain ⟨h1, h2, h3, h4, h5⟩ := h
  unfold zSF
  rw [hh]
  exact ⟨h1.moved hv, h2.moved hv, h3.moved hv, h4.moved hv, h5.moved hv⟩
def zJ (l : Launch) (y : MethodName) (bytes : ByteArray) (nL : Nat) (ret : Option FieldType) (rm : Room) (As : List Value) (F : State → Prop) (r : Int32) : Prop :=
  Met l y (.code y bytes nL ret :: zW0) rm (va_Pc As F) (QcRead r) 0 0 (fun _ => False)
theorem zJent {l : Launch} {own nm ds : String} {bytes : ByteArray} {nL : Nat} {ret : Option FieldType} {rm : Room} {As : List Value} {lv : List (Nat × Value)} {F : State → Prop} {r : Int32} (hy : plainName own = true) (hlen : (lg_sl As).length ≤ nL) (hlv : lv_args 0 As = lv)
    (body : ∀ (p : Program) (e : Env) (s : State) (m : MethodId) (args : Array Value) (below : List Frame) (meth : Method) (c : Code) (ls : Array Slot), zCX p s m meth c args bytes nL ret own → F s → lv_has ls nL lv →
      W p l e rm s m args below meth c s.heap [] 0 0 (MQ below (QcRead r) args s 0 0 (fun _ => False)) (F0 m 0 ls [])) :
    zJ l ⟨own, nm, ds⟩ bytes nL ret rm As F r := by
  refine Met.ofW (cc := bytes) (maxL := nL) (ret := ret) hy rfl ?_
  intro p e s m args below meth c s₁ B hml hv
  obtain ⟨rfl, hF⟩ := hv
  have hts := atoms_spec (ws := .code ⟨own, nm, ds⟩ bytes nL ret :: zW0) B.pre
  have hown : s.vm.findClass own = some m.cls := findClass_of_methodNamed B.named
  rw [lg_entry_eq]
  exact body p e s m _ below meth c _ ⟨B.exec, B.bytes, B.returns, hml, hown, fun w hw => hts w (List.mem_cons_of_mem _ hw), B.notSynchronized⟩ hF (hlv ▸ lv_entry As hlen)
section ZJ
variable {p : Program} {l : Launch} {e : Env} {R : Room} {s : State} {m : MethodId} {args : Array Value} {below : List Frame} {meth : Method} {c : Code} {H : Heap} {locs : List Loc} {cells slots : Nat} {Q : State → Prop}
variable {cc : ByteArray} {pc : Nat} {ls : Array Slot} {rest st : List Value} {nL : Nat} {ret : Option FieldType} {own : String} {r : Int32}
theorem zJri {v : Int32} {ty : FieldType} (X : zCX p s m meth c args cc nL (some ty) own) (hn : narrow ty (.int v) = .int v) (h : v = r) (hdg : decode cc pc = .ok (.ireturn, 1)) : W p l e R s m args below meth c s.heap [] 0 0 (MQ below (QcRead r) args s 0 0 (fun _ => False)) (F0 m pc ls [.int v]) := by
  obtain ⟨hx, hb, hr, hml, hown, hW, hlocks⟩ := X
  subst h
  exact W.zret (v := v) (ty := ty) hx hb hr hn (fun t ht hWd => ⟨rfl, ht⟩) (fun q hq => by cases hq) hdg hlocks
theorem zJgO {o n d : String} {v : Value} {t index : Nat} (X : zCX p s m meth c args cc nL ret own) (hF : va_OF o n d v t zNo s s.heap) (hl : Cond.fieldLink own index o n d ∈ zW0) (hdg : decode cc pc = .ok (.getfield index, 3))
    (kk : W p l e R s m args below meth c s.heap locs cells slots Q (F0 m (pc + 3) ls (v :: rest))) : W p l e R s m args below meth c s.heap locs cells slots Q (F0 m pc ls (.ref t :: rest)) := by
  obtain ⟨hx, hb, hr, hml, hown, hW, hlocks⟩ := X
  obtain ⟨cf, k, i, f, cell, h1, h2, h3, h4, h5, h6⟩ := hF
  exact W.getf hx hb hown (hW _ hl) h1 h2 h3 h4 h5 rfl rfl hdg kk
theorem zJgs {C n d : String} {v : Value} {index : Nat} (X : zCX p s m meth c args cc nL ret own) (hZ : va_Z C n d v zNo s s.heap) (hl : Cond.fieldLink own index C n d ∈ zW0) (hdg : decode cc pc = .ok (.getstatic index, 3))
    (kk : W p l e R s m args below meth c s.heap [] cells slots Q (F0 m (pc + 3) ls (v :: rest))) : W p l e R s m args below meth c s.heap [] cells slots Q (F0 m pc ls rest) := by
  obtain ⟨hx, hb, hr, hml, hown, hW, hlocks⟩ := X
  exact va_gets hx hb hZ (A := zNo) va_S.rf hown (hW _ hl) (fun _ h => h) hdg kk
theorem zJcV {y : MethodName} {bytes : ByteArray} {maxL n index q : Nat} {rt : Option FieldType} {rm : Room} {As : List Value} {C : String} {F : State → Prop} {v0 : Int32} (X : zCX p s m meth c args cc nL ret own) (hM : zJ l y bytes maxL rt rm (.ref q :: As) F v0) (cw : CallW R s args own C index y bytes maxL rt (.code y bytes maxL rt :: zW0) rm 0 0 n) (hO : va_O C q zNo s H) (hbl : ∀ (U : State) (g : JFrame) (mk : MethodId) (a : Array Value), F U → F (U.calling g mk a)) (hF : ∀ U : State, U.heap = H → s.WarmedH U.vm → F U) (hn : As.length = n) (hst : st = As.reverse ++ .ref q :: rest) (hcat : (rest.map fun v => v.category).sum ≤ 8) (hsz : ls.size = nL) (hcs : cells ≤ R.cells ∧ slots ≤ R.slots) (hdg : decode cc pc = .ok (.invokevirtual index, 3))
    (kk : W p l e R s m args below meth c H locs cells slots Q (F0 m (pc + 3) ls (.int v0 :: rest))) : W p l e R s m args below meth c H locs cells slots Q (F0 m pc ls st) := by
  obtain ⟨hx, hb, hr, hml, hown, hW, hlocks⟩ := X
  obtain ⟨cell, h1, h2, h3, h4⟩ := hO
  exact W.callR (W.runV (As := As) (rest := rest) ⟨hx, hb, hml, hown, hW⟩ hM cw ⟨fun a U g mk hq => ⟨hq.1, hbl U g mk a hq.2⟩, ⟨cell, h1, h2, h3⟩, fun U hU hWd => ⟨rfl, hF U hU hWd⟩⟩ rfl hn hsz hst (lv_room hcat) hdg hcs) kk
theorem zJcS {y : MethodName} {bytes : ByteArray} {maxL n index : Nat} {rt : Option FieldType} {rm : Room} {As : List Value} {F : State → Prop} {v0 : Int32} (X : zCX p s m meth c args cc nL ret own) (hM : zJ l y bytes maxL rt rm As F v0) (cw : CallB R s args own index y bytes maxL rt (.code y bytes maxL rt :: zW0) rm 0 0 n ∧ (Cond.static y).before args s = true) (hbl : ∀ (U : State) (g : JFrame) (mk : MethodId) (a : Array Value), F U → F (U.calling g mk a)) (hF : ∀ U : State, U.heap = H → s.WarmedH U.vm → F U) (hn : As.length = n) (hst : st = As.reverse ++ rest) (hcat : (rest.map fun v => v.category).sum ≤ 8) (hsz : ls.size = nL) (hcs : cells ≤ R.cells ∧ slots ≤ R.slots) (hdg : decode cc pc = .ok (.invokestatic index, 3))
    (kk : W p l e R s m args below meth c H locs cells slots Q (F0 m (pc + 3) ls (.int v0 :: rest))) : W p l e R s m args below meth c H locs cells slots Q (F0 m pc ls st) := by
  obtain ⟨hx, hb, hr, hml, hown, hW, hlocks⟩ := X
  exact W.callR (W.runS (As := As) (rest := rest) ⟨hx, hb, hml, hown, hW⟩ hM cw ⟨fun a U g mk hq => ⟨hq.1, hbl U g mk a hq.2⟩, fun U hU hWd => ⟨rfl, hF U hU hWd⟩⟩ rfl hn hsz hst (lv_room hcat) hdg hcs) kk
end ZJ
def zcan (x : Int32) : Int32 := if x < 0 then 0 else if 255 < x then 0 else 1
theorem zj_canEncode (l : Launch) (x : Int32) : zJ l yJ1_canEncode_9a6ad cJ1_canEncode_9a6ad 1 (some .boolean) (zRm 0 0) [.int x] (fun _ => True) (zcan x) := by
  refine zJent (by decide) (Nat.le_of_ble_eq_true rfl) rfl (fun p e s m args below meth c ls X hF hl => ?_)
  obtain ⟨hx, hb, hr, hml, hown, hW, hlocks⟩ := id X
  refine lv_iload_n hx hb dJ1_canEncode_9a6ad_0 rfl (lv_at hl 0 rfl) ?_
  refine lv_if_lt (tgt := 15) hx hb dJ1_canEncode_9a6ad_1 (by decide) (fun c1 => ?_) (fun c1 => ?_)
  · refine lv_iconst (v := 0) hx hb dJ1_canEncode_9a6ad_15 (by decide) ?_
    exact zJri X rfl (by rw [zcan, if_pos c1]) dJ1_canEncode_9a6ad_16
  · refine lv_iload_n hx hb dJ1_canEncode_9a6ad_4 rfl (lv_at hl 0 rfl) ?_
    refine lv_sipush (v := 255) hx hb dJ1_canEncode_9a6ad_5 (by decide) ?_
    refine lv_icmp_gt (tgt := 15) hx hb dJ1_canEncode_9a6ad_8 (by decide) (fun c2 => ?_) (fun c2 => ?_)
    · refine lv_iconst (v := 0) hx hb dJ1_canEncode_9a6ad_15 (by decide) ?_
      exact zJri X rfl (by rw [zcan, if_neg c1, if_pos c2]) dJ1_canEncode_9a6ad_16
    · refine lv_iconst (v := 1) hx hb dJ1_canEncode_9a6ad_11 (by decide) ?_
      refine lv_goto (tgt := 16) hx hb dJ1_canEncode_9a6ad_12 (by decide) ?_
      exact zJri X rfl (by rw [zcan, if_neg c1, if_neg c2]) dJ1_canEncode_9a6ad_16
theorem zj_coder (l : Launch) (k v : Nat) (bs : List Int32) : zJ l yJ0_coder_7d493 cJ0_coder_7d493 1 (some .byte) (zRm 0 0) [.ref k] (zSF k v bs) 0 := by
  refine zJent (by decide) (Nat.le_of_ble_eq_true rfl) rfl (fun p e s m args below meth c ls X hF hl => ?_)
  obtain ⟨hx, hb, hr, hml, hown, hW, hlocks⟩ := id X
  refine zJgs X hF.1 zm_21_9 dJ0_coder_7d493_0 ?_
  refine lv_if_eq (tgt := 13) hx hb dJ0_coder_7d493_3 (by decide) (fun c1 => absurd c1 (by decide)) (fun c1 => ?_)
  refine lv_aload_n hx hb dJ0_coder_7d493_6 rfl (lv_at hl 0 rfl) ?_
  refine zJgO X hF.2.2.1 zm_21_10 dJ0_coder_7d493_7 ?_
  refine lv_goto (tgt := 14) hx hb dJ0_coder_7d493_10 (by decide) ?_
  exact zJri X rfl rfl dJ0_coder_7d493_14
theorem zj_isLatin1 (l : Launch) (k v : Nat) (bs : List Int32) : zJ l yJ0_isLatin1_aae02 cJ0_isLatin1_aae02 1 (some .boolean) (zRm 0 0) [.ref k] (zSF k v bs) 1 := by
  refine zJent (by decide) (Nat.le_of_ble_eq_true rfl) rfl (fun p e s m args below meth c ls X hF hl => ?_)
  obtain ⟨hx, hb, hr, hml, hown, hW, hlocks⟩ := id X
  refine zJgs X hF.1 zm_21_9 dJ0_isLatin1_aae02_0 ?_
  refine lv_if_eq (tgt := 17) hx hb dJ0_isLatin1_aae02_3 (by decide) (fun c1 => absurd c1 (by decide)) (fun c1 => ?_)
  refine lv_aload_n hx hb dJ0_isLatin1_aae02_6 rfl (lv_at hl 0 rfl) ?_
  refine zJgO X hF.2.2.1 zm_21_10 dJ0_isLatin1_aae02_7 ?_
  refine lv_if_ne (tgt := 17) hx hb dJ0_isLatin1_aae02_10 (by decide) (fun c1 => absurd rfl c1) (fun c1 => ?_)
  refine lv_iconst (v := 1) hx hb dJ0_isLatin1_aae02_13 (by decide) ?_
  refine lv_goto (tgt := 18) hx hb dJ0_isLatin1_aae02_14 (by decide) ?_
  exact zJri X rfl rfl dJ0_isLatin1_aae02_18
theorem zSF.blind {k v : Nat} {bs : List Int32} (U : State) (g : JFrame) (mk : MethodId) (a : Array Value) (h : zSF k v bs U) : zSF k v bs (U.calling g mk a) := h.to (Vm.Alike.refl U.vm) rfl
theorem zj_length (l : Launch) (k v : Nat) (bs : List Int32) : zJ l yJ0_length_8abf5 cJ0_length_8abf5 1 (some .int) (zRm 1 20) [.ref k] (zSF k v bs) (Int32.ofNat bs.length) := by
  refine zJent (by decide) (Nat.le_of_ble_eq_true rfl) rfl (fun p e s m args below meth c ls X hF hl => ?_)
  obtain ⟨hx, hb, hr, hml, hown, hW, hlocks⟩ := id X
  refine lv_aload_n hx hb dJ0_length_8abf5_0 rfl (lv_at hl 0 rfl) ?_
  refine zJgO X hF.2.2.2.1 zm_21_4 dJ0_length_8abf5_1 ?_
  refine va_tlen (A := zNo) hx hb hF.2.2.2.2 va_S.rf rfl dJ0_length_8abf5_4 ?_
  refine lv_aload_n hx hb dJ0_length_8abf5_5 rfl (lv_at hl 0 rfl) ?_
  refine zJcV (As := []) (rest := [.int (Int32.ofNat bs.length)]) X (zj_coder l k v bs) (zcw_V (n := 0) hW zm_21_15 zm_21_16 zm_21_17 zm_20_22 zm_21_18 rfl rfl (by decide +kernel) (zroomO (Nat.le_of_ble_eq_true rfl) (Nat.le_of_ble_eq_true rfl))) hF.2.1 zSF.blind (fun U hU hWd => hF.to hWd.alike hU) rfl rfl (Nat.le_of_ble_eq_true rfl) hl.1 ⟨Nat.zero_le _, Nat.zero_le _⟩ dJ0_length_8abf5_6 ?_
  refine lv_ishr hx hb dJ0_length_8abf5_9 ?_
  exact zJri X rfl (sb_shr0 _) dJ0_length_8abf5_10
/-- the loop over the bytes -/
def zbF (ch : Int32) : List Int32 → Nat → Int32
  | [], _ => -1
  | b :: l, k => if b = ch.toInt8.toInt32 then nI k else zbF ch l (k + 1)
theorem zj_loop {p : Program} {l : Launch} {e : Env} {s : State} {m : MethodId} {args : Array Value} {below : List Frame} {meth : Method} {c : Code} {R : Room} (X : zCX p s m meth c args cJ1_indexOfChar_4cfef 6 (some .int) RJ1) (v : Nat) (bs : List Int32) (hlen : bs.length < 100) (hT : va_T .byte v bs.length (fun j => .int (bs.getD j 0)) zNo s s.heap) (ch r : Int32) :
    ∀ (q : List Int32) (j : Nat) (ls : Array Slot), j ≤ bs.length → bs.drop j = q → zbF ch q j = r → lv_has ls 6 [(5, .int (nI j)), (4, .int ch.toInt8.toInt32), (0, .ref v), (3, .int (Int32.ofNat bs.length))] →
    W p l e R s m args below meth c s.heap [] 0 0 (MQ below (QcRead r) args s 0 0 (fun _ => False)) (F0 m 7 ls []) := by
  obtain ⟨hx, hb, hr, hml, hown, hW, hlocks⟩ := id X
  intro q
  induction q with
  | nil =>
    intro j ls hj he hz hl
    have hj2 : bs.length ≤ j := List.drop_eq_nil_iff.mp he
    refine lv_iload hx hb dJ1_indexOfChar_4cfef_7 (lv_at hl 0 rfl) ?_
    refine lv_iload_n hx hb dJ1_indexOfChar_4cfef_9 rfl (lv_at hl 3 rfl) ?_
    refine lv_icmp_ge (tgt := 31) hx hb dJ1_indexOfChar_4cfef_10 (by decide) (fun c1 => ?_) (fun c1 => absurd (nI_le hj2 (by omega)) c1)
    refine lv_iconst (v := -1) hx hb dJ1_indexOfChar_4cfef_31 (by decide) ?_
    exact zJri X rfl hz dJ1_indexOfChar_4cfef_32
  | cons b q ih =>
    intro j ls hj he hz hl
    obtain ⟨h1, h2, h3, h4⟩ := sc_dropC he
    have hin : vp_in (nI j) bs.length := vp_in_nI h1 (by omega)
    have hcl : (nI j).toNatClampNeg = j := nI_clamp (by omega)
    refine lv_iload hx hb dJ1_indexOfChar_4cfef_7 (lv_at hl 0 rfl) ?_
    refine lv_iload_n hx hb dJ1_indexOfChar_4cfef_9 rfl (lv_at hl 3 rfl) ?_
    refine lv_icmp_ge (tgt := 31) hx hb dJ1_indexOfChar_4cfef_10 (by decide) (fun c1 => absurd c1 (nI_ge h1 (by omega))) (fun c1 => ?_)
    refine lv_aload_n hx hb dJ1_indexOfChar_4cfef_13 rfl (lv_at hl 2 rfl) ?_
    refine lv_iload hx hb dJ1_indexOfChar_4cfef_14 (lv_at hl 0 rfl) ?_
    refine va_tb (A := zNo) (v := .int b) hx hb hT va_S.rf hin (by rw [hcl, h2]) dJ1_indexOfChar_4cfef_16 ?_
    refine lv_iload hx hb dJ1_indexOfChar_4cfef_17 (lv_at hl 1 rfl) ?_
    refine lv_icmp_ne (tgt := 25) hx hb dJ1_indexOfChar_4cfef_19 (by decide) (fun c2 => ?_) (fun c2 => ?_)
    · refine lv_iinc (v := nI (j + 1)) (lv' := [(5, .int (nI (j + 1))), (4, .int ch.toInt8.toInt32), (0, .ref v), (3, .int (Int32.ofNat bs.length))]) hx hb dJ1_indexOfChar_4cfef_25 hl (k := 0) rfl (nI_1 j) (by decide) rfl (fun ls hl => ?_)
      refine lv_goto (tgt := 7) hx hb dJ1_indexOfChar_4cfef_28 (by decide) ?_
      exact ih (j + 1) ls (by omega) h3 (by rw [← hz, zbF, if_neg c2]) hl
    · refine lv_iload hx hb dJ1_indexOfChar_4cfef_22 (lv_at hl 0 rfl) ?_
      exact zJri X rfl (by rw [← hz, zbF, if_pos c2]) dJ1_indexOfChar_4cfef_24
def zTF (v : Nat) (bs : List Int32) (U : State) : Prop := va_T .byte v bs.length (fun j => .int (bs.getD j 0)) zNo U U.heap
theorem zTF.to {v : Nat} {bs : List Int32} {s U : State} (h : zTF v bs s) (hv : s.vm.Alike U.vm) (hh : U.heap = s.heap) : zTF v bs U := by
  unfold zTF at h ⊢
  rw [hh]
  exact h.moved hv
theorem zTF.blind {v : Nat} {bs : List Int32} (U : State) (g : JFrame) (mk : MethodId) (a : Array Value) (h : zTF v bs U) : zTF v bs (U.calling g mk a) := h.to (Vm.Alike.refl U.vm) rfl
theorem zj_indexOfChar (l : Launch) (v : Nat) (bs : List Int32) (hlen : bs.length < 100) (ch : Int32) : zJ l yJ1_indexOfChar_4cfef cJ1_indexOfChar_4cfef 6 (some .int) (zRm 0 0) [.ref v, .int ch, .int 0, .int (Int32.ofNat bs.length)] (zTF v bs) (zbF ch bs 0) := by
  refine zJent (by decide) (Nat.le_of_ble_eq_true rfl) rfl (fun p e s m args below meth c ls X hF hl => ?_)
  obtain ⟨hx, hb, hr, hml, hown, hW, hlocks⟩ := id X
  refine lv_iload_n hx hb dJ1_indexOfChar_4cfef_0 rfl (lv_at hl 1 rfl) ?_
  refine lv_i2b hx hb dJ1_indexOfChar_4cfef_1 rfl ?_
  refine lv_istore (lv' := [(4, .int ch.toInt8.toInt32), (0, .ref v), (1, .int ch), (2, .int 0), (3, .int (Int32.ofNat bs.length))]) hx hb dJ1_indexOfChar_4cfef_2 hl (by decide) rfl (fun ls hl => ?_)
  refine lv_iload_n hx hb dJ1_indexOfChar_4cfef_4 rfl (lv_at hl 3 rfl) ?_
  refine lv_istore (lv' := [(5, .int 0), (4, .int ch.toInt8.toInt32), (0, .ref v), (1, .int ch), (2, .int 0), (3, .int (Int32.ofNat bs.length))]) hx hb dJ1_indexOfChar_4cfef_5 hl (by decide) rfl (fun ls hl => ?_)
  exact zj_loop X v bs hlen hF ch _ bs 0 ls (Nat.zero_le _) rfl rfl (lv_sub hl [0, 1, 2, 5] rfl)
def zlx (ch : Int32) (bs : List Int32) : Int32 := if zcan ch = 0 then -1 else zbF ch bs 0
theorem zj_indexOf1 (l : Launch) (v : Nat) (bs : List Int32) (hlen : bs.length < 100) (h0 : 0 < bs.length) (ch : Int32) : zJ l yJ1_indexOf_4cfef cJ1_indexOf_4cfef 4 (some .int) (zRm 1 30) [.ref v, .int ch, .int 0, .int (Int32.ofNat bs.length)] (zTF v bs) (zlx ch bs) := by
  refine zJent (by decide) (Nat.le_of_ble_eq_true rfl) rfl (fun p e s m args below meth c ls X hF hl => ?_)
  obtain ⟨hx, hb, hr, hml, hown, hW, hlocks⟩ := id X
  refine lv_iload_n hx hb dJ1_indexOf_4cfef_0 rfl (lv_at hl 1 rfl) ?_
  refine zJcS (As := [.int ch]) (rest := []) X (zj_canEncode l ch) (zcw_S (n := 1) hW zm_22_1 zm_22_2 zm_21_21 zm_22_3 rfl rfl (by decide +kernel) (zroomO (Nat.le_of_ble_eq_true rfl) (Nat.le_of_ble_eq_true rfl))) (fun _ _ _ _ _ => trivial) (fun _ _ _ => trivial) rfl rfl (Nat.le_of_ble_eq_true rfl) hl.1 ⟨Nat.zero_le _, Nat.zero_le _⟩ dJ1_indexOf_4cfef_1 ?_
  refine lv_if_ne (tgt := 9) hx hb dJ1_indexOf_4cfef_4 (by decide) (fun c1 => ?_) (fun c1 => ?_)
  · refine lv_iload_n hx hb dJ1_indexOf_4cfef_9 rfl (lv_at hl 2 rfl) ?_
    refine lv_iconst (v := 0) hx hb dJ1_indexOf_4cfef_10 (by decide) ?_
    refine z_max (rest := []) X zm_21_23 zm_13_0 zm_12_7 zm_13_1 hl.1 (Nat.le_of_ble_eq_true rfl) (Nat.le_of_ble_eq_true rfl) ⟨Nat.zero_le _, Nat.zero_le _⟩ dJ1_indexOf_4cfef_11 ?_
    rw [if_neg (by decide)]
    refine lv_istore_n (lv' := [(2, .int 0), (0, .ref v), (1, .int ch), (3, .int (Int32.ofNat bs.length))]) hx hb dJ1_indexOf_4cfef_14 rfl hl (by decide) rfl (fun ls hl => ?_)
    refine lv_iload_n hx hb dJ1_indexOf_4cfef_15 rfl (lv_at hl 3 rfl) ?_
    refine lv_aload_n hx hb dJ1_indexOf_4cfef_16 rfl (lv_at hl 1 rfl) ?_
    refine va_tlen (A := zNo) hx hb hF va_S.rf rfl dJ1_indexOf_4cfef_17 ?_
    refine z_min (rest := []) X zm_22_0 zm_12_6 zm_12_7 zm_12_8 hl.1 (Nat.le_of_ble_eq_true rfl) (Nat.le_of_ble_eq_true rfl) ⟨Nat.zero_le _, Nat.zero_le _⟩ dJ1_indexOf_4cfef_18 ?_
    rw [ite_self]
    refine lv_istore_n (lv' := [(3, .int (Int32.ofNat bs.length)), (2, .int 0), (0, .ref v), (1, .int ch)]) hx hb dJ1_indexOf_4cfef_21 rfl hl (by decide) rfl (fun ls hl => ?_)
    refine lv_iload_n hx hb dJ1_indexOf_4cfef_22 rfl (lv_at hl 1 rfl) ?_
    refine lv_iload_n hx hb dJ1_indexOf_4cfef_23 rfl (lv_at hl 0 rfl) ?_
    have hlt : (0 : Int32) < Int32.ofNat bs.length := nI_lt h0 (by omega)
    refine lv_icmp_lt (tgt := 29) hx hb dJ1_indexOf_4cfef_24 (by decide) (fun c2 => ?_) (fun c2 => absurd hlt c2)
    refine lv_aload_n hx hb dJ1_indexOf_4cfef_29 rfl (lv_at hl 2 rfl) ?_
    refine lv_iload_n hx hb dJ1_indexOf_4cfef_30 rfl (lv_at hl 3 rfl) ?_
    refine lv_iload_n hx hb dJ1_indexOf_4cfef_31 rfl (lv_at hl 1 rfl) ?_
    refine lv_iload_n hx hb dJ1_indexOf_4cfef_32 rfl (lv_at hl 0 rfl) ?_
    refine zJcS (As := [.ref v, .int ch, .int 0, .int (Int32.ofNat bs.length)]) (rest := []) X (zj_indexOfChar l v bs hlen ch) (zcw_S (n := 4) hW zm_22_4 zm_22_5 zm_21_21 zm_22_6 rfl rfl (by decide +kernel) (zroomO (Nat.le_of_ble_eq_true rfl) (Nat.le_of_ble_eq_true rfl))) zTF.blind (fun U hU hWd => zTF.to hF hWd.alike hU) rfl rfl (Nat.le_of_ble_eq_true rfl) hl.1 ⟨Nat.zero_le _, Nat.zero_le _⟩ dJ1_indexOf_4cfef_33 ?_
    exact zJri X rfl (by rw [zlx, if_neg c1]) dJ1_indexOf_4cfef_36
  · refine lv_iconst (v := -1) hx hb dJ1_indexOf_4cfef_7 (by decide) ?_
    exact zJri X rfl (by rw [zlx, if_pos c1]) dJ1_indexOf_4cfef_8
theorem zj_indexOf2 (l : Launch) (k v : Nat) (bs : List Int32) (hlen : bs.length < 100) (h0 : 0 < bs.length) (ch : Int32) : zJ l yJ0_indexOf_7cf53 cJ0_indexOf_7cf53 3 (some .int) (zRm 2 60) [.ref k, .int ch, .int 0] (zSF k v bs) (zlx ch bs) := by
  refine zJent (by decide) (Nat.le_of_ble_eq_true rfl) rfl (fun p e s m args below meth c ls X hF hl => ?_)
  obtain ⟨hx, hb, hr, hml, hown, hW, hlocks⟩ := id X
  refine lv_aload_n hx hb dJ0_indexOf_7cf53_0 rfl (lv_at hl 0 rfl) ?_
  refine zJcV (As := []) (rest := []) X (zj_isLatin1 l k v bs) (zcw_V (n := 0) hW zm_21_5 zm_21_6 zm_21_7 zm_20_22 zm_21_8 rfl rfl (by decide +kernel) (zroomO (Nat.le_of_ble_eq_true rfl) (Nat.le_of_ble_eq_true rfl))) hF.2.1 zSF.blind (fun U hU hWd => hF.to hWd.alike hU) rfl rfl (Nat.le_of_ble_eq_true rfl) hl.1 ⟨Nat.zero_le _, Nat.zero_le _⟩ dJ0_indexOf_7cf53_1 ?_
  refine lv_if_eq (tgt := 23) hx hb dJ0_indexOf_7cf53_4 (by decide) (fun c1 => absurd c1 (by decide)) (fun c1 => ?_)
  refine lv_aload_n hx hb dJ0_indexOf_7cf53_7 rfl (lv_at hl 0 rfl) ?_
  refine zJgO X hF.2.2.2.1 zm_21_4 dJ0_indexOf_7cf53_8 ?_
  refine lv_iload_n hx hb dJ0_indexOf_7cf53_11 rfl (lv_at hl 1 rfl) ?_
  refine lv_iload_n hx hb dJ0_indexOf_7cf53_12 rfl (lv_at hl 2 rfl) ?_
  refine lv_aload_n hx hb dJ0_indexOf_7cf53_13 rfl (lv_at hl 0 rfl) ?_
  refine zJcV (As := []) (rest := [.int 0, .int ch, .ref v]) X (zj_length l k v bs) (zcw_V (n := 0) hW zm_21_11 zm_21_12 zm_21_13 zm_20_22 zm_21_14 rfl rfl (by decide +kernel) (zroomO (Nat.le_of_ble_eq_true rfl) (Nat.le_of_ble_eq_true rfl))) hF.2.1 zSF.blind (fun U hU hWd => hF.to hWd.alike hU) rfl rfl (Nat.le_of_ble_eq_true rfl) hl.1 ⟨Nat.zero_le _, Nat.zero_le _⟩ dJ0_indexOf_7cf53_14 ?_
  refine zJcS (As := [.ref v, .int ch, .int 0, .int (Int32.ofNat bs.length)]) (rest := []) X (zj_indexOf1 l v bs hlen h0 ch) (zcw_S (n := 4) hW zm_21_19 zm_21_20 zm_21_21 zm_21_22 rfl rfl (by decide +kernel) (zroomO (Nat.le_of_ble_eq_true rfl) (Nat.le_of_ble_eq_true rfl))) zTF.blind (fun U hU hWd => zTF.to hF.2.2.2.2 hWd.alike hU) rfl rfl (Nat.le_of_ble_eq_true rfl) hl.1 ⟨Nat.zero_le _, Nat.zero_le _⟩ dJ0_indexOf_7cf53_17 ?_
  refine lv_goto (tgt := 36) hx hb dJ0_indexOf_7cf53_20 (by decide) ?_
  exact zJri X rfl rfl dJ0_indexOf_7cf53_36
theorem zj_indexOf (l : Launch) (k v : Nat) (bs : List Int32) (hlen : bs.length < 100) (h0 : 0 < bs.length) (ch : Int32) : zJ l yJ0_indexOf_0f7a4 cJ0_indexOf_0f7a4 2 (some .int) (zRm 3 90) [.ref k, .int ch] (zSF k v bs) (zlx ch bs) := by
  refine zJent (by decide) (Nat.le_of_ble_eq_true rfl) rfl (fun p e s m args below meth c ls X hF hl => ?_)
  obtain ⟨hx, hb, hr, hml, hown, hW, hlocks⟩ := id X
  refine lv_aload_n hx hb dJ0_indexOf_0f7a4_0 rfl (lv_at hl 0 rfl) ?_
  refine lv_iload_n hx hb dJ0_indexOf_0f7a4_1 rfl (lv_at hl 1 rfl) ?_
  refine lv_iconst (v := 0) hx hb dJ0_indexOf_0f7a4_2 (by decide) ?_
  refine zJcV (As := [.int ch, .int 0]) (rest := []) X (zj_indexOf2 l k v bs hlen h0 ch) (zcw_V (n := 2) hW zm_21_0 zm_21_1 zm_21_2 zm_20_22 zm_21_3 rfl rfl (by decide +kernel) (zroomO (Nat.le_of_ble_eq_true rfl) (Nat.le_of_ble_eq_true rfl))) hF.2.1 zSF.blind (fun U hU hWd => hF.to hWd.alike hU) rfl rfl (Nat.le_of_ble_eq_true rfl) hl.1 ⟨Nat.zero_le _, Nat.zero_le _⟩ dJ0_indexOf_0f7a4_3 ?_
  exact zJri X rfl rfl dJ0_indexOf_0f7a4_6
theorem zlx_ix (i : Nat) (hi : i < 2) (x : Int32) : zlx x (zsByt.getD i []) = zix i x := by
  have key : ∀ k, k < 256 → zbF (nI k) (zsByt.getD 0 []) 0 = zix 0 (nI k) ∧ zbF (nI k) (zsByt.getD 1 []) 0 = zix 1 (nI k) := by decide +kernel
  have out : ∀ y : Int32, (y < 0 ∨ 255 < y) → zix 0 y = -1 ∧ zix 1 y = -1 := by
    intro y hy
    have ne : ∀ b : Int32, 0 ≤ b → b ≤ 255 → ¬ b = y := by
      intro b h1 h2 e
      rw [e] at h1 h2
      rcases hy with h | h
      · rw [Int32.lt_iff_toInt_lt] at h
        rw [Int32.le_iff_toInt_le] at h1
        omega
      · rw [Int32.lt_iff_toInt_lt] at h
        rw [Int32.le_iff_toInt_le] at h2
        omega
    constructor
    · show zixF y [102, 112, 104, 109] 0 = -1
      rw [zixF, if_neg (ne _ (by decide) (by decide)), zixF, if_neg (ne _ (by decide) (by decide)), zixF, if_neg (ne _ (by decide) (by decide)), zixF, if_neg (ne _ (by decide) (by decide)), zixF]
    · show zixF y [116, 99, 109] 0 = -1
      rw [zixF, if_neg (ne _ (by decide) (by decide)), zixF, if_neg (ne _ (by decide) (by decide)), zixF, if_neg (ne _ (by decide) (by decide)), zixF]
  unfold zlx zcan
  by_cases h1 : x < 0
  · rw [if_pos h1, if_pos rfl]
    rcases (show i = 0 ∨ i = 1 by omega) with rfl | rfl
    · exact (out x (Or.inl h1)).1.symm
    · exact (out x (Or.inl h1)).2.symm
  · by_cases h2 : 255 < x
    · rw [if_neg h1, if_pos h2, if_pos rfl]
      rcases (show i = 0 ∨ i = 1 by omega) with rfl | rfl
      · exact (out x (Or.inr h2)).1.symm
      · exact (out x (Or.inr h2)).2.symm
    · rw [if_neg h1, if_neg h2, if_neg (by decide)]
      obtain ⟨k, hk, rfl⟩ := nI_of h1
      have hk2 : k < 256 := by
        rw [Int32.lt_iff_toInt_lt, nI_toInt hk] at h2
        have : (255 : Int32).toInt = 255 := rfl
        omega
      rcases (show i = 0 ∨ i = 1 by omega) with rfl | rfl
      · exact (key k hk2).1
      · exact (key k hk2).2
theorem z_indexOf {p : Program} {l : Launch} {e : Env} {R : Room} {s : State} {m : MethodId} {args : Array Value} {below : List Frame} {meth : Method} {c : Code} {H : Heap} {locs : List Loc} {cells slots : Nat} {Q : State → Prop} {cc : ByteArray} {pc : Nat} {ls : Array Slot} {rest : List Value} {D : va_G} {cy : Nat → ClassId} {a : Nat → Nat} {A : Nat → Prop} {M : zM} {nL : Nat} {ret : Option FieldType} {adK adV : Nat → Nat} {x : Int32} {i : Nat} (hi : i < 2) (hZ : va_Z "java/lang/String" "COMPACT_STRINGS" "Z" (.int 1) A s s.heap) (hV : vk_S 2 zsLen zsByt adK adV A s s.heap) (X : zCX p s m meth c args cc nL ret RX3) (hw : zWD D cy a A M H locs s) (hsz : ls.size = nL) (hcat : (rest.map fun v => v.category).sum ≤ 8) (hR : 4 ≤ R.frames ∧ 111 ≤ R.locals) (hcs : cells ≤ R.cells ∧ slots ≤ R.slots) (hdg : decode cc pc = .ok (.invokevirtual 66, 3))
    (kk : W p l e R s m args below meth c H locs cells slots Q (F0 m (pc + 3) ls (.int (zix i x) :: rest))) : W p l e R s m args below meth c H locs cells slots Q (F0 m pc ls (.int x :: .ref (adK i) :: rest)) := by
  obtain ⟨hx, hb, hr, hml, hown, hW, hlocks⟩ := id X
  obtain ⟨hP, hD, hS, hK, hE, hA⟩ := hw
  obtain ⟨v1, v2, v3, v4⟩ := hV.1 i hi
  have hlen : zsLen.getD i 0 = (zsByt.getD i []).length ∧ (zsByt.getD i []).length < 100 ∧ 0 < (zsByt.getD i []).length := by
    rcases (show i = 0 ∨ i = 1 by omega) with rfl | rfl <;> exact ⟨rfl, by decide, by decide⟩
  rw [hlen.1] at v4
  have hq : ∀ b : Nat, b < s.heap.size → ¬ A b → H[b]? = s.heap[b]? := fun b h1 h2 => hS.2.1 b h1 h2
  have nn : ∀ q, zNo q → A q := fun q h => h.elim
  have g : ∀ U : State, U.heap = H → s.vm.Alike U.vm → zSF (adK i) (adV i) (zsByt.getD i []) U := by
    intro U hU hv
    unfold zSF
    rw [hU]
    exact ⟨((hZ.kept hq).narrow nn).moved hv, ((v1.kept hq).narrow nn).moved hv, ((v2.kept hq).narrow nn).moved hv, ((v3.kept hq).narrow nn).moved hv, ((v4.kept hq).narrow nn).moved hv⟩
  rw [← zlx_ix i hi x] at kk
  exact zJcV (As := [.int x]) (rest := rest) X (zj_indexOf l (adK i) (adV i) (zsByt.getD i []) hlen.2.1 hlen.2.2 x) (zcw_V (n := 1) hW zm_20_19 zm_20_20 zm_20_21 zm_20_22 zm_20_23 rfl rfl (by decide +kernel) hR) ((v1.kept hq).narrow nn) zSF.blind (fun U hU hWd => g U hU hWd.alike) rfl rfl hcat hsz hcs hdg kk
