def zrem (x y : Int32) : Int32 := x - x / y * y
def zushr (x y : Int32) : Int32 := (x.toUInt32 >>> (y.toUInt32 &&& Int32.toUInt32 31)).toInt32
def zlushr (x : Int64) (y : Int32) : Int64 := (x.toUInt64 >>> (y.toInt64.toUInt64 &&& Int64.toUInt64 63)).toInt64
def zlshl (x : Int64) (y : Int32) : Int64 := x <<< (y.toInt64 &&& 63)
def zlshr (x : Int64) (y : Int32) : Int64 := x >>> (y.toInt64 &&& 63)
def zmin (x y : Int32) : Int32 := if y < x then y else x
def zmax (x y : Int32) : Int32 := if x < y then y else x
/-- a literal's indexOf: its place i among the literals -/
def zixF (ch : Int32) : List Int32 → Nat → Int32
  | [], _ => -1
  | b :: l, k => if b = ch then nI k else zixF ch l (k + 1)
def zix (i : Nat) (ch : Int32) : Int32 := zixF ch (zsByt.getD i []) 0
theorem zret {α : Type} {v v0 : α} {M M0 : zM} (h : some (v, M) = some (v0, M0)) : v = v0 ∧ M = M0 := by
  cases h
  exact ⟨rfl, rfl⟩
theorem zretv {M M0 : zM} (h : some M = some M0) : M = M0 := by
  cases h
  rfl
theorem zroomO {x f y w k : Nat} (h1 : x + 1 ≤ f) (h2 : 8 + (k + 11) + y ≤ w) : (zRm x y).frames + 1 ≤ (zRm f w).frames ∧ 8 + (k + 11) + (zRm x y).locals ≤ (zRm f w).locals := ⟨h1, h2⟩
def zQi (D : va_G) (cy : Nat → ClassId) (a : Nat → Nat) (s : State) (args : Array Value) (below : List Frame) (r0 : Int32) (M0 : zM) : State → Prop := MQ below (va_Qi (fun r u => r = r0 ∧ u = M0) (fun u t => zPST D cy a s.heap.size u t) (zfr a s.heap.size)) args s 0 0 (zfr a s.heap.size)
def zQv (D : va_G) (cy : Nat → ClassId) (a : Nat → Nat) (s : State) (args : Array Value) (below : List Frame) (M0 : zM) : State → Prop := MQ below (va_Qv (fun u => u = M0) (fun u t => zPST D cy a s.heap.size u t) (zfr a s.heap.size)) args s 0 0 (zfr a s.heap.size)
def zQr (D : va_G) (cy : Nat → ClassId) (a : Nat → Nat) (s : State) (args : Array Value) (below : List Frame) (r0 : Nat) (M0 : zM) : State → Prop := MQ below (va_Qr (fun u => u = (r0, M0)) (fun u b t => b = a u.1 ∧ zPST D cy a s.heap.size u.2 t) (zfr a s.heap.size)) args s 0 0 (zfr a s.heap.size)
theorem zent_i {l : Launch} {D : va_G} {cy : Nat → ClassId} {a : Nat → Nat} {own nm ds : String} {bytes : ByteArray} {nL : Nat} {ret : Option FieldType} {rm : Room} {As : List Value} {lv : List (Nat × Value)} {M M0 : zM} {r0 : Int32} (sz : Nat) (hy : plainName own = true) (hlen : (lg_sl As).length ≤ nL) (hlv : lv_args 0 As = lv)
    (body : ∀ (p : Program) (e : Env) (s : State) (m : MethodId) (args : Array Value) (below : List Frame) (meth : Method) (c : Code) (ls : Array Slot) (H : Heap) (locs : List Loc), zCX p s m meth c args bytes nL ret own → zWD D cy a (zfr a s.heap.size) M H locs s → lv_has ls nL lv →
      W p l e rm s m args below meth c H locs 0 0 (zQi D cy a s args below r0 M0) (F0 m 0 ls [])) :
    Met l ⟨own, nm, ds⟩ (.code ⟨own, nm, ds⟩ bytes nL ret :: zW0) rm (va_Pc As (zPRE D cy a sz M)) (va_Qi (fun r u => r = r0 ∧ u = M0) (fun u t => zPST D cy a sz u t) (zfr a sz)) 0 0 (zfr a sz) :=
  zentry (Qc := fun sz => va_Qi (fun r u => r = r0 ∧ u = M0) (fun u t => zPST D cy a sz u t) (zfr a sz)) sz hy hlen hlv (fun p e s m args below meth c ls X hw hl => body p e s m args below meth c ls s.heap [] X hw hl)
theorem zent_v {l : Launch} {D : va_G} {cy : Nat → ClassId} {a : Nat → Nat} {own nm ds : String} {bytes : ByteArray} {nL : Nat} {ret : Option FieldType} {rm : Room} {As : List Value} {lv : List (Nat × Value)} {M M0 : zM} (sz : Nat) (hy : plainName own = true) (hlen : (lg_sl As).length ≤ nL) (hlv : lv_args 0 As = lv)
    (body : ∀ (p : Program) (e : Env) (s : State) (m : MethodId) (args : Array Value) (below : List Frame) (meth : Method) (c : Code) (ls : Array Slot) (H : Heap) (locs : List Loc), zCX p s m meth c args bytes nL ret own → zWD D cy a (zfr a s.heap.size) M H locs s → lv_has ls nL lv →
      W p l e rm s m args below meth c H locs 0 0 (zQv D cy a s args below M0) (F0 m 0 ls [])) :
    Met l ⟨own, nm, ds⟩ (.code ⟨own, nm, ds⟩ bytes nL ret :: zW0) rm (va_Pc As (zPRE D cy a sz M)) (va_Qv (fun u => u = M0) (fun u t => zPST D cy a sz u t) (zfr a sz)) 0 0 (zfr a sz) :=
  zentry (Qc := fun sz => va_Qv (fun u => u = M0) (fun u t => zPST D cy a sz u t) (zfr a sz)) sz hy hlen hlv (fun p e s m args below meth c ls X hw hl => body p e s m args below meth c ls s.heap [] X hw hl)
theorem zent_r {l : Launch} {D : va_G} {cy : Nat → ClassId} {a : Nat → Nat} {own nm ds : String} {bytes : ByteArray} {nL : Nat} {ret : Option FieldType} {rm : Room} {As : List Value} {lv : List (Nat × Value)} {M M0 : zM} {r0 : Nat} (sz : Nat) (hy : plainName own = true) (hlen : (lg_sl As).length ≤ nL) (hlv : lv_args 0 As = lv)
    (body : ∀ (p : Program) (e : Env) (s : State) (m : MethodId) (args : Array Value) (below : List Frame) (meth : Method) (c : Code) (ls : Array Slot) (H : Heap) (locs : List Loc), zCX p s m meth c args bytes nL ret own → zWD D cy a (zfr a s.heap.size) M H locs s → lv_has ls nL lv →
      W p l e rm s m args below meth c H locs 0 0 (zQr D cy a s args below r0 M0) (F0 m 0 ls [])) :
    Met l ⟨own, nm, ds⟩ (.code ⟨own, nm, ds⟩ bytes nL ret :: zW0) rm (va_Pc As (zPRE D cy a sz M)) (va_Qr (fun u => u = (r0, M0)) (fun u b t => b = a u.1 ∧ zPST D cy a sz u.2 t) (zfr a sz)) 0 0 (zfr a sz) :=
  zentry (Qc := fun sz => va_Qr (fun u => u = (r0, M0)) (fun u b t => b = a u.1 ∧ zPST D cy a sz u.2 t) (zfr a sz)) sz hy hlen hlv (fun p e s m args below meth c ls X hw hl => body p e s m args below meth c ls s.heap [] X hw hl)
section ZR
variable {p : Program} {l : Launch} {e : Env} {R : Room} {s : State} {m : MethodId} {args : Array Value} {below : List Frame} {meth : Method} {c : Code} {H : Heap} {locs : List Loc} {cells slots : Nat} {Q : State → Prop}
variable {cc : ByteArray} {pc : Nat} {ls : Array Slot} {rest st : List Value} {D : va_G} {cy : Nat → ClassId} {a : Nat → Nat} {A : Nat → Prop} {M M0 : zM} {nL : Nat} {ret : Option FieldType} {own : String} {r0 : Int32}
theorem z_ri {v : Int32} (X : zCX p s m meth c args cc nL (some .int) own) (hw : zWD D cy a (zfr a s.heap.size) M H locs s) (h : v = r0 ∧ M = M0) (hdg : decode cc pc = .ok (.ireturn, 1)) : W p l e R s m args below meth c H locs 0 0 (zQi D cy a s args below r0 M0) (F0 m pc ls [.int v]) := z_iret X hw h hdg
theorem z_rz {v : Int32} (X : zCX p s m meth c args cc nL (some .boolean) own) (hw : zWD D cy a (zfr a s.heap.size) M H locs s) (hv : v = 0 ∨ v = 1) (h : v = r0 ∧ M = M0) (hdg : decode cc pc = .ok (.ireturn, 1)) : W p l e R s m args below meth c H locs 0 0 (zQi D cy a s args below r0 M0) (F0 m pc ls [.int v]) := z_zret X hw hv h hdg
theorem z_rv (X : zCX p s m meth c args cc nL none own) (hw : zWD D cy a (zfr a s.heap.size) M H locs s) (h : M = M0) (hdg : decode cc pc = .ok (.return_, 1)) : W p l e R s m args below meth c H locs 0 0 (zQv D cy a s args below M0) (F0 m pc ls []) := z_vret X hw h hdg
theorem z_aldK {q n k : Nat} (X : zCX p s m meth c args cc nL ret own) (hw : zWD D cy a A M H locs s) (hq : zI q n) {i : Int32} (hk : i.toNatClampNeg = k) (h0 : ¬ i < 0) (hn : k < n) (hdg : decode cc pc = .ok (.iaload, 1))
    (kk : W p l e R s m args below meth c H locs cells slots Q (F0 m (pc + 1) ls (.int (M q k) :: rest))) : W p l e R s m args below meth c H locs cells slots Q (F0 m pc ls (.int i :: .ref (a q) :: rest)) := by
  subst hk
  exact z_ald X hw hq (fun z => z.elim h0 (fun z => absurd z (Nat.not_le.mpr hn))) hdg kk
theorem z_astK {q n k : Nat} (X : zCX p s m meth c args cc nL ret own) (hw : zWD D cy a A M H locs s) (hq : zI q n) {i x : Int32} (hk : i.toNatClampNeg = k) (h0 : ¬ i < 0) (hn : k < n) (hdg : decode cc pc = .ok (.iastore, 1))
    (kk : ∀ (M1 : zM) (H1 : Heap) (locs1 : List Loc), M1 = zst M q k x → zWD D cy a A M1 H1 locs1 s → W p l e R s m args below meth c H1 locs1 cells slots Q (F0 m (pc + 1) ls rest)) : W p l e R s m args below meth c H locs cells slots Q (F0 m pc ls (.int x :: .int i :: .ref (a q) :: rest)) := by
  subst hk
  exact z_ast X hw hq (fun z => z.elim h0 (fun z => absurd z (Nat.not_le.mpr hn))) hdg kk
theorem z_qVi {y : MethodName} {bytes : ByteArray} {maxL n index q ci N : Nat} {rt : Option FieldType} {rm : Room} {As fs : List Value} {C : String} {T : u_T} (X : zCX p s m meth c args cc nL ret own) (hw : zWD D cy a A M H locs s) (hM : zCi l D cy a y bytes maxL rt rm (.ref (a q) :: As) M (fun r u => r = r0 ∧ u = M0))
    (cw : CallW R s args own C index y bytes maxL rt (.code y bytes maxL rt :: zW0) rm 0 0 n) (hq : q < 103) (hsh : zsh cy a q (M q) = .inr (ci, fs)) (hc : vwCl[ci]? = some (C, T, N)) (hn : As.length = n) (hst : st = As.reverse ++ .ref (a q) :: rest) (hcat : (rest.map fun v => v.category).sum ≤ 8) (hsz : ls.size = nL) (hcs : cells ≤ R.cells ∧ slots ≤ R.slots) (hdg : decode cc pc = .ok (.invokevirtual index, 3))
    (kk : ∀ (H1 : Heap) (locs1 : List Loc), zWD D cy a A M0 H1 locs1 s → W p l e R s m args below meth c H1 locs1 cells slots Q (F0 m (pc + 3) ls (.int r0 :: rest))) : W p l e R s m args below meth c H locs cells slots Q (F0 m pc ls st) :=
  z_cVi X hw hM cw hq hsh hc hn hst hcat hsz hcs hdg (fun r u H1 locs1 hp hw1 => by
    obtain ⟨rfl, rfl⟩ := hp
    exact kk H1 locs1 hw1)
theorem z_qVv {y : MethodName} {bytes : ByteArray} {maxL n index q ci N : Nat} {rm : Room} {As fs : List Value} {C : String} {T : u_T} (X : zCX p s m meth c args cc nL ret own) (hw : zWD D cy a A M H locs s) (hM : zCv l D cy a y bytes maxL rm (.ref (a q) :: As) M (fun u => u = M0))
    (cw : CallW R s args own C index y bytes maxL none (.code y bytes maxL none :: zW0) rm 0 0 n) (hq : q < 103) (hsh : zsh cy a q (M q) = .inr (ci, fs)) (hc : vwCl[ci]? = some (C, T, N)) (hn : As.length = n) (hst : st = As.reverse ++ .ref (a q) :: rest) (hcat : (rest.map fun v => v.category).sum ≤ 8) (hsz : ls.size = nL) (hcs : cells ≤ R.cells ∧ slots ≤ R.slots) (hdg : decode cc pc = .ok (.invokevirtual index, 3))
    (kk : ∀ (H1 : Heap) (locs1 : List Loc), zWD D cy a A M0 H1 locs1 s → W p l e R s m args below meth c H1 locs1 cells slots Q (F0 m (pc + 3) ls rest)) : W p l e R s m args below meth c H locs cells slots Q (F0 m pc ls st) :=
  z_cVv X hw hM cw hq hsh hc hn hst hcat hsz hcs hdg (fun u H1 locs1 hp hw1 => by
    subst hp
    exact kk H1 locs1 hw1)
theorem z_qVr {y : MethodName} {bytes : ByteArray} {maxL n index q ci N r1 : Nat} {rt : Option FieldType} {rm : Room} {As fs : List Value} {C : String} {T : u_T} (X : zCX p s m meth c args cc nL ret own) (hw : zWD D cy a A M H locs s) (hM : zCr l D cy a y bytes maxL rt rm (.ref (a q) :: As) M (fun u => u = (r1, M0)))
    (cw : CallW R s args own C index y bytes maxL rt (.code y bytes maxL rt :: zW0) rm 0 0 n) (hq : q < 103) (hsh : zsh cy a q (M q) = .inr (ci, fs)) (hc : vwCl[ci]? = some (C, T, N)) (hn : As.length = n) (hst : st = As.reverse ++ .ref (a q) :: rest) (hcat : (rest.map fun v => v.category).sum ≤ 8) (hsz : ls.size = nL) (hcs : cells ≤ R.cells ∧ slots ≤ R.slots) (hdg : decode cc pc = .ok (.invokevirtual index, 3))
    (kk : ∀ (H1 : Heap) (locs1 : List Loc), zWD D cy a A M0 H1 locs1 s → W p l e R s m args below meth c H1 locs1 cells slots Q (F0 m (pc + 3) ls (.ref (a r1) :: rest))) : W p l e R s m args below meth c H locs cells slots Q (F0 m pc ls st) :=
  z_cVr X hw hM cw hq hsh hc hn hst hcat hsz hcs hdg (fun r u H1 locs1 hp hw1 => by
    cases hp
    exact kk H1 locs1 hw1)
theorem z_qSi {y : MethodName} {bytes : ByteArray} {maxL n index : Nat} {rt : Option FieldType} {rm : Room} {As : List Value} (X : zCX p s m meth c args cc nL ret own) (hw : zWD D cy a A M H locs s) (hM : zCi l D cy a y bytes maxL rt rm As M (fun r u => r = r0 ∧ u = M0))
    (cw : CallB R s args own index y bytes maxL rt (.code y bytes maxL rt :: zW0) rm 0 0 n ∧ (Cond.static y).before args s = true) (hn : As.length = n) (hst : st = As.reverse ++ rest) (hcat : (rest.map fun v => v.category).sum ≤ 8) (hsz : ls.size = nL) (hcs : cells ≤ R.cells ∧ slots ≤ R.slots) (hdg : decode cc pc = .ok (.invokestatic index, 3))
    (kk : ∀ (H1 : Heap) (locs1 : List Loc), zWD D cy a A M0 H1 locs1 s → W p l e R s m args below meth c H1 locs1 cells slots Q (F0 m (pc + 3) ls (.int r0 :: rest))) : W p l e R s m args below meth c H locs cells slots Q (F0 m pc ls st) :=
  z_cSi X hw hM cw hn hst hcat hsz hcs hdg (fun r u H1 locs1 hp hw1 => by
    obtain ⟨rfl, rfl⟩ := hp
    exact kk H1 locs1 hw1)
theorem z_qSv {y : MethodName} {bytes : ByteArray} {maxL n index : Nat} {rm : Room} {As : List Value} (X : zCX p s m meth c args cc nL ret own) (hw : zWD D cy a A M H locs s) (hM : zCv l D cy a y bytes maxL rm As M (fun u => u = M0))
    (cw : CallB R s args own index y bytes maxL none (.code y bytes maxL none :: zW0) rm 0 0 n ∧ (Cond.static y).before args s = true) (hn : As.length = n) (hst : st = As.reverse ++ rest) (hcat : (rest.map fun v => v.category).sum ≤ 8) (hsz : ls.size = nL) (hcs : cells ≤ R.cells ∧ slots ≤ R.slots) (hdg : decode cc pc = .ok (.invokestatic index, 3))
    (kk : ∀ (H1 : Heap) (locs1 : List Loc), zWD D cy a A M0 H1 locs1 s → W p l e R s m args below meth c H1 locs1 cells slots Q (F0 m (pc + 3) ls rest)) : W p l e R s m args below meth c H locs cells slots Q (F0 m pc ls st) :=
  z_cSv X hw hM cw hn hst hcat hsz hcs hdg (fun u H1 locs1 hp hw1 => by
    subst hp
    exact kk H1 locs1 hw1)
theorem z_qSNi {y : MethodName} {bytes : ByteArray} {maxL n index : Nat} {rt : Option FieldType} {rm : Room} {As : List Value} {host : String} (X : zCX p s m meth c args cc nL ret own) (hw : zWD D cy a A M H locs s) (hM : zCi l D cy a y bytes maxL rt rm As M (fun r u => r = r0 ∧ u = M0))
    (cw : va_CN R s args own index y host bytes maxL rt (.code y bytes maxL rt :: zW0) rm 0 0 n ∧ (Cond.static y).before args s = true ∧ True) (hn : As.length = n) (hst : st = As.reverse ++ rest) (hcat : (rest.map fun v => v.category).sum ≤ 8) (hsz : ls.size = nL) (hcs : cells ≤ R.cells ∧ slots ≤ R.slots) (hdg : decode cc pc = .ok (.invokestatic index, 3))
    (kk : ∀ (H1 : Heap) (locs1 : List Loc), zWD D cy a A M0 H1 locs1 s → W p l e R s m args below meth c H1 locs1 cells slots Q (F0 m (pc + 3) ls (.int r0 :: rest))) : W p l e R s m args below meth c H locs cells slots Q (F0 m pc ls st) :=
  z_cSNi X hw hM cw hn hst hcat hsz hcs hdg (fun r u H1 locs1 hp hw1 => by
    obtain ⟨rfl, rfl⟩ := hp
    exact kk H1 locs1 hw1)
theorem z_rr {v r1 : Nat} {rt : FieldType} (X : zCX p s m meth c args cc nL (some rt) own) (hn : (∃ n, rt = .object n) ∨ ∃ t, rt = .array t) (hw : zWD D cy a (zfr a s.heap.size) M H locs s) (h : v = r1 ∧ M = M0) (hdg : decode cc pc = .ok (.areturn, 1)) : W p l e R s m args below meth c H locs 0 0 (zQr D cy a s args below r1 M0) (F0 m pc ls [.ref (a v)]) := by
  obtain ⟨rfl, rfl⟩ := h
  obtain ⟨hx, hb, hr, hml, hown, hW, hlocks⟩ := X
  obtain ⟨hP, hD, hS, hK, hE, hA⟩ := hw
  exact W.aret (v := .ref (a v)) hx hb hr hn (Or.inr ⟨_, rfl⟩) (fun t ht hWd => ⟨⟨(v, M), a v, rfl, rfl, rfl, by rw [ht]; exact hP, va_K.moved hWd.alike hK, hD⟩, hS.F ht⟩) hS.2.2 hdg hlocks
end ZR
