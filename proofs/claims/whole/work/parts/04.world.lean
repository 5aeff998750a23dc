/-! ===== the world of a method: the fixed heap with the numbers M, the tables, what lies outside ===== -/
def zTY (cy : Nat → ClassId) : List (ClassId × FieldType) := [(cy 0, .int), (cy 1, .byte), (cy 2, .object "WheelBrook$Wheel"), (cy 3, .array .int)]
def zfr (a : Nat → Nat) (sz : Nat) : Nat → Prop := fun q => (∃ k, k < 103 ∧ q = a k) ∨ sz ≤ q
def zABOVE (j : Nat) : Int32 := ([0, 0, 0, 0, 1, 3, 0] : List Int32).getD j 0
def zMSET (j : Nat) : Int32 := ([6, 9, 11, 4, 1, 999999] : List Int32).getD j 0
def zBODY (j : Nat) : Int32 := ([10, 11, 12, 13, 20, 0, 0, 21, 0, 30, 0, 0, 0, 0, 40, 0, 50, 0, 51, 0, 0, 60, 0, 0, 70, 71, 0, 0] : List Int32).getD j 0
def zsLen : List Nat := [4, 3]
def zsByt : List (List Int32) := [[102, 112, 104, 109], [116, 99, 109]]
def zST (C n : String) (N : Nat) (f : Nat → Int32) (A : Nat → Prop) (U : State) : Prop := ∃ t, va_Z C n "[I" (.ref t) A U U.heap ∧ va_T .int t N (fun j => .int (f j)) A U U.heap
def zSTR (A : Nat → Prop) (U : State) : Prop := va_Z "java/lang/String" "COMPACT_STRINGS" "Z" (.int 1) A U U.heap ∧ ∃ adK adV : Nat → Nat, vk_S 2 zsLen zsByt adK adV A U U.heap ∧ vk_R RX3 62 "fphm" (adK 0) U ∧ vk_R RX3 64 "tcm" (adK 1) U
def zNE (U : State) : Prop := va_Nw (.methodLinkNest RX0 122 yX7_held RX7) U ∧ va_Nw (.fieldLinkNest RX5 39 RX7 "ABOVE" "[I" RX7) U
def zEN (A : Nat → Prop) (U : State) : Prop := zNE U ∧ zST RX7 "ABOVE" 7 zABOVE A U ∧ zST RX7 "MOST_SET" 6 zMSET A U ∧ zST RX5 "BODIES" 28 zBODY A U ∧ zSTR A U
theorem zST.go {C n : String} {N : Nat} {f : Nat → Int32} {A B : Nat → Prop} {s U : State} (h : zST C n N f A s) (hv : s.vm.Alike U.vm) (hq : ∀ a : Nat, a < s.heap.size → ¬ A a → U.heap[a]? = s.heap[a]?) (hAB : ∀ q, B q → A q) : zST C n N f B U := by
  obtain ⟨t, h1, h2⟩ := h
  exact ⟨t, ((h1.kept hq).narrow hAB).moved hv, ((h2.kept hq).narrow hAB).moved hv⟩
theorem zEN.call {A B : Nat → Prop} {s U : State} (h : zEN A s) (hW : s.WarmedH U.vm) (hq : ∀ a : Nat, a < s.heap.size → ¬ A a → U.heap[a]? = s.heap[a]?) (hAB : ∀ q, B q → A q) : zEN B U := by
  obtain ⟨⟨n1, n2⟩, h1, h2, h3, h4, adK, adV, h5, h6, h7⟩ := h
  have hv := hW.alike
  exact ⟨⟨n1.warmM hW, n2.warmF hW⟩, h1.go hv hq hAB, h2.go hv hq hAB, h3.go hv hq hAB, ((h4.kept hq).narrow hAB).moved hv, adK, adV, ((h5.kept hq).narrow hAB).moved hv, h6.warm hW, h7.warm hW⟩
theorem zEN.calling {A : Nat → Prop} {U : State} {g : JFrame} {mk : MethodId} {a : Array Value} (h : zEN A U) : zEN A (U.calling g mk a) := by
  obtain ⟨⟨n1, n2⟩, ⟨t1, h1, h1'⟩, ⟨t2, h2, h2'⟩, ⟨t3, h3, h3'⟩, h4, adK, adV, h5, h6, h7⟩ := h
  have hv : U.vm.Alike (U.calling g mk a).vm := Vm.Alike.refl U.vm
  exact ⟨⟨va_Nw.same rfl rfl n1, va_Nw.same rfl rfl n2⟩, ⟨t1, va_Z.moved hv h1, va_T.moved hv h1'⟩, ⟨t2, va_Z.moved hv h2, va_T.moved hv h2'⟩, ⟨t3, va_Z.moved hv h3, va_T.moved hv h3'⟩, va_Z.moved hv h4, adK, adV, vk_S.moved hv h5, vk_R.same rfl h6, vk_R.same rfl h7⟩
def zPRE (D : va_G) (cy : Nat → ClassId) (a : Nat → Nat) (sz : Nat) (M : zM) (U : State) : Prop := U.heap.size = sz ∧ va_P D vwCl (zwC cy a M) U.heap ∧ va_K D vwCl (zTY cy) U ∧ zEN (zfr a sz) U ∧ va_D (fun _ => True) (zwC cy a M)
def zPST (D : va_G) (cy : Nat → ClassId) (a : Nat → Nat) (sz : Nat) (M : zM) (t : State) : Prop := va_P D vwCl (zwC cy a M) t.heap ∧ va_K D vwCl (zTY cy) t ∧ va_D (zfr a sz) (zwC cy a M)
def zWD (D : va_G) (cy : Nat → ClassId) (a : Nat → Nat) (A : Nat → Prop) (M : zM) (H : Heap) (locs : List Loc) (s : State) : Prop := va_P D vwCl (zwC cy a M) H ∧ va_D A (zwC cy a M) ∧ va_S A s.heap H locs ∧ va_K D vwCl (zTY cy) s ∧ zEN A s ∧ ∀ q, s.heap.size ≤ q → A q
def zRm (f w : Nat) : Room := { frames := f, cells := 0, slots := 0, locals := w }
theorem zblind {D : va_G} {cy : Nat → ClassId} {a : Nat → Nat} {sz : Nat} {M : zM} {As : List Value} : FrameBlind (va_Pc As (zPRE D cy a sz M)) := by
  intro v U g mk h
  obtain ⟨h0, h1, h2, h3, h4, h5⟩ := h
  exact ⟨h0, h1, h2, va_K.moved (u := U) (U := U.calling g mk v) (Vm.Alike.refl U.vm) h3, zEN.calling h4, h5⟩
theorem zD_fr {cy : Nat → ClassId} {a : Nat → Nat} {M : zM} {sz : Nat} {A : Nat → Prop} (h : va_D A (zwC cy a M)) : va_D (zfr a sz) (zwC cy a M) := by
  refine h.weaken (fun k q hk _ => Or.inl ?_)
  have hl : k < 103 := by
    have := (List.getElem?_eq_some_iff.mp hk).1
    simpa [zwC] using this
  rw [zwC_at hl] at hk
  exact ⟨k, hl, by rw [← Option.some.inj hk]⟩
theorem zfr_in {cy : Nat → ClassId} {a : Nat → Nat} {M : zM} {sz : Nat} {A : Nat → Prop} {H0 H : Heap} {locs : List Loc} (hD : va_D A (zwC cy a M)) (hS : va_S A H0 H locs) (hA : ∀ q, H0.size ≤ q → A q) (hs : sz = H.size) : ∀ q, zfr a sz q → A q := by
  intro q h
  rcases h with ⟨k, hk, e⟩ | h
  · rw [e]
    exact hD.2 k _ (zwC_at hk)
  · exact hA q (Nat.le_trans hS.1 (by rw [← hs]; exact h))
/-- a contract: it takes the numbers M to an answer and numbers of the post -/
def zCi (l : Launch) (D : va_G) (cy : Nat → ClassId) (a : Nat → Nat) (y : MethodName) (bytes : ByteArray) (nL : Nat) (ret : Option FieldType) (rm : Room) (As : List Value) (M : zM) (post : Int32 → zM → Prop) : Prop :=
  ∀ sz, Met l y (.code y bytes nL ret :: zW0) rm (va_Pc As (zPRE D cy a sz M)) (va_Qi post (fun u t => zPST D cy a sz u t) (zfr a sz)) 0 0 (zfr a sz)
def zCv (l : Launch) (D : va_G) (cy : Nat → ClassId) (a : Nat → Nat) (y : MethodName) (bytes : ByteArray) (nL : Nat) (rm : Room) (As : List Value) (M : zM) (post : zM → Prop) : Prop :=
  ∀ sz, Met l y (.code y bytes nL none :: zW0) rm (va_Pc As (zPRE D cy a sz M)) (va_Qv post (fun u t => zPST D cy a sz u t) (zfr a sz)) 0 0 (zfr a sz)
def zCr (l : Launch) (D : va_G) (cy : Nat → ClassId) (a : Nat → Nat) (y : MethodName) (bytes : ByteArray) (nL : Nat) (ret : Option FieldType) (rm : Room) (As : List Value) (M : zM) (post : Nat × zM → Prop) : Prop :=
  ∀ sz, Met l y (.code y bytes nL ret :: zW0) rm (va_Pc As (zPRE D cy a sz M)) (va_Qr post (fun u b t => b = a u.1 ∧ zPST D cy a sz u.2 t) (zfr a sz)) 0 0 (zfr a sz)
/-- what holds all through a body -/
def zCX (p : Program) (s : State) (m : MethodId) (meth : Method) (c : Code) (args : Array Value) (cc : ByteArray) (nL : Nat) (ret : Option FieldType) (own : String) : Prop :=
  p.tables.exec = Jvm.exec ∧ c.code = cc ∧ meth.sig.returnType = ret ∧ c.maxLocals = nL ∧ s.vm.findClass own = some m.cls ∧ (∀ w ∈ zW0, w.before args s = true) ∧ meth.locks = false
theorem zentry {l : Launch} {D : va_G} {cy : Nat → ClassId} {a : Nat → Nat} {own nm ds : String} {bytes : ByteArray} {nL : Nat} {ret : Option FieldType} {rm : Room} {As : List Value} {lv : List (Nat × Value)} {M : zM} {Qc : Nat → Array Value → State → Outcome → State → Prop} (sz : Nat) (hy : plainName own = true) (hlen : (lg_sl As).length ≤ nL) (hlv : lv_args 0 As = lv)
    (body : ∀ (p : Program) (e : Env) (s : State) (m : MethodId) (args : Array Value) (below : List Frame) (meth : Method) (c : Code) (ls : Array Slot), zCX p s m meth c args bytes nL ret own → zWD D cy a (zfr a s.heap.size) M s.heap [] s → lv_has ls nL lv →
      W p l e rm s m args below meth c s.heap [] 0 0 (MQ below (Qc s.heap.size) args s 0 0 (zfr a s.heap.size)) (F0 m 0 ls [])) :
    Met l ⟨own, nm, ds⟩ (.code ⟨own, nm, ds⟩ bytes nL ret :: zW0) rm (va_Pc As (zPRE D cy a sz M)) (Qc sz) 0 0 (zfr a sz) := by
  refine Met.ofW (cc := bytes) (maxL := nL) (ret := ret) hy rfl ?_
  intro p e s m args below meth c s₁ B hml hv
  obtain ⟨rfl, hsz, hP, hK, hE, hD0⟩ := hv
  have hts := atoms_spec (ws := .code ⟨own, nm, ds⟩ bytes nL ret :: zW0) B.pre
  have hown : s.vm.findClass own = some m.cls := findClass_of_methodNamed B.named
  subst hsz
  rw [lg_entry_eq]
  exact body p e s m _ below meth c _ ⟨B.exec, B.bytes, B.returns, hml, hown, fun w hw => hts w (List.mem_cons_of_mem _ hw), B.notSynchronized⟩ ⟨hP, zD_fr hD0, va_S.rf, hK, hE, fun q hq => Or.inr hq⟩ (hlv ▸ lv_entry As hlen)
section ZZ
variable {p : Program} {l : Launch} {e : Env} {R : Room} {s : State} {m : MethodId} {args : Array Value} {below : List Frame} {meth : Method} {c : Code} {H : Heap} {locs : List Loc} {cells slots : Nat} {Q : State → Prop}
variable {cc : ByteArray} {pc : Nat} {ls : Array Slot} {rest : List Value} {D : va_G} {cy : Nat → ClassId} {a : Nat → Nat} {A : Nat → Prop} {M : zM} {nL : Nat} {ret : Option FieldType} {own : String}
theorem z_iret {v : Int32} {post : Int32 → zM → Prop} (X : zCX p s m meth c args cc nL (some .int) own) (hw : zWD D cy a (zfr a s.heap.size) M H locs s) (hp : post v M) (hdg : decode cc pc = .ok (.ireturn, 1)) :
    W p l e R s m args below meth c H locs cells slots (MQ below (va_Qi post (fun u t => zPST D cy a s.heap.size u t) (zfr a s.heap.size)) args s cells slots (zfr a s.heap.size)) (F0 m pc ls [.int v]) := by
  obtain ⟨hx, hb, hr, hml, hown, hW, hlocks⟩ := X
  obtain ⟨hP, hD, hS, hK, hE, hA⟩ := hw
  exact W.iret (v := v) hx hb hr (fun t ht hWd => ⟨⟨v, M, rfl, hp, by rw [ht]; exact hP, va_K.moved hWd.alike hK, hD⟩, hS.F ht⟩) hS.2.2 hdg hlocks
theorem z_zret {v : Int32} {post : Int32 → zM → Prop} (X : zCX p s m meth c args cc nL (some .boolean) own) (hw : zWD D cy a (zfr a s.heap.size) M H locs s) (hv : v = 0 ∨ v = 1) (hp : post v M) (hdg : decode cc pc = .ok (.ireturn, 1)) :
    W p l e R s m args below meth c H locs cells slots (MQ below (va_Qi post (fun u t => zPST D cy a s.heap.size u t) (zfr a s.heap.size)) args s cells slots (zfr a s.heap.size)) (F0 m pc ls [.int v]) := by
  obtain ⟨hx, hb, hr, hml, hown, hW, hlocks⟩ := X
  obtain ⟨hP, hD, hS, hK, hE, hA⟩ := hw
  exact W.zret (v := v) (ty := .boolean) hx hb hr (by rcases hv with rfl | rfl <;> rfl) (fun t ht hWd => ⟨⟨v, M, rfl, hp, by rw [ht]; exact hP, va_K.moved hWd.alike hK, hD⟩, hS.F ht⟩) hS.2.2 hdg hlocks
theorem z_vret {post : zM → Prop} (X : zCX p s m meth c args cc nL none own) (hw : zWD D cy a (zfr a s.heap.size) M H locs s) (hp : post M) (hdg : decode cc pc = .ok (.return_, 1)) :
    W p l e R s m args below meth c H locs cells slots (MQ below (va_Qv post (fun u t => zPST D cy a s.heap.size u t) (zfr a s.heap.size)) args s cells slots (zfr a s.heap.size)) (F0 m pc ls []) := by
  obtain ⟨hx, hb, hr, hml, hown, hW, hlocks⟩ := X
  obtain ⟨hP, hD, hS, hK, hE, hA⟩ := hw
  exact W.vret hx hb hr (fun t ht hWd => ⟨⟨M, rfl, hp, by rw [ht]; exact hP, va_K.moved hWd.alike hK, hD⟩, hS.F ht⟩) hS.2.2 hdg hlocks
theorem z_get {ref C : String} {T : u_T} {N ci index q : Nat} (X : zCX p s m meth c args cc nL ret own) (hw : zWD D cy a A M H locs s) (hin : ∀ w ∈ u_ws C T N, w ∈ zW0) (hq : q < 103) {fs : List Value} (hsh : zsh cy a q (M q) = .inr (ci, fs)) (hc : vwCl[ci]? = some (C, T, N)) (k : Nat) (hk : k < N) (hl : Cond.fieldLink own index ref (T k).2.1 (T k).2.2.1 ∈ zW0) (hsame : ∀ x, s.fieldFound? (T k).1 (T k).2.1 (T k).2.2.1 = some x → s.fieldFound? ref (T k).2.1 (T k).2.2.1 = some x) {v : Value} (hv : fs[k]? = some v) (hdg : decode cc pc = .ok (.getfield index, 3))
    (kk : W p l e R s m args below meth c H locs cells slots Q (F0 m (pc + 3) ls (v :: rest))) : W p l e R s m args below meth c H locs cells slots Q (F0 m pc ls (.ref (a q) :: rest)) := by
  obtain ⟨hx, hb, hr, hml, hown, hW, hlocks⟩ := X
  obtain ⟨hP, hD, hS, hK, hE, hA⟩ := hw
  exact va_get hx hb hW hin hown hK hP q ((zwC_at hq).trans (by rw [hsh])) hc k hk (hW _ hl) hsame hv hdg kk
theorem z_put {ref C : String} {T : u_T} {N ci index q : Nat} (X : zCX p s m meth c args cc nL ret own) (hw : zWD D cy a A M H locs s) (hin : ∀ w ∈ u_ws C T N, w ∈ zW0) (ty0 : Nat → FieldType) (hty : ∀ k, k < N → parseFieldDescriptor (T k).2.2.1 = some (ty0 k)) (hnm : ∀ a, a < N → ∀ b, b < N → a ≠ b → (T a).2.1 ≠ (T b).2.1) (hq : q < 103) {fs : List Value} (hsh : zsh cy a q (M q) = .inr (ci, fs)) (hc : vwCl[ci]? = some (C, T, N)) (k : Nat) (hk : k < N) (hl : Cond.fieldLink own index ref (T k).2.1 (T k).2.2.1 ∈ zW0) (hsame : ∀ x, s.fieldFound? (T k).1 (T k).2.1 (T k).2.2.1 = some x → s.fieldFound? ref (T k).2.1 (T k).2.2.1 = some x) (hfin : (T k).2.2.2 = false) {ty : FieldType} {v : Int32} (hd : parseFieldDescriptor (T k).2.2.1 = some ty) (hn : narrow ty (.int v) = .int v) (hfit : fits ty (.int v) = true) (hlen : k < fs.length) (hsh2 : .inr (ci, fs.set k (.int v)) = zsh cy a q (upd (M q) k v))
    (hdg : decode cc pc = .ok (.putfield index, 3)) (kk : ∀ (M1 : zM) (H1 : Heap) (locs1 : List Loc), M1 = zst M q k v → zWD D cy a A M1 H1 locs1 s → W p l e R s m args below meth c H1 locs1 cells slots Q (F0 m (pc + 3) ls rest)) : W p l e R s m args below meth c H locs cells slots Q (F0 m pc ls (.int v :: .ref (a q) :: rest)) := by
  obtain ⟨hx, hb, hr, hml, hown, hW, hlocks⟩ := X
  obtain ⟨hP, hD, hS, hK, hE, hA⟩ := hw
  refine va_put hx hb hW hin ty0 hty hnm hown hK hP hD hS q ((zwC_at hq).trans (by rw [hsh])) hc k hk (hW _ hl) hsame hfin hd hn hfit hlen hdg (fun H1 locs1 hP1 hD1 hS1 => ?_)
  rw [hsh2, zwC_set] at hP1 hD1
  exact kk (zst M q k v) H1 locs1 rfl ⟨hP1, hD1, hS1, hK, hE, hA⟩
theorem z_ald {q n : Nat} (X : zCX p s m meth c args cc nL ret own) (hw : zWD D cy a A M H locs s) (hq : zI q n) {i : Int32} (hi : ¬ (i < 0 ∨ n ≤ i.toNatClampNeg)) (hdg : decode cc pc = .ok (.iaload, 1))
    (kk : W p l e R s m args below meth c H locs cells slots Q (F0 m (pc + 1) ls (.int (M q i.toNatClampNeg) :: rest))) : W p l e R s m args below meth c H locs cells slots Q (F0 m pc ls (.int i :: .ref (a q) :: rest)) := by
  obtain ⟨hx, hb, hr, hml, hown, hW, hlocks⟩ := X
  obtain ⟨hP, hD, hS, hK, hE, hA⟩ := hw
  exact va_iald hx hb hK hP q 0 ((zwC_at hq.1).trans (by rw [hq.2])) rfl hi hdg kk
theorem z_ast {q n : Nat} (X : zCX p s m meth c args cc nL ret own) (hw : zWD D cy a A M H locs s) (hq : zI q n) {i x : Int32} (hi : ¬ (i < 0 ∨ n ≤ i.toNatClampNeg)) (hdg : decode cc pc = .ok (.iastore, 1))
    (kk : ∀ (M1 : zM) (H1 : Heap) (locs1 : List Loc), M1 = zst M q i.toNatClampNeg x → zWD D cy a A M1 H1 locs1 s → W p l e R s m args below meth c H1 locs1 cells slots Q (F0 m (pc + 1) ls rest)) : W p l e R s m args below meth c H locs cells slots Q (F0 m pc ls (.int x :: .int i :: .ref (a q) :: rest)) := by
  obtain ⟨hx, hb, hr, hml, hown, hW, hlocks⟩ := X
  obtain ⟨hP, hD, hS, hK, hE, hA⟩ := hw
  refine va_iast hx hb hK hP hD hS q 0 ((zwC_at hq.1).trans (by rw [hq.2])) rfl hi hdg (fun H1 locs1 hP1 hD1 hS1 => ?_)
  rw [← hq.2 cy a, zwC_set] at hP1 hD1
  exact kk (zst M q i.toNatClampNeg x) H1 locs1 rfl ⟨hP1, hD1, hS1, hK, hE, hA⟩
theorem z_bald {q n : Nat} (X : zCX p s m meth c args cc nL ret own) (hw : zWD D cy a A M H locs s) (hq : zB q n) {i : Int32} (hi : ¬ (i < 0 ∨ n ≤ i.toNatClampNeg)) (hdg : decode cc pc = .ok (.baload, 1))
    (kk : W p l e R s m args below meth c H locs cells slots Q (F0 m (pc + 1) ls (.int (M q i.toNatClampNeg) :: rest))) : W p l e R s m args below meth c H locs cells slots Q (F0 m pc ls (.int i :: .ref (a q) :: rest)) := by
  obtain ⟨hx, hb, hr, hml, hown, hW, hlocks⟩ := X
  obtain ⟨hP, hD, hS, hK, hE, hA⟩ := hw
  exact va_bald hx hb hK hP q 1 ((zwC_at hq.1).trans (by rw [hq.2])) rfl hi hdg kk
theorem z_bast {q n : Nat} (X : zCX p s m meth c args cc nL ret own) (hw : zWD D cy a A M H locs s) (hq : zB q n) {i x : Int32} (hi : ¬ (i < 0 ∨ n ≤ i.toNatClampNeg)) (hdg : decode cc pc = .ok (.bastore, 1))
    (kk : ∀ (M1 : zM) (H1 : Heap) (locs1 : List Loc), M1 = zst M q i.toNatClampNeg (vp_nar .byte x) → zWD D cy a A M1 H1 locs1 s → W p l e R s m args below meth c H1 locs1 cells slots Q (F0 m (pc + 1) ls rest)) : W p l e R s m args below meth c H locs cells slots Q (F0 m pc ls (.int x :: .int i :: .ref (a q) :: rest)) := by
  obtain ⟨hx, hb, hr, hml, hown, hW, hlocks⟩ := X
  obtain ⟨hP, hD, hS, hK, hE, hA⟩ := hw
  refine va_bast hx hb hK hP hD hS q 1 ((zwC_at hq.1).trans (by rw [hq.2])) rfl hi hdg (fun H1 locs1 hP1 hD1 hS1 => ?_)
  rw [← hq.2 cy a, zwC_set] at hP1 hD1
  exact kk (zst M q i.toNatClampNeg (vp_nar .byte x)) H1 locs1 rfl ⟨hP1, hD1, hS1, hK, hE, hA⟩
theorem z_alenI {q n : Nat} {v : Int32} (X : zCX p s m meth c args cc nL ret own) (hw : zWD D cy a A M H locs s) (hq : zI q n) (hv : Int32.ofNat n = v) (hdg : decode cc pc = .ok (.arraylength, 1))
    (kk : W p l e R s m args below meth c H locs cells slots Q (F0 m (pc + 1) ls (.int v :: rest))) : W p l e R s m args below meth c H locs cells slots Q (F0 m pc ls (.ref (a q) :: rest)) := by
  obtain ⟨hx, hb, hr, hml, hown, hW, hlocks⟩ := X
  obtain ⟨hP, hD, hS, hK, hE, hA⟩ := hw
  exact va_alen hx hb hK hP q 0 ((zwC_at hq.1).trans (by rw [hq.2])) rfl hv hdg kk
theorem z_alenB {q n : Nat} {v : Int32} (X : zCX p s m meth c args cc nL ret own) (hw : zWD D cy a A M H locs s) (hq : zB q n) (hv : Int32.ofNat n = v) (hdg : decode cc pc = .ok (.arraylength, 1))
    (kk : W p l e R s m args below meth c H locs cells slots Q (F0 m (pc + 1) ls (.int v :: rest))) : W p l e R s m args below meth c H locs cells slots Q (F0 m pc ls (.ref (a q) :: rest)) := by
  obtain ⟨hx, hb, hr, hml, hown, hW, hlocks⟩ := X
  obtain ⟨hP, hD, hS, hK, hE, hA⟩ := hw
  exact va_alen hx hb hK hP q 1 ((zwC_at hq.1).trans (by rw [hq.2])) rfl hv hdg kk
theorem z_aldW {q b : Nat} (X : zCX p s m meth c args cc nL ret own) (hw : zWD D cy a A M H locs s) (hq : zRW q b) {i : Int32} (hi : ¬ (i < 0 ∨ 8 ≤ i.toNatClampNeg)) (hdg : decode cc pc = .ok (.aaload, 1))
    (kk : ∀ w : Nat, w = b + i.toNatClampNeg → zX6 w → W p l e R s m args below meth c H locs cells slots Q (F0 m (pc + 1) ls (.ref (a w) :: rest))) : W p l e R s m args below meth c H locs cells slots Q (F0 m pc ls (.int i :: .ref (a q) :: rest)) := by
  obtain ⟨hx, hb, hr, hml, hown, hW, hlocks⟩ := X
  obtain ⟨hP, hD, hS, hK, hE, hA⟩ := hw
  have hlt : i.toNatClampNeg < 8 := Nat.not_le.mp fun z => hi (Or.inr z)
  refine va_aldq hx hb hK hP q 2 ((zwC_at hq.1).trans (by rw [hq.2.2])) rfl hi hdg ?_
  rw [if_pos hlt]
  exact kk _ rfl (hq.2.1 _ hlt)
theorem z_aldI {q b : Nat} (X : zCX p s m meth c args cc nL ret own) (hw : zWD D cy a A M H locs s) (hq : zRI q b) {i : Int32} (hi : ¬ (i < 0 ∨ 4 ≤ i.toNatClampNeg)) (hdg : decode cc pc = .ok (.aaload, 1))
    (kk : ∀ w : Nat, w = b + i.toNatClampNeg → zI w 24 → W p l e R s m args below meth c H locs cells slots Q (F0 m (pc + 1) ls (.ref (a w) :: rest))) : W p l e R s m args below meth c H locs cells slots Q (F0 m pc ls (.int i :: .ref (a q) :: rest)) := by
  obtain ⟨hx, hb, hr, hml, hown, hW, hlocks⟩ := X
  obtain ⟨hP, hD, hS, hK, hE, hA⟩ := hw
  have hlt : i.toNatClampNeg < 4 := Nat.not_le.mp fun z => hi (Or.inr z)
  have hc := hP q _ ((zwC_at hq.1).trans (by rw [hq.2.2]))
  refine W.aald (v := va_rf (if i.toNatClampNeg < 4 then some (a (b + i.toNatClampNeg)) else none)) (ty := .array .int) hx hb hc ((hK.2 3 _ rfl).1 4 (fun j => va_rf (if j < 4 then some (a (b + j)) else none))) rfl (fun q => by cases q) (by show ¬ (i < 0 ∨ (arrV _ _ _).slots.size ≤ _); rw [arrV_size]; exact hi) (by show (arrV _ _ _).slots[_]? = _; rw [arrV_read _ _ hlt]) rfl rfl hdg ?_
  rw [if_pos hlt]
  exact kk _ rfl (hq.2.1 _ hlt)
theorem z_tabA {n i : Int32} {N : Nat} {C nm : String} {f : Nat → Int32} {index : Nat} (X : zCX p s m meth c args cc nL ret own) (hw : zWD D cy a A M H locs s) (hZ : zST C nm N f A s) (hl : Cond.fieldLink own index C nm "[I" ∈ zW0) (hdg : decode cc pc = .ok (.getstatic index, 3))
    (kk : ∀ t : Nat, va_T .int t N (fun j => .int (f j)) A s s.heap → W p l e R s m args below meth c H locs cells slots Q (F0 m (pc + 3) ls (.ref t :: rest))) : W p l e R s m args below meth c H locs cells slots Q (F0 m pc ls rest) := by
  obtain ⟨hx, hb, hr, hml, hown, hW, hlocks⟩ := X
  obtain ⟨hP, hD, hS, hK, hE, hA⟩ := hw
  obtain ⟨t, h1, h2⟩ := hZ
  exact va_gets hx hb h1 hS hown (hW _ hl) (fun _ h => h) hdg (kk t h2)
theorem z_tabN {N : Nat} {C nm host : String} {f : Nat → Int32} {index : Nat} (X : zCX p s m meth c args cc nL ret own) (hw : zWD D cy a A M H locs s) (hZ : zST C nm N f A s) (hl : va_Nw (.fieldLinkNest own index C nm "[I" host) s) (hdg : decode cc pc = .ok (.getstatic index, 3))
    (kk : ∀ t : Nat, va_T .int t N (fun j => .int (f j)) A s s.heap → W p l e R s m args below meth c H locs cells slots Q (F0 m (pc + 3) ls (.ref t :: rest))) : W p l e R s m args below meth c H locs cells slots Q (F0 m pc ls rest) := by
  obtain ⟨hx, hb, hr, hml, hown, hW, hlocks⟩ := X
  obtain ⟨hP, hD, hS, hK, hE, hA⟩ := hw
  obtain ⟨t, h1, h2⟩ := hZ
  exact va_getsN hx hb h1 hS hown (va_Nw.use rfl hl) (fun _ h => h) hdg (kk t h2)
theorem z_tald {t N : Nat} {f : Nat → Int32} {i : Int32} (X : zCX p s m meth c args cc nL ret own) (hw : zWD D cy a A M H locs s) (hT : va_T .int t N (fun j => .int (f j)) A s s.heap) (hi : ¬ (i < 0 ∨ N ≤ i.toNatClampNeg)) (hdg : decode cc pc = .ok (.iaload, 1))
    (kk : W p l e R s m args below meth c H locs cells slots Q (F0 m (pc + 1) ls (.int (f i.toNatClampNeg) :: rest))) : W p l e R s m args below meth c H locs cells slots Q (F0 m pc ls (.int i :: .ref t :: rest)) := by
  obtain ⟨hx, hb, hr, hml, hown, hW, hlocks⟩ := X
  obtain ⟨hP, hD, hS, hK, hE, hA⟩ := hw
  exact va_ti hx hb hT hS hi rfl hdg kk
theorem z_tlen {t N : Nat} {f : Nat → Int32} {v : Int32} (X : zCX p s m meth c args cc nL ret own) (hw : zWD D cy a A M H locs s) (hT : va_T .int t N (fun j => .int (f j)) A s s.heap) (hv : Int32.ofNat N = v) (hdg : decode cc pc = .ok (.arraylength, 1))
    (kk : W p l e R s m args below meth c H locs cells slots Q (F0 m (pc + 1) ls (.int v :: rest))) : W p l e R s m args below meth c H locs cells slots Q (F0 m pc ls (.ref t :: rest)) := by
  obtain ⟨hx, hb, hr, hml, hown, hW, hlocks⟩ := X
  obtain ⟨hP, hD, hS, hK, hE, hA⟩ := hw
  exact va_tlen hx hb hT hS hv hdg kk
end ZZ
