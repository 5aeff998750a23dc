section ZC
variable {p : Program} {l : Launch} {e : Env} {R : Room} {s : State} {m : MethodId} {args : Array Value} {below : List Frame} {meth : Method} {c : Code} {H : Heap} {locs : List Loc} {cells slots : Nat} {Q : State → Prop}
variable {cc : ByteArray} {pc : Nat} {ls : Array Slot} {rest st : List Value} {D : va_G} {cy : Nat → ClassId} {a : Nat → Nat} {A : Nat → Prop} {M : zM} {nL : Nat} {ret : Option FieldType} {own : String}
theorem zpreS {As : List Value} (hw : zWD D cy a A M H locs s) : PreS s H (va_Pc As (zPRE D cy a H.size M)) As := by
  obtain ⟨hP, hD, hS, hK, hE, hA⟩ := hw
  refine ⟨zblind, fun U hU hW => ⟨rfl, by rw [hU], by rw [hU]; exact hP, va_K.moved hW.alike hK, hE.call hW (fun b h1 h2 => by rw [hU]; exact hS.2.1 b h1 h2) (zfr_in hD hS hA rfl), hD.weaken (fun _ _ _ _ => trivial)⟩⟩
theorem zpreV {As : List Value} {C : String} {q ci : Nat} {fs : List Value} {T : u_T} {N : Nat} (hw : zWD D cy a A M H locs s) (hq : q < 103) (hsh : zsh cy a q (M q) = .inr (ci, fs)) (hc : vwCl[ci]? = some (C, T, N)) : PreV s H C (a q) (va_Pc (.ref (a q) :: As) (zPRE D cy a H.size M)) As := by
  have h := zpreS (As := .ref (a q) :: As) hw
  obtain ⟨hP, hD, hS, hK, hE, hA⟩ := hw
  exact ⟨h.1, va_recv hK hP hc ((zwC_at hq).trans (by rw [hsh])), h.2⟩
theorem zback {A1 : Nat → Prop} {u : zM} {t : State} {H1 : Heap} {locs1 : List Loc} (hw : zWD D cy a A M H locs s) (ht : t.heap = H1) (hvm : s.vm.Alike t.vm) (hB : zPST D cy a H.size u t) (hS1 : va_S A s.heap H1 locs1) : zWD D cy a A u H1 locs1 s := by
  obtain ⟨hP, hD, hS, hK, hE, hA⟩ := hw
  obtain ⟨h1, h2, h3⟩ := hB
  rw [ht] at h1
  exact ⟨h1, h3.weaken (fun k q _ h => zfr_in hD hS hA rfl _ h), hS1, hK, hE, hA⟩
theorem z_cVi {y : MethodName} {bytes : ByteArray} {maxL n index q ci N : Nat} {rt : Option FieldType} {rm : Room} {As fs : List Value} {C : String} {T : u_T} {post : Int32 → zM → Prop} (X : zCX p s m meth c args cc nL ret own) (hw : zWD D cy a A M H locs s) (hM : zCi l D cy a y bytes maxL rt rm (.ref (a q) :: As) M post)
    (cw : CallW R s args own C index y bytes maxL rt (.code y bytes maxL rt :: zW0) rm 0 0 n) (hq : q < 103) (hsh : zsh cy a q (M q) = .inr (ci, fs)) (hc : vwCl[ci]? = some (C, T, N)) (hn : As.length = n) (hst : st = As.reverse ++ .ref (a q) :: rest) (hcat : (rest.map fun v => v.category).sum ≤ 8) (hsz : ls.size = nL) (hcs : cells ≤ R.cells ∧ slots ≤ R.slots) (hdg : decode cc pc = .ok (.invokevirtual index, 3))
    (kk : ∀ (r : Int32) (u : zM) (H1 : Heap) (locs1 : List Loc), post r u → zWD D cy a A u H1 locs1 s → W p l e R s m args below meth c H1 locs1 cells slots Q (F0 m (pc + 3) ls (.int r :: rest))) : W p l e R s m args below meth c H locs cells slots Q (F0 m pc ls st) := by
  obtain ⟨hx, hb, hr, hml, hown, hW, hlocks⟩ := id X
  have hfr := zfr_in hw.2.1 hw.2.2.1 hw.2.2.2.2.2 (rfl : H.size = H.size)
  exact va_calli (va_runV (As := As) (rest := rest) ⟨hx, hb, hml, hown, hW⟩ (hM H.size) cw (zpreV hw hq hsh hc) rfl hn hsz hst (lv_room hcat) hdg hcs) hw.2.2.1 (fun q _ h => hfr q h) hfr (fun r u t H1 locs1 ht hvm hp hB hz1 hk1 hS1 => kk r u H1 locs1 hp (zback (A1 := A) hw ht hvm hB hS1))
theorem z_cVv {y : MethodName} {bytes : ByteArray} {maxL n index q ci N : Nat} {rm : Room} {As fs : List Value} {C : String} {T : u_T} {post : zM → Prop} (X : zCX p s m meth c args cc nL ret own) (hw : zWD D cy a A M H locs s) (hM : zCv l D cy a y bytes maxL rm (.ref (a q) :: As) M post)
    (cw : CallW R s args own C index y bytes maxL none (.code y bytes maxL none :: zW0) rm 0 0 n) (hq : q < 103) (hsh : zsh cy a q (M q) = .inr (ci, fs)) (hc : vwCl[ci]? = some (C, T, N)) (hn : As.length = n) (hst : st = As.reverse ++ .ref (a q) :: rest) (hcat : (rest.map fun v => v.category).sum ≤ 8) (hsz : ls.size = nL) (hcs : cells ≤ R.cells ∧ slots ≤ R.slots) (hdg : decode cc pc = .ok (.invokevirtual index, 3))
    (kk : ∀ (u : zM) (H1 : Heap) (locs1 : List Loc), post u → zWD D cy a A u H1 locs1 s → W p l e R s m args below meth c H1 locs1 cells slots Q (F0 m (pc + 3) ls rest)) : W p l e R s m args below meth c H locs cells slots Q (F0 m pc ls st) := by
  obtain ⟨hx, hb, hr, hml, hown, hW, hlocks⟩ := id X
  have hfr := zfr_in hw.2.1 hw.2.2.1 hw.2.2.2.2.2 (rfl : H.size = H.size)
  exact va_callv (va_runV (As := As) (rest := rest) ⟨hx, hb, hml, hown, hW⟩ (hM H.size) cw (zpreV hw hq hsh hc) rfl hn hsz hst (lv_room hcat) hdg hcs) hw.2.2.1 (fun q _ h => hfr q h) hfr (fun u t H1 locs1 ht hvm hp hB hz1 hk1 hS1 => kk u H1 locs1 hp (zback (A1 := A) hw ht hvm hB hS1))
theorem z_cVr {y : MethodName} {bytes : ByteArray} {maxL n index q ci N : Nat} {rt : Option FieldType} {rm : Room} {As fs : List Value} {C : String} {T : u_T} {post : Nat × zM → Prop} (X : zCX p s m meth c args cc nL ret own) (hw : zWD D cy a A M H locs s) (hM : zCr l D cy a y bytes maxL rt rm (.ref (a q) :: As) M post)
    (cw : CallW R s args own C index y bytes maxL rt (.code y bytes maxL rt :: zW0) rm 0 0 n) (hq : q < 103) (hsh : zsh cy a q (M q) = .inr (ci, fs)) (hc : vwCl[ci]? = some (C, T, N)) (hn : As.length = n) (hst : st = As.reverse ++ .ref (a q) :: rest) (hcat : (rest.map fun v => v.category).sum ≤ 8) (hsz : ls.size = nL) (hcs : cells ≤ R.cells ∧ slots ≤ R.slots) (hdg : decode cc pc = .ok (.invokevirtual index, 3))
    (kk : ∀ (r : Nat) (u : zM) (H1 : Heap) (locs1 : List Loc), post (r, u) → zWD D cy a A u H1 locs1 s → W p l e R s m args below meth c H1 locs1 cells slots Q (F0 m (pc + 3) ls (.ref (a r) :: rest))) : W p l e R s m args below meth c H locs cells slots Q (F0 m pc ls st) := by
  obtain ⟨hx, hb, hr, hml, hown, hW, hlocks⟩ := id X
  have hfr := zfr_in hw.2.1 hw.2.2.1 hw.2.2.2.2.2 (rfl : H.size = H.size)
  refine va_callr (va_runV (As := As) (rest := rest) ⟨hx, hb, hml, hown, hW⟩ (hM H.size) cw (zpreV hw hq hsh hc) rfl hn hsz hst (lv_room hcat) hdg hcs) hw.2.2.1 (fun q _ h => hfr q h) hfr (fun u b t H1 locs1 ht hvm hp hB hz1 hk1 hS1 => ?_)
  obtain ⟨rfl, hB⟩ := hB
  exact kk u.1 u.2 H1 locs1 hp (zback (A1 := A) hw ht hvm hB hS1)
theorem z_cSi {y : MethodName} {bytes : ByteArray} {maxL n index : Nat} {rt : Option FieldType} {rm : Room} {As : List Value} {post : Int32 → zM → Prop} (X : zCX p s m meth c args cc nL ret own) (hw : zWD D cy a A M H locs s) (hM : zCi l D cy a y bytes maxL rt rm As M post)
    (cw : CallB R s args own index y bytes maxL rt (.code y bytes maxL rt :: zW0) rm 0 0 n ∧ (Cond.static y).before args s = true) (hn : As.length = n) (hst : st = As.reverse ++ rest) (hcat : (rest.map fun v => v.category).sum ≤ 8) (hsz : ls.size = nL) (hcs : cells ≤ R.cells ∧ slots ≤ R.slots) (hdg : decode cc pc = .ok (.invokestatic index, 3))
    (kk : ∀ (r : Int32) (u : zM) (H1 : Heap) (locs1 : List Loc), post r u → zWD D cy a A u H1 locs1 s → W p l e R s m args below meth c H1 locs1 cells slots Q (F0 m (pc + 3) ls (.int r :: rest))) : W p l e R s m args below meth c H locs cells slots Q (F0 m pc ls st) := by
  obtain ⟨hx, hb, hr, hml, hown, hW, hlocks⟩ := id X
  have hfr := zfr_in hw.2.1 hw.2.2.1 hw.2.2.2.2.2 (rfl : H.size = H.size)
  exact va_calli (va_runS (As := As) (rest := rest) ⟨hx, hb, hml, hown, hW⟩ (hM H.size) cw (zpreS hw) rfl hn hsz hst (lv_room hcat) hdg hcs) hw.2.2.1 (fun q _ h => hfr q h) hfr (fun r u t H1 locs1 ht hvm hp hB hz1 hk1 hS1 => kk r u H1 locs1 hp (zback (A1 := A) hw ht hvm hB hS1))
theorem z_cSv {y : MethodName} {bytes : ByteArray} {maxL n index : Nat} {rm : Room} {As : List Value} {post : zM → Prop} (X : zCX p s m meth c args cc nL ret own) (hw : zWD D cy a A M H locs s) (hM : zCv l D cy a y bytes maxL rm As M post)
    (cw : CallB R s args own index y bytes maxL none (.code y bytes maxL none :: zW0) rm 0 0 n ∧ (Cond.static y).before args s = true) (hn : As.length = n) (hst : st = As.reverse ++ rest) (hcat : (rest.map fun v => v.category).sum ≤ 8) (hsz : ls.size = nL) (hcs : cells ≤ R.cells ∧ slots ≤ R.slots) (hdg : decode cc pc = .ok (.invokestatic index, 3))
    (kk : ∀ (u : zM) (H1 : Heap) (locs1 : List Loc), post u → zWD D cy a A u H1 locs1 s → W p l e R s m args below meth c H1 locs1 cells slots Q (F0 m (pc + 3) ls rest)) : W p l e R s m args below meth c H locs cells slots Q (F0 m pc ls st) := by
  obtain ⟨hx, hb, hr, hml, hown, hW, hlocks⟩ := id X
  have hfr := zfr_in hw.2.1 hw.2.2.1 hw.2.2.2.2.2 (rfl : H.size = H.size)
  exact va_callv (va_runS (As := As) (rest := rest) ⟨hx, hb, hml, hown, hW⟩ (hM H.size) cw (zpreS hw) rfl hn hsz hst (lv_room hcat) hdg hcs) hw.2.2.1 (fun q _ h => hfr q h) hfr (fun u t H1 locs1 ht hvm hp hB hz1 hk1 hS1 => kk u H1 locs1 hp (zback (A1 := A) hw ht hvm hB hS1))
theorem z_cSNi {y : MethodName} {bytes : ByteArray} {maxL n index : Nat} {rt : Option FieldType} {rm : Room} {As : List Value} {host : String} {post : Int32 → zM → Prop} (X : zCX p s m meth c args cc nL ret own) (hw : zWD D cy a A M H locs s) (hM : zCi l D cy a y bytes maxL rt rm As M post)
    (cw : va_CN R s args own index y host bytes maxL rt (.code y bytes maxL rt :: zW0) rm 0 0 n ∧ (Cond.static y).before args s = true ∧ True) (hn : As.length = n) (hst : st = As.reverse ++ rest) (hcat : (rest.map fun v => v.category).sum ≤ 8) (hsz : ls.size = nL) (hcs : cells ≤ R.cells ∧ slots ≤ R.slots) (hdg : decode cc pc = .ok (.invokestatic index, 3))
    (kk : ∀ (r : Int32) (u : zM) (H1 : Heap) (locs1 : List Loc), post r u → zWD D cy a A u H1 locs1 s → W p l e R s m args below meth c H1 locs1 cells slots Q (F0 m (pc + 3) ls (.int r :: rest))) : W p l e R s m args below meth c H locs cells slots Q (F0 m pc ls st) := by
  obtain ⟨hx, hb, hr, hml, hown, hW, hlocks⟩ := id X
  have hfr := zfr_in hw.2.1 hw.2.2.1 hw.2.2.2.2.2 (rfl : H.size = H.size)
  exact va_calli (va_runSN (As := As) (rest := rest) ⟨hx, hb, hml, hown, hW⟩ (hM H.size) cw (zpreS hw) rfl hn hsz hst (lv_room hcat) hdg hcs) hw.2.2.1 (fun q _ h => hfr q h) hfr (fun r u t H1 locs1 ht hvm hp hB hz1 hk1 hS1 => kk r u H1 locs1 hp (zback (A1 := A) hw ht hvm hB hS1))
theorem zcw_V {index n maxL : Nat} {y : MethodName} {bytes : ByteArray} {rt : Option FieldType} {rm : Room} {C : String} (hW : ∀ w ∈ zW0, w.before args s = true) (m1 : Cond.methodLink own index y ∈ zW0) (m2 : Cond.instanceMethod y ∈ zW0) (m3 : Cond.selects C y y ∈ zW0) (m4 : Cond.initialized C ∈ zW0) (m5 : Cond.code y bytes maxL rt ∈ zW0) (hc : rm.cells = 0) (hs : rm.slots = 0)
    (hd : y.cls = C ∧ y.cls ≠ "java/lang/invoke/MethodHandle" ∧ y.cls ≠ "java/lang/invoke/VarHandle" ∧ (parseMethodDescriptor y.desc).map (fun d => d.parameters.length) = some n) (hR : rm.frames + 1 ≤ R.frames ∧ 8 + (maxL + 11) + rm.locals ≤ R.locals) : CallW R s args own C index y bytes maxL rt (.code y bytes maxL rt :: zW0) rm 0 0 n := by
  refine cwV n hW (fun w h => ?_) rfl hc hs hd hR
  unfold wsV at h
  rcases List.mem_append.mp h with h | h
  · simp only [List.mem_cons, List.not_mem_nil, or_false] at h
    rcases h with rfl | rfl | rfl | rfl
    · exact zW0_good _ m1
    · exact zW0_good _ m2
    · exact zW0_good _ m3
    · exact zW0_good _ m4
  · exact zgood1 m5 w h
theorem zcw_S {index n maxL : Nat} {y : MethodName} {bytes : ByteArray} {rt : Option FieldType} {rm : Room} (hW : ∀ w ∈ zW0, w.before args s = true) (m1 : Cond.methodLink own index y ∈ zW0) (m2 : Cond.static y ∈ zW0) (m4 : Cond.initialized y.cls ∈ zW0) (m5 : Cond.code y bytes maxL rt ∈ zW0) (hc : rm.cells = 0) (hs : rm.slots = 0)
    (hd : y.cls ≠ "java/lang/invoke/MethodHandle" ∧ y.cls ≠ "java/lang/invoke/VarHandle" ∧ (parseMethodDescriptor y.desc).map (fun d => d.parameters.length) = some n) (hR : rm.frames + 1 ≤ R.frames ∧ 8 + (maxL + 11) + rm.locals ≤ R.locals) : CallB R s args own index y bytes maxL rt (.code y bytes maxL rt :: zW0) rm 0 0 n ∧ (Cond.static y).before args s = true :=
  ⟨callB_of n hW (zgood1 m5) rfl hc hs (hW _ m4) (hW _ m1) hd hR, hW _ m2⟩
theorem zcw_SN {index n maxL : Nat} {y : MethodName} {bytes : ByteArray} {rt : Option FieldType} {rm : Room} {host : String} (hW : ∀ w ∈ zW0, w.before args s = true) (m1 : va_Nw (.methodLinkNest own index y host) s) (m2 : Cond.static y ∈ zW0) (m4 : Cond.initialized y.cls ∈ zW0) (m5 : Cond.code y bytes maxL rt ∈ zW0) (hc : rm.cells = 0) (hs : rm.slots = 0)
    (hd : y.cls ≠ "java/lang/invoke/MethodHandle" ∧ y.cls ≠ "java/lang/invoke/VarHandle" ∧ (parseMethodDescriptor y.desc).map (fun d => d.parameters.length) = some n) (hR : rm.frames + 1 ≤ R.frames ∧ 8 + (maxL + 11) + rm.locals ≤ R.locals) : va_CN R s args own index y host bytes maxL rt (.code y bytes maxL rt :: zW0) rm 0 0 n ∧ (Cond.static y).before args s = true ∧ True :=
  ⟨va_cnB n hW (zgood1 m5) rfl hc hs m1 (hW _ m4) hd hR, hW _ m2, trivial⟩
theorem z_min {x y : Int32} {index : Nat} (X : zCX p s m meth c args cc nL ret own) (m1 : Cond.methodLink own index Lib.Math.min.name ∈ zW0) (m2 : Cond.static Lib.Math.min.name ∈ zW0) (m3 : Cond.initialized "java/lang/Math" ∈ zW0) (m4 : Cond.code Lib.Math.min.name Lib.Math.min.code 2 (some .int) ∈ zW0) (hsz : ls.size = nL) (hfr : 1 ≤ R.frames) (hlo : (rest.map fun v => v.category).sum + 13 ≤ R.locals) (hcs : cells ≤ R.cells ∧ slots ≤ R.slots) (hdg : decode cc pc = .ok (.invokestatic index, 3))
    (kk : W p l e R s m args below meth c H locs cells slots Q (F0 m (pc + 3) ls (.int (if y < x then y else x) :: rest))) : W p l e R s m args below meth c H locs cells slots Q (F0 m pc ls (.int y :: .int x :: rest)) := by
  obtain ⟨hx, hb, hr, hml, hown, hW, hlocks⟩ := X
  exact va_mmin hx hb (hml.trans hsz.symm) hown (hW _ m1) (hW _ m2) (hW _ m3) (hW _ m4) hfr hlo hcs.1 hcs.2 hdg kk
theorem z_max {x y : Int32} {index : Nat} (X : zCX p s m meth c args cc nL ret own) (m1 : Cond.methodLink own index Lib.Math.max.name ∈ zW0) (m2 : Cond.static Lib.Math.max.name ∈ zW0) (m3 : Cond.initialized "java/lang/Math" ∈ zW0) (m4 : Cond.code Lib.Math.max.name Lib.Math.max.code 2 (some .int) ∈ zW0) (hsz : ls.size = nL) (hfr : 1 ≤ R.frames) (hlo : (rest.map fun v => v.category).sum + 13 ≤ R.locals) (hcs : cells ≤ R.cells ∧ slots ≤ R.slots) (hdg : decode cc pc = .ok (.invokestatic index, 3))
    (kk : W p l e R s m args below meth c H locs cells slots Q (F0 m (pc + 3) ls (.int (if x < y then y else x) :: rest))) : W p l e R s m args below meth c H locs cells slots Q (F0 m pc ls (.int y :: .int x :: rest)) := by
  obtain ⟨hx, hb, hr, hml, hown, hW, hlocks⟩ := X
  exact va_mmax hx hb (hml.trans hsz.symm) hown (hW _ m1) (hW _ m2) (hW _ m3) (hW _ m4) hfr hlo hcs.1 hcs.2 hdg kk
/-- arraycopy over ints: what must hold of its places, and the new row -/
def zcpG (n0 n1 : Nat) (sp dp n : Int32) : Prop := sp < 0 ∨ dp < 0 ∨ n < 0 ∨ n0 < sp.toNatClampNeg + n.toNatClampNeg ∨ n1 < dp.toNatClampNeg + n.toNatClampNeg
abbrev zcp (M : zM) (q0 q1 : Nat) (sp dp n : Int32) : zM := zup M q1 (va_cpy (M q0) (M q1) sp.toNatClampNeg dp.toNatClampNeg n.toNatClampNeg)
theorem z_cpI {q0 q1 n0 n1 index : Nat} {sp dp n : Int32} (X : zCX p s m meth c args cc nL ret own) (hw : zWD D cy a A M H locs s) (h0 : zI q0 n0) (h1 : zI q1 n1) (hg : ¬ (sp < 0 ∨ dp < 0 ∨ n < 0 ∨ n0 < sp.toNatClampNeg + n.toNatClampNeg ∨ n1 < dp.toNatClampNeg + n.toNatClampNeg)) (m1 : Cond.methodLink own index arraycopyName ∈ zW0) (m2 : Cond.native arraycopyName ∈ zW0) (m3 : Cond.static arraycopyName ∈ zW0) (m4 : Cond.initialized "java/lang/System" ∈ zW0) (hsz : ls.size = nL) (hfr : 1 ≤ R.frames) (hlo : (rest.map fun v => v.category).sum + (nativeFrameWords "java/lang/System" "arraycopy" 5 + 11) ≤ R.locals) (hdg : decode cc pc = .ok (.invokestatic index, 3))
    (kk : ∀ (M1 : zM) (H1 : Heap) (locs1 : List Loc), M1 = zcp M q0 q1 sp dp n → zWD D cy a A M1 H1 locs1 s → W p l e R s m args below meth c H1 locs1 cells slots Q (F0 m (pc + 3) ls rest)) : W p l e R s m args below meth c H locs cells slots Q (F0 m pc ls (.int n :: .int dp :: .ref (a q1) :: .int sp :: .ref (a q0) :: rest)) := by
  obtain ⟨hx, hb, hr, hml, hown, hW, hlocks⟩ := X
  obtain ⟨hP, hD, hS, hK, hE, hA⟩ := hw
  have g1 : ¬ sp < 0 := fun z => hg (Or.inl z)
  have g2 : ¬ dp < 0 := fun z => hg (Or.inr (Or.inl z))
  have g3 : ¬ n < 0 := fun z => hg (Or.inr (Or.inr (Or.inl z)))
  have g4 : sp.toNatClampNeg + n.toNatClampNeg ≤ n0 := Nat.not_lt.mp fun z => hg (Or.inr (Or.inr (Or.inr (Or.inl z))))
  have g5 : dp.toNatClampNeg + n.toNatClampNeg ≤ n1 := Nat.not_lt.mp fun z => hg (Or.inr (Or.inr (Or.inr (Or.inr z))))
  refine va_copyi hx hb (hml.trans hsz.symm) hown (hW _ m1) (hW _ m2) (hW _ m3) (hW _ m4) hK hP hD hS q0 q1 0 0 ((zwC_at h0.1).trans (by rw [h0.2])) ((zwC_at h1.1).trans (by rw [h1.2])) rfl rfl rfl g1 g2 g3 g4 g5 (fun _ _ => rfl) hfr hlo hdg (fun H1 locs1 hP1 hD1 hS1 => ?_)
  rw [← h1.2 cy a, zwC_set] at hP1 hD1
  exact kk _ H1 locs1 rfl ⟨hP1, hD1, hS1, hK, hE, hA⟩
theorem z_cpB {q0 q1 n0 n1 index : Nat} {sp dp n : Int32} (X : zCX p s m meth c args cc nL ret own) (hw : zWD D cy a A M H locs s) (h0 : zB q0 n0) (h1 : zB q1 n1) (hg : ¬ (sp < 0 ∨ dp < 0 ∨ n < 0 ∨ n0 < sp.toNatClampNeg + n.toNatClampNeg ∨ n1 < dp.toNatClampNeg + n.toNatClampNeg)) (hf : ¬ ((List.range n.toNatClampNeg).all (fun i => fits .byte (.int (M q0 (sp.toNatClampNeg + i)))) = false)) (m1 : Cond.methodLink own index arraycopyName ∈ zW0) (m2 : Cond.native arraycopyName ∈ zW0) (m3 : Cond.static arraycopyName ∈ zW0) (m4 : Cond.initialized "java/lang/System" ∈ zW0) (hsz : ls.size = nL) (hfr : 1 ≤ R.frames) (hlo : (rest.map fun v => v.category).sum + (nativeFrameWords "java/lang/System" "arraycopy" 5 + 11) ≤ R.locals) (hdg : decode cc pc = .ok (.invokestatic index, 3))
    (kk : ∀ (M1 : zM) (H1 : Heap) (locs1 : List Loc), M1 = zcp M q0 q1 sp dp n → zWD D cy a A M1 H1 locs1 s → W p l e R s m args below meth c H1 locs1 cells slots Q (F0 m (pc + 3) ls rest)) : W p l e R s m args below meth c H locs cells slots Q (F0 m pc ls (.int n :: .int dp :: .ref (a q1) :: .int sp :: .ref (a q0) :: rest)) := by
  obtain ⟨hx, hb, hr, hml, hown, hW, hlocks⟩ := X
  obtain ⟨hP, hD, hS, hK, hE, hA⟩ := hw
  have g1 : ¬ sp < 0 := fun z => hg (Or.inl z)
  have g2 : ¬ dp < 0 := fun z => hg (Or.inr (Or.inl z))
  have g3 : ¬ n < 0 := fun z => hg (Or.inr (Or.inr (Or.inl z)))
  have g4 : sp.toNatClampNeg + n.toNatClampNeg ≤ n0 := Nat.not_lt.mp fun z => hg (Or.inr (Or.inr (Or.inr (Or.inl z))))
  have g5 : dp.toNatClampNeg + n.toNatClampNeg ≤ n1 := Nat.not_lt.mp fun z => hg (Or.inr (Or.inr (Or.inr (Or.inr z))))
  have hf2 : (List.range n.toNatClampNeg).all (fun i => fits .byte (.int (M q0 (sp.toNatClampNeg + i)))) = true := by
    cases hz : (List.range n.toNatClampNeg).all (fun i => fits .byte (.int (M q0 (sp.toNatClampNeg + i))))
    · exact absurd hz hf
    · rfl
  refine va_copyi hx hb (hml.trans hsz.symm) hown (hW _ m1) (hW _ m2) (hW _ m3) (hW _ m4) hK hP hD hS q0 q1 1 1 ((zwC_at h0.1).trans (by rw [h0.2])) ((zwC_at h1.1).trans (by rw [h1.2])) rfl rfl rfl g1 g2 g3 g4 g5 (fun i hi => List.all_eq_true.mp hf2 i (List.mem_range.mpr hi)) hfr hlo hdg (fun H1 locs1 hP1 hD1 hS1 => ?_)
  rw [← h1.2 cy a, zwC_set] at hP1 hD1
  exact kk _ H1 locs1 rfl ⟨hP1, hD1, hS1, hK, hE, hA⟩
theorem z_ldc {index : Nat} {v : Int32} (X : zCX p s m meth c args cc nL ret own) (m1 : Cond.constant own index v ∈ zW0) (hdg : decode cc pc = .ok (.ldc index, 2)) (k : W p l e R s m args below meth c H locs cells slots Q (F0 m (pc + 2) ls (.int v :: rest))) : W p l e R s m args below meth c H locs cells slots Q (F0 m pc ls rest) := by
  obtain ⟨hx, hb, hr, hml, hown, hW, hlocks⟩ := X
  exact lv_ldc hx hb hown (hW _ m1) hdg k
theorem z_ldc2_w {index : Nat} {v : Int64} (X : zCX p s m meth c args cc nL ret own) (m1 : Cond.constantLong own index v ∈ zW0) (hdg : decode cc pc = .ok (.ldc2_w index, 3)) (k : W p l e R s m args below meth c H locs cells slots Q (F0 m (pc + 3) ls (.long v :: rest))) : W p l e R s m args below meth c H locs cells slots Q (F0 m pc ls rest) := by
  obtain ⟨hx, hb, hr, hml, hown, hW, hlocks⟩ := X
  exact lv_ldc2 hx hb hown (hW _ m1) hdg k
theorem z_ldc_w {index : Nat} {v : Int32} (X : zCX p s m meth c args cc nL ret own) (m1 : Cond.constant own index v ∈ zW0) (hdg : decode cc pc = .ok (.ldc_w index, 3)) (k : W p l e R s m args below meth c H locs cells slots Q (F0 m (pc + 3) ls (.int v :: rest))) : W p l e R s m args below meth c H locs cells slots Q (F0 m pc ls rest) := by
  obtain ⟨hx, hb, hr, hml, hown, hW, hlocks⟩ := X
  exact lv_ldcw hx hb hown (hW _ m1) hdg k
end ZC
