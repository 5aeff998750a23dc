abbrev zAL (s : State) : Nat → Prop := fun q => s.heap.size ≤ q
abbrev zLL (b : Nat) (a : Nat → Nat) (i : Nat) : List (Nat × Value) := [(0, .ref b), (1, .ref (a 0)), (2, .ref (a 87)), (3, .int (nI i))]
theorem zl_arg {p : Program} {l : Launch} {e : Env} {R : Room} {s : State} {m : MethodId} {args : Array Value} {below : List Frame} {meth : Method} {c : Code} {H : Heap} {locs : List Loc} {cells slots pc b L i : Nat} {Q : State → Prop} {a : Nat → Nat} {xs : Nat → Int32} {ls : Array Slot} {rest : List Value} {cc : ByteArray} {kn : Int} {A : Nat → Prop} (kv : Nat) (hx : p.tables.exec = Jvm.exec) (hb : c.code = cc) (hX : va_X b L xs s s.heap) (hbl : b < s.heap.size) (hbA : ¬ A b) (hS : va_S A s.heap H locs) (hl : lv_has ls 4 (zLL b a i)) (hk : Int32.ofInt kn = nI kv) (hi : i + kv < L) (hL : L ≤ 3072)
    (d0 : decode cc pc = .ok (.aload_n 0, 1)) (d1 : decode cc (pc + 1) = .ok (.iload_n 3, 1)) (d2 : decode cc (pc + 2) = .ok (.iconst kn, 1)) (d3 : decode cc (pc + 3) = .ok (.iadd, 1)) (d4 : decode cc (pc + 4) = .ok (.iaload, 1))
    (k : W p l e R s m args below meth c H locs cells slots Q (F0 m (pc + 5) ls (.int (xs (i + kv)) :: rest))) : W p l e R s m args below meth c H locs cells slots Q (F0 m pc ls rest) := by
  refine lv_aload_n hx hb d0 rfl (lv_at hl 0 rfl) ?_
  refine lv_iload_n hx hb d1 rfl (lv_at hl 3 rfl) ?_
  refine lv_iconst (v := nI kv) hx hb d2 hk ?_
  refine lv_iadd hx hb d3 ?_
  rw [nI_add]
  refine va_sld hx hb hX hbl hbA hS (vp_in_nI hi (by omega)) d4 ?_
  rw [zcn (by omega)]
  exact k
set_option maxHeartbeats 4000000 in
set_option maxRecDepth 100000 in
theorem lc_0 {p : Program} {l : Launch} {e : Env} {s : State} {m : MethodId} {below : List Frame} {meth : Method} {c : Code} {H : Heap} {locs : List Loc} {cells slots : Nat} {D : va_G} {cy : Nat → ClassId} {a : Nat → Nat} {M : zM} {b L i : Nat} {xs : Nat → Int32} {ls : Array Slot} (X : zCX p s m meth c #[.ref b] cL_law 4 ret RL) (hX : va_X b L xs s s.heap) (hbl : b < s.heap.size) (hL : L ≤ 3072) (hi : i + 6 ≤ L) (hcs : cells ≤ room_1.cells ∧ slots ≤ room_1.slots) (hw : zWD D cy a (zAL s) M H locs s) (hR : Rel2 M M) (hl : lv_has ls 4 (zLL b a i)) (K : ∀ (M2 : zM) (H : Heap) (locs : List Loc), zWD D cy a (zAL s) M2 H locs s → Rel2 M2 M2 → W p l e room_1 s m #[.ref b] below meth c H locs cells slots (lw_Z below #[.ref b] s) (F0 m 1431 ls [])) : W p l e room_1 s m #[.ref b] below meth c H locs cells slots (lw_Z below #[.ref b] s) (F0 m 204 ls []) := by
  obtain ⟨hx, hb, hr, hml, hown, hW, hlocks⟩ := id X
  have hbA : ¬ zAL s b := Nat.not_le.mpr hbl
  obtain ⟨r, M1, M2, e1, e2, hR2⟩ := eq_use (fun C R h => eq_force (xs (i + 1)) (xs (i + 2)) h) hR
  refine lv_aload_n hx hb dL_law_204 rfl (lv_at hl 1 rfl) ?_
  refine zl_arg 1 hx hb hX hbl hbA hw.2.2.1 hl (by decide) (by omega) hL dL_law_205 dL_law_206 dL_law_207 dL_law_208 dL_law_209 ?_
  refine zl_arg 2 hx hb hX hbl hbA hw.2.2.1 hl (by decide) (by omega) hL dL_law_210 dL_law_211 dL_law_212 dL_law_213 dL_law_214 ?_
  refine z_qVi (n := 2) (As := [.int (xs (i + 1)), .int (xs (i + 2))]) (rest := []) X hw (kX7_force l D cy a (xs (i + 1)) (xs (i + 2)) M r M1 e1) (zcw_V hW zm_5_11 zm_5_12 zm_5_13 zm_1_2 zm_5_14 rfl rfl (by decide +kernel) ⟨Nat.le_of_ble_eq_true rfl, Nat.le_of_ble_eq_true rfl⟩) (by decide) (zS7 rfl cy a (M 0)) rfl rfl rfl (Nat.le_of_ble_eq_true rfl) hl.1 hcs dL_law_215 (fun H locs hw => ?_)
  refine lv_aload_n hx hb dL_law_218 rfl (lv_at hl 2 rfl) ?_
  refine zl_arg 1 hx hb hX hbl hbA hw.2.2.1 hl (by decide) (by omega) hL dL_law_219 dL_law_220 dL_law_221 dL_law_222 dL_law_223 ?_
  refine zl_arg 2 hx hb hX hbl hbA hw.2.2.1 hl (by decide) (by omega) hL dL_law_224 dL_law_225 dL_law_226 dL_law_227 dL_law_228 ?_
  refine z_qVi (n := 2) (As := [.int (xs (i + 1)), .int (xs (i + 2))]) (rest := [.int r]) X hw (kX8_force l D cy a (xs (i + 1)) (xs (i + 2)) M1 r M2 e2) (zcw_V hW zm_6_0 zm_6_1 zm_6_2 zm_1_5 zm_6_3 rfl rfl (by decide +kernel) ⟨Nat.le_of_ble_eq_true rfl, Nat.le_of_ble_eq_true rfl⟩) (by decide) (zS8 rfl cy a (M1 87)) rfl rfl rfl (Nat.le_of_ble_eq_true rfl) hl.1 hcs dL_law_229 (fun H locs hw => ?_)
  exact lv_icmp_eq (tgt := 1431) hx hb dL_law_232 (by decide) (fun _ => K M2 H locs hw hR2) (fun z => absurd rfl z)
set_option maxHeartbeats 4000000 in
set_option maxRecDepth 100000 in
theorem lc_1 {p : Program} {l : Launch} {e : Env} {s : State} {m : MethodId} {below : List Frame} {meth : Method} {c : Code} {H : Heap} {locs : List Loc} {cells slots : Nat} {D : va_G} {cy : Nat → ClassId} {a : Nat → Nat} {M : zM} {b L i : Nat} {xs : Nat → Int32} {ls : Array Slot} (X : zCX p s m meth c #[.ref b] cL_law 4 ret RL) (hX : va_X b L xs s s.heap) (hbl : b < s.heap.size) (hL : L ≤ 3072) (hi : i + 6 ≤ L) (hcs : cells ≤ room_1.cells ∧ slots ≤ room_1.slots) (hw : zWD D cy a (zAL s) M H locs s) (hR : Rel2 M M) (hl : lv_has ls 4 (zLL b a i)) (K : ∀ (M2 : zM) (H : Heap) (locs : List Loc), zWD D cy a (zAL s) M2 H locs s → Rel2 M2 M2 → W p l e room_1 s m #[.ref b] below meth c H locs cells slots (lw_Z below #[.ref b] s) (F0 m 1431 ls [])) : W p l e room_1 s m #[.ref b] below meth c H locs cells slots (lw_Z below #[.ref b] s) (F0 m 237 ls []) := by
  obtain ⟨hx, hb, hr, hml, hown, hW, hlocks⟩ := id X
  have hbA : ¬ zAL s b := Nat.not_le.mpr hbl
  obtain ⟨r, M1, M2, e1, e2, hR2⟩ := eq_use (fun C R h => eq_weed (xs (i + 1)) (xs (i + 2)) h) hR
  refine lv_aload_n hx hb dL_law_237 rfl (lv_at hl 1 rfl) ?_
  refine zl_arg 1 hx hb hX hbl hbA hw.2.2.1 hl (by decide) (by omega) hL dL_law_238 dL_law_239 dL_law_240 dL_law_241 dL_law_242 ?_
  refine zl_arg 2 hx hb hX hbl hbA hw.2.2.1 hl (by decide) (by omega) hL dL_law_243 dL_law_244 dL_law_245 dL_law_246 dL_law_247 ?_
  refine z_qVi (n := 2) (As := [.int (xs (i + 1)), .int (xs (i + 2))]) (rest := []) X hw (kX7_weed l D cy a (xs (i + 1)) (xs (i + 2)) M r M1 e1) (zcw_V hW zm_6_16 zm_6_17 zm_6_18 zm_1_2 zm_6_19 rfl rfl (by decide +kernel) ⟨Nat.le_of_ble_eq_true rfl, Nat.le_of_ble_eq_true rfl⟩) (by decide) (zS7 rfl cy a (M 0)) rfl rfl rfl (Nat.le_of_ble_eq_true rfl) hl.1 hcs dL_law_248 (fun H locs hw => ?_)
  refine lv_aload_n hx hb dL_law_251 rfl (lv_at hl 2 rfl) ?_
  refine zl_arg 1 hx hb hX hbl hbA hw.2.2.1 hl (by decide) (by omega) hL dL_law_252 dL_law_253 dL_law_254 dL_law_255 dL_law_256 ?_
  refine zl_arg 2 hx hb hX hbl hbA hw.2.2.1 hl (by decide) (by omega) hL dL_law_257 dL_law_258 dL_law_259 dL_law_260 dL_law_261 ?_
  refine z_qVi (n := 2) (As := [.int (xs (i + 1)), .int (xs (i + 2))]) (rest := [.int r]) X hw (kX8_weed l D cy a (xs (i + 1)) (xs (i + 2)) M1 r M2 e2) (zcw_V hW zm_6_21 zm_6_22 zm_6_23 zm_1_5 zm_7_0 rfl rfl (by decide +kernel) ⟨Nat.le_of_ble_eq_true rfl, Nat.le_of_ble_eq_true rfl⟩) (by decide) (zS8 rfl cy a (M1 87)) rfl rfl rfl (Nat.le_of_ble_eq_true rfl) hl.1 hcs dL_law_262 (fun H locs hw => ?_)
  exact lv_icmp_eq (tgt := 1431) hx hb dL_law_265 (by decide) (fun _ => K M2 H locs hw hR2) (fun z => absurd rfl z)
set_option maxHeartbeats 4000000 in
set_option maxRecDepth 100000 in
theorem lc_2 {p : Program} {l : Launch} {e : Env} {s : State} {m : MethodId} {below : List Frame} {meth : Method} {c : Code} {H : Heap} {locs : List Loc} {cells slots : Nat} {D : va_G} {cy : Nat → ClassId} {a : Nat → Nat} {M : zM} {b L i : Nat} {xs : Nat → Int32} {ls : Array Slot} (X : zCX p s m meth c #[.ref b] cL_law 4 ret RL) (hX : va_X b L xs s s.heap) (hbl : b < s.heap.size) (hL : L ≤ 3072) (hi : i + 6 ≤ L) (hcs : cells ≤ room_1.cells ∧ slots ≤ room_1.slots) (hw : zWD D cy a (zAL s) M H locs s) (hR : Rel2 M M) (hl : lv_has ls 4 (zLL b a i)) (K : ∀ (M2 : zM) (H : Heap) (locs : List Loc), zWD D cy a (zAL s) M2 H locs s → Rel2 M2 M2 → W p l e room_1 s m #[.ref b] below meth c H locs cells slots (lw_Z below #[.ref b] s) (F0 m 1431 ls [])) : W p l e room_1 s m #[.ref b] below meth c H locs cells slots (lw_Z below #[.ref b] s) (F0 m 270 ls []) := by
  obtain ⟨hx, hb, hr, hml, hown, hW, hlocks⟩ := id X
  have hbA : ¬ zAL s b := Nat.not_le.mpr hbl
  obtain ⟨r, M1, M2, e1, e2, hR2⟩ := eq_use (fun C R h => eq_frost (xs (i + 1)) h) hR
  refine lv_aload_n hx hb dL_law_270 rfl (lv_at hl 1 rfl) ?_
  refine zl_arg 1 hx hb hX hbl hbA hw.2.2.1 hl (by decide) (by omega) hL dL_law_271 dL_law_272 dL_law_273 dL_law_274 dL_law_275 ?_
  refine z_qVi (n := 1) (As := [.int (xs (i + 1))]) (rest := []) X hw (kX7_frost l D cy a (xs (i + 1)) M r M1 e1) (zcw_V hW zm_7_4 zm_7_5 zm_7_6 zm_1_2 zm_7_7 rfl rfl (by decide +kernel) ⟨Nat.le_of_ble_eq_true rfl, Nat.le_of_ble_eq_true rfl⟩) (by decide) (zS7 rfl cy a (M 0)) rfl rfl rfl (Nat.le_of_ble_eq_true rfl) hl.1 hcs dL_law_276 (fun H locs hw => ?_)
  refine lv_aload_n hx hb dL_law_279 rfl (lv_at hl 2 rfl) ?_
  refine zl_arg 1 hx hb hX hbl hbA hw.2.2.1 hl (by decide) (by omega) hL dL_law_280 dL_law_281 dL_law_282 dL_law_283 dL_law_284 ?_
  refine z_qVi (n := 1) (As := [.int (xs (i + 1))]) (rest := [.int r]) X hw (kX8_frost l D cy a (xs (i + 1)) M1 r M2 e2) (zcw_V hW zm_7_9 zm_7_10 zm_7_11 zm_1_5 zm_7_12 rfl rfl (by decide +kernel) ⟨Nat.le_of_ble_eq_true rfl, Nat.le_of_ble_eq_true rfl⟩) (by decide) (zS8 rfl cy a (M1 87)) rfl rfl rfl (Nat.le_of_ble_eq_true rfl) hl.1 hcs dL_law_285 (fun H locs hw => ?_)
  exact lv_icmp_eq (tgt := 1431) hx hb dL_law_288 (by decide) (fun _ => K M2 H locs hw hR2) (fun z => absurd rfl z)
set_option maxHeartbeats 4000000 in
set_option maxRecDepth 100000 in
theorem lc_3 {p : Program} {l : Launch} {e : Env} {s : State} {m : MethodId} {below : List Frame} {meth : Method} {c : Code} {H : Heap} {locs : List Loc} {cells slots : Nat} {D : va_G} {cy : Nat → ClassId} {a : Nat → Nat} {M : zM} {b L i : Nat} {xs : Nat → Int32} {ls : Array Slot} (X : zCX p s m meth c #[.ref b] cL_law 4 ret RL) (hX : va_X b L xs s s.heap) (hbl : b < s.heap.size) (hL : L ≤ 3072) (hi : i + 6 ≤ L) (hcs : cells ≤ room_1.cells ∧ slots ≤ room_1.slots) (hw : zWD D cy a (zAL s) M H locs s) (hR : Rel2 M M) (hl : lv_has ls 4 (zLL b a i)) (K : ∀ (M2 : zM) (H : Heap) (locs : List Loc), zWD D cy a (zAL s) M2 H locs s → Rel2 M2 M2 → W p l e room_1 s m #[.ref b] below meth c H locs cells slots (lw_Z below #[.ref b] s) (F0 m 1431 ls [])) : W p l e room_1 s m #[.ref b] below meth c H locs cells slots (lw_Z below #[.ref b] s) (F0 m 293 ls []) := by
  obtain ⟨hx, hb, hr, hml, hown, hW, hlocks⟩ := id X
  have hbA : ¬ zAL s b := Nat.not_le.mpr hbl
  obtain ⟨r, M1, M2, e1, e2, hR2⟩ := eq_use (fun C R h => eq_owe (xs (i + 1)) (xs (i + 2)) h) hR
  refine lv_aload_n hx hb dL_law_293 rfl (lv_at hl 1 rfl) ?_
  refine zl_arg 1 hx hb hX hbl hbA hw.2.2.1 hl (by decide) (by omega) hL dL_law_294 dL_law_295 dL_law_296 dL_law_297 dL_law_298 ?_
  refine zl_arg 2 hx hb hX hbl hbA hw.2.2.1 hl (by decide) (by omega) hL dL_law_299 dL_law_300 dL_law_301 dL_law_302 dL_law_303 ?_
  refine z_qVi (n := 2) (As := [.int (xs (i + 1)), .int (xs (i + 2))]) (rest := []) X hw (kX7_owe l D cy a (xs (i + 1)) (xs (i + 2)) M r M1 e1) (zcw_V hW zm_7_13 zm_7_14 zm_7_15 zm_1_2 zm_7_16 rfl rfl (by decide +kernel) ⟨Nat.le_of_ble_eq_true rfl, Nat.le_of_ble_eq_true rfl⟩) (by decide) (zS7 rfl cy a (M 0)) rfl rfl rfl (Nat.le_of_ble_eq_true rfl) hl.1 hcs dL_law_304 (fun H locs hw => ?_)
  refine lv_aload_n hx hb dL_law_307 rfl (lv_at hl 2 rfl) ?_
  refine zl_arg 1 hx hb hX hbl hbA hw.2.2.1 hl (by decide) (by omega) hL dL_law_308 dL_law_309 dL_law_310 dL_law_311 dL_law_312 ?_
  refine zl_arg 2 hx hb hX hbl hbA hw.2.2.1 hl (by decide) (by omega) hL dL_law_313 dL_law_314 dL_law_315 dL_law_316 dL_law_317 ?_
  refine z_qVi (n := 2) (As := [.int (xs (i + 1)), .int (xs (i + 2))]) (rest := [.int r]) X hw (kX8_owe l D cy a (xs (i + 1)) (xs (i + 2)) M1 r M2 e2) (zcw_V hW zm_7_19 zm_7_20 zm_7_21 zm_1_5 zm_7_22 rfl rfl (by decide +kernel) ⟨Nat.le_of_ble_eq_true rfl, Nat.le_of_ble_eq_true rfl⟩) (by decide) (zS8 rfl cy a (M1 87)) rfl rfl rfl (Nat.le_of_ble_eq_true rfl) hl.1 hcs dL_law_318 (fun H locs hw => ?_)
  exact lv_icmp_eq (tgt := 1431) hx hb dL_law_321 (by decide) (fun _ => K M2 H locs hw hR2) (fun z => absurd rfl z)
set_option maxHeartbeats 4000000 in
set_option maxRecDepth 100000 in
theorem lc_4 {p : Program} {l : Launch} {e : Env} {s : State} {m : MethodId} {below : List Frame} {meth : Method} {c : Code} {H : Heap} {locs : List Loc} {cells slots : Nat} {D : va_G} {cy : Nat → ClassId} {a : Nat → Nat} {M : zM} {b L i : Nat} {xs : Nat → Int32} {ls : Array Slot} (X : zCX p s m meth c #[.ref b] cL_law 4 ret RL) (hX : va_X b L xs s s.heap) (hbl : b < s.heap.size) (hL : L ≤ 3072) (hi : i + 6 ≤ L) (hcs : cells ≤ room_1.cells ∧ slots ≤ room_1.slots) (hw : zWD D cy a (zAL s) M H locs s) (hR : Rel2 M M) (hl : lv_has ls 4 (zLL b a i)) (K : ∀ (M2 : zM) (H : Heap) (locs : List Loc), zWD D cy a (zAL s) M2 H locs s → Rel2 M2 M2 → W p l e room_1 s m #[.ref b] below meth c H locs cells slots (lw_Z below #[.ref b] s) (F0 m 1431 ls [])) : W p l e room_1 s m #[.ref b] below meth c H locs cells slots (lw_Z below #[.ref b] s) (F0 m 326 ls []) := by
  obtain ⟨hx, hb, hr, hml, hown, hW, hlocks⟩ := id X
  have hbA : ¬ zAL s b := Nat.not_le.mpr hbl
  obtain ⟨r, M1, M2, e1, e2, hR2⟩ := eq_use (fun C R h => eq_familyIs (xs (i + 1)) (xs (i + 2)) h) hR
  refine lv_aload_n hx hb dL_law_326 rfl (lv_at hl 1 rfl) ?_
  refine zl_arg 1 hx hb hX hbl hbA hw.2.2.1 hl (by decide) (by omega) hL dL_law_327 dL_law_328 dL_law_329 dL_law_330 dL_law_331 ?_
  refine zl_arg 2 hx hb hX hbl hbA hw.2.2.1 hl (by decide) (by omega) hL dL_law_332 dL_law_333 dL_law_334 dL_law_335 dL_law_336 ?_
  refine z_qVi (n := 2) (As := [.int (xs (i + 1)), .int (xs (i + 2))]) (rest := []) X hw (kX7_familyIs l D cy a (xs (i + 1)) (xs (i + 2)) M r M1 e1) (zcw_V hW zm_8_3 zm_8_4 zm_8_5 zm_1_2 zm_8_6 rfl rfl (by decide +kernel) ⟨Nat.le_of_ble_eq_true rfl, Nat.le_of_ble_eq_true rfl⟩) (by decide) (zS7 rfl cy a (M 0)) rfl rfl rfl (Nat.le_of_ble_eq_true rfl) hl.1 hcs dL_law_337 (fun H locs hw => ?_)
  refine lv_aload_n hx hb dL_law_340 rfl (lv_at hl 2 rfl) ?_
  refine zl_arg 1 hx hb hX hbl hbA hw.2.2.1 hl (by decide) (by omega) hL dL_law_341 dL_law_342 dL_law_343 dL_law_344 dL_law_345 ?_
  refine zl_arg 2 hx hb hX hbl hbA hw.2.2.1 hl (by decide) (by omega) hL dL_law_346 dL_law_347 dL_law_348 dL_law_349 dL_law_350 ?_
  refine z_qVi (n := 2) (As := [.int (xs (i + 1)), .int (xs (i + 2))]) (rest := [.int r]) X hw (kX8_familyIs l D cy a (xs (i + 1)) (xs (i + 2)) M1 r M2 e2) (zcw_V hW zm_8_21 zm_8_22 zm_8_23 zm_1_5 zm_9_0 rfl rfl (by decide +kernel) ⟨Nat.le_of_ble_eq_true rfl, Nat.le_of_ble_eq_true rfl⟩) (by decide) (zS8 rfl cy a (M1 87)) rfl rfl rfl (Nat.le_of_ble_eq_true rfl) hl.1 hcs dL_law_351 (fun H locs hw => ?_)
  exact lv_icmp_eq (tgt := 1431) hx hb dL_law_354 (by decide) (fun _ => K M2 H locs hw hR2) (fun z => absurd rfl z)
set_option maxHeartbeats 4000000 in
set_option maxRecDepth 100000 in
theorem lc_5 {p : Program} {l : Launch} {e : Env} {s : State} {m : MethodId} {below : List Frame} {meth : Method} {c : Code} {H : Heap} {locs : List Loc} {cells slots : Nat} {D : va_G} {cy : Nat → ClassId} {a : Nat → Nat} {M : zM} {b L i : Nat} {xs : Nat → Int32} {ls : Array Slot} (X : zCX p s m meth c #[.ref b] cL_law 4 ret RL) (hX : va_X b L xs s s.heap) (hbl : b < s.heap.size) (hL : L ≤ 3072) (hi : i + 6 ≤ L) (hcs : cells ≤ room_1.cells ∧ slots ≤ room_1.slots) (hw : zWD D cy a (zAL s) M H locs s) (hR : Rel2 M M) (hl : lv_has ls 4 (zLL b a i)) (K : ∀ (M2 : zM) (H : Heap) (locs : List Loc), zWD D cy a (zAL s) M2 H locs s → Rel2 M2 M2 → W p l e room_1 s m #[.ref b] below meth c H locs cells slots (lw_Z below #[.ref b] s) (F0 m 1431 ls [])) : W p l e room_1 s m #[.ref b] below meth c H locs cells slots (lw_Z below #[.ref b] s) (F0 m 359 ls []) := by
  obtain ⟨hx, hb, hr, hml, hown, hW, hlocks⟩ := id X
  have hbA : ¬ zAL s b := Nat.not_le.mpr hbl
  obtain ⟨r, M1, M2, e1, e2, hR2⟩ := eq_use (fun C R h => eq_wheel (xs (i + 1)) (xs (i + 2)) h) hR
  refine lv_aload_n hx hb dL_law_359 rfl (lv_at hl 1 rfl) ?_
  refine zl_arg 1 hx hb hX hbl hbA hw.2.2.1 hl (by decide) (by omega) hL dL_law_360 dL_law_361 dL_law_362 dL_law_363 dL_law_364 ?_
  refine zl_arg 2 hx hb hX hbl hbA hw.2.2.1 hl (by decide) (by omega) hL dL_law_365 dL_law_366 dL_law_367 dL_law_368 dL_law_369 ?_
  refine z_qVi (n := 2) (As := [.int (xs (i + 1)), .int (xs (i + 2))]) (rest := []) X hw (kX7_wheel l D cy a (xs (i + 1)) (xs (i + 2)) M r M1 e1) (zcw_V hW zm_9_21 zm_9_22 zm_9_23 zm_1_2 zm_10_0 rfl rfl (by decide +kernel) ⟨Nat.le_of_ble_eq_true rfl, Nat.le_of_ble_eq_true rfl⟩) (by decide) (zS7 rfl cy a (M 0)) rfl rfl rfl (Nat.le_of_ble_eq_true rfl) hl.1 hcs dL_law_370 (fun H locs hw => ?_)
  refine lv_aload_n hx hb dL_law_373 rfl (lv_at hl 2 rfl) ?_
  refine zl_arg 1 hx hb hX hbl hbA hw.2.2.1 hl (by decide) (by omega) hL dL_law_374 dL_law_375 dL_law_376 dL_law_377 dL_law_378 ?_
  refine zl_arg 2 hx hb hX hbl hbA hw.2.2.1 hl (by decide) (by omega) hL dL_law_379 dL_law_380 dL_law_381 dL_law_382 dL_law_383 ?_
  refine z_qVi (n := 2) (As := [.int (xs (i + 1)), .int (xs (i + 2))]) (rest := [.int r]) X hw (kX8_wheel l D cy a (xs (i + 1)) (xs (i + 2)) M1 r M2 e2) (zcw_V hW zm_10_12 zm_10_13 zm_10_14 zm_1_5 zm_10_15 rfl rfl (by decide +kernel) ⟨Nat.le_of_ble_eq_true rfl, Nat.le_of_ble_eq_true rfl⟩) (by decide) (zS8 rfl cy a (M1 87)) rfl rfl rfl (Nat.le_of_ble_eq_true rfl) hl.1 hcs dL_law_384 (fun H locs hw => ?_)
  exact lv_icmp_eq (tgt := 1431) hx hb dL_law_387 (by decide) (fun _ => K M2 H locs hw hR2) (fun z => absurd rfl z)
set_option maxHeartbeats 4000000 in
set_option maxRecDepth 100000 in
theorem lc_6 {p : Program} {l : Launch} {e : Env} {s : State} {m : MethodId} {below : List Frame} {meth : Method} {c : Code} {H : Heap} {locs : List Loc} {cells slots : Nat} {D : va_G} {cy : Nat → ClassId} {a : Nat → Nat} {M : zM} {b L i : Nat} {xs : Nat → Int32} {ls : Array Slot} (X : zCX p s m meth c #[.ref b] cL_law 4 ret RL) (hX : va_X b L xs s s.heap) (hbl : b < s.heap.size) (hL : L ≤ 3072) (hi : i + 6 ≤ L) (hcs : cells ≤ room_1.cells ∧ slots ≤ room_1.slots) (hw : zWD D cy a (zAL s) M H locs s) (hR : Rel2 M M) (hl : lv_has ls 4 (zLL b a i)) (K : ∀ (M2 : zM) (H : Heap) (locs : List Loc), zWD D cy a (zAL s) M2 H locs s → Rel2 M2 M2 → W p l e room_1 s m #[.ref b] below meth c H locs cells slots (lw_Z below #[.ref b] s) (F0 m 1431 ls [])) : W p l e room_1 s m #[.ref b] below meth c H locs cells slots (lw_Z below #[.ref b] s) (F0 m 392 ls []) := by
  obtain ⟨hx, hb, hr, hml, hown, hW, hlocks⟩ := id X
  have hbA : ¬ zAL s b := Nat.not_le.mpr hbl
  obtain ⟨r, M1, M2, e1, e2, hR2⟩ := eq_use (fun C R h => eq_wheelIs (xs (i + 1)) (xs (i + 2)) h) hR
  refine lv_aload_n hx hb dL_law_392 rfl (lv_at hl 1 rfl) ?_
  refine zl_arg 1 hx hb hX hbl hbA hw.2.2.1 hl (by decide) (by omega) hL dL_law_393 dL_law_394 dL_law_395 dL_law_396 dL_law_397 ?_
  refine zl_arg 2 hx hb hX hbl hbA hw.2.2.1 hl (by decide) (by omega) hL dL_law_398 dL_law_399 dL_law_400 dL_law_401 dL_law_402 ?_
  refine z_qVi (n := 2) (As := [.int (xs (i + 1)), .int (xs (i + 2))]) (rest := []) X hw (kX7_wheelIs l D cy a (xs (i + 1)) (xs (i + 2)) M r M1 e1) (zcw_V hW zm_11_0 zm_11_1 zm_11_2 zm_1_2 zm_11_3 rfl rfl (by decide +kernel) ⟨Nat.le_of_ble_eq_true rfl, Nat.le_of_ble_eq_true rfl⟩) (by decide) (zS7 rfl cy a (M 0)) rfl rfl rfl (Nat.le_of_ble_eq_true rfl) hl.1 hcs dL_law_403 (fun H locs hw => ?_)
  refine lv_aload_n hx hb dL_law_406 rfl (lv_at hl 2 rfl) ?_
  refine zl_arg 1 hx hb hX hbl hbA hw.2.2.1 hl (by decide) (by omega) hL dL_law_407 dL_law_408 dL_law_409 dL_law_410 dL_law_411 ?_
  refine zl_arg 2 hx hb hX hbl hbA hw.2.2.1 hl (by decide) (by omega) hL dL_law_412 dL_law_413 dL_law_414 dL_law_415 dL_law_416 ?_
  refine z_qVi (n := 2) (As := [.int (xs (i + 1)), .int (xs (i + 2))]) (rest := [.int r]) X hw (kX8_wheelIs l D cy a (xs (i + 1)) (xs (i + 2)) M1 r M2 e2) (zcw_V hW zm_14_5 zm_14_6 zm_14_7 zm_1_5 zm_14_8 rfl rfl (by decide +kernel) ⟨Nat.le_of_ble_eq_true rfl, Nat.le_of_ble_eq_true rfl⟩) (by decide) (zS8 rfl cy a (M1 87)) rfl rfl rfl (Nat.le_of_ble_eq_true rfl) hl.1 hcs dL_law_417 (fun H locs hw => ?_)
  exact lv_icmp_eq (tgt := 1431) hx hb dL_law_420 (by decide) (fun _ => K M2 H locs hw hR2) (fun z => absurd rfl z)
set_option maxHeartbeats 4000000 in
set_option maxRecDepth 100000 in
theorem lc_7 {p : Program} {l : Launch} {e : Env} {s : State} {m : MethodId} {below : List Frame} {meth : Method} {c : Code} {H : Heap} {locs : List Loc} {cells slots : Nat} {D : va_G} {cy : Nat → ClassId} {a : Nat → Nat} {M : zM} {b L i : Nat} {xs : Nat → Int32} {ls : Array Slot} (X : zCX p s m meth c #[.ref b] cL_law 4 ret RL) (hX : va_X b L xs s s.heap) (hbl : b < s.heap.size) (hL : L ≤ 3072) (hi : i + 6 ≤ L) (hcs : cells ≤ room_1.cells ∧ slots ≤ room_1.slots) (hw : zWD D cy a (zAL s) M H locs s) (hR : Rel2 M M) (hl : lv_has ls 4 (zLL b a i)) (K : ∀ (M2 : zM) (H : Heap) (locs : List Loc), zWD D cy a (zAL s) M2 H locs s → Rel2 M2 M2 → W p l e room_1 s m #[.ref b] below meth c H locs cells slots (lw_Z below #[.ref b] s) (F0 m 1431 ls [])) : W p l e room_1 s m #[.ref b] below meth c H locs cells slots (lw_Z below #[.ref b] s) (F0 m 425 ls []) := by
  obtain ⟨hx, hb, hr, hml, hown, hW, hlocks⟩ := id X
  have hbA : ¬ zAL s b := Nat.not_le.mpr hbl
  obtain ⟨r, M1, M2, e1, e2, hR2⟩ := eq_use (fun C R h => eq_as (xs (i + 1)) (xs (i + 2)) h) hR
  refine lv_aload_n hx hb dL_law_425 rfl (lv_at hl 1 rfl) ?_
  refine zl_arg 1 hx hb hX hbl hbA hw.2.2.1 hl (by decide) (by omega) hL dL_law_426 dL_law_427 dL_law_428 dL_law_429 dL_law_430 ?_
  refine zl_arg 2 hx hb hX hbl hbA hw.2.2.1 hl (by decide) (by omega) hL dL_law_431 dL_law_432 dL_law_433 dL_law_434 dL_law_435 ?_
  refine z_qVi (n := 2) (As := [.int (xs (i + 1)), .int (xs (i + 2))]) (rest := []) X hw (kX7_as l D cy a (xs (i + 1)) (xs (i + 2)) M r M1 e1) (zcw_V hW zm_16_17 zm_16_18 zm_16_19 zm_1_2 zm_16_20 rfl rfl (by decide +kernel) ⟨Nat.le_of_ble_eq_true rfl, Nat.le_of_ble_eq_true rfl⟩) (by decide) (zS7 rfl cy a (M 0)) rfl rfl rfl (Nat.le_of_ble_eq_true rfl) hl.1 hcs dL_law_436 (fun H locs hw => ?_)
  refine lv_aload_n hx hb dL_law_439 rfl (lv_at hl 2 rfl) ?_
  refine zl_arg 1 hx hb hX hbl hbA hw.2.2.1 hl (by decide) (by omega) hL dL_law_440 dL_law_441 dL_law_442 dL_law_443 dL_law_444 ?_
  refine zl_arg 2 hx hb hX hbl hbA hw.2.2.1 hl (by decide) (by omega) hL dL_law_445 dL_law_446 dL_law_447 dL_law_448 dL_law_449 ?_
  refine z_qVi (n := 2) (As := [.int (xs (i + 1)), .int (xs (i + 2))]) (rest := [.int r]) X hw (kX8_as l D cy a (xs (i + 1)) (xs (i + 2)) M1 r M2 e2) (zcw_V hW zm_17_4 zm_17_5 zm_17_6 zm_1_5 zm_17_7 rfl rfl (by decide +kernel) ⟨Nat.le_of_ble_eq_true rfl, Nat.le_of_ble_eq_true rfl⟩) (by decide) (zS8 rfl cy a (M1 87)) rfl rfl rfl (Nat.le_of_ble_eq_true rfl) hl.1 hcs dL_law_450 (fun H locs hw => ?_)
  exact lv_icmp_eq (tgt := 1431) hx hb dL_law_453 (by decide) (fun _ => K M2 H locs hw hR2) (fun z => absurd rfl z)
set_option maxHeartbeats 4000000 in
set_option maxRecDepth 100000 in
theorem lc_8 {p : Program} {l : Launch} {e : Env} {s : State} {m : MethodId} {below : List Frame} {meth : Method} {c : Code} {H : Heap} {locs : List Loc} {cells slots : Nat} {D : va_G} {cy : Nat → ClassId} {a : Nat → Nat} {M : zM} {b L i : Nat} {xs : Nat → Int32} {ls : Array Slot} (X : zCX p s m meth c #[.ref b] cL_law 4 ret RL) (hX : va_X b L xs s s.heap) (hbl : b < s.heap.size) (hL : L ≤ 3072) (hi : i + 6 ≤ L) (hcs : cells ≤ room_1.cells ∧ slots ≤ room_1.slots) (hw : zWD D cy a (zAL s) M H locs s) (hR : Rel2 M M) (hl : lv_has ls 4 (zLL b a i)) (K : ∀ (M2 : zM) (H : Heap) (locs : List Loc), zWD D cy a (zAL s) M2 H locs s → Rel2 M2 M2 → W p l e room_1 s m #[.ref b] below meth c H locs cells slots (lw_Z below #[.ref b] s) (F0 m 1431 ls [])) : W p l e room_1 s m #[.ref b] below meth c H locs cells slots (lw_Z below #[.ref b] s) (F0 m 458 ls []) := by
  obtain ⟨hx, hb, hr, hml, hown, hW, hlocks⟩ := id X
  have hbA : ¬ zAL s b := Nat.not_le.mpr hbl
  obtain ⟨r, M1, M2, e1, e2, hR2⟩ := eq_use (fun C R h => eq_set (xs (i + 1)) (xs (i + 2)) (xs (i + 3)) h) hR
  refine lv_aload_n hx hb dL_law_458 rfl (lv_at hl 1 rfl) ?_
  refine zl_arg 1 hx hb hX hbl hbA hw.2.2.1 hl (by decide) (by omega) hL dL_law_459 dL_law_460 dL_law_461 dL_law_462 dL_law_463 ?_
  refine zl_arg 2 hx hb hX hbl hbA hw.2.2.1 hl (by decide) (by omega) hL dL_law_464 dL_law_465 dL_law_466 dL_law_467 dL_law_468 ?_
  refine zl_arg 3 hx hb hX hbl hbA hw.2.2.1 hl (by decide) (by omega) hL dL_law_469 dL_law_470 dL_law_471 dL_law_472 dL_law_473 ?_
  refine z_qVi (n := 3) (As := [.int (xs (i + 1)), .int (xs (i + 2)), .int (xs (i + 3))]) (rest := []) X hw (kX7_set l D cy a (xs (i + 1)) (xs (i + 2)) (xs (i + 3)) M r M1 e1) (zcw_V hW zm_17_11 zm_17_12 zm_17_13 zm_1_2 zm_17_14 rfl rfl (by decide +kernel) ⟨Nat.le_of_ble_eq_true rfl, Nat.le_of_ble_eq_true rfl⟩) (by decide) (zS7 rfl cy a (M 0)) rfl rfl rfl (Nat.le_of_ble_eq_true rfl) hl.1 hcs dL_law_474 (fun H locs hw => ?_)
  refine lv_aload_n hx hb dL_law_477 rfl (lv_at hl 2 rfl) ?_
  refine zl_arg 1 hx hb hX hbl hbA hw.2.2.1 hl (by decide) (by omega) hL dL_law_478 dL_law_479 dL_law_480 dL_law_481 dL_law_482 ?_
  refine zl_arg 2 hx hb hX hbl hbA hw.2.2.1 hl (by decide) (by omega) hL dL_law_483 dL_law_484 dL_law_485 dL_law_486 dL_law_487 ?_
  refine zl_arg 3 hx hb hX hbl hbA hw.2.2.1 hl (by decide) (by omega) hL dL_law_488 dL_law_489 dL_law_490 dL_law_491 dL_law_492 ?_
  refine z_qVi (n := 3) (As := [.int (xs (i + 1)), .int (xs (i + 2)), .int (xs (i + 3))]) (rest := [.int r]) X hw (kX8_set l D cy a (xs (i + 1)) (xs (i + 2)) (xs (i + 3)) M1 r M2 e2) (zcw_V hW zm_17_21 zm_17_22 zm_17_23 zm_1_5 zm_18_0 rfl rfl (by decide +kernel) ⟨Nat.le_of_ble_eq_true rfl, Nat.le_of_ble_eq_true rfl⟩) (by decide) (zS8 rfl cy a (M1 87)) rfl rfl rfl (Nat.le_of_ble_eq_true rfl) hl.1 hcs dL_law_493 (fun H locs hw => ?_)
  exact lv_icmp_eq (tgt := 1431) hx hb dL_law_496 (by decide) (fun _ => K M2 H locs hw hR2) (fun z => absurd rfl z)
set_option maxHeartbeats 4000000 in
set_option maxRecDepth 100000 in
theorem lc_9 {p : Program} {l : Launch} {e : Env} {s : State} {m : MethodId} {below : List Frame} {meth : Method} {c : Code} {H : Heap} {locs : List Loc} {cells slots : Nat} {D : va_G} {cy : Nat → ClassId} {a : Nat → Nat} {M : zM} {b L i : Nat} {xs : Nat → Int32} {ls : Array Slot} (X : zCX p s m meth c #[.ref b] cL_law 4 ret RL) (hX : va_X b L xs s s.heap) (hbl : b < s.heap.size) (hL : L ≤ 3072) (hi : i + 6 ≤ L) (hcs : cells ≤ room_1.cells ∧ slots ≤ room_1.slots) (hw : zWD D cy a (zAL s) M H locs s) (hR : Rel2 M M) (hl : lv_has ls 4 (zLL b a i)) (K : ∀ (M2 : zM) (H : Heap) (locs : List Loc), zWD D cy a (zAL s) M2 H locs s → Rel2 M2 M2 → W p l e room_1 s m #[.ref b] below meth c H locs cells slots (lw_Z below #[.ref b] s) (F0 m 1431 ls [])) : W p l e room_1 s m #[.ref b] below meth c H locs cells slots (lw_Z below #[.ref b] s) (F0 m 501 ls []) := by
  obtain ⟨hx, hb, hr, hml, hown, hW, hlocks⟩ := id X
  have hbA : ¬ zAL s b := Nat.not_le.mpr hbl
  obtain ⟨r, M1, M2, e1, e2, hR2⟩ := eq_use (fun C R h => eq_flows (xs (i + 1)) h) hR
  refine lv_aload_n hx hb dL_law_501 rfl (lv_at hl 1 rfl) ?_
  refine zl_arg 1 hx hb hX hbl hbA hw.2.2.1 hl (by decide) (by omega) hL dL_law_502 dL_law_503 dL_law_504 dL_law_505 dL_law_506 ?_
  refine z_qVi (n := 1) (As := [.int (xs (i + 1))]) (rest := []) X hw (kX7_flows l D cy a (xs (i + 1)) M r M1 e1) (zcw_V hW zm_18_5 zm_18_6 zm_18_7 zm_1_2 zm_18_8 rfl rfl (by decide +kernel) ⟨Nat.le_of_ble_eq_true rfl, Nat.le_of_ble_eq_true rfl⟩) (by decide) (zS7 rfl cy a (M 0)) rfl rfl rfl (Nat.le_of_ble_eq_true rfl) hl.1 hcs dL_law_507 (fun H locs hw => ?_)
  refine lv_aload_n hx hb dL_law_510 rfl (lv_at hl 2 rfl) ?_
  refine zl_arg 1 hx hb hX hbl hbA hw.2.2.1 hl (by decide) (by omega) hL dL_law_511 dL_law_512 dL_law_513 dL_law_514 dL_law_515 ?_
  refine z_qVi (n := 1) (As := [.int (xs (i + 1))]) (rest := [.int r]) X hw (kX8_flows l D cy a (xs (i + 1)) M1 r M2 e2) (zcw_V hW zm_18_11 zm_18_12 zm_18_13 zm_1_5 zm_18_14 rfl rfl (by decide +kernel) ⟨Nat.le_of_ble_eq_true rfl, Nat.le_of_ble_eq_true rfl⟩) (by decide) (zS8 rfl cy a (M1 87)) rfl rfl rfl (Nat.le_of_ble_eq_true rfl) hl.1 hcs dL_law_516 (fun H locs hw => ?_)
  exact lv_icmp_eq (tgt := 1431) hx hb dL_law_519 (by decide) (fun _ => K M2 H locs hw hR2) (fun z => absurd rfl z)
set_option maxHeartbeats 4000000 in
set_option maxRecDepth 100000 in
theorem lc_10 {p : Program} {l : Launch} {e : Env} {s : State} {m : MethodId} {below : List Frame} {meth : Method} {c : Code} {H : Heap} {locs : List Loc} {cells slots : Nat} {D : va_G} {cy : Nat → ClassId} {a : Nat → Nat} {M : zM} {b L i : Nat} {xs : Nat → Int32} {ls : Array Slot} (X : zCX p s m meth c #[.ref b] cL_law 4 ret RL) (hX : va_X b L xs s s.heap) (hbl : b < s.heap.size) (hL : L ≤ 3072) (hi : i + 6 ≤ L) (hcs : cells ≤ room_1.cells ∧ slots ≤ room_1.slots) (hw : zWD D cy a (zAL s) M H locs s) (hR : Rel2 M M) (hl : lv_has ls 4 (zLL b a i)) (K : ∀ (M2 : zM) (H : Heap) (locs : List Loc), zWD D cy a (zAL s) M2 H locs s → Rel2 M2 M2 → W p l e room_1 s m #[.ref b] below meth c H locs cells slots (lw_Z below #[.ref b] s) (F0 m 1431 ls [])) : W p l e room_1 s m #[.ref b] below meth c H locs cells slots (lw_Z below #[.ref b] s) (F0 m 524 ls []) := by
  obtain ⟨hx, hb, hr, hml, hown, hW, hlocks⟩ := id X
  have hbA : ¬ zAL s b := Nat.not_le.mpr hbl
  obtain ⟨r, M1, M2, e1, e2, hR2⟩ := eq_use (fun C R h => eq_feed (((xs (i + 1)).toInt64 <<< ((32 : Int32).toInt64 &&& 63)) ||| ((xs (i + 2)).toInt64 &&& 4294967295)) (xs (i + 3)) h) hR
  refine lv_aload_n hx hb dL_law_524 rfl (lv_at hl 1 rfl) ?_
  refine zl_arg 1 hx hb hX hbl hbA hw.2.2.1 hl (by decide) (by omega) hL dL_law_525 dL_law_526 dL_law_527 dL_law_528 dL_law_529 ?_
  refine lv_i2l hx hb dL_law_530 rfl ?_
  refine lv_bipush (v := 32) hx hb dL_law_531 (by decide) ?_
  refine lv_lshl hx hb dL_law_533 rfl ?_
  refine zl_arg 2 hx hb hX hbl hbA hw.2.2.1 hl (by decide) (by omega) hL dL_law_534 dL_law_535 dL_law_536 dL_law_537 dL_law_538 ?_
  refine lv_i2l hx hb dL_law_539 rfl ?_
  refine lv_ldc2 (v := 4294967295) hx hb hown (hW _ zm_1_6) dL_law_540 ?_
  refine lv_land hx hb dL_law_543 ?_
  refine lv_lor hx hb dL_law_544 ?_
  refine zl_arg 3 hx hb hX hbl hbA hw.2.2.1 hl (by decide) (by omega) hL dL_law_545 dL_law_546 dL_law_547 dL_law_548 dL_law_549 ?_
  refine z_qVi (n := 2) (As := [.long (((xs (i + 1)).toInt64 <<< ((32 : Int32).toInt64 &&& 63)) ||| ((xs (i + 2)).toInt64 &&& 4294967295)), .int (xs (i + 3))]) (rest := []) X hw (kX7_feed l D cy a (((xs (i + 1)).toInt64 <<< ((32 : Int32).toInt64 &&& 63)) ||| ((xs (i + 2)).toInt64 &&& 4294967295)) (xs (i + 3)) M r M1 e1) (zcw_V hW zm_18_15 zm_18_16 zm_18_17 zm_1_2 zm_18_18 rfl rfl (by decide +kernel) ⟨Nat.le_of_ble_eq_true rfl, Nat.le_of_ble_eq_true rfl⟩) (by decide) (zS7 rfl cy a (M 0)) rfl rfl rfl (Nat.le_of_ble_eq_true rfl) hl.1 hcs dL_law_550 (fun H locs hw => ?_)
  refine lv_aload_n hx hb dL_law_553 rfl (lv_at hl 2 rfl) ?_
  refine zl_arg 1 hx hb hX hbl hbA hw.2.2.1 hl (by decide) (by omega) hL dL_law_554 dL_law_555 dL_law_556 dL_law_557 dL_law_558 ?_
  refine lv_i2l hx hb dL_law_559 rfl ?_
  refine lv_bipush (v := 32) hx hb dL_law_560 (by decide) ?_
  refine lv_lshl hx hb dL_law_562 rfl ?_
  refine zl_arg 2 hx hb hX hbl hbA hw.2.2.1 hl (by decide) (by omega) hL dL_law_563 dL_law_564 dL_law_565 dL_law_566 dL_law_567 ?_
  refine lv_i2l hx hb dL_law_568 rfl ?_
  refine lv_ldc2 (v := 4294967295) hx hb hown (hW _ zm_1_6) dL_law_569 ?_
  refine lv_land hx hb dL_law_572 ?_
  refine lv_lor hx hb dL_law_573 ?_
  refine zl_arg 3 hx hb hX hbl hbA hw.2.2.1 hl (by decide) (by omega) hL dL_law_574 dL_law_575 dL_law_576 dL_law_577 dL_law_578 ?_
  refine z_qVi (n := 2) (As := [.long (((xs (i + 1)).toInt64 <<< ((32 : Int32).toInt64 &&& 63)) ||| ((xs (i + 2)).toInt64 &&& 4294967295)), .int (xs (i + 3))]) (rest := [.int r]) X hw (kX8_feed l D cy a (((xs (i + 1)).toInt64 <<< ((32 : Int32).toInt64 &&& 63)) ||| ((xs (i + 2)).toInt64 &&& 4294967295)) (xs (i + 3)) M1 r M2 e2) (zcw_V hW zm_19_1 zm_19_2 zm_19_3 zm_1_5 zm_19_4 rfl rfl (by decide +kernel) ⟨Nat.le_of_ble_eq_true rfl, Nat.le_of_ble_eq_true rfl⟩) (by decide) (zS8 rfl cy a (M1 87)) rfl rfl rfl (Nat.le_of_ble_eq_true rfl) hl.1 hcs dL_law_579 (fun H locs hw => ?_)
  exact lv_icmp_eq (tgt := 1431) hx hb dL_law_582 (by decide) (fun _ => K M2 H locs hw hR2) (fun z => absurd rfl z)
set_option maxHeartbeats 4000000 in
set_option maxRecDepth 100000 in
theorem lc_11 {p : Program} {l : Launch} {e : Env} {s : State} {m : MethodId} {below : List Frame} {meth : Method} {c : Code} {H : Heap} {locs : List Loc} {cells slots : Nat} {D : va_G} {cy : Nat → ClassId} {a : Nat → Nat} {M : zM} {b L i : Nat} {xs : Nat → Int32} {ls : Array Slot} (X : zCX p s m meth c #[.ref b] cL_law 4 ret RL) (hX : va_X b L xs s s.heap) (hbl : b < s.heap.size) (hL : L ≤ 3072) (hi : i + 6 ≤ L) (hcs : cells ≤ room_1.cells ∧ slots ≤ room_1.slots) (hw : zWD D cy a (zAL s) M H locs s) (hR : Rel2 M M) (hl : lv_has ls 4 (zLL b a i)) (K : ∀ (M2 : zM) (H : Heap) (locs : List Loc), zWD D cy a (zAL s) M2 H locs s → Rel2 M2 M2 → W p l e room_1 s m #[.ref b] below meth c H locs cells slots (lw_Z below #[.ref b] s) (F0 m 1431 ls [])) : W p l e room_1 s m #[.ref b] below meth c H locs cells slots (lw_Z below #[.ref b] s) (F0 m 587 ls []) := by
  obtain ⟨hx, hb, hr, hml, hown, hW, hlocks⟩ := id X
  have hbA : ¬ zAL s b := Nat.not_le.mpr hbl
  obtain ⟨r, M1, M2, e1, e2, hR2⟩ := eq_use (fun C R h => eq_text (xs (i + 1)) h) hR
  refine lv_aload_n hx hb dL_law_587 rfl (lv_at hl 1 rfl) ?_
  refine zl_arg 1 hx hb hX hbl hbA hw.2.2.1 hl (by decide) (by omega) hL dL_law_588 dL_law_589 dL_law_590 dL_law_591 dL_law_592 ?_
  refine z_qVi (n := 1) (As := [.int (xs (i + 1))]) (rest := []) X hw (kX7_text l D cy a (xs (i + 1)) M r M1 e1) (zcw_V hW zm_19_6 zm_19_7 zm_19_8 zm_1_2 zm_19_9 rfl rfl (by decide +kernel) ⟨Nat.le_of_ble_eq_true rfl, Nat.le_of_ble_eq_true rfl⟩) (by decide) (zS7 rfl cy a (M 0)) rfl rfl rfl (Nat.le_of_ble_eq_true rfl) hl.1 hcs dL_law_593 (fun H locs hw => ?_)
  refine lv_aload_n hx hb dL_law_596 rfl (lv_at hl 2 rfl) ?_
  refine zl_arg 1 hx hb hX hbl hbA hw.2.2.1 hl (by decide) (by omega) hL dL_law_597 dL_law_598 dL_law_599 dL_law_600 dL_law_601 ?_
  refine z_qVi (n := 1) (As := [.int (xs (i + 1))]) (rest := [.int r]) X hw (kX8_text l D cy a (xs (i + 1)) M1 r M2 e2) (zcw_V hW zm_25_10 zm_25_11 zm_25_12 zm_1_5 zm_25_13 rfl rfl (by decide +kernel) ⟨Nat.le_of_ble_eq_true rfl, Nat.le_of_ble_eq_true rfl⟩) (by decide) (zS8 rfl cy a (M1 87)) rfl rfl rfl (Nat.le_of_ble_eq_true rfl) hl.1 hcs dL_law_602 (fun H locs hw => ?_)
  exact lv_icmp_eq (tgt := 1431) hx hb dL_law_605 (by decide) (fun _ => K M2 H locs hw hR2) (fun z => absurd rfl z)
set_option maxHeartbeats 4000000 in
set_option maxRecDepth 100000 in
theorem lc_12 {p : Program} {l : Launch} {e : Env} {s : State} {m : MethodId} {below : List Frame} {meth : Method} {c : Code} {H : Heap} {locs : List Loc} {cells slots : Nat} {D : va_G} {cy : Nat → ClassId} {a : Nat → Nat} {M : zM} {b L i : Nat} {xs : Nat → Int32} {ls : Array Slot} (X : zCX p s m meth c #[.ref b] cL_law 4 ret RL) (hX : va_X b L xs s s.heap) (hbl : b < s.heap.size) (hL : L ≤ 3072) (hi : i + 6 ≤ L) (hcs : cells ≤ room_1.cells ∧ slots ≤ room_1.slots) (hw : zWD D cy a (zAL s) M H locs s) (hR : Rel2 M M) (hl : lv_has ls 4 (zLL b a i)) (K : ∀ (M2 : zM) (H : Heap) (locs : List Loc), zWD D cy a (zAL s) M2 H locs s → Rel2 M2 M2 → W p l e room_1 s m #[.ref b] below meth c H locs cells slots (lw_Z below #[.ref b] s) (F0 m 1431 ls [])) : W p l e room_1 s m #[.ref b] below meth c H locs cells slots (lw_Z below #[.ref b] s) (F0 m 610 ls []) := by
  obtain ⟨hx, hb, hr, hml, hown, hW, hlocks⟩ := id X
  have hbA : ¬ zAL s b := Nat.not_le.mpr hbl
  obtain ⟨r, M1, M2, e1, e2, hR2⟩ := eq_use (fun C R h => eq_untell (xs (i + 1)) h) hR
  refine lv_aload_n hx hb dL_law_610 rfl (lv_at hl 1 rfl) ?_
  refine zl_arg 1 hx hb hX hbl hbA hw.2.2.1 hl (by decide) (by omega) hL dL_law_611 dL_law_612 dL_law_613 dL_law_614 dL_law_615 ?_
  refine z_qVi (n := 1) (As := [.int (xs (i + 1))]) (rest := []) X hw (kX7_untell l D cy a (xs (i + 1)) M r M1 e1) (zcw_V hW zm_27_10 zm_27_11 zm_27_12 zm_1_2 zm_27_13 rfl rfl (by decide +kernel) ⟨Nat.le_of_ble_eq_true rfl, Nat.le_of_ble_eq_true rfl⟩) (by decide) (zS7 rfl cy a (M 0)) rfl rfl rfl (Nat.le_of_ble_eq_true rfl) hl.1 hcs dL_law_616 (fun H locs hw => ?_)
  refine lv_aload_n hx hb dL_law_619 rfl (lv_at hl 2 rfl) ?_
  refine zl_arg 1 hx hb hX hbl hbA hw.2.2.1 hl (by decide) (by omega) hL dL_law_620 dL_law_621 dL_law_622 dL_law_623 dL_law_624 ?_
  refine z_qVi (n := 1) (As := [.int (xs (i + 1))]) (rest := [.int r]) X hw (kX8_untell l D cy a (xs (i + 1)) M1 r M2 e2) (zcw_V hW zm_27_15 zm_27_16 zm_27_17 zm_1_5 zm_27_18 rfl rfl (by decide +kernel) ⟨Nat.le_of_ble_eq_true rfl, Nat.le_of_ble_eq_true rfl⟩) (by decide) (zS8 rfl cy a (M1 87)) rfl rfl rfl (Nat.le_of_ble_eq_true rfl) hl.1 hcs dL_law_625 (fun H locs hw => ?_)
  exact lv_icmp_eq (tgt := 1431) hx hb dL_law_628 (by decide) (fun _ => K M2 H locs hw hR2) (fun z => absurd rfl z)
set_option maxHeartbeats 4000000 in
set_option maxRecDepth 100000 in
theorem lc_13 {p : Program} {l : Launch} {e : Env} {s : State} {m : MethodId} {below : List Frame} {meth : Method} {c : Code} {H : Heap} {locs : List Loc} {cells slots : Nat} {D : va_G} {cy : Nat → ClassId} {a : Nat → Nat} {M : zM} {b L i : Nat} {xs : Nat → Int32} {ls : Array Slot} (X : zCX p s m meth c #[.ref b] cL_law 4 ret RL) (hX : va_X b L xs s s.heap) (hbl : b < s.heap.size) (hL : L ≤ 3072) (hi : i + 6 ≤ L) (hcs : cells ≤ room_1.cells ∧ slots ≤ room_1.slots) (hw : zWD D cy a (zAL s) M H locs s) (hR : Rel2 M M) (hl : lv_has ls 4 (zLL b a i)) (K : ∀ (M2 : zM) (H : Heap) (locs : List Loc), zWD D cy a (zAL s) M2 H locs s → Rel2 M2 M2 → W p l e room_1 s m #[.ref b] below meth c H locs cells slots (lw_Z below #[.ref b] s) (F0 m 1431 ls [])) : W p l e room_1 s m #[.ref b] below meth c H locs cells slots (lw_Z below #[.ref b] s) (F0 m 633 ls []) := by
  obtain ⟨hx, hb, hr, hml, hown, hW, hlocks⟩ := id X
  have hbA : ¬ zAL s b := Nat.not_le.mpr hbl
  obtain ⟨r, M1, M2, e1, e2, hR2⟩ := eq_use (fun C R h => eq_hours (xs (i + 1)) h) hR
  refine lv_aload_n hx hb dL_law_633 rfl (lv_at hl 1 rfl) ?_
  refine zl_arg 1 hx hb hX hbl hbA hw.2.2.1 hl (by decide) (by omega) hL dL_law_634 dL_law_635 dL_law_636 dL_law_637 dL_law_638 ?_
  refine z_qVi (n := 1) (As := [.int (xs (i + 1))]) (rest := []) X hw (kX7_hours l D cy a (xs (i + 1)) M r M1 e1) (zcw_V hW zm_27_19 zm_27_20 zm_27_21 zm_1_2 zm_27_22 rfl rfl (by decide +kernel) ⟨Nat.le_of_ble_eq_true rfl, Nat.le_of_ble_eq_true rfl⟩) (by decide) (zS7 rfl cy a (M 0)) rfl rfl rfl (Nat.le_of_ble_eq_true rfl) hl.1 hcs dL_law_639 (fun H locs hw => ?_)
  refine lv_aload_n hx hb dL_law_642 rfl (lv_at hl 2 rfl) ?_
  refine zl_arg 1 hx hb hX hbl hbA hw.2.2.1 hl (by decide) (by omega) hL dL_law_643 dL_law_644 dL_law_645 dL_law_646 dL_law_647 ?_
  refine z_qVi (n := 1) (As := [.int (xs (i + 1))]) (rest := [.int r]) X hw (kX8_hours l D cy a (xs (i + 1)) M1 r M2 e2) (zcw_V hW zm_28_18 zm_28_19 zm_28_20 zm_1_5 zm_28_21 rfl rfl (by decide +kernel) ⟨Nat.le_of_ble_eq_true rfl, Nat.le_of_ble_eq_true rfl⟩) (by decide) (zS8 rfl cy a (M1 87)) rfl rfl rfl (Nat.le_of_ble_eq_true rfl) hl.1 hcs dL_law_648 (fun H locs hw => ?_)
  exact lv_icmp_eq (tgt := 1431) hx hb dL_law_651 (by decide) (fun _ => K M2 H locs hw hR2) (fun z => absurd rfl z)
set_option maxHeartbeats 4000000 in
set_option maxRecDepth 100000 in
theorem lc_14 {p : Program} {l : Launch} {e : Env} {s : State} {m : MethodId} {below : List Frame} {meth : Method} {c : Code} {H : Heap} {locs : List Loc} {cells slots : Nat} {D : va_G} {cy : Nat → ClassId} {a : Nat → Nat} {M : zM} {b L i : Nat} {xs : Nat → Int32} {ls : Array Slot} (X : zCX p s m meth c #[.ref b] cL_law 4 ret RL) (hX : va_X b L xs s s.heap) (hbl : b < s.heap.size) (hL : L ≤ 3072) (hi : i + 6 ≤ L) (hcs : cells ≤ room_1.cells ∧ slots ≤ room_1.slots) (hw : zWD D cy a (zAL s) M H locs s) (hR : Rel2 M M) (hl : lv_has ls 4 (zLL b a i)) (K : ∀ (M2 : zM) (H : Heap) (locs : List Loc), zWD D cy a (zAL s) M2 H locs s → Rel2 M2 M2 → W p l e room_1 s m #[.ref b] below meth c H locs cells slots (lw_Z below #[.ref b] s) (F0 m 1431 ls [])) : W p l e room_1 s m #[.ref b] below meth c H locs cells slots (lw_Z below #[.ref b] s) (F0 m 656 ls []) := by
  obtain ⟨hx, hb, hr, hml, hown, hW, hlocks⟩ := id X
  have hbA : ¬ zAL s b := Nat.not_le.mpr hbl
  obtain ⟨r, M1, M2, e1, e2, hR2⟩ := eq_use (fun C R h => eq_draws (xs (i + 1)) h) hR
  refine lv_aload_n hx hb dL_law_656 rfl (lv_at hl 1 rfl) ?_
  refine zl_arg 1 hx hb hX hbl hbA hw.2.2.1 hl (by decide) (by omega) hL dL_law_657 dL_law_658 dL_law_659 dL_law_660 dL_law_661 ?_
  refine z_qVi (n := 1) (As := [.int (xs (i + 1))]) (rest := []) X hw (kX7_draws l D cy a (xs (i + 1)) M r M1 e1) (zcw_V hW zm_29_18 zm_29_19 zm_29_20 zm_1_2 zm_29_21 rfl rfl (by decide +kernel) ⟨Nat.le_of_ble_eq_true rfl, Nat.le_of_ble_eq_true rfl⟩) (by decide) (zS7 rfl cy a (M 0)) rfl rfl rfl (Nat.le_of_ble_eq_true rfl) hl.1 hcs dL_law_662 (fun H locs hw => ?_)
  refine lv_aload_n hx hb dL_law_665 rfl (lv_at hl 2 rfl) ?_
  refine zl_arg 1 hx hb hX hbl hbA hw.2.2.1 hl (by decide) (by omega) hL dL_law_666 dL_law_667 dL_law_668 dL_law_669 dL_law_670 ?_
  refine z_qVi (n := 1) (As := [.int (xs (i + 1))]) (rest := [.int r]) X hw (kX8_draws l D cy a (xs (i + 1)) M1 r M2 e2) (zcw_V hW zm_30_9 zm_30_10 zm_30_11 zm_1_5 zm_30_12 rfl rfl (by decide +kernel) ⟨Nat.le_of_ble_eq_true rfl, Nat.le_of_ble_eq_true rfl⟩) (by decide) (zS8 rfl cy a (M1 87)) rfl rfl rfl (Nat.le_of_ble_eq_true rfl) hl.1 hcs dL_law_671 (fun H locs hw => ?_)
  exact lv_icmp_eq (tgt := 1431) hx hb dL_law_674 (by decide) (fun _ => K M2 H locs hw hR2) (fun z => absurd rfl z)
set_option maxHeartbeats 4000000 in
set_option maxRecDepth 100000 in
theorem lc_15 {p : Program} {l : Launch} {e : Env} {s : State} {m : MethodId} {below : List Frame} {meth : Method} {c : Code} {H : Heap} {locs : List Loc} {cells slots : Nat} {D : va_G} {cy : Nat → ClassId} {a : Nat → Nat} {M : zM} {b L i : Nat} {xs : Nat → Int32} {ls : Array Slot} (X : zCX p s m meth c #[.ref b] cL_law 4 ret RL) (hX : va_X b L xs s s.heap) (hbl : b < s.heap.size) (hL : L ≤ 3072) (hi : i + 6 ≤ L) (hcs : cells ≤ room_1.cells ∧ slots ≤ room_1.slots) (hw : zWD D cy a (zAL s) M H locs s) (hR : Rel2 M M) (hl : lv_has ls 4 (zLL b a i)) (K : ∀ (M2 : zM) (H : Heap) (locs : List Loc), zWD D cy a (zAL s) M2 H locs s → Rel2 M2 M2 → W p l e room_1 s m #[.ref b] below meth c H locs cells slots (lw_Z below #[.ref b] s) (F0 m 1431 ls [])) : W p l e room_1 s m #[.ref b] below meth c H locs cells slots (lw_Z below #[.ref b] s) (F0 m 679 ls []) := by
  obtain ⟨hx, hb, hr, hml, hown, hW, hlocks⟩ := id X
  have hbA : ¬ zAL s b := Nat.not_le.mpr hbl
  obtain ⟨r, M1, M2, e1, e2, hR2⟩ := eq_use (fun C R h => eq_seed (xs (i + 1)) h) hR
  refine lv_aload_n hx hb dL_law_679 rfl (lv_at hl 1 rfl) ?_
  refine zl_arg 1 hx hb hX hbl hbA hw.2.2.1 hl (by decide) (by omega) hL dL_law_680 dL_law_681 dL_law_682 dL_law_683 dL_law_684 ?_
  refine z_qVi (n := 1) (As := [.int (xs (i + 1))]) (rest := []) X hw (kX7_seed l D cy a (xs (i + 1)) M r M1 e1) (zcw_V hW zm_30_18 zm_30_19 zm_30_20 zm_1_2 zm_30_21 rfl rfl (by decide +kernel) ⟨Nat.le_of_ble_eq_true rfl, Nat.le_of_ble_eq_true rfl⟩) (by decide) (zS7 rfl cy a (M 0)) rfl rfl rfl (Nat.le_of_ble_eq_true rfl) hl.1 hcs dL_law_685 (fun H locs hw => ?_)
  refine lv_aload_n hx hb dL_law_688 rfl (lv_at hl 2 rfl) ?_
  refine zl_arg 1 hx hb hX hbl hbA hw.2.2.1 hl (by decide) (by omega) hL dL_law_689 dL_law_690 dL_law_691 dL_law_692 dL_law_693 ?_
  refine z_qVi (n := 1) (As := [.int (xs (i + 1))]) (rest := [.int r]) X hw (kX8_seed l D cy a (xs (i + 1)) M1 r M2 e2) (zcw_V hW zm_30_23 zm_31_0 zm_31_1 zm_1_5 zm_31_2 rfl rfl (by decide +kernel) ⟨Nat.le_of_ble_eq_true rfl, Nat.le_of_ble_eq_true rfl⟩) (by decide) (zS8 rfl cy a (M1 87)) rfl rfl rfl (Nat.le_of_ble_eq_true rfl) hl.1 hcs dL_law_694 (fun H locs hw => ?_)
  exact lv_icmp_eq (tgt := 1431) hx hb dL_law_697 (by decide) (fun _ => K M2 H locs hw hR2) (fun z => absurd rfl z)
set_option maxHeartbeats 4000000 in
set_option maxRecDepth 100000 in
theorem lc_16 {p : Program} {l : Launch} {e : Env} {s : State} {m : MethodId} {below : List Frame} {meth : Method} {c : Code} {H : Heap} {locs : List Loc} {cells slots : Nat} {D : va_G} {cy : Nat → ClassId} {a : Nat → Nat} {M : zM} {b L i : Nat} {xs : Nat → Int32} {ls : Array Slot} (X : zCX p s m meth c #[.ref b] cL_law 4 ret RL) (hX : va_X b L xs s s.heap) (hbl : b < s.heap.size) (hL : L ≤ 3072) (hi : i + 6 ≤ L) (hcs : cells ≤ room_1.cells ∧ slots ≤ room_1.slots) (hw : zWD D cy a (zAL s) M H locs s) (hR : Rel2 M M) (hl : lv_has ls 4 (zLL b a i)) (K : ∀ (M2 : zM) (H : Heap) (locs : List Loc), zWD D cy a (zAL s) M2 H locs s → Rel2 M2 M2 → W p l e room_1 s m #[.ref b] below meth c H locs cells slots (lw_Z below #[.ref b] s) (F0 m 1431 ls [])) : W p l e room_1 s m #[.ref b] below meth c H locs cells slots (lw_Z below #[.ref b] s) (F0 m 702 ls []) := by
  obtain ⟨hx, hb, hr, hml, hown, hW, hlocks⟩ := id X
  have hbA : ¬ zAL s b := Nat.not_le.mpr hbl
  obtain ⟨r, M1, M2, e1, e2, hR2⟩ := eq_use (fun C R h => eq_sell (xs (i + 1)) (xs (i + 2)) (xs (i + 3)) h) hR
  refine lv_aload_n hx hb dL_law_702 rfl (lv_at hl 1 rfl) ?_
  refine zl_arg 1 hx hb hX hbl hbA hw.2.2.1 hl (by decide) (by omega) hL dL_law_703 dL_law_704 dL_law_705 dL_law_706 dL_law_707 ?_
  refine zl_arg 2 hx hb hX hbl hbA hw.2.2.1 hl (by decide) (by omega) hL dL_law_708 dL_law_709 dL_law_710 dL_law_711 dL_law_712 ?_
  refine zl_arg 3 hx hb hX hbl hbA hw.2.2.1 hl (by decide) (by omega) hL dL_law_713 dL_law_714 dL_law_715 dL_law_716 dL_law_717 ?_
  refine z_qVi (n := 3) (As := [.int (xs (i + 1)), .int (xs (i + 2)), .int (xs (i + 3))]) (rest := []) X hw (kX7_sell l D cy a (xs (i + 1)) (xs (i + 2)) (xs (i + 3)) M r M1 e1) (zcw_V hW zm_31_3 zm_31_4 zm_31_5 zm_1_2 zm_31_6 rfl rfl (by decide +kernel) ⟨Nat.le_of_ble_eq_true rfl, Nat.le_of_ble_eq_true rfl⟩) (by decide) (zS7 rfl cy a (M 0)) rfl rfl rfl (Nat.le_of_ble_eq_true rfl) hl.1 hcs dL_law_718 (fun H locs hw => ?_)
  refine lv_aload_n hx hb dL_law_721 rfl (lv_at hl 2 rfl) ?_
  refine zl_arg 1 hx hb hX hbl hbA hw.2.2.1 hl (by decide) (by omega) hL dL_law_722 dL_law_723 dL_law_724 dL_law_725 dL_law_726 ?_
  refine zl_arg 2 hx hb hX hbl hbA hw.2.2.1 hl (by decide) (by omega) hL dL_law_727 dL_law_728 dL_law_729 dL_law_730 dL_law_731 ?_
  refine zl_arg 3 hx hb hX hbl hbA hw.2.2.1 hl (by decide) (by omega) hL dL_law_732 dL_law_733 dL_law_734 dL_law_735 dL_law_736 ?_
  refine z_qVi (n := 3) (As := [.int (xs (i + 1)), .int (xs (i + 2)), .int (xs (i + 3))]) (rest := [.int r]) X hw (kX8_sell l D cy a (xs (i + 1)) (xs (i + 2)) (xs (i + 3)) M1 r M2 e2) (zcw_V hW zm_31_9 zm_31_10 zm_31_11 zm_1_5 zm_31_12 rfl rfl (by decide +kernel) ⟨Nat.le_of_ble_eq_true rfl, Nat.le_of_ble_eq_true rfl⟩) (by decide) (zS8 rfl cy a (M1 87)) rfl rfl rfl (Nat.le_of_ble_eq_true rfl) hl.1 hcs dL_law_737 (fun H locs hw => ?_)
  exact lv_icmp_eq (tgt := 1431) hx hb dL_law_740 (by decide) (fun _ => K M2 H locs hw hR2) (fun z => absurd rfl z)
set_option maxHeartbeats 4000000 in
set_option maxRecDepth 100000 in
theorem lc_17 {p : Program} {l : Launch} {e : Env} {s : State} {m : MethodId} {below : List Frame} {meth : Method} {c : Code} {H : Heap} {locs : List Loc} {cells slots : Nat} {D : va_G} {cy : Nat → ClassId} {a : Nat → Nat} {M : zM} {b L i : Nat} {xs : Nat → Int32} {ls : Array Slot} (X : zCX p s m meth c #[.ref b] cL_law 4 ret RL) (hX : va_X b L xs s s.heap) (hbl : b < s.heap.size) (hL : L ≤ 3072) (hi : i + 6 ≤ L) (hcs : cells ≤ room_1.cells ∧ slots ≤ room_1.slots) (hw : zWD D cy a (zAL s) M H locs s) (hR : Rel2 M M) (hl : lv_has ls 4 (zLL b a i)) (K : ∀ (M2 : zM) (H : Heap) (locs : List Loc), zWD D cy a (zAL s) M2 H locs s → Rel2 M2 M2 → W p l e room_1 s m #[.ref b] below meth c H locs cells slots (lw_Z below #[.ref b] s) (F0 m 1431 ls [])) : W p l e room_1 s m #[.ref b] below meth c H locs cells slots (lw_Z below #[.ref b] s) (F0 m 745 ls []) := by
  obtain ⟨hx, hb, hr, hml, hown, hW, hlocks⟩ := id X
  have hbA : ¬ zAL s b := Nat.not_le.mpr hbl
  obtain ⟨r, M1, M2, e1, e2, hR2⟩ := eq_use (fun C R h => eq_fair (xs (i + 1)) (xs (i + 2)) h) hR
  refine lv_aload_n hx hb dL_law_745 rfl (lv_at hl 1 rfl) ?_
  refine zl_arg 1 hx hb hX hbl hbA hw.2.2.1 hl (by decide) (by omega) hL dL_law_746 dL_law_747 dL_law_748 dL_law_749 dL_law_750 ?_
  refine zl_arg 2 hx hb hX hbl hbA hw.2.2.1 hl (by decide) (by omega) hL dL_law_751 dL_law_752 dL_law_753 dL_law_754 dL_law_755 ?_
  refine z_qVi (n := 2) (As := [.int (xs (i + 1)), .int (xs (i + 2))]) (rest := []) X hw (kX7_fair l D cy a (xs (i + 1)) (xs (i + 2)) M r M1 e1) (zcw_V hW zm_31_13 zm_31_14 zm_31_15 zm_1_2 zm_31_16 rfl rfl (by decide +kernel) ⟨Nat.le_of_ble_eq_true rfl, Nat.le_of_ble_eq_true rfl⟩) (by decide) (zS7 rfl cy a (M 0)) rfl rfl rfl (Nat.le_of_ble_eq_true rfl) hl.1 hcs dL_law_756 (fun H locs hw => ?_)
  refine lv_aload_n hx hb dL_law_759 rfl (lv_at hl 2 rfl) ?_
  refine zl_arg 1 hx hb hX hbl hbA hw.2.2.1 hl (by decide) (by omega) hL dL_law_760 dL_law_761 dL_law_762 dL_law_763 dL_law_764 ?_
  refine zl_arg 2 hx hb hX hbl hbA hw.2.2.1 hl (by decide) (by omega) hL dL_law_765 dL_law_766 dL_law_767 dL_law_768 dL_law_769 ?_
  refine z_qVi (n := 2) (As := [.int (xs (i + 1)), .int (xs (i + 2))]) (rest := [.int r]) X hw (kX8_fair l D cy a (xs (i + 1)) (xs (i + 2)) M1 r M2 e2) (zcw_V hW zm_31_17 zm_31_18 zm_31_19 zm_1_5 zm_31_20 rfl rfl (by decide +kernel) ⟨Nat.le_of_ble_eq_true rfl, Nat.le_of_ble_eq_true rfl⟩) (by decide) (zS8 rfl cy a (M1 87)) rfl rfl rfl (Nat.le_of_ble_eq_true rfl) hl.1 hcs dL_law_770 (fun H locs hw => ?_)
  exact lv_icmp_eq (tgt := 1431) hx hb dL_law_773 (by decide) (fun _ => K M2 H locs hw hR2) (fun z => absurd rfl z)
set_option maxHeartbeats 4000000 in
set_option maxRecDepth 100000 in
theorem lc_18 {p : Program} {l : Launch} {e : Env} {s : State} {m : MethodId} {below : List Frame} {meth : Method} {c : Code} {H : Heap} {locs : List Loc} {cells slots : Nat} {D : va_G} {cy : Nat → ClassId} {a : Nat → Nat} {M : zM} {b L i : Nat} {xs : Nat → Int32} {ls : Array Slot} (X : zCX p s m meth c #[.ref b] cL_law 4 ret RL) (hX : va_X b L xs s s.heap) (hbl : b < s.heap.size) (hL : L ≤ 3072) (hi : i + 6 ≤ L) (hcs : cells ≤ room_1.cells ∧ slots ≤ room_1.slots) (hw : zWD D cy a (zAL s) M H locs s) (hR : Rel2 M M) (hl : lv_has ls 4 (zLL b a i)) (K : ∀ (M2 : zM) (H : Heap) (locs : List Loc), zWD D cy a (zAL s) M2 H locs s → Rel2 M2 M2 → W p l e room_1 s m #[.ref b] below meth c H locs cells slots (lw_Z below #[.ref b] s) (F0 m 1431 ls [])) : W p l e room_1 s m #[.ref b] below meth c H locs cells slots (lw_Z below #[.ref b] s) (F0 m 778 ls []) := by
  obtain ⟨hx, hb, hr, hml, hown, hW, hlocks⟩ := id X
  have hbA : ¬ zAL s b := Nat.not_le.mpr hbl
  obtain ⟨r, M1, M2, e1, e2, hR2⟩ := eq_use (fun C R h => eq_then (xs (i + 1)) (xs (i + 2)) (xs (i + 3)) h) hR
  refine lv_aload_n hx hb dL_law_778 rfl (lv_at hl 1 rfl) ?_
  refine zl_arg 1 hx hb hX hbl hbA hw.2.2.1 hl (by decide) (by omega) hL dL_law_779 dL_law_780 dL_law_781 dL_law_782 dL_law_783 ?_
  refine zl_arg 2 hx hb hX hbl hbA hw.2.2.1 hl (by decide) (by omega) hL dL_law_784 dL_law_785 dL_law_786 dL_law_787 dL_law_788 ?_
  refine zl_arg 3 hx hb hX hbl hbA hw.2.2.1 hl (by decide) (by omega) hL dL_law_789 dL_law_790 dL_law_791 dL_law_792 dL_law_793 ?_
  refine z_qVi (n := 3) (As := [.int (xs (i + 1)), .int (xs (i + 2)), .int (xs (i + 3))]) (rest := []) X hw (kX7_then l D cy a (xs (i + 1)) (xs (i + 2)) (xs (i + 3)) M r M1 e1) (zcw_V hW zm_31_21 zm_31_22 zm_31_23 zm_1_2 zm_32_0 rfl rfl (by decide +kernel) ⟨Nat.le_of_ble_eq_true rfl, Nat.le_of_ble_eq_true rfl⟩) (by decide) (zS7 rfl cy a (M 0)) rfl rfl rfl (Nat.le_of_ble_eq_true rfl) hl.1 hcs dL_law_794 (fun H locs hw => ?_)
  refine lv_aload_n hx hb dL_law_797 rfl (lv_at hl 2 rfl) ?_
  refine zl_arg 1 hx hb hX hbl hbA hw.2.2.1 hl (by decide) (by omega) hL dL_law_798 dL_law_799 dL_law_800 dL_law_801 dL_law_802 ?_
  refine zl_arg 2 hx hb hX hbl hbA hw.2.2.1 hl (by decide) (by omega) hL dL_law_803 dL_law_804 dL_law_805 dL_law_806 dL_law_807 ?_
  refine zl_arg 3 hx hb hX hbl hbA hw.2.2.1 hl (by decide) (by omega) hL dL_law_808 dL_law_809 dL_law_810 dL_law_811 dL_law_812 ?_
  refine z_qVi (n := 3) (As := [.int (xs (i + 1)), .int (xs (i + 2)), .int (xs (i + 3))]) (rest := [.int r]) X hw (kX8_then l D cy a (xs (i + 1)) (xs (i + 2)) (xs (i + 3)) M1 r M2 e2) (zcw_V hW zm_32_12 zm_32_13 zm_32_14 zm_1_5 zm_32_15 rfl rfl (by decide +kernel) ⟨Nat.le_of_ble_eq_true rfl, Nat.le_of_ble_eq_true rfl⟩) (by decide) (zS8 rfl cy a (M1 87)) rfl rfl rfl (Nat.le_of_ble_eq_true rfl) hl.1 hcs dL_law_813 (fun H locs hw => ?_)
  exact lv_icmp_eq (tgt := 1431) hx hb dL_law_816 (by decide) (fun _ => K M2 H locs hw hR2) (fun z => absurd rfl z)
set_option maxHeartbeats 4000000 in
set_option maxRecDepth 100000 in
theorem lc_19 {p : Program} {l : Launch} {e : Env} {s : State} {m : MethodId} {below : List Frame} {meth : Method} {c : Code} {H : Heap} {locs : List Loc} {cells slots : Nat} {D : va_G} {cy : Nat → ClassId} {a : Nat → Nat} {M : zM} {b L i : Nat} {xs : Nat → Int32} {ls : Array Slot} (X : zCX p s m meth c #[.ref b] cL_law 4 ret RL) (hX : va_X b L xs s s.heap) (hbl : b < s.heap.size) (hL : L ≤ 3072) (hi : i + 6 ≤ L) (hcs : cells ≤ room_1.cells ∧ slots ≤ room_1.slots) (hw : zWD D cy a (zAL s) M H locs s) (hR : Rel2 M M) (hl : lv_has ls 4 (zLL b a i)) (K : ∀ (M2 : zM) (H : Heap) (locs : List Loc), zWD D cy a (zAL s) M2 H locs s → Rel2 M2 M2 → W p l e room_1 s m #[.ref b] below meth c H locs cells slots (lw_Z below #[.ref b] s) (F0 m 1431 ls [])) : W p l e room_1 s m #[.ref b] below meth c H locs cells slots (lw_Z below #[.ref b] s) (F0 m 821 ls []) := by
  obtain ⟨hx, hb, hr, hml, hown, hW, hlocks⟩ := id X
  have hbA : ¬ zAL s b := Nat.not_le.mpr hbl
  obtain ⟨r, M1, M2, e1, e2, hR2⟩ := eq_use (fun C R h => eq_thenFamily (xs (i + 1)) (xs (i + 2)) (xs (i + 3)) h) hR
  refine lv_aload_n hx hb dL_law_821 rfl (lv_at hl 1 rfl) ?_
  refine zl_arg 1 hx hb hX hbl hbA hw.2.2.1 hl (by decide) (by omega) hL dL_law_822 dL_law_823 dL_law_824 dL_law_825 dL_law_826 ?_
  refine zl_arg 2 hx hb hX hbl hbA hw.2.2.1 hl (by decide) (by omega) hL dL_law_827 dL_law_828 dL_law_829 dL_law_830 dL_law_831 ?_
  refine zl_arg 3 hx hb hX hbl hbA hw.2.2.1 hl (by decide) (by omega) hL dL_law_832 dL_law_833 dL_law_834 dL_law_835 dL_law_836 ?_
  refine z_qVi (n := 3) (As := [.int (xs (i + 1)), .int (xs (i + 2)), .int (xs (i + 3))]) (rest := []) X hw (kX7_thenFamily l D cy a (xs (i + 1)) (xs (i + 2)) (xs (i + 3)) M r M1 e1) (zcw_V hW zm_32_22 zm_32_23 zm_33_0 zm_1_2 zm_33_1 rfl rfl (by decide +kernel) ⟨Nat.le_of_ble_eq_true rfl, Nat.le_of_ble_eq_true rfl⟩) (by decide) (zS7 rfl cy a (M 0)) rfl rfl rfl (Nat.le_of_ble_eq_true rfl) hl.1 hcs dL_law_837 (fun H locs hw => ?_)
  refine lv_aload_n hx hb dL_law_840 rfl (lv_at hl 2 rfl) ?_
  refine zl_arg 1 hx hb hX hbl hbA hw.2.2.1 hl (by decide) (by omega) hL dL_law_841 dL_law_842 dL_law_843 dL_law_844 dL_law_845 ?_
  refine zl_arg 2 hx hb hX hbl hbA hw.2.2.1 hl (by decide) (by omega) hL dL_law_846 dL_law_847 dL_law_848 dL_law_849 dL_law_850 ?_
  refine zl_arg 3 hx hb hX hbl hbA hw.2.2.1 hl (by decide) (by omega) hL dL_law_851 dL_law_852 dL_law_853 dL_law_854 dL_law_855 ?_
  refine z_qVi (n := 3) (As := [.int (xs (i + 1)), .int (xs (i + 2)), .int (xs (i + 3))]) (rest := [.int r]) X hw (kX8_thenFamily l D cy a (xs (i + 1)) (xs (i + 2)) (xs (i + 3)) M1 r M2 e2) (zcw_V hW zm_33_2 zm_33_3 zm_33_4 zm_1_5 zm_33_5 rfl rfl (by decide +kernel) ⟨Nat.le_of_ble_eq_true rfl, Nat.le_of_ble_eq_true rfl⟩) (by decide) (zS8 rfl cy a (M1 87)) rfl rfl rfl (Nat.le_of_ble_eq_true rfl) hl.1 hcs dL_law_856 (fun H locs hw => ?_)
  exact lv_icmp_eq (tgt := 1431) hx hb dL_law_859 (by decide) (fun _ => K M2 H locs hw hR2) (fun z => absurd rfl z)
set_option maxHeartbeats 4000000 in
set_option maxRecDepth 100000 in
theorem lc_20 {p : Program} {l : Launch} {e : Env} {s : State} {m : MethodId} {below : List Frame} {meth : Method} {c : Code} {H : Heap} {locs : List Loc} {cells slots : Nat} {D : va_G} {cy : Nat → ClassId} {a : Nat → Nat} {M : zM} {b L i : Nat} {xs : Nat → Int32} {ls : Array Slot} (X : zCX p s m meth c #[.ref b] cL_law 4 ret RL) (hX : va_X b L xs s s.heap) (hbl : b < s.heap.size) (hL : L ≤ 3072) (hi : i + 6 ≤ L) (hcs : cells ≤ room_1.cells ∧ slots ≤ room_1.slots) (hw : zWD D cy a (zAL s) M H locs s) (hR : Rel2 M M) (hl : lv_has ls 4 (zLL b a i)) (K : ∀ (M2 : zM) (H : Heap) (locs : List Loc), zWD D cy a (zAL s) M2 H locs s → Rel2 M2 M2 → W p l e room_1 s m #[.ref b] below meth c H locs cells slots (lw_Z below #[.ref b] s) (F0 m 1431 ls [])) : W p l e room_1 s m #[.ref b] below meth c H locs cells slots (lw_Z below #[.ref b] s) (F0 m 864 ls []) := by
  obtain ⟨hx, hb, hr, hml, hown, hW, hlocks⟩ := id X
  have hbA : ¬ zAL s b := Nat.not_le.mpr hbl
  obtain ⟨r, M1, M2, e1, e2, hR2⟩ := eq_use (fun C R h => eq_when (xs (i + 1)) (xs (i + 2)) h) hR
  refine lv_aload_n hx hb dL_law_864 rfl (lv_at hl 1 rfl) ?_
  refine zl_arg 1 hx hb hX hbl hbA hw.2.2.1 hl (by decide) (by omega) hL dL_law_865 dL_law_866 dL_law_867 dL_law_868 dL_law_869 ?_
  refine zl_arg 2 hx hb hX hbl hbA hw.2.2.1 hl (by decide) (by omega) hL dL_law_870 dL_law_871 dL_law_872 dL_law_873 dL_law_874 ?_
  refine z_qVi (n := 2) (As := [.int (xs (i + 1)), .int (xs (i + 2))]) (rest := []) X hw (kX7_when l D cy a (xs (i + 1)) (xs (i + 2)) M r M1 e1) (zcw_V hW zm_33_6 zm_33_7 zm_33_8 zm_1_2 zm_33_9 rfl rfl (by decide +kernel) ⟨Nat.le_of_ble_eq_true rfl, Nat.le_of_ble_eq_true rfl⟩) (by decide) (zS7 rfl cy a (M 0)) rfl rfl rfl (Nat.le_of_ble_eq_true rfl) hl.1 hcs dL_law_875 (fun H locs hw => ?_)
  refine lv_aload_n hx hb dL_law_878 rfl (lv_at hl 2 rfl) ?_
  refine zl_arg 1 hx hb hX hbl hbA hw.2.2.1 hl (by decide) (by omega) hL dL_law_879 dL_law_880 dL_law_881 dL_law_882 dL_law_883 ?_
  refine zl_arg 2 hx hb hX hbl hbA hw.2.2.1 hl (by decide) (by omega) hL dL_law_884 dL_law_885 dL_law_886 dL_law_887 dL_law_888 ?_
  refine z_qVi (n := 2) (As := [.int (xs (i + 1)), .int (xs (i + 2))]) (rest := [.int r]) X hw (kX8_when l D cy a (xs (i + 1)) (xs (i + 2)) M1 r M2 e2) (zcw_V hW zm_33_11 zm_33_12 zm_33_13 zm_1_5 zm_33_14 rfl rfl (by decide +kernel) ⟨Nat.le_of_ble_eq_true rfl, Nat.le_of_ble_eq_true rfl⟩) (by decide) (zS8 rfl cy a (M1 87)) rfl rfl rfl (Nat.le_of_ble_eq_true rfl) hl.1 hcs dL_law_889 (fun H locs hw => ?_)
  exact lv_icmp_eq (tgt := 1431) hx hb dL_law_892 (by decide) (fun _ => K M2 H locs hw hR2) (fun z => absurd rfl z)
set_option maxHeartbeats 4000000 in
set_option maxRecDepth 100000 in
theorem lc_21 {p : Program} {l : Launch} {e : Env} {s : State} {m : MethodId} {below : List Frame} {meth : Method} {c : Code} {H : Heap} {locs : List Loc} {cells slots : Nat} {D : va_G} {cy : Nat → ClassId} {a : Nat → Nat} {M : zM} {b L i : Nat} {xs : Nat → Int32} {ls : Array Slot} (X : zCX p s m meth c #[.ref b] cL_law 4 ret RL) (hX : va_X b L xs s s.heap) (hbl : b < s.heap.size) (hL : L ≤ 3072) (hi : i + 6 ≤ L) (hcs : cells ≤ room_1.cells ∧ slots ≤ room_1.slots) (hw : zWD D cy a (zAL s) M H locs s) (hR : Rel2 M M) (hl : lv_has ls 4 (zLL b a i)) (K : ∀ (M2 : zM) (H : Heap) (locs : List Loc), zWD D cy a (zAL s) M2 H locs s → Rel2 M2 M2 → W p l e room_1 s m #[.ref b] below meth c H locs cells slots (lw_Z below #[.ref b] s) (F0 m 1431 ls [])) : W p l e room_1 s m #[.ref b] below meth c H locs cells slots (lw_Z below #[.ref b] s) (F0 m 897 ls []) := by
  obtain ⟨hx, hb, hr, hml, hown, hW, hlocks⟩ := id X
  have hbA : ¬ zAL s b := Nat.not_le.mpr hbl
  obtain ⟨r, M1, M2, e1, e2, hR2⟩ := eq_use (fun C R h => eq_sluices (xs (i + 1)) (xs (i + 2)) h) hR
  refine lv_aload_n hx hb dL_law_897 rfl (lv_at hl 1 rfl) ?_
  refine zl_arg 1 hx hb hX hbl hbA hw.2.2.1 hl (by decide) (by omega) hL dL_law_898 dL_law_899 dL_law_900 dL_law_901 dL_law_902 ?_
  refine zl_arg 2 hx hb hX hbl hbA hw.2.2.1 hl (by decide) (by omega) hL dL_law_903 dL_law_904 dL_law_905 dL_law_906 dL_law_907 ?_
  refine z_qVi (n := 2) (As := [.int (xs (i + 1)), .int (xs (i + 2))]) (rest := []) X hw (kX7_sluices l D cy a (xs (i + 1)) (xs (i + 2)) M r M1 e1) (zcw_V hW zm_33_15 zm_33_16 zm_33_17 zm_1_2 zm_33_18 rfl rfl (by decide +kernel) ⟨Nat.le_of_ble_eq_true rfl, Nat.le_of_ble_eq_true rfl⟩) (by decide) (zS7 rfl cy a (M 0)) rfl rfl rfl (Nat.le_of_ble_eq_true rfl) hl.1 hcs dL_law_908 (fun H locs hw => ?_)
  refine lv_aload_n hx hb dL_law_911 rfl (lv_at hl 2 rfl) ?_
  refine zl_arg 1 hx hb hX hbl hbA hw.2.2.1 hl (by decide) (by omega) hL dL_law_912 dL_law_913 dL_law_914 dL_law_915 dL_law_916 ?_
  refine zl_arg 2 hx hb hX hbl hbA hw.2.2.1 hl (by decide) (by omega) hL dL_law_917 dL_law_918 dL_law_919 dL_law_920 dL_law_921 ?_
  refine z_qVi (n := 2) (As := [.int (xs (i + 1)), .int (xs (i + 2))]) (rest := [.int r]) X hw (kX8_sluices l D cy a (xs (i + 1)) (xs (i + 2)) M1 r M2 e2) (zcw_V hW zm_34_3 zm_34_4 zm_34_5 zm_1_5 zm_34_6 rfl rfl (by decide +kernel) ⟨Nat.le_of_ble_eq_true rfl, Nat.le_of_ble_eq_true rfl⟩) (by decide) (zS8 rfl cy a (M1 87)) rfl rfl rfl (Nat.le_of_ble_eq_true rfl) hl.1 hcs dL_law_922 (fun H locs hw => ?_)
  exact lv_icmp_eq (tgt := 1431) hx hb dL_law_925 (by decide) (fun _ => K M2 H locs hw hR2) (fun z => absurd rfl z)
set_option maxHeartbeats 4000000 in
set_option maxRecDepth 100000 in
theorem lc_22 {p : Program} {l : Launch} {e : Env} {s : State} {m : MethodId} {below : List Frame} {meth : Method} {c : Code} {H : Heap} {locs : List Loc} {cells slots : Nat} {D : va_G} {cy : Nat → ClassId} {a : Nat → Nat} {M : zM} {b L i : Nat} {xs : Nat → Int32} {ls : Array Slot} (X : zCX p s m meth c #[.ref b] cL_law 4 ret RL) (hX : va_X b L xs s s.heap) (hbl : b < s.heap.size) (hL : L ≤ 3072) (hi : i + 6 ≤ L) (hcs : cells ≤ room_1.cells ∧ slots ≤ room_1.slots) (hw : zWD D cy a (zAL s) M H locs s) (hR : Rel2 M M) (hl : lv_has ls 4 (zLL b a i)) (K : ∀ (M2 : zM) (H : Heap) (locs : List Loc), zWD D cy a (zAL s) M2 H locs s → Rel2 M2 M2 → W p l e room_1 s m #[.ref b] below meth c H locs cells slots (lw_Z below #[.ref b] s) (F0 m 1431 ls [])) : W p l e room_1 s m #[.ref b] below meth c H locs cells slots (lw_Z below #[.ref b] s) (F0 m 930 ls []) := by
  obtain ⟨hx, hb, hr, hml, hown, hW, hlocks⟩ := id X
  have hbA : ¬ zAL s b := Nat.not_le.mpr hbl
  obtain ⟨r, M1, M2, e1, e2, hR2⟩ := eq_use (fun C R h => eq_fewer (xs (i + 1)) (xs (i + 2)) (xs (i + 3)) h) hR
  refine lv_aload_n hx hb dL_law_930 rfl (lv_at hl 1 rfl) ?_
  refine zl_arg 1 hx hb hX hbl hbA hw.2.2.1 hl (by decide) (by omega) hL dL_law_931 dL_law_932 dL_law_933 dL_law_934 dL_law_935 ?_
  refine zl_arg 2 hx hb hX hbl hbA hw.2.2.1 hl (by decide) (by omega) hL dL_law_936 dL_law_937 dL_law_938 dL_law_939 dL_law_940 ?_
  refine zl_arg 3 hx hb hX hbl hbA hw.2.2.1 hl (by decide) (by omega) hL dL_law_941 dL_law_942 dL_law_943 dL_law_944 dL_law_945 ?_
  refine z_qVi (n := 3) (As := [.int (xs (i + 1)), .int (xs (i + 2)), .int (xs (i + 3))]) (rest := []) X hw (kX7_fewer l D cy a (xs (i + 1)) (xs (i + 2)) (xs (i + 3)) M r M1 e1) (zcw_V hW zm_34_15 zm_34_16 zm_34_17 zm_1_2 zm_34_18 rfl rfl (by decide +kernel) ⟨Nat.le_of_ble_eq_true rfl, Nat.le_of_ble_eq_true rfl⟩) (by decide) (zS7 rfl cy a (M 0)) rfl rfl rfl (Nat.le_of_ble_eq_true rfl) hl.1 hcs dL_law_946 (fun H locs hw => ?_)
  refine lv_aload_n hx hb dL_law_949 rfl (lv_at hl 2 rfl) ?_
  refine zl_arg 1 hx hb hX hbl hbA hw.2.2.1 hl (by decide) (by omega) hL dL_law_950 dL_law_951 dL_law_952 dL_law_953 dL_law_954 ?_
  refine zl_arg 2 hx hb hX hbl hbA hw.2.2.1 hl (by decide) (by omega) hL dL_law_955 dL_law_956 dL_law_957 dL_law_958 dL_law_959 ?_
  refine zl_arg 3 hx hb hX hbl hbA hw.2.2.1 hl (by decide) (by omega) hL dL_law_960 dL_law_961 dL_law_962 dL_law_963 dL_law_964 ?_
  refine z_qVi (n := 3) (As := [.int (xs (i + 1)), .int (xs (i + 2)), .int (xs (i + 3))]) (rest := [.int r]) X hw (kX8_fewer l D cy a (xs (i + 1)) (xs (i + 2)) (xs (i + 3)) M1 r M2 e2) (zcw_V hW zm_34_23 zm_35_0 zm_35_1 zm_1_5 zm_35_2 rfl rfl (by decide +kernel) ⟨Nat.le_of_ble_eq_true rfl, Nat.le_of_ble_eq_true rfl⟩) (by decide) (zS8 rfl cy a (M1 87)) rfl rfl rfl (Nat.le_of_ble_eq_true rfl) hl.1 hcs dL_law_965 (fun H locs hw => ?_)
  exact lv_icmp_eq (tgt := 1431) hx hb dL_law_968 (by decide) (fun _ => K M2 H locs hw hR2) (fun z => absurd rfl z)
set_option maxHeartbeats 4000000 in
set_option maxRecDepth 100000 in
theorem lc_23 {p : Program} {l : Launch} {e : Env} {s : State} {m : MethodId} {below : List Frame} {meth : Method} {c : Code} {H : Heap} {locs : List Loc} {cells slots : Nat} {D : va_G} {cy : Nat → ClassId} {a : Nat → Nat} {M : zM} {b L i : Nat} {xs : Nat → Int32} {ls : Array Slot} (X : zCX p s m meth c #[.ref b] cL_law 4 ret RL) (hX : va_X b L xs s s.heap) (hbl : b < s.heap.size) (hL : L ≤ 3072) (hi : i + 6 ≤ L) (hcs : cells ≤ room_1.cells ∧ slots ≤ room_1.slots) (hw : zWD D cy a (zAL s) M H locs s) (hR : Rel2 M M) (hl : lv_has ls 4 (zLL b a i)) (K : ∀ (M2 : zM) (H : Heap) (locs : List Loc), zWD D cy a (zAL s) M2 H locs s → Rel2 M2 M2 → W p l e room_1 s m #[.ref b] below meth c H locs cells slots (lw_Z below #[.ref b] s) (F0 m 1431 ls [])) : W p l e room_1 s m #[.ref b] below meth c H locs cells slots (lw_Z below #[.ref b] s) (F0 m 973 ls []) := by
  obtain ⟨hx, hb, hr, hml, hown, hW, hlocks⟩ := id X
  have hbA : ¬ zAL s b := Nat.not_le.mpr hbl
  obtain ⟨r, M1, M2, e1, e2, hR2⟩ := eq_use (fun C R h => eq_bestPlace (xs (i + 1)) (xs (i + 2)) h) hR
  refine lv_aload_n hx hb dL_law_973 rfl (lv_at hl 1 rfl) ?_
  refine zl_arg 1 hx hb hX hbl hbA hw.2.2.1 hl (by decide) (by omega) hL dL_law_974 dL_law_975 dL_law_976 dL_law_977 dL_law_978 ?_
  refine zl_arg 2 hx hb hX hbl hbA hw.2.2.1 hl (by decide) (by omega) hL dL_law_979 dL_law_980 dL_law_981 dL_law_982 dL_law_983 ?_
  refine z_qVi (n := 2) (As := [.int (xs (i + 1)), .int (xs (i + 2))]) (rest := []) X hw (kX7_bestPlace l D cy a (xs (i + 1)) (xs (i + 2)) M r M1 e1) (zcw_V hW zm_35_13 zm_35_14 zm_35_15 zm_1_2 zm_35_16 rfl rfl (by decide +kernel) ⟨Nat.le_of_ble_eq_true rfl, Nat.le_of_ble_eq_true rfl⟩) (by decide) (zS7 rfl cy a (M 0)) rfl rfl rfl (Nat.le_of_ble_eq_true rfl) hl.1 hcs dL_law_984 (fun H locs hw => ?_)
  refine lv_aload_n hx hb dL_law_987 rfl (lv_at hl 2 rfl) ?_
  refine zl_arg 1 hx hb hX hbl hbA hw.2.2.1 hl (by decide) (by omega) hL dL_law_988 dL_law_989 dL_law_990 dL_law_991 dL_law_992 ?_
  refine zl_arg 2 hx hb hX hbl hbA hw.2.2.1 hl (by decide) (by omega) hL dL_law_993 dL_law_994 dL_law_995 dL_law_996 dL_law_997 ?_
  refine z_qVi (n := 2) (As := [.int (xs (i + 1)), .int (xs (i + 2))]) (rest := [.int r]) X hw (kX8_bestPlace l D cy a (xs (i + 1)) (xs (i + 2)) M1 r M2 e2) (zcw_V hW zm_35_17 zm_35_18 zm_35_19 zm_1_5 zm_35_20 rfl rfl (by decide +kernel) ⟨Nat.le_of_ble_eq_true rfl, Nat.le_of_ble_eq_true rfl⟩) (by decide) (zS8 rfl cy a (M1 87)) rfl rfl rfl (Nat.le_of_ble_eq_true rfl) hl.1 hcs dL_law_998 (fun H locs hw => ?_)
  exact lv_icmp_eq (tgt := 1431) hx hb dL_law_1001 (by decide) (fun _ => K M2 H locs hw hR2) (fun z => absurd rfl z)
set_option maxHeartbeats 4000000 in
set_option maxRecDepth 100000 in
theorem lc_24 {p : Program} {l : Launch} {e : Env} {s : State} {m : MethodId} {below : List Frame} {meth : Method} {c : Code} {H : Heap} {locs : List Loc} {cells slots : Nat} {D : va_G} {cy : Nat → ClassId} {a : Nat → Nat} {M : zM} {b L i : Nat} {xs : Nat → Int32} {ls : Array Slot} (X : zCX p s m meth c #[.ref b] cL_law 4 ret RL) (hX : va_X b L xs s s.heap) (hbl : b < s.heap.size) (hL : L ≤ 3072) (hi : i + 6 ≤ L) (hcs : cells ≤ room_1.cells ∧ slots ≤ room_1.slots) (hw : zWD D cy a (zAL s) M H locs s) (hR : Rel2 M M) (hl : lv_has ls 4 (zLL b a i)) (K : ∀ (M2 : zM) (H : Heap) (locs : List Loc), zWD D cy a (zAL s) M2 H locs s → Rel2 M2 M2 → W p l e room_1 s m #[.ref b] below meth c H locs cells slots (lw_Z below #[.ref b] s) (F0 m 1431 ls [])) : W p l e room_1 s m #[.ref b] below meth c H locs cells slots (lw_Z below #[.ref b] s) (F0 m 1006 ls []) := by
  obtain ⟨hx, hb, hr, hml, hown, hW, hlocks⟩ := id X
  have hbA : ¬ zAL s b := Nat.not_le.mpr hbl
  obtain ⟨r, M1, M2, e1, e2, hR2⟩ := eq_use (fun C R h => eq_who (xs (i + 1)) (xs (i + 2)) h) hR
  refine lv_aload_n hx hb dL_law_1006 rfl (lv_at hl 1 rfl) ?_
  refine zl_arg 1 hx hb hX hbl hbA hw.2.2.1 hl (by decide) (by omega) hL dL_law_1007 dL_law_1008 dL_law_1009 dL_law_1010 dL_law_1011 ?_
  refine zl_arg 2 hx hb hX hbl hbA hw.2.2.1 hl (by decide) (by omega) hL dL_law_1012 dL_law_1013 dL_law_1014 dL_law_1015 dL_law_1016 ?_
  refine z_qVi (n := 2) (As := [.int (xs (i + 1)), .int (xs (i + 2))]) (rest := []) X hw (kX7_who l D cy a (xs (i + 1)) (xs (i + 2)) M r M1 e1) (zcw_V hW zm_35_21 zm_35_22 zm_35_23 zm_1_2 zm_36_0 rfl rfl (by decide +kernel) ⟨Nat.le_of_ble_eq_true rfl, Nat.le_of_ble_eq_true rfl⟩) (by decide) (zS7 rfl cy a (M 0)) rfl rfl rfl (Nat.le_of_ble_eq_true rfl) hl.1 hcs dL_law_1017 (fun H locs hw => ?_)
  refine lv_aload_n hx hb dL_law_1020 rfl (lv_at hl 2 rfl) ?_
  refine zl_arg 1 hx hb hX hbl hbA hw.2.2.1 hl (by decide) (by omega) hL dL_law_1021 dL_law_1022 dL_law_1023 dL_law_1024 dL_law_1025 ?_
  refine zl_arg 2 hx hb hX hbl hbA hw.2.2.1 hl (by decide) (by omega) hL dL_law_1026 dL_law_1027 dL_law_1028 dL_law_1029 dL_law_1030 ?_
  refine z_qVi (n := 2) (As := [.int (xs (i + 1)), .int (xs (i + 2))]) (rest := [.int r]) X hw (kX8_who l D cy a (xs (i + 1)) (xs (i + 2)) M1 r M2 e2) (zcw_V hW zm_36_2 zm_36_3 zm_36_4 zm_1_5 zm_36_5 rfl rfl (by decide +kernel) ⟨Nat.le_of_ble_eq_true rfl, Nat.le_of_ble_eq_true rfl⟩) (by decide) (zS8 rfl cy a (M1 87)) rfl rfl rfl (Nat.le_of_ble_eq_true rfl) hl.1 hcs dL_law_1031 (fun H locs hw => ?_)
  exact lv_icmp_eq (tgt := 1431) hx hb dL_law_1034 (by decide) (fun _ => K M2 H locs hw hR2) (fun z => absurd rfl z)
set_option maxHeartbeats 4000000 in
set_option maxRecDepth 100000 in
theorem lc_25 {p : Program} {l : Launch} {e : Env} {s : State} {m : MethodId} {below : List Frame} {meth : Method} {c : Code} {H : Heap} {locs : List Loc} {cells slots : Nat} {D : va_G} {cy : Nat → ClassId} {a : Nat → Nat} {M : zM} {b L i : Nat} {xs : Nat → Int32} {ls : Array Slot} (X : zCX p s m meth c #[.ref b] cL_law 4 ret RL) (hX : va_X b L xs s s.heap) (hbl : b < s.heap.size) (hL : L ≤ 3072) (hi : i + 6 ≤ L) (hcs : cells ≤ room_1.cells ∧ slots ≤ room_1.slots) (hw : zWD D cy a (zAL s) M H locs s) (hR : Rel2 M M) (hl : lv_has ls 4 (zLL b a i)) (K : ∀ (M2 : zM) (H : Heap) (locs : List Loc), zWD D cy a (zAL s) M2 H locs s → Rel2 M2 M2 → W p l e room_1 s m #[.ref b] below meth c H locs cells slots (lw_Z below #[.ref b] s) (F0 m 1431 ls [])) : W p l e room_1 s m #[.ref b] below meth c H locs cells slots (lw_Z below #[.ref b] s) (F0 m 1039 ls []) := by
  obtain ⟨hx, hb, hr, hml, hown, hW, hlocks⟩ := id X
  have hbA : ¬ zAL s b := Nat.not_le.mpr hbl
  obtain ⟨r, M1, M2, e1, e2, hR2⟩ := eq_use (fun C R h => eq_slipped  h) hR
  refine lv_aload_n hx hb dL_law_1039 rfl (lv_at hl 1 rfl) ?_
  refine z_qVi (n := 0) (As := []) (rest := []) X hw (kX7_slipped l D cy a  M r M1 e1) (zcw_V hW zm_36_6 zm_36_7 zm_36_8 zm_1_2 zm_36_9 rfl rfl (by decide +kernel) ⟨Nat.le_of_ble_eq_true rfl, Nat.le_of_ble_eq_true rfl⟩) (by decide) (zS7 rfl cy a (M 0)) rfl rfl rfl (Nat.le_of_ble_eq_true rfl) hl.1 hcs dL_law_1040 (fun H locs hw => ?_)
  refine lv_aload_n hx hb dL_law_1043 rfl (lv_at hl 2 rfl) ?_
  refine z_qVi (n := 0) (As := []) (rest := [.int r]) X hw (kX8_slipped l D cy a  M1 r M2 e2) (zcw_V hW zm_36_11 zm_36_12 zm_36_13 zm_1_5 zm_36_14 rfl rfl (by decide +kernel) ⟨Nat.le_of_ble_eq_true rfl, Nat.le_of_ble_eq_true rfl⟩) (by decide) (zS8 rfl cy a (M1 87)) rfl rfl rfl (Nat.le_of_ble_eq_true rfl) hl.1 hcs dL_law_1044 (fun H locs hw => ?_)
  exact lv_icmp_eq (tgt := 1431) hx hb dL_law_1047 (by decide) (fun _ => K M2 H locs hw hR2) (fun z => absurd rfl z)
set_option maxHeartbeats 4000000 in
set_option maxRecDepth 100000 in
theorem lc_26 {p : Program} {l : Launch} {e : Env} {s : State} {m : MethodId} {below : List Frame} {meth : Method} {c : Code} {H : Heap} {locs : List Loc} {cells slots : Nat} {D : va_G} {cy : Nat → ClassId} {a : Nat → Nat} {M : zM} {b L i : Nat} {xs : Nat → Int32} {ls : Array Slot} (X : zCX p s m meth c #[.ref b] cL_law 4 ret RL) (hX : va_X b L xs s s.heap) (hbl : b < s.heap.size) (hL : L ≤ 3072) (hi : i + 6 ≤ L) (hcs : cells ≤ room_1.cells ∧ slots ≤ room_1.slots) (hw : zWD D cy a (zAL s) M H locs s) (hR : Rel2 M M) (hl : lv_has ls 4 (zLL b a i)) (K : ∀ (M2 : zM) (H : Heap) (locs : List Loc), zWD D cy a (zAL s) M2 H locs s → Rel2 M2 M2 → W p l e room_1 s m #[.ref b] below meth c H locs cells slots (lw_Z below #[.ref b] s) (F0 m 1431 ls [])) : W p l e room_1 s m #[.ref b] below meth c H locs cells slots (lw_Z below #[.ref b] s) (F0 m 1052 ls []) := by
  obtain ⟨hx, hb, hr, hml, hown, hW, hlocks⟩ := id X
  have hbA : ¬ zAL s b := Nat.not_le.mpr hbl
  obtain ⟨r, M1, M2, e1, e2, hR2⟩ := eq_use (fun C R h => eq_voice (xs (i + 1)) (xs (i + 2)) (xs (i + 3)) h) hR
  refine lv_aload_n hx hb dL_law_1052 rfl (lv_at hl 1 rfl) ?_
  refine zl_arg 1 hx hb hX hbl hbA hw.2.2.1 hl (by decide) (by omega) hL dL_law_1053 dL_law_1054 dL_law_1055 dL_law_1056 dL_law_1057 ?_
  refine zl_arg 2 hx hb hX hbl hbA hw.2.2.1 hl (by decide) (by omega) hL dL_law_1058 dL_law_1059 dL_law_1060 dL_law_1061 dL_law_1062 ?_
  refine zl_arg 3 hx hb hX hbl hbA hw.2.2.1 hl (by decide) (by omega) hL dL_law_1063 dL_law_1064 dL_law_1065 dL_law_1066 dL_law_1067 ?_
  refine z_qVi (n := 3) (As := [.int (xs (i + 1)), .int (xs (i + 2)), .int (xs (i + 3))]) (rest := []) X hw (kX7_voice l D cy a (xs (i + 1)) (xs (i + 2)) (xs (i + 3)) M r M1 e1) (zcw_V hW zm_36_15 zm_36_16 zm_36_17 zm_1_2 zm_36_18 rfl rfl (by decide +kernel) ⟨Nat.le_of_ble_eq_true rfl, Nat.le_of_ble_eq_true rfl⟩) (by decide) (zS7 rfl cy a (M 0)) rfl rfl rfl (Nat.le_of_ble_eq_true rfl) hl.1 hcs dL_law_1068 (fun H locs hw => ?_)
  refine lv_aload_n hx hb dL_law_1071 rfl (lv_at hl 2 rfl) ?_
  refine zl_arg 1 hx hb hX hbl hbA hw.2.2.1 hl (by decide) (by omega) hL dL_law_1072 dL_law_1073 dL_law_1074 dL_law_1075 dL_law_1076 ?_
  refine zl_arg 2 hx hb hX hbl hbA hw.2.2.1 hl (by decide) (by omega) hL dL_law_1077 dL_law_1078 dL_law_1079 dL_law_1080 dL_law_1081 ?_
  refine zl_arg 3 hx hb hX hbl hbA hw.2.2.1 hl (by decide) (by omega) hL dL_law_1082 dL_law_1083 dL_law_1084 dL_law_1085 dL_law_1086 ?_
  refine z_qVi (n := 3) (As := [.int (xs (i + 1)), .int (xs (i + 2)), .int (xs (i + 3))]) (rest := [.int r]) X hw (kX8_voice l D cy a (xs (i + 1)) (xs (i + 2)) (xs (i + 3)) M1 r M2 e2) (zcw_V hW zm_38_3 zm_38_4 zm_38_5 zm_1_5 zm_38_6 rfl rfl (by decide +kernel) ⟨Nat.le_of_ble_eq_true rfl, Nat.le_of_ble_eq_true rfl⟩) (by decide) (zS8 rfl cy a (M1 87)) rfl rfl rfl (Nat.le_of_ble_eq_true rfl) hl.1 hcs dL_law_1087 (fun H locs hw => ?_)
  exact lv_icmp_eq (tgt := 1431) hx hb dL_law_1090 (by decide) (fun _ => K M2 H locs hw hR2) (fun z => absurd rfl z)
set_option maxHeartbeats 4000000 in
set_option maxRecDepth 100000 in
theorem lc_27 {p : Program} {l : Launch} {e : Env} {s : State} {m : MethodId} {below : List Frame} {meth : Method} {c : Code} {H : Heap} {locs : List Loc} {cells slots : Nat} {D : va_G} {cy : Nat → ClassId} {a : Nat → Nat} {M : zM} {b L i : Nat} {xs : Nat → Int32} {ls : Array Slot} (X : zCX p s m meth c #[.ref b] cL_law 4 ret RL) (hX : va_X b L xs s s.heap) (hbl : b < s.heap.size) (hL : L ≤ 3072) (hi : i + 6 ≤ L) (hcs : cells ≤ room_1.cells ∧ slots ≤ room_1.slots) (hw : zWD D cy a (zAL s) M H locs s) (hR : Rel2 M M) (hl : lv_has ls 4 (zLL b a i)) (K : ∀ (M2 : zM) (H : Heap) (locs : List Loc), zWD D cy a (zAL s) M2 H locs s → Rel2 M2 M2 → W p l e room_1 s m #[.ref b] below meth c H locs cells slots (lw_Z below #[.ref b] s) (F0 m 1431 ls [])) : W p l e room_1 s m #[.ref b] below meth c H locs cells slots (lw_Z below #[.ref b] s) (F0 m 1095 ls []) := by
  obtain ⟨hx, hb, hr, hml, hown, hW, hlocks⟩ := id X
  have hbA : ¬ zAL s b := Nat.not_le.mpr hbl
  obtain ⟨r, M1, M2, e1, e2, hR2⟩ := eq_use (fun C R h => eq_body (xs (i + 1)) h) hR
  refine lv_aload_n hx hb dL_law_1095 rfl (lv_at hl 1 rfl) ?_
  refine zl_arg 1 hx hb hX hbl hbA hw.2.2.1 hl (by decide) (by omega) hL dL_law_1096 dL_law_1097 dL_law_1098 dL_law_1099 dL_law_1100 ?_
  refine z_qVi (n := 1) (As := [.int (xs (i + 1))]) (rest := []) X hw (kX7_body l D cy a (xs (i + 1)) M r M1 e1) (zcw_V hW zm_39_17 zm_39_18 zm_39_19 zm_1_2 zm_39_20 rfl rfl (by decide +kernel) ⟨Nat.le_of_ble_eq_true rfl, Nat.le_of_ble_eq_true rfl⟩) (by decide) (zS7 rfl cy a (M 0)) rfl rfl rfl (Nat.le_of_ble_eq_true rfl) hl.1 hcs dL_law_1101 (fun H locs hw => ?_)
  refine lv_aload_n hx hb dL_law_1104 rfl (lv_at hl 2 rfl) ?_
  refine zl_arg 1 hx hb hX hbl hbA hw.2.2.1 hl (by decide) (by omega) hL dL_law_1105 dL_law_1106 dL_law_1107 dL_law_1108 dL_law_1109 ?_
  refine z_qVi (n := 1) (As := [.int (xs (i + 1))]) (rest := [.int r]) X hw (kX8_body l D cy a (xs (i + 1)) M1 r M2 e2) (zcw_V hW zm_39_23 zm_40_0 zm_40_1 zm_1_5 zm_40_2 rfl rfl (by decide +kernel) ⟨Nat.le_of_ble_eq_true rfl, Nat.le_of_ble_eq_true rfl⟩) (by decide) (zS8 rfl cy a (M1 87)) rfl rfl rfl (Nat.le_of_ble_eq_true rfl) hl.1 hcs dL_law_1110 (fun H locs hw => ?_)
  exact lv_icmp_eq (tgt := 1431) hx hb dL_law_1113 (by decide) (fun _ => K M2 H locs hw hR2) (fun z => absurd rfl z)
set_option maxHeartbeats 4000000 in
set_option maxRecDepth 100000 in
theorem lc_28 {p : Program} {l : Launch} {e : Env} {s : State} {m : MethodId} {below : List Frame} {meth : Method} {c : Code} {H : Heap} {locs : List Loc} {cells slots : Nat} {D : va_G} {cy : Nat → ClassId} {a : Nat → Nat} {M : zM} {b L i : Nat} {xs : Nat → Int32} {ls : Array Slot} (X : zCX p s m meth c #[.ref b] cL_law 4 ret RL) (hX : va_X b L xs s s.heap) (hbl : b < s.heap.size) (hL : L ≤ 3072) (hi : i + 6 ≤ L) (hcs : cells ≤ room_1.cells ∧ slots ≤ room_1.slots) (hw : zWD D cy a (zAL s) M H locs s) (hR : Rel2 M M) (hl : lv_has ls 4 (zLL b a i)) (K : ∀ (M2 : zM) (H : Heap) (locs : List Loc), zWD D cy a (zAL s) M2 H locs s → Rel2 M2 M2 → W p l e room_1 s m #[.ref b] below meth c H locs cells slots (lw_Z below #[.ref b] s) (F0 m 1431 ls [])) : W p l e room_1 s m #[.ref b] below meth c H locs cells slots (lw_Z below #[.ref b] s) (F0 m 1118 ls []) := by
  obtain ⟨hx, hb, hr, hml, hown, hW, hlocks⟩ := id X
  have hbA : ¬ zAL s b := Nat.not_le.mpr hbl
  obtain ⟨r, M1, M2, e1, e2, hR2⟩ := eq_use (fun C R h => eq_sheet (xs (i + 1)) (xs (i + 2)) (xs (i + 3)) h) hR
  refine lv_aload_n hx hb dL_law_1118 rfl (lv_at hl 1 rfl) ?_
  refine zl_arg 1 hx hb hX hbl hbA hw.2.2.1 hl (by decide) (by omega) hL dL_law_1119 dL_law_1120 dL_law_1121 dL_law_1122 dL_law_1123 ?_
  refine zl_arg 2 hx hb hX hbl hbA hw.2.2.1 hl (by decide) (by omega) hL dL_law_1124 dL_law_1125 dL_law_1126 dL_law_1127 dL_law_1128 ?_
  refine zl_arg 3 hx hb hX hbl hbA hw.2.2.1 hl (by decide) (by omega) hL dL_law_1129 dL_law_1130 dL_law_1131 dL_law_1132 dL_law_1133 ?_
  refine z_qVi (n := 3) (As := [.int (xs (i + 1)), .int (xs (i + 2)), .int (xs (i + 3))]) (rest := []) X hw (kX7_sheet l D cy a (xs (i + 1)) (xs (i + 2)) (xs (i + 3)) M r M1 e1) (zcw_V hW zm_40_3 zm_40_4 zm_40_5 zm_1_2 zm_40_6 rfl rfl (by decide +kernel) ⟨Nat.le_of_ble_eq_true rfl, Nat.le_of_ble_eq_true rfl⟩) (by decide) (zS7 rfl cy a (M 0)) rfl rfl rfl (Nat.le_of_ble_eq_true rfl) hl.1 hcs dL_law_1134 (fun H locs hw => ?_)
  refine lv_aload_n hx hb dL_law_1137 rfl (lv_at hl 2 rfl) ?_
  refine zl_arg 1 hx hb hX hbl hbA hw.2.2.1 hl (by decide) (by omega) hL dL_law_1138 dL_law_1139 dL_law_1140 dL_law_1141 dL_law_1142 ?_
  refine zl_arg 2 hx hb hX hbl hbA hw.2.2.1 hl (by decide) (by omega) hL dL_law_1143 dL_law_1144 dL_law_1145 dL_law_1146 dL_law_1147 ?_
  refine zl_arg 3 hx hb hX hbl hbA hw.2.2.1 hl (by decide) (by omega) hL dL_law_1148 dL_law_1149 dL_law_1150 dL_law_1151 dL_law_1152 ?_
  refine z_qVi (n := 3) (As := [.int (xs (i + 1)), .int (xs (i + 2)), .int (xs (i + 3))]) (rest := [.int r]) X hw (kX8_sheet l D cy a (xs (i + 1)) (xs (i + 2)) (xs (i + 3)) M1 r M2 e2) (zcw_V hW zm_40_14 zm_40_15 zm_40_16 zm_1_5 zm_40_17 rfl rfl (by decide +kernel) ⟨Nat.le_of_ble_eq_true rfl, Nat.le_of_ble_eq_true rfl⟩) (by decide) (zS8 rfl cy a (M1 87)) rfl rfl rfl (Nat.le_of_ble_eq_true rfl) hl.1 hcs dL_law_1153 (fun H locs hw => ?_)
  exact lv_icmp_eq (tgt := 1431) hx hb dL_law_1156 (by decide) (fun _ => K M2 H locs hw hR2) (fun z => absurd rfl z)
set_option maxHeartbeats 4000000 in
set_option maxRecDepth 100000 in
theorem lc_29 {p : Program} {l : Launch} {e : Env} {s : State} {m : MethodId} {below : List Frame} {meth : Method} {c : Code} {H : Heap} {locs : List Loc} {cells slots : Nat} {D : va_G} {cy : Nat → ClassId} {a : Nat → Nat} {M : zM} {b L i : Nat} {xs : Nat → Int32} {ls : Array Slot} (X : zCX p s m meth c #[.ref b] cL_law 4 ret RL) (hX : va_X b L xs s s.heap) (hbl : b < s.heap.size) (hL : L ≤ 3072) (hi : i + 6 ≤ L) (hcs : cells ≤ room_1.cells ∧ slots ≤ room_1.slots) (hw : zWD D cy a (zAL s) M H locs s) (hR : Rel2 M M) (hl : lv_has ls 4 (zLL b a i)) (K : ∀ (M2 : zM) (H : Heap) (locs : List Loc), zWD D cy a (zAL s) M2 H locs s → Rel2 M2 M2 → W p l e room_1 s m #[.ref b] below meth c H locs cells slots (lw_Z below #[.ref b] s) (F0 m 1431 ls [])) : W p l e room_1 s m #[.ref b] below meth c H locs cells slots (lw_Z below #[.ref b] s) (F0 m 1161 ls []) := by
  obtain ⟨hx, hb, hr, hml, hown, hW, hlocks⟩ := id X
  have hbA : ¬ zAL s b := Nat.not_le.mpr hbl
  obtain ⟨r, M1, M2, e1, e2, hR2⟩ := eq_use (fun C R h => eq_put (xs (i + 1)) (xs (i + 2)) (xs (i + 3)) h) hR
  refine lv_aload_n hx hb dL_law_1161 rfl (lv_at hl 1 rfl) ?_
  refine zl_arg 1 hx hb hX hbl hbA hw.2.2.1 hl (by decide) (by omega) hL dL_law_1162 dL_law_1163 dL_law_1164 dL_law_1165 dL_law_1166 ?_
  refine zl_arg 2 hx hb hX hbl hbA hw.2.2.1 hl (by decide) (by omega) hL dL_law_1167 dL_law_1168 dL_law_1169 dL_law_1170 dL_law_1171 ?_
  refine zl_arg 3 hx hb hX hbl hbA hw.2.2.1 hl (by decide) (by omega) hL dL_law_1172 dL_law_1173 dL_law_1174 dL_law_1175 dL_law_1176 ?_
  refine z_qVi (n := 3) (As := [.int (xs (i + 1)), .int (xs (i + 2)), .int (xs (i + 3))]) (rest := []) X hw (kX7_put l D cy a (xs (i + 1)) (xs (i + 2)) (xs (i + 3)) M r M1 e1) (zcw_V hW zm_40_21 zm_40_22 zm_40_23 zm_1_2 zm_41_0 rfl rfl (by decide +kernel) ⟨Nat.le_of_ble_eq_true rfl, Nat.le_of_ble_eq_true rfl⟩) (by decide) (zS7 rfl cy a (M 0)) rfl rfl rfl (Nat.le_of_ble_eq_true rfl) hl.1 hcs dL_law_1177 (fun H locs hw => ?_)
  refine lv_aload_n hx hb dL_law_1180 rfl (lv_at hl 2 rfl) ?_
  refine zl_arg 1 hx hb hX hbl hbA hw.2.2.1 hl (by decide) (by omega) hL dL_law_1181 dL_law_1182 dL_law_1183 dL_law_1184 dL_law_1185 ?_
  refine zl_arg 2 hx hb hX hbl hbA hw.2.2.1 hl (by decide) (by omega) hL dL_law_1186 dL_law_1187 dL_law_1188 dL_law_1189 dL_law_1190 ?_
  refine zl_arg 3 hx hb hX hbl hbA hw.2.2.1 hl (by decide) (by omega) hL dL_law_1191 dL_law_1192 dL_law_1193 dL_law_1194 dL_law_1195 ?_
  refine z_qVi (n := 3) (As := [.int (xs (i + 1)), .int (xs (i + 2)), .int (xs (i + 3))]) (rest := [.int r]) X hw (kX8_put l D cy a (xs (i + 1)) (xs (i + 2)) (xs (i + 3)) M1 r M2 e2) (zcw_V hW zm_41_11 zm_41_12 zm_41_13 zm_1_5 zm_41_14 rfl rfl (by decide +kernel) ⟨Nat.le_of_ble_eq_true rfl, Nat.le_of_ble_eq_true rfl⟩) (by decide) (zS8 rfl cy a (M1 87)) rfl rfl rfl (Nat.le_of_ble_eq_true rfl) hl.1 hcs dL_law_1196 (fun H locs hw => ?_)
  exact lv_icmp_eq (tgt := 1431) hx hb dL_law_1199 (by decide) (fun _ => K M2 H locs hw hR2) (fun z => absurd rfl z)
set_option maxHeartbeats 4000000 in
set_option maxRecDepth 100000 in
theorem lc_30 {p : Program} {l : Launch} {e : Env} {s : State} {m : MethodId} {below : List Frame} {meth : Method} {c : Code} {H : Heap} {locs : List Loc} {cells slots : Nat} {D : va_G} {cy : Nat → ClassId} {a : Nat → Nat} {M : zM} {b L i : Nat} {xs : Nat → Int32} {ls : Array Slot} (X : zCX p s m meth c #[.ref b] cL_law 4 ret RL) (hX : va_X b L xs s s.heap) (hbl : b < s.heap.size) (hL : L ≤ 3072) (hi : i + 6 ≤ L) (hcs : cells ≤ room_1.cells ∧ slots ≤ room_1.slots) (hw : zWD D cy a (zAL s) M H locs s) (hR : Rel2 M M) (hl : lv_has ls 4 (zLL b a i)) (K : ∀ (M2 : zM) (H : Heap) (locs : List Loc), zWD D cy a (zAL s) M2 H locs s → Rel2 M2 M2 → W p l e room_1 s m #[.ref b] below meth c H locs cells slots (lw_Z below #[.ref b] s) (F0 m 1431 ls [])) : W p l e room_1 s m #[.ref b] below meth c H locs cells slots (lw_Z below #[.ref b] s) (F0 m 1204 ls []) := by
  obtain ⟨hx, hb, hr, hml, hown, hW, hlocks⟩ := id X
  have hbA : ¬ zAL s b := Nat.not_le.mpr hbl
  obtain ⟨r, M1, M2, e1, e2, hR2⟩ := eq_use (fun C R h => eq_move (xs (i + 1)) (xs (i + 2)) (xs (i + 3)) (xs (i + 4)) (xs (i + 5)) h) hR
  refine lv_aload_n hx hb dL_law_1204 rfl (lv_at hl 1 rfl) ?_
  refine zl_arg 1 hx hb hX hbl hbA hw.2.2.1 hl (by decide) (by omega) hL dL_law_1205 dL_law_1206 dL_law_1207 dL_law_1208 dL_law_1209 ?_
  refine zl_arg 2 hx hb hX hbl hbA hw.2.2.1 hl (by decide) (by omega) hL dL_law_1210 dL_law_1211 dL_law_1212 dL_law_1213 dL_law_1214 ?_
  refine zl_arg 3 hx hb hX hbl hbA hw.2.2.1 hl (by decide) (by omega) hL dL_law_1215 dL_law_1216 dL_law_1217 dL_law_1218 dL_law_1219 ?_
  refine zl_arg 4 hx hb hX hbl hbA hw.2.2.1 hl (by decide) (by omega) hL dL_law_1220 dL_law_1221 dL_law_1222 dL_law_1223 dL_law_1224 ?_
  refine zl_arg 5 hx hb hX hbl hbA hw.2.2.1 hl (by decide) (by omega) hL dL_law_1225 dL_law_1226 dL_law_1227 dL_law_1228 dL_law_1229 ?_
  refine z_qVi (n := 5) (As := [.int (xs (i + 1)), .int (xs (i + 2)), .int (xs (i + 3)), .int (xs (i + 4)), .int (xs (i + 5))]) (rest := []) X hw (kX7_move l D cy a (xs (i + 1)) (xs (i + 2)) (xs (i + 3)) (xs (i + 4)) (xs (i + 5)) M r M1 e1) (zcw_V hW zm_41_15 zm_41_16 zm_41_17 zm_1_2 zm_41_18 rfl rfl (by decide +kernel) ⟨Nat.le_of_ble_eq_true rfl, Nat.le_of_ble_eq_true rfl⟩) (by decide) (zS7 rfl cy a (M 0)) rfl rfl rfl (Nat.le_of_ble_eq_true rfl) hl.1 hcs dL_law_1230 (fun H locs hw => ?_)
  refine lv_aload_n hx hb dL_law_1233 rfl (lv_at hl 2 rfl) ?_
  refine zl_arg 1 hx hb hX hbl hbA hw.2.2.1 hl (by decide) (by omega) hL dL_law_1234 dL_law_1235 dL_law_1236 dL_law_1237 dL_law_1238 ?_
  refine zl_arg 2 hx hb hX hbl hbA hw.2.2.1 hl (by decide) (by omega) hL dL_law_1239 dL_law_1240 dL_law_1241 dL_law_1242 dL_law_1243 ?_
  refine zl_arg 3 hx hb hX hbl hbA hw.2.2.1 hl (by decide) (by omega) hL dL_law_1244 dL_law_1245 dL_law_1246 dL_law_1247 dL_law_1248 ?_
  refine zl_arg 4 hx hb hX hbl hbA hw.2.2.1 hl (by decide) (by omega) hL dL_law_1249 dL_law_1250 dL_law_1251 dL_law_1252 dL_law_1253 ?_
  refine zl_arg 5 hx hb hX hbl hbA hw.2.2.1 hl (by decide) (by omega) hL dL_law_1254 dL_law_1255 dL_law_1256 dL_law_1257 dL_law_1258 ?_
  refine z_qVi (n := 5) (As := [.int (xs (i + 1)), .int (xs (i + 2)), .int (xs (i + 3)), .int (xs (i + 4)), .int (xs (i + 5))]) (rest := [.int r]) X hw (kX8_move l D cy a (xs (i + 1)) (xs (i + 2)) (xs (i + 3)) (xs (i + 4)) (xs (i + 5)) M1 r M2 e2) (zcw_V hW zm_42_1 zm_42_2 zm_42_3 zm_1_5 zm_42_4 rfl rfl (by decide +kernel) ⟨Nat.le_of_ble_eq_true rfl, Nat.le_of_ble_eq_true rfl⟩) (by decide) (zS8 rfl cy a (M1 87)) rfl rfl rfl (Nat.le_of_ble_eq_true rfl) hl.1 hcs dL_law_1259 (fun H locs hw => ?_)
  exact lv_icmp_eq (tgt := 1431) hx hb dL_law_1262 (by decide) (fun _ => K M2 H locs hw hR2) (fun z => absurd rfl z)
set_option maxHeartbeats 4000000 in
set_option maxRecDepth 100000 in
theorem lc_31 {p : Program} {l : Launch} {e : Env} {s : State} {m : MethodId} {below : List Frame} {meth : Method} {c : Code} {H : Heap} {locs : List Loc} {cells slots : Nat} {D : va_G} {cy : Nat → ClassId} {a : Nat → Nat} {M : zM} {b L i : Nat} {xs : Nat → Int32} {ls : Array Slot} (X : zCX p s m meth c #[.ref b] cL_law 4 ret RL) (hX : va_X b L xs s s.heap) (hbl : b < s.heap.size) (hL : L ≤ 3072) (hi : i + 6 ≤ L) (hcs : cells ≤ room_1.cells ∧ slots ≤ room_1.slots) (hw : zWD D cy a (zAL s) M H locs s) (hR : Rel2 M M) (hl : lv_has ls 4 (zLL b a i)) (K : ∀ (M2 : zM) (H : Heap) (locs : List Loc), zWD D cy a (zAL s) M2 H locs s → Rel2 M2 M2 → W p l e room_1 s m #[.ref b] below meth c H locs cells slots (lw_Z below #[.ref b] s) (F0 m 1431 ls [])) : W p l e room_1 s m #[.ref b] below meth c H locs cells slots (lw_Z below #[.ref b] s) (F0 m 1267 ls []) := by
  obtain ⟨hx, hb, hr, hml, hown, hW, hlocks⟩ := id X
  have hbA : ¬ zAL s b := Nat.not_le.mpr hbl
  obtain ⟨r, M1, M2, e1, e2, hR2⟩ := eq_use (fun C R h => eq_forces (xs (i + 1)) h) hR
  refine lv_aload_n hx hb dL_law_1267 rfl (lv_at hl 1 rfl) ?_
  refine zl_arg 1 hx hb hX hbl hbA hw.2.2.1 hl (by decide) (by omega) hL dL_law_1268 dL_law_1269 dL_law_1270 dL_law_1271 dL_law_1272 ?_
  refine z_qVi (n := 1) (As := [.int (xs (i + 1))]) (rest := []) X hw (kX7_forces l D cy a (xs (i + 1)) M r M1 e1) (zcw_V hW zm_42_5 zm_42_6 zm_42_7 zm_1_2 zm_42_8 rfl rfl (by decide +kernel) ⟨Nat.le_of_ble_eq_true rfl, Nat.le_of_ble_eq_true rfl⟩) (by decide) (zS7 rfl cy a (M 0)) rfl rfl rfl (Nat.le_of_ble_eq_true rfl) hl.1 hcs dL_law_1273 (fun H locs hw => ?_)
  refine lv_aload_n hx hb dL_law_1276 rfl (lv_at hl 2 rfl) ?_
  refine zl_arg 1 hx hb hX hbl hbA hw.2.2.1 hl (by decide) (by omega) hL dL_law_1277 dL_law_1278 dL_law_1279 dL_law_1280 dL_law_1281 ?_
  refine z_qVi (n := 1) (As := [.int (xs (i + 1))]) (rest := [.int r]) X hw (kX8_forces l D cy a (xs (i + 1)) M1 r M2 e2) (zcw_V hW zm_42_9 zm_42_10 zm_42_11 zm_1_5 zm_42_12 rfl rfl (by decide +kernel) ⟨Nat.le_of_ble_eq_true rfl, Nat.le_of_ble_eq_true rfl⟩) (by decide) (zS8 rfl cy a (M1 87)) rfl rfl rfl (Nat.le_of_ble_eq_true rfl) hl.1 hcs dL_law_1282 (fun H locs hw => ?_)
  exact lv_icmp_eq (tgt := 1431) hx hb dL_law_1285 (by decide) (fun _ => K M2 H locs hw hR2) (fun z => absurd rfl z)
set_option maxHeartbeats 4000000 in
set_option maxRecDepth 100000 in
theorem lc_32 {p : Program} {l : Launch} {e : Env} {s : State} {m : MethodId} {below : List Frame} {meth : Method} {c : Code} {H : Heap} {locs : List Loc} {cells slots : Nat} {D : va_G} {cy : Nat → ClassId} {a : Nat → Nat} {M : zM} {b L i : Nat} {xs : Nat → Int32} {ls : Array Slot} (X : zCX p s m meth c #[.ref b] cL_law 4 ret RL) (hX : va_X b L xs s s.heap) (hbl : b < s.heap.size) (hL : L ≤ 3072) (hi : i + 6 ≤ L) (hcs : cells ≤ room_1.cells ∧ slots ≤ room_1.slots) (hw : zWD D cy a (zAL s) M H locs s) (hR : Rel2 M M) (hl : lv_has ls 4 (zLL b a i)) (K : ∀ (M2 : zM) (H : Heap) (locs : List Loc), zWD D cy a (zAL s) M2 H locs s → Rel2 M2 M2 → W p l e room_1 s m #[.ref b] below meth c H locs cells slots (lw_Z below #[.ref b] s) (F0 m 1431 ls [])) : W p l e room_1 s m #[.ref b] below meth c H locs cells slots (lw_Z below #[.ref b] s) (F0 m 1290 ls []) := by
  obtain ⟨hx, hb, hr, hml, hown, hW, hlocks⟩ := id X
  have hbA : ¬ zAL s b := Nat.not_le.mpr hbl
  obtain ⟨r, M1, M2, e1, e2, hR2⟩ := eq_use (fun C R h => eq_judge (xs (i + 1)) h) hR
  refine lv_aload_n hx hb dL_law_1290 rfl (lv_at hl 1 rfl) ?_
  refine zl_arg 1 hx hb hX hbl hbA hw.2.2.1 hl (by decide) (by omega) hL dL_law_1291 dL_law_1292 dL_law_1293 dL_law_1294 dL_law_1295 ?_
  refine z_qVi (n := 1) (As := [.int (xs (i + 1))]) (rest := []) X hw (kX7_judge l D cy a (xs (i + 1)) M r M1 e1) (zcw_V hW zm_42_17 zm_42_18 zm_42_19 zm_1_2 zm_42_20 rfl rfl (by decide +kernel) ⟨Nat.le_of_ble_eq_true rfl, Nat.le_of_ble_eq_true rfl⟩) (by decide) (zS7 rfl cy a (M 0)) rfl rfl rfl (Nat.le_of_ble_eq_true rfl) hl.1 hcs dL_law_1296 (fun H locs hw => ?_)
  refine lv_aload_n hx hb dL_law_1299 rfl (lv_at hl 2 rfl) ?_
  refine zl_arg 1 hx hb hX hbl hbA hw.2.2.1 hl (by decide) (by omega) hL dL_law_1300 dL_law_1301 dL_law_1302 dL_law_1303 dL_law_1304 ?_
  refine z_qVi (n := 1) (As := [.int (xs (i + 1))]) (rest := [.int r]) X hw (kX8_judge l D cy a (xs (i + 1)) M1 r M2 e2) (zcw_V hW zm_42_21 zm_42_22 zm_42_23 zm_1_5 zm_43_0 rfl rfl (by decide +kernel) ⟨Nat.le_of_ble_eq_true rfl, Nat.le_of_ble_eq_true rfl⟩) (by decide) (zS8 rfl cy a (M1 87)) rfl rfl rfl (Nat.le_of_ble_eq_true rfl) hl.1 hcs dL_law_1305 (fun H locs hw => ?_)
  exact lv_icmp_eq (tgt := 1431) hx hb dL_law_1308 (by decide) (fun _ => K M2 H locs hw hR2) (fun z => absurd rfl z)
set_option maxHeartbeats 4000000 in
set_option maxRecDepth 100000 in
theorem lc_33 {p : Program} {l : Launch} {e : Env} {s : State} {m : MethodId} {below : List Frame} {meth : Method} {c : Code} {H : Heap} {locs : List Loc} {cells slots : Nat} {D : va_G} {cy : Nat → ClassId} {a : Nat → Nat} {M : zM} {b L i : Nat} {xs : Nat → Int32} {ls : Array Slot} (X : zCX p s m meth c #[.ref b] cL_law 4 ret RL) (hX : va_X b L xs s s.heap) (hbl : b < s.heap.size) (hL : L ≤ 3072) (hi : i + 6 ≤ L) (hcs : cells ≤ room_1.cells ∧ slots ≤ room_1.slots) (hw : zWD D cy a (zAL s) M H locs s) (hR : Rel2 M M) (hl : lv_has ls 4 (zLL b a i)) (K : ∀ (M2 : zM) (H : Heap) (locs : List Loc), zWD D cy a (zAL s) M2 H locs s → Rel2 M2 M2 → W p l e room_1 s m #[.ref b] below meth c H locs cells slots (lw_Z below #[.ref b] s) (F0 m 1431 ls [])) : W p l e room_1 s m #[.ref b] below meth c H locs cells slots (lw_Z below #[.ref b] s) (F0 m 1313 ls []) := by
  obtain ⟨hx, hb, hr, hml, hown, hW, hlocks⟩ := id X
  have hbA : ¬ zAL s b := Nat.not_le.mpr hbl
  obtain ⟨r, M1, M2, e1, e2, hR2⟩ := eq_use (fun C R h => eq_image  h) hR
  refine lv_aload_n hx hb dL_law_1313 rfl (lv_at hl 1 rfl) ?_
  refine z_qVi (n := 0) (As := []) (rest := []) X hw (kX7_image l D cy a  M r M1 e1) (zcw_V hW zm_43_1 zm_43_2 zm_43_3 zm_1_2 zm_43_4 rfl rfl (by decide +kernel) ⟨Nat.le_of_ble_eq_true rfl, Nat.le_of_ble_eq_true rfl⟩) (by decide) (zS7 rfl cy a (M 0)) rfl rfl rfl (Nat.le_of_ble_eq_true rfl) hl.1 hcs dL_law_1314 (fun H locs hw => ?_)
  refine lv_aload_n hx hb dL_law_1317 rfl (lv_at hl 2 rfl) ?_
  refine z_qVi (n := 0) (As := []) (rest := [.int r]) X hw (kX8_image l D cy a  M1 r M2 e2) (zcw_V hW zm_43_12 zm_43_13 zm_43_14 zm_1_5 zm_43_15 rfl rfl (by decide +kernel) ⟨Nat.le_of_ble_eq_true rfl, Nat.le_of_ble_eq_true rfl⟩) (by decide) (zS8 rfl cy a (M1 87)) rfl rfl rfl (Nat.le_of_ble_eq_true rfl) hl.1 hcs dL_law_1318 (fun H locs hw => ?_)
  exact lv_icmp_eq (tgt := 1431) hx hb dL_law_1321 (by decide) (fun _ => K M2 H locs hw hR2) (fun z => absurd rfl z)
set_option maxHeartbeats 4000000 in
set_option maxRecDepth 100000 in
theorem lc_34 {p : Program} {l : Launch} {e : Env} {s : State} {m : MethodId} {below : List Frame} {meth : Method} {c : Code} {H : Heap} {locs : List Loc} {cells slots : Nat} {D : va_G} {cy : Nat → ClassId} {a : Nat → Nat} {M : zM} {b L i : Nat} {xs : Nat → Int32} {ls : Array Slot} (X : zCX p s m meth c #[.ref b] cL_law 4 ret RL) (hX : va_X b L xs s s.heap) (hbl : b < s.heap.size) (hL : L ≤ 3072) (hi : i + 6 ≤ L) (hcs : cells ≤ room_1.cells ∧ slots ≤ room_1.slots) (hw : zWD D cy a (zAL s) M H locs s) (hR : Rel2 M M) (hl : lv_has ls 4 (zLL b a i)) (K : ∀ (M2 : zM) (H : Heap) (locs : List Loc), zWD D cy a (zAL s) M2 H locs s → Rel2 M2 M2 → W p l e room_1 s m #[.ref b] below meth c H locs cells slots (lw_Z below #[.ref b] s) (F0 m 1431 ls [])) : W p l e room_1 s m #[.ref b] below meth c H locs cells slots (lw_Z below #[.ref b] s) (F0 m 1326 ls []) := by
  obtain ⟨hx, hb, hr, hml, hown, hW, hlocks⟩ := id X
  have hbA : ¬ zAL s b := Nat.not_le.mpr hbl
  obtain ⟨r, M1, M2, e1, e2, hR2⟩ := eq_use (fun C R h => eq_restore  h) hR
  refine lv_aload_n hx hb dL_law_1326 rfl (lv_at hl 1 rfl) ?_
  refine z_qVi (n := 0) (As := []) (rest := []) X hw (kX7_restore l D cy a  M r M1 e1) (zcw_V hW zm_43_17 zm_43_18 zm_43_19 zm_1_2 zm_43_20 rfl rfl (by decide +kernel) ⟨Nat.le_of_ble_eq_true rfl, Nat.le_of_ble_eq_true rfl⟩) (by decide) (zS7 rfl cy a (M 0)) rfl rfl rfl (Nat.le_of_ble_eq_true rfl) hl.1 hcs dL_law_1327 (fun H locs hw => ?_)
  refine lv_aload_n hx hb dL_law_1330 rfl (lv_at hl 2 rfl) ?_
  refine z_qVi (n := 0) (As := []) (rest := [.int r]) X hw (kX8_restore l D cy a  M1 r M2 e2) (zcw_V hW zm_43_21 zm_43_22 zm_43_23 zm_1_5 zm_44_0 rfl rfl (by decide +kernel) ⟨Nat.le_of_ble_eq_true rfl, Nat.le_of_ble_eq_true rfl⟩) (by decide) (zS8 rfl cy a (M1 87)) rfl rfl rfl (Nat.le_of_ble_eq_true rfl) hl.1 hcs dL_law_1331 (fun H locs hw => ?_)
  exact lv_icmp_eq (tgt := 1431) hx hb dL_law_1334 (by decide) (fun _ => K M2 H locs hw hR2) (fun z => absurd rfl z)
set_option maxHeartbeats 4000000 in
set_option maxRecDepth 100000 in
theorem lc_35 {p : Program} {l : Launch} {e : Env} {s : State} {m : MethodId} {below : List Frame} {meth : Method} {c : Code} {H : Heap} {locs : List Loc} {cells slots : Nat} {D : va_G} {cy : Nat → ClassId} {a : Nat → Nat} {M : zM} {b L i : Nat} {xs : Nat → Int32} {ls : Array Slot} (X : zCX p s m meth c #[.ref b] cL_law 4 ret RL) (hX : va_X b L xs s s.heap) (hbl : b < s.heap.size) (hL : L ≤ 3072) (hi : i + 6 ≤ L) (hcs : cells ≤ room_1.cells ∧ slots ≤ room_1.slots) (hw : zWD D cy a (zAL s) M H locs s) (hR : Rel2 M M) (hl : lv_has ls 4 (zLL b a i)) (K : ∀ (M2 : zM) (H : Heap) (locs : List Loc), zWD D cy a (zAL s) M2 H locs s → Rel2 M2 M2 → W p l e room_1 s m #[.ref b] below meth c H locs cells slots (lw_Z below #[.ref b] s) (F0 m 1431 ls [])) : W p l e room_1 s m #[.ref b] below meth c H locs cells slots (lw_Z below #[.ref b] s) (F0 m 1339 ls []) := by
  obtain ⟨hx, hb, hr, hml, hown, hW, hlocks⟩ := id X
  have hbA : ¬ zAL s b := Nat.not_le.mpr hbl
  obtain ⟨r, M1, M2, e1, e2, hR2⟩ := eq_use (fun C R h => eq_tell (xs (i + 1)) h) hR
  refine lv_aload_n hx hb dL_law_1339 rfl (lv_at hl 1 rfl) ?_
  refine zl_arg 1 hx hb hX hbl hbA hw.2.2.1 hl (by decide) (by omega) hL dL_law_1340 dL_law_1341 dL_law_1342 dL_law_1343 dL_law_1344 ?_
  refine z_qVi (n := 1) (As := [.int (xs (i + 1))]) (rest := []) X hw (kX7_tell l D cy a (xs (i + 1)) M r M1 e1) (zcw_V hW zm_44_1 zm_44_2 zm_44_3 zm_1_2 zm_44_4 rfl rfl (by decide +kernel) ⟨Nat.le_of_ble_eq_true rfl, Nat.le_of_ble_eq_true rfl⟩) (by decide) (zS7 rfl cy a (M 0)) rfl rfl rfl (Nat.le_of_ble_eq_true rfl) hl.1 hcs dL_law_1345 (fun H locs hw => ?_)
  refine lv_aload_n hx hb dL_law_1348 rfl (lv_at hl 2 rfl) ?_
  refine zl_arg 1 hx hb hX hbl hbA hw.2.2.1 hl (by decide) (by omega) hL dL_law_1349 dL_law_1350 dL_law_1351 dL_law_1352 dL_law_1353 ?_
  refine z_qVi (n := 1) (As := [.int (xs (i + 1))]) (rest := [.int r]) X hw (kX8_tell l D cy a (xs (i + 1)) M1 r M2 e2) (zcw_V hW zm_44_7 zm_44_8 zm_44_9 zm_1_5 zm_44_10 rfl rfl (by decide +kernel) ⟨Nat.le_of_ble_eq_true rfl, Nat.le_of_ble_eq_true rfl⟩) (by decide) (zS8 rfl cy a (M1 87)) rfl rfl rfl (Nat.le_of_ble_eq_true rfl) hl.1 hcs dL_law_1354 (fun H locs hw => ?_)
  exact lv_icmp_eq (tgt := 1431) hx hb dL_law_1357 (by decide) (fun _ => K M2 H locs hw hR2) (fun z => absurd rfl z)
set_option maxHeartbeats 4000000 in
set_option maxRecDepth 100000 in
theorem lc_36 {p : Program} {l : Launch} {e : Env} {s : State} {m : MethodId} {below : List Frame} {meth : Method} {c : Code} {H : Heap} {locs : List Loc} {cells slots : Nat} {D : va_G} {cy : Nat → ClassId} {a : Nat → Nat} {M : zM} {b L i : Nat} {xs : Nat → Int32} {ls : Array Slot} (X : zCX p s m meth c #[.ref b] cL_law 4 ret RL) (hX : va_X b L xs s s.heap) (hbl : b < s.heap.size) (hL : L ≤ 3072) (hi : i + 6 ≤ L) (hcs : cells ≤ room_1.cells ∧ slots ≤ room_1.slots) (hw : zWD D cy a (zAL s) M H locs s) (hR : Rel2 M M) (hl : lv_has ls 4 (zLL b a i)) (K : ∀ (M2 : zM) (H : Heap) (locs : List Loc), zWD D cy a (zAL s) M2 H locs s → Rel2 M2 M2 → W p l e room_1 s m #[.ref b] below meth c H locs cells slots (lw_Z below #[.ref b] s) (F0 m 1431 ls [])) : W p l e room_1 s m #[.ref b] below meth c H locs cells slots (lw_Z below #[.ref b] s) (F0 m 1362 ls []) := by
  obtain ⟨hx, hb, hr, hml, hown, hW, hlocks⟩ := id X
  have hbA : ¬ zAL s b := Nat.not_le.mpr hbl
  obtain ⟨r, M1, M2, e1, e2, hR2⟩ := eq_use (fun C R h => eq_check (xs (i + 1)) h) hR
  refine lv_aload_n hx hb dL_law_1362 rfl (lv_at hl 1 rfl) ?_
  refine zl_arg 1 hx hb hX hbl hbA hw.2.2.1 hl (by decide) (by omega) hL dL_law_1363 dL_law_1364 dL_law_1365 dL_law_1366 dL_law_1367 ?_
  refine z_qVi (n := 1) (As := [.int (xs (i + 1))]) (rest := []) X hw (kX7_check l D cy a (xs (i + 1)) M r M1 e1) (zcw_V hW zm_44_11 zm_44_12 zm_44_13 zm_1_2 zm_44_14 rfl rfl (by decide +kernel) ⟨Nat.le_of_ble_eq_true rfl, Nat.le_of_ble_eq_true rfl⟩) (by decide) (zS7 rfl cy a (M 0)) rfl rfl rfl (Nat.le_of_ble_eq_true rfl) hl.1 hcs dL_law_1368 (fun H locs hw => ?_)
  refine lv_aload_n hx hb dL_law_1371 rfl (lv_at hl 2 rfl) ?_
  refine zl_arg 1 hx hb hX hbl hbA hw.2.2.1 hl (by decide) (by omega) hL dL_law_1372 dL_law_1373 dL_law_1374 dL_law_1375 dL_law_1376 ?_
  refine z_qVi (n := 1) (As := [.int (xs (i + 1))]) (rest := [.int r]) X hw (kX8_check l D cy a (xs (i + 1)) M1 r M2 e2) (zcw_V hW zm_44_15 zm_44_16 zm_44_17 zm_1_5 zm_44_18 rfl rfl (by decide +kernel) ⟨Nat.le_of_ble_eq_true rfl, Nat.le_of_ble_eq_true rfl⟩) (by decide) (zS8 rfl cy a (M1 87)) rfl rfl rfl (Nat.le_of_ble_eq_true rfl) hl.1 hcs dL_law_1377 (fun H locs hw => ?_)
  exact lv_icmp_eq (tgt := 1431) hx hb dL_law_1380 (by decide) (fun _ => K M2 H locs hw hR2) (fun z => absurd rfl z)
set_option maxHeartbeats 4000000 in
set_option maxRecDepth 100000 in
theorem lc_37 {p : Program} {l : Launch} {e : Env} {s : State} {m : MethodId} {below : List Frame} {meth : Method} {c : Code} {H : Heap} {locs : List Loc} {cells slots : Nat} {D : va_G} {cy : Nat → ClassId} {a : Nat → Nat} {M : zM} {b L i : Nat} {xs : Nat → Int32} {ls : Array Slot} (X : zCX p s m meth c #[.ref b] cL_law 4 ret RL) (hX : va_X b L xs s s.heap) (hbl : b < s.heap.size) (hL : L ≤ 3072) (hi : i + 6 ≤ L) (hcs : cells ≤ room_1.cells ∧ slots ≤ room_1.slots) (hw : zWD D cy a (zAL s) M H locs s) (hR : Rel2 M M) (hl : lv_has ls 4 (zLL b a i)) (K : ∀ (M2 : zM) (H : Heap) (locs : List Loc), zWD D cy a (zAL s) M2 H locs s → Rel2 M2 M2 → W p l e room_1 s m #[.ref b] below meth c H locs cells slots (lw_Z below #[.ref b] s) (F0 m 1431 ls [])) : W p l e room_1 s m #[.ref b] below meth c H locs cells slots (lw_Z below #[.ref b] s) (F0 m 1385 ls []) := by
  obtain ⟨hx, hb, hr, hml, hown, hW, hlocks⟩ := id X
  have hbA : ¬ zAL s b := Nat.not_le.mpr hbl
  obtain ⟨r, M1, M2, e1, e2, hR2⟩ := eq_use (fun C R h => eq_count (xs (i + 1)) h) hR
  refine lv_aload_n hx hb dL_law_1385 rfl (lv_at hl 1 rfl) ?_
  refine zl_arg 1 hx hb hX hbl hbA hw.2.2.1 hl (by decide) (by omega) hL dL_law_1386 dL_law_1387 dL_law_1388 dL_law_1389 dL_law_1390 ?_
  refine z_qVi (n := 1) (As := [.int (xs (i + 1))]) (rest := []) X hw (kX7_count l D cy a (xs (i + 1)) M r M1 e1) (zcw_V hW zm_44_19 zm_44_20 zm_44_21 zm_1_2 zm_44_22 rfl rfl (by decide +kernel) ⟨Nat.le_of_ble_eq_true rfl, Nat.le_of_ble_eq_true rfl⟩) (by decide) (zS7 rfl cy a (M 0)) rfl rfl rfl (Nat.le_of_ble_eq_true rfl) hl.1 hcs dL_law_1391 (fun H locs hw => ?_)
  refine lv_aload_n hx hb dL_law_1394 rfl (lv_at hl 2 rfl) ?_
  refine zl_arg 1 hx hb hX hbl hbA hw.2.2.1 hl (by decide) (by omega) hL dL_law_1395 dL_law_1396 dL_law_1397 dL_law_1398 dL_law_1399 ?_
  refine z_qVi (n := 1) (As := [.int (xs (i + 1))]) (rest := [.int r]) X hw (kX8_count l D cy a (xs (i + 1)) M1 r M2 e2) (zcw_V hW zm_45_1 zm_45_2 zm_45_3 zm_1_5 zm_45_4 rfl rfl (by decide +kernel) ⟨Nat.le_of_ble_eq_true rfl, Nat.le_of_ble_eq_true rfl⟩) (by decide) (zS8 rfl cy a (M1 87)) rfl rfl rfl (Nat.le_of_ble_eq_true rfl) hl.1 hcs dL_law_1400 (fun H locs hw => ?_)
  exact lv_icmp_eq (tgt := 1431) hx hb dL_law_1403 (by decide) (fun _ => K M2 H locs hw hR2) (fun z => absurd rfl z)
set_option maxHeartbeats 4000000 in
set_option maxRecDepth 100000 in
theorem lc_38 {p : Program} {l : Launch} {e : Env} {s : State} {m : MethodId} {below : List Frame} {meth : Method} {c : Code} {H : Heap} {locs : List Loc} {cells slots : Nat} {D : va_G} {cy : Nat → ClassId} {a : Nat → Nat} {M : zM} {b L i : Nat} {xs : Nat → Int32} {ls : Array Slot} (X : zCX p s m meth c #[.ref b] cL_law 4 ret RL) (hX : va_X b L xs s s.heap) (hbl : b < s.heap.size) (hL : L ≤ 3072) (hi : i + 6 ≤ L) (hcs : cells ≤ room_1.cells ∧ slots ≤ room_1.slots) (hw : zWD D cy a (zAL s) M H locs s) (hR : Rel2 M M) (hl : lv_has ls 4 (zLL b a i)) (K : ∀ (M2 : zM) (H : Heap) (locs : List Loc), zWD D cy a (zAL s) M2 H locs s → Rel2 M2 M2 → W p l e room_1 s m #[.ref b] below meth c H locs cells slots (lw_Z below #[.ref b] s) (F0 m 1431 ls [])) : W p l e room_1 s m #[.ref b] below meth c H locs cells slots (lw_Z below #[.ref b] s) (F0 m 1408 ls []) := by
  obtain ⟨hx, hb, hr, hml, hown, hW, hlocks⟩ := id X
  have hbA : ¬ zAL s b := Nat.not_le.mpr hbl
  obtain ⟨r, M1, M2, e1, e2, hR2⟩ := eq_use (fun C R h => eq_told (xs (i + 1)) h) hR
  refine lv_aload_n hx hb dL_law_1408 rfl (lv_at hl 1 rfl) ?_
  refine zl_arg 1 hx hb hX hbl hbA hw.2.2.1 hl (by decide) (by omega) hL dL_law_1409 dL_law_1410 dL_law_1411 dL_law_1412 dL_law_1413 ?_
  refine z_qVi (n := 1) (As := [.int (xs (i + 1))]) (rest := []) X hw (kX7_told l D cy a (xs (i + 1)) M r M1 e1) (zcw_V hW zm_45_5 zm_45_6 zm_45_7 zm_1_2 zm_45_8 rfl rfl (by decide +kernel) ⟨Nat.le_of_ble_eq_true rfl, Nat.le_of_ble_eq_true rfl⟩) (by decide) (zS7 rfl cy a (M 0)) rfl rfl rfl (Nat.le_of_ble_eq_true rfl) hl.1 hcs dL_law_1414 (fun H locs hw => ?_)
  refine lv_aload_n hx hb dL_law_1417 rfl (lv_at hl 2 rfl) ?_
  refine zl_arg 1 hx hb hX hbl hbA hw.2.2.1 hl (by decide) (by omega) hL dL_law_1418 dL_law_1419 dL_law_1420 dL_law_1421 dL_law_1422 ?_
  refine z_qVi (n := 1) (As := [.int (xs (i + 1))]) (rest := [.int r]) X hw (kX8_told l D cy a (xs (i + 1)) M1 r M2 e2) (zcw_V hW zm_45_9 zm_45_10 zm_45_11 zm_1_5 zm_45_12 rfl rfl (by decide +kernel) ⟨Nat.le_of_ble_eq_true rfl, Nat.le_of_ble_eq_true rfl⟩) (by decide) (zS8 rfl cy a (M1 87)) rfl rfl rfl (Nat.le_of_ble_eq_true rfl) hl.1 hcs dL_law_1423 (fun H locs hw => ?_)
  exact lv_icmp_eq (tgt := 1431) hx hb dL_law_1426 (by decide) (fun _ => K M2 H locs hw hR2) (fun z => absurd rfl z)
