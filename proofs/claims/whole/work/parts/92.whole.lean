set_option maxHeartbeats 4000000 in
set_option maxRecDepth 100000 in
/-- the law's loop: at its head the class's numbers stand for the reference's -/
theorem law_loop {p : Program} {l : Launch} {e : Env} {s : State} {m : MethodId} {below : List Frame} {meth : Method} {c : Code} {cells slots : Nat} {D : va_G} {cy : Nat → ClassId} {a : Nat → Nat} {b L : Nat} {xs : Nat → Int32} (X : zCX p s m meth c #[.ref b] cL_law 4 ret RL) (hX : va_X b L xs s s.heap) (hbl : b < s.heap.size) (hL : L ≤ 3072) (hcs : cells ≤ 600000 ∧ slots ≤ 7302250) :
    ∀ (n i : Nat), i ≤ L → L + 1 ≤ i + n → ∀ (M : zM) (H : Heap) (locs : List Loc) (ls : Array Slot), zWD D cy a (zAL s) M H locs s → Rel2 M M → lv_has ls 4 (zLL b a i) → W p l e room_1 s m #[.ref b] below meth c H locs cells slots (lw_Z below #[.ref b] s) (F0 m 18 ls []) := by
  obtain ⟨hx, hb, hr, hml, hown, hW, hlocks⟩ := id X
  have hbA : ¬ zAL s b := Nat.not_le.mpr hbl
  intro n
  induction n with
  | zero =>
    intro i h1 h2
    exact absurd h2 (by omega)
  | succ n ih =>
    intro i hi hin M H locs ls hw hR hl
    refine lv_iload_n hx hb dL_law_18 rfl (lv_at hl 3 rfl) ?_
    refine lv_aload_n hx hb dL_law_19 rfl (lv_at hl 0 rfl) ?_
    refine va_slen hx hb hX hbl hbA hw.2.2.1 dL_law_20 ?_
    refine lv_bipush (v := 6) hx hb dL_law_21 (by decide) ?_
    refine lv_isub hx hb dL_law_23 ?_
    have e6 : (6 : Int32).toInt = 6 := rfl
    have eL : (Int32.ofNat L - 6).toInt = (L : Int) - 6 := by
      have h1 : (Int32.ofNat L).toInt = L := znT (n := L) (by omega)
      rw [zsbT (by rw [h1, e6]; omega) (by rw [h1, e6]; omega), h1, e6]
    refine lv_icmp_gt (tgt := 1437) hx hb dL_law_24 (by decide) (fun c1 => ?_) (fun c1 => ?_)
    · refine lv_iconst (v := 1) hx hb dL_law_1437 (by decide) ?_
      refine va_forget (fun q hq => hw.2.2.1.2.2 q hq) ?_
      refine W.widen (k := 600000) (n := 7302250) hcs.1 hcs.2 ?_
      exact lw_ret hx hb hr hlocks dL_law_1438
    · have hi6 : i + 6 ≤ L := by
        rw [zlt', eL, znT (by omega)] at c1
        omega
      have K : ∀ (M2 : zM) (H : Heap) (locs : List Loc), zWD D cy a (zAL s) M2 H locs s → Rel2 M2 M2 → W p l e room_1 s m #[.ref b] below meth c H locs cells slots (lw_Z below #[.ref b] s) (F0 m 1431 ls []) := by
        intro M2 H locs hw hR
        refine lv_iinc (v := nI (i + 6)) (lv' := [(3, .int (nI (i + 6))), (0, .ref b), (1, .ref (a 0)), (2, .ref (a 87))]) hx hb dL_law_1431 hl (k := 3) rfl (nI_add i 6) (by decide) rfl (fun ls hl => ?_)
        refine lv_goto (tgt := 18) hx hb dL_law_1434 (by decide) ?_
        exact ih (i + 6) hi6 (by omega) M2 H locs ls hw hR (lv_sub hl [1, 2, 3, 0] rfl)
      refine lv_aload_n hx hb dL_law_27 rfl (lv_at hl 0 rfl) ?_
      refine lv_iload_n hx hb dL_law_28 rfl (lv_at hl 3 rfl) ?_
      refine va_sld hx hb hX hbl hbA hw.2.2.1 (vp_in_nI (show i < L by omega) (by omega)) dL_law_29 ?_
      refine lv_bipush (v := 63) hx hb dL_law_30 (by decide) ?_
      refine lv_iand hx hb dL_law_32 ?_
      generalize hv : xs (nI i).toNatClampNeg &&& 63 = v
      by_cases hc : 0 ≤ v.toInt ∧ v.toInt ≤ 38
      · obtain ⟨j, hj, ej, -⟩ := zof (n := 38) hc.1 hc.2
        rw [ej]
        match j, hj with
        | 0, _ => exact lv_tableIn (x := nI 0) (off := 171) (tgt := 204) hx hb dL_law_33 (by decide) (by decide) (by decide) (by decide) (lc_0 X hX hbl hL hi6 hcs hw hR hl K)
        | 1, _ => exact lv_tableIn (x := nI 1) (off := 204) (tgt := 237) hx hb dL_law_33 (by decide) (by decide) (by decide) (by decide) (lc_1 X hX hbl hL hi6 hcs hw hR hl K)
        | 2, _ => exact lv_tableIn (x := nI 2) (off := 237) (tgt := 270) hx hb dL_law_33 (by decide) (by decide) (by decide) (by decide) (lc_2 X hX hbl hL hi6 hcs hw hR hl K)
        | 3, _ => exact lv_tableIn (x := nI 3) (off := 260) (tgt := 293) hx hb dL_law_33 (by decide) (by decide) (by decide) (by decide) (lc_3 X hX hbl hL hi6 hcs hw hR hl K)
        | 4, _ => exact lv_tableIn (x := nI 4) (off := 293) (tgt := 326) hx hb dL_law_33 (by decide) (by decide) (by decide) (by decide) (lc_4 X hX hbl hL hi6 hcs hw hR hl K)
        | 5, _ => exact lv_tableIn (x := nI 5) (off := 326) (tgt := 359) hx hb dL_law_33 (by decide) (by decide) (by decide) (by decide) (lc_5 X hX hbl hL hi6 hcs hw hR hl K)
        | 6, _ => exact lv_tableIn (x := nI 6) (off := 359) (tgt := 392) hx hb dL_law_33 (by decide) (by decide) (by decide) (by decide) (lc_6 X hX hbl hL hi6 hcs hw hR hl K)
        | 7, _ => exact lv_tableIn (x := nI 7) (off := 392) (tgt := 425) hx hb dL_law_33 (by decide) (by decide) (by decide) (by decide) (lc_7 X hX hbl hL hi6 hcs hw hR hl K)
        | 8, _ => exact lv_tableIn (x := nI 8) (off := 425) (tgt := 458) hx hb dL_law_33 (by decide) (by decide) (by decide) (by decide) (lc_8 X hX hbl hL hi6 hcs hw hR hl K)
        | 9, _ => exact lv_tableIn (x := nI 9) (off := 468) (tgt := 501) hx hb dL_law_33 (by decide) (by decide) (by decide) (by decide) (lc_9 X hX hbl hL hi6 hcs hw hR hl K)
        | 10, _ => exact lv_tableIn (x := nI 10) (off := 491) (tgt := 524) hx hb dL_law_33 (by decide) (by decide) (by decide) (by decide) (lc_10 X hX hbl hL hi6 hcs hw hR hl K)
        | 11, _ => exact lv_tableIn (x := nI 11) (off := 554) (tgt := 587) hx hb dL_law_33 (by decide) (by decide) (by decide) (by decide) (lc_11 X hX hbl hL hi6 hcs hw hR hl K)
        | 12, _ => exact lv_tableIn (x := nI 12) (off := 577) (tgt := 610) hx hb dL_law_33 (by decide) (by decide) (by decide) (by decide) (lc_12 X hX hbl hL hi6 hcs hw hR hl K)
        | 13, _ => exact lv_tableIn (x := nI 13) (off := 600) (tgt := 633) hx hb dL_law_33 (by decide) (by decide) (by decide) (by decide) (lc_13 X hX hbl hL hi6 hcs hw hR hl K)
        | 14, _ => exact lv_tableIn (x := nI 14) (off := 623) (tgt := 656) hx hb dL_law_33 (by decide) (by decide) (by decide) (by decide) (lc_14 X hX hbl hL hi6 hcs hw hR hl K)
        | 15, _ => exact lv_tableIn (x := nI 15) (off := 646) (tgt := 679) hx hb dL_law_33 (by decide) (by decide) (by decide) (by decide) (lc_15 X hX hbl hL hi6 hcs hw hR hl K)
        | 16, _ => exact lv_tableIn (x := nI 16) (off := 669) (tgt := 702) hx hb dL_law_33 (by decide) (by decide) (by decide) (by decide) (lc_16 X hX hbl hL hi6 hcs hw hR hl K)
        | 17, _ => exact lv_tableIn (x := nI 17) (off := 712) (tgt := 745) hx hb dL_law_33 (by decide) (by decide) (by decide) (by decide) (lc_17 X hX hbl hL hi6 hcs hw hR hl K)
        | 18, _ => exact lv_tableIn (x := nI 18) (off := 745) (tgt := 778) hx hb dL_law_33 (by decide) (by decide) (by decide) (by decide) (lc_18 X hX hbl hL hi6 hcs hw hR hl K)
        | 19, _ => exact lv_tableIn (x := nI 19) (off := 788) (tgt := 821) hx hb dL_law_33 (by decide) (by decide) (by decide) (by decide) (lc_19 X hX hbl hL hi6 hcs hw hR hl K)
        | 20, _ => exact lv_tableIn (x := nI 20) (off := 831) (tgt := 864) hx hb dL_law_33 (by decide) (by decide) (by decide) (by decide) (lc_20 X hX hbl hL hi6 hcs hw hR hl K)
        | 21, _ => exact lv_tableIn (x := nI 21) (off := 864) (tgt := 897) hx hb dL_law_33 (by decide) (by decide) (by decide) (by decide) (lc_21 X hX hbl hL hi6 hcs hw hR hl K)
        | 22, _ => exact lv_tableIn (x := nI 22) (off := 897) (tgt := 930) hx hb dL_law_33 (by decide) (by decide) (by decide) (by decide) (lc_22 X hX hbl hL hi6 hcs hw hR hl K)
        | 23, _ => exact lv_tableIn (x := nI 23) (off := 940) (tgt := 973) hx hb dL_law_33 (by decide) (by decide) (by decide) (by decide) (lc_23 X hX hbl hL hi6 hcs hw hR hl K)
        | 24, _ => exact lv_tableIn (x := nI 24) (off := 973) (tgt := 1006) hx hb dL_law_33 (by decide) (by decide) (by decide) (by decide) (lc_24 X hX hbl hL hi6 hcs hw hR hl K)
        | 25, _ => exact lv_tableIn (x := nI 25) (off := 1006) (tgt := 1039) hx hb dL_law_33 (by decide) (by decide) (by decide) (by decide) (lc_25 X hX hbl hL hi6 hcs hw hR hl K)
        | 26, _ => exact lv_tableIn (x := nI 26) (off := 1019) (tgt := 1052) hx hb dL_law_33 (by decide) (by decide) (by decide) (by decide) (lc_26 X hX hbl hL hi6 hcs hw hR hl K)
        | 27, _ => exact lv_tableIn (x := nI 27) (off := 1062) (tgt := 1095) hx hb dL_law_33 (by decide) (by decide) (by decide) (by decide) (lc_27 X hX hbl hL hi6 hcs hw hR hl K)
        | 28, _ => exact lv_tableIn (x := nI 28) (off := 1085) (tgt := 1118) hx hb dL_law_33 (by decide) (by decide) (by decide) (by decide) (lc_28 X hX hbl hL hi6 hcs hw hR hl K)
        | 29, _ => exact lv_tableIn (x := nI 29) (off := 1128) (tgt := 1161) hx hb dL_law_33 (by decide) (by decide) (by decide) (by decide) (lc_29 X hX hbl hL hi6 hcs hw hR hl K)
        | 30, _ => exact lv_tableIn (x := nI 30) (off := 1171) (tgt := 1204) hx hb dL_law_33 (by decide) (by decide) (by decide) (by decide) (lc_30 X hX hbl hL hi6 hcs hw hR hl K)
        | 31, _ => exact lv_tableIn (x := nI 31) (off := 1234) (tgt := 1267) hx hb dL_law_33 (by decide) (by decide) (by decide) (by decide) (lc_31 X hX hbl hL hi6 hcs hw hR hl K)
        | 32, _ => exact lv_tableIn (x := nI 32) (off := 1257) (tgt := 1290) hx hb dL_law_33 (by decide) (by decide) (by decide) (by decide) (lc_32 X hX hbl hL hi6 hcs hw hR hl K)
        | 33, _ => exact lv_tableIn (x := nI 33) (off := 1280) (tgt := 1313) hx hb dL_law_33 (by decide) (by decide) (by decide) (by decide) (lc_33 X hX hbl hL hi6 hcs hw hR hl K)
        | 34, _ => exact lv_tableIn (x := nI 34) (off := 1293) (tgt := 1326) hx hb dL_law_33 (by decide) (by decide) (by decide) (by decide) (lc_34 X hX hbl hL hi6 hcs hw hR hl K)
        | 35, _ => exact lv_tableIn (x := nI 35) (off := 1306) (tgt := 1339) hx hb dL_law_33 (by decide) (by decide) (by decide) (by decide) (lc_35 X hX hbl hL hi6 hcs hw hR hl K)
        | 36, _ => exact lv_tableIn (x := nI 36) (off := 1329) (tgt := 1362) hx hb dL_law_33 (by decide) (by decide) (by decide) (by decide) (lc_36 X hX hbl hL hi6 hcs hw hR hl K)
        | 37, _ => exact lv_tableIn (x := nI 37) (off := 1352) (tgt := 1385) hx hb dL_law_33 (by decide) (by decide) (by decide) (by decide) (lc_37 X hX hbl hL hi6 hcs hw hR hl K)
        | 38, _ => exact lv_tableIn (x := nI 38) (off := 1375) (tgt := 1408) hx hb dL_law_33 (by decide) (by decide) (by decide) (by decide) (lc_38 X hX hbl hL hi6 hcs hw hR hl K)
        | j + 39, h => exact absurd h (by omega)
      · exact lv_tableOut (tgt := 1431) hx hb dL_law_33 (by omega) (by decide) (K M H locs hw hR)
set_option maxHeartbeats 4000000 in
set_option maxRecDepth 100000 in
/-- the law, from its entry -/
theorem whole_start {p : Program} {e : Env} {s : State} {m : MethodId} {below : List Frame} {meth : Method} {c : Code} (l : Launch) (hflags : l.flags = flags0) {b L : Nat} {xs : Nat → Int32} (hL : L ≤ 3072) (C0 : lw_At p s m meth c b L xs) : W p l e room_1 s m #[Value.ref b] below meth c s.heap [] 0 0 (lw_Z below #[Value.ref b] s) (entryFrame m ([Value.ref b] : List Value).toArray 4) := by
  obtain ⟨hx, hb, hr, hml, hown, hts, hX, hbl, hlocks, hgv⟩ := C0
  have hW : ∀ w ∈ zW0, w.before #[Value.ref b] s = true := fun w h => hts w (zt_all w h)
  have X : zCX p s m meth c #[.ref b] cL_law 4 ret RL := ⟨hx, hb, hr, hml, hown, hW, hlocks⟩
  have hE : zEN (zAL s) s := zEN0 hts hgv (fun a h => Nat.not_le.mpr h)
  have hNX : zNX s := zNX0 hts
  obtain ⟨D, cy, hK⟩ := zK0 hW hNX.1 hNX.2.1
  have hw : zNW D cy (zAL s) [] s.heap [] s := ⟨fun k q h => (by cases h), ⟨fun i j p q h => (by cases h), fun k q h => (by cases h)⟩, va_S.rf, hK, fun q h => h⟩
  have hl := lv_entry ([.ref b]) (n := 4) (Nat.le_of_ble_eq_true rfl)
  rw [lg_entry_eq]
  generalize (lg_sl ([.ref b]) ++ List.replicate (4 - (lg_sl ([.ref b])).length) Slot.unset).toArray = ls at hl ⊢
  have hl : lv_has ls 4 [(0, .ref b)] := hl
  refine zn_new (ci := 7) (fs := [.null, .null, .null, .null, .null, .null, .null, .null, .null, .int 0]) X hw inlX7 tyX7 tyX7_ok zm_1_0 zm_1_1 zm_1_2 rfl (by decide +kernel) (Nat.le_of_ble_eq_true rfl) (Nat.le_of_ble_eq_true rfl) dL_law_0 (fun q7 H hw => ?_)
  refine lv_dup hx hb dL_law_3 rfl ?_
  refine zn_call (rest := [.ref q7]) X hNX hw (kX7_init l D cy) zm_1_7 zm_1_8 zm_1_2 zm_1_9 rfl rfl rfl (by decide +kernel) ⟨Nat.le_of_ble_eq_true rfl, Nat.le_of_ble_eq_true rfl⟩ (Nat.le_of_ble_eq_true rfl) hl.1 ⟨Nat.le_of_ble_eq_true rfl, Nat.le_of_ble_eq_true rfl⟩ dL_law_4 (fun u7 H locs e7 hw2 => ?_)
  subst e7
  refine lv_astore_n (lv' := [(1, .ref (u7 0)), (0, .ref b)]) hx hb dL_law_7 rfl hl (by decide) rfl (fun ls hl => ?_)
  refine zn_new (ci := 8) (fs := [.null, .null, .null, .int 0, .null, .int 0, .int 0, .int 0, .int 0, .null, .null, .null, .null, .null, .int 0, .int 0, .null, .int 0, .int 0, .null, .int 0, .int 0, .int 0, .null, .null, .null, .null]) X hw2 inlX8 tyX8 tyX8_ok zm_1_3 zm_1_4 zm_1_5 rfl (by decide +kernel) (Nat.le_of_ble_eq_true rfl) (Nat.le_of_ble_eq_true rfl) dL_law_8 (fun q8 H hw3 => ?_)
  refine lv_dup hx hb dL_law_11 rfl ?_
  refine zn_call (rest := [.ref q8]) X hNX hw3 (kX8_init l D cy) zm_4_16 zm_4_17 zm_1_5 zm_4_18 rfl rfl rfl (by decide +kernel) ⟨Nat.le_of_ble_eq_true rfl, Nat.le_of_ble_eq_true rfl⟩ (Nat.le_of_ble_eq_true rfl) hl.1 ⟨Nat.le_of_ble_eq_true rfl, Nat.le_of_ble_eq_true rfl⟩ dL_law_12 (fun u8 H locs e8 hw4 => ?_)
  subst e8
  refine lv_astore_n (lv' := [(2, .ref (u8 0)), (1, .ref (u7 0)), (0, .ref b)]) hx hb dL_law_15 rfl hl (by decide) rfl (fun ls hl => ?_)
  refine lv_iconst (v := 0) hx hb dL_law_16 (by decide) ?_
  refine lv_istore_n (lv' := [(3, .int 0), (2, .ref (u8 0)), (1, .ref (u7 0)), (0, .ref b)]) hx hb dL_law_17 rfl hl (by decide) rfl (fun ls hl => ?_)
  obtain ⟨hP, hD, hS, hK, hA⟩ := hw4
  obtain ⟨hP, hD⟩ := zworld hP hD
  have hw : zWD D cy (zA u7 u8) (zAL s) zM0 H locs s := ⟨hP, hD, hS, hK, hE, hA⟩
  exact law_loop (a := zA u7 u8) X hX hbl hL ⟨Nat.le_of_ble_eq_true rfl, Nat.le_of_ble_eq_true rfl⟩ (L + 1) 0 (Nat.zero_le L) (by omega) zM0 H locs ls hw rel0 (lv_sub hl [3, 2, 1, 0] rfl)
