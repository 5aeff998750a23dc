section
-- ===== PART A: goes FIRST, ahead of the names: the tables' words, and 'selects' of the private methods out of them =====
/-- a private method of a class that the tables say can be made, by its rows of tables_1 -/
def lw_okq (q : MethodName × Nat) : Prop := (q.1.cls ≠ "java/lang/invoke/MethodHandle" ∧ q.1.cls ≠ "java/lang/invoke/VarHandle") ∧ Cond.instantiable q.1.cls q.2 ∈ tables_1 ∧ Cond.privateMethod q.1 ∈ tables_1 ∧ Cond.instanceMethod q.1 ∈ tables_1
theorem lw_p0 : lw_okq (⟨"WheelBrook", "error", "(I)I"⟩, 10) := ⟨⟨by decide +kernel, by decide +kernel⟩, List.mem_of_getElem? (i := 18) (by decide +kernel), List.mem_of_getElem? (i := 300) (by decide +kernel), List.mem_of_getElem? (i := 301) (by decide +kernel)⟩
theorem lw_p1 : lw_okq (⟨"WheelBrook$Brook", "wheelsFor", "(I)I"⟩, 15) := ⟨⟨by decide +kernel, by decide +kernel⟩, List.mem_of_getElem? (i := 26) (by decide +kernel), List.mem_of_getElem? (i := 330) (by decide +kernel), List.mem_of_getElem? (i := 331) (by decide +kernel)⟩
theorem lw_p2 : lw_okq (⟨"WheelBrook", "noWheel", "(I)Z"⟩, 10) := ⟨⟨by decide +kernel, by decide +kernel⟩, List.mem_of_getElem? (i := 18) (by decide +kernel), List.mem_of_getElem? (i := 346) (by decide +kernel), List.mem_of_getElem? (i := 347) (by decide +kernel)⟩
theorem lw_p3 : lw_okq (⟨"WheelBrook$Brook", "wants", "(LWheelBrook$Wheel;I)I"⟩, 15) := ⟨⟨by decide +kernel, by decide +kernel⟩, List.mem_of_getElem? (i := 26) (by decide +kernel), List.mem_of_getElem? (i := 369) (by decide +kernel), List.mem_of_getElem? (i := 370) (by decide +kernel)⟩
theorem lw_p4 : lw_okq (⟨"WheelBrook$Brook", "toldTakes", "(LWheelBrook$Wheel;I)I"⟩, 15) := ⟨⟨by decide +kernel, by decide +kernel⟩, List.mem_of_getElem? (i := 26) (by decide +kernel), List.mem_of_getElem? (i := 380) (by decide +kernel), List.mem_of_getElem? (i := 381) (by decide +kernel)⟩
theorem lw_p5 : lw_okq (⟨"WheelBrook$Brook", "turnsBy", "(LWheelBrook$Wheel;I)I"⟩, 15) := ⟨⟨by decide +kernel, by decide +kernel⟩, List.mem_of_getElem? (i := 26) (by decide +kernel), List.mem_of_getElem? (i := 394) (by decide +kernel), List.mem_of_getElem? (i := 395) (by decide +kernel)⟩
theorem lw_p6 : lw_okq (⟨"WheelBrook$Brook", "toldTurns", "(LWheelBrook$Wheel;I)I"⟩, 15) := ⟨⟨by decide +kernel, by decide +kernel⟩, List.mem_of_getElem? (i := 26) (by decide +kernel), List.mem_of_getElem? (i := 398) (by decide +kernel), List.mem_of_getElem? (i := 399) (by decide +kernel)⟩
theorem lw_p7 : lw_okq (⟨"WheelBrook$Reader", "goesOn", "(II)Z"⟩, 8) := ⟨⟨by decide +kernel, by decide +kernel⟩, List.mem_of_getElem? (i := 180) (by decide +kernel), List.mem_of_getElem? (i := 446) (by decide +kernel), List.mem_of_getElem? (i := 447) (by decide +kernel)⟩
theorem lw_p8 : lw_okq (⟨"WheelBrook$Reader", "digit", "(I)Z"⟩, 8) := ⟨⟨by decide +kernel, by decide +kernel⟩, List.mem_of_getElem? (i := 180) (by decide +kernel), List.mem_of_getElem? (i := 450) (by decide +kernel), List.mem_of_getElem? (i := 451) (by decide +kernel)⟩
theorem lw_p9 : lw_okq (⟨"WheelBrook$Reader", "write", "(I)V"⟩, 8) := ⟨⟨by decide +kernel, by decide +kernel⟩, List.mem_of_getElem? (i := 180) (by decide +kernel), List.mem_of_getElem? (i := 454) (by decide +kernel), List.mem_of_getElem? (i := 455) (by decide +kernel)⟩
theorem lw_p10 : lw_okq (⟨"WheelBrook$Reader", "opens", "(II)Z"⟩, 8) := ⟨⟨by decide +kernel, by decide +kernel⟩, List.mem_of_getElem? (i := 180) (by decide +kernel), List.mem_of_getElem? (i := 458) (by decide +kernel), List.mem_of_getElem? (i := 459) (by decide +kernel)⟩
theorem lw_p11 : lw_okq (⟨"WheelBrook$Reader", "hold", "(I)V"⟩, 8) := ⟨⟨by decide +kernel, by decide +kernel⟩, List.mem_of_getElem? (i := 180) (by decide +kernel), List.mem_of_getElem? (i := 462) (by decide +kernel), List.mem_of_getElem? (i := 463) (by decide +kernel)⟩
theorem lw_p12 : lw_okq (⟨"WheelBrook$Reader", "follows", "(I)Z"⟩, 8) := ⟨⟨by decide +kernel, by decide +kernel⟩, List.mem_of_getElem? (i := 180) (by decide +kernel), List.mem_of_getElem? (i := 550) (by decide +kernel), List.mem_of_getElem? (i := 551) (by decide +kernel)⟩
theorem lw_p13 : lw_okq (⟨"WheelBrook$Reader", "closes", "()Z"⟩, 8) := ⟨⟨by decide +kernel, by decide +kernel⟩, List.mem_of_getElem? (i := 180) (by decide +kernel), List.mem_of_getElem? (i := 554) (by decide +kernel), List.mem_of_getElem? (i := 555) (by decide +kernel)⟩
theorem lw_p14 : lw_okq (⟨"WheelBrook$Reader", "writeSigns", "(I)V"⟩, 8) := ⟨⟨by decide +kernel, by decide +kernel⟩, List.mem_of_getElem? (i := 180) (by decide +kernel), List.mem_of_getElem? (i := 558) (by decide +kernel), List.mem_of_getElem? (i := 559) (by decide +kernel)⟩
theorem lw_p15 : lw_okq (⟨"WheelBrook$Brook", "turnMore", "(LWheelBrook$Wheel;I)V"⟩, 15) := ⟨⟨by decide +kernel, by decide +kernel⟩, List.mem_of_getElem? (i := 26) (by decide +kernel), List.mem_of_getElem? (i := 592) (by decide +kernel), List.mem_of_getElem? (i := 593) (by decide +kernel)⟩
def lw_privs_1 : List (MethodName × Nat) := [(⟨"WheelBrook", "error", "(I)I"⟩, 10), (⟨"WheelBrook$Brook", "wheelsFor", "(I)I"⟩, 15), (⟨"WheelBrook", "noWheel", "(I)Z"⟩, 10), (⟨"WheelBrook$Brook", "wants", "(LWheelBrook$Wheel;I)I"⟩, 15), (⟨"WheelBrook$Brook", "toldTakes", "(LWheelBrook$Wheel;I)I"⟩, 15), (⟨"WheelBrook$Brook", "turnsBy", "(LWheelBrook$Wheel;I)I"⟩, 15), (⟨"WheelBrook$Brook", "toldTurns", "(LWheelBrook$Wheel;I)I"⟩, 15), (⟨"WheelBrook$Reader", "goesOn", "(II)Z"⟩, 8), (⟨"WheelBrook$Reader", "digit", "(I)Z"⟩, 8), (⟨"WheelBrook$Reader", "write", "(I)V"⟩, 8), (⟨"WheelBrook$Reader", "opens", "(II)Z"⟩, 8), (⟨"WheelBrook$Reader", "hold", "(I)V"⟩, 8), (⟨"WheelBrook$Reader", "follows", "(I)Z"⟩, 8), (⟨"WheelBrook$Reader", "closes", "()Z"⟩, 8), (⟨"WheelBrook$Reader", "writeSigns", "(I)V"⟩, 8), (⟨"WheelBrook$Brook", "turnMore", "(LWheelBrook$Wheel;I)V"⟩, 15)]
theorem lw_r1 : ∀ q ∈ lw_privs_1, lw_okq q := List.forall_mem_cons.mpr ⟨lw_p0, List.forall_mem_cons.mpr ⟨lw_p1, List.forall_mem_cons.mpr ⟨lw_p2, List.forall_mem_cons.mpr ⟨lw_p3, List.forall_mem_cons.mpr ⟨lw_p4, List.forall_mem_cons.mpr ⟨lw_p5, List.forall_mem_cons.mpr ⟨lw_p6, List.forall_mem_cons.mpr ⟨lw_p7, List.forall_mem_cons.mpr ⟨lw_p8, List.forall_mem_cons.mpr ⟨lw_p9, List.forall_mem_cons.mpr ⟨lw_p10, List.forall_mem_cons.mpr ⟨lw_p11, List.forall_mem_cons.mpr ⟨lw_p12, List.forall_mem_cons.mpr ⟨lw_p13, List.forall_mem_cons.mpr ⟨lw_p14, List.forall_mem_cons.mpr ⟨lw_p15, fun _ h => absurd h List.not_mem_nil⟩⟩⟩⟩⟩⟩⟩⟩⟩⟩⟩⟩⟩⟩⟩⟩
theorem lw_p16 : lw_okq (⟨"WheelBrook$Brook", "flood", "()V"⟩, 15) := ⟨⟨by decide +kernel, by decide +kernel⟩, List.mem_of_getElem? (i := 26) (by decide +kernel), List.mem_of_getElem? (i := 610) (by decide +kernel), List.mem_of_getElem? (i := 611) (by decide +kernel)⟩
theorem lw_p17 : lw_okq (⟨"WheelBrook$Speaker", "speak", "(IIII)I"⟩, 6) := ⟨⟨by decide +kernel, by decide +kernel⟩, List.mem_of_getElem? (i := 213) (by decide +kernel), List.mem_of_getElem? (i := 692) (by decide +kernel), List.mem_of_getElem? (i := 693) (by decide +kernel)⟩
theorem lw_p18 : lw_okq (⟨"WheelBrook$Speaker", "ofWheel", "(III)I"⟩, 6) := ⟨⟨by decide +kernel, by decide +kernel⟩, List.mem_of_getElem? (i := 213) (by decide +kernel), List.mem_of_getElem? (i := 699) (by decide +kernel), List.mem_of_getElem? (i := 700) (by decide +kernel)⟩
theorem lw_p19 : lw_okq (⟨"WheelBrook$Speaker", "divided", "(II)I"⟩, 6) := ⟨⟨by decide +kernel, by decide +kernel⟩, List.mem_of_getElem? (i := 213) (by decide +kernel), List.mem_of_getElem? (i := 703) (by decide +kernel), List.mem_of_getElem? (i := 704) (by decide +kernel)⟩
theorem lw_p20 : lw_okq (⟨"WheelBrook$Speaker", "ofOthers", "(IIII)I"⟩, 6) := ⟨⟨by decide +kernel, by decide +kernel⟩, List.mem_of_getElem? (i := 213) (by decide +kernel), List.mem_of_getElem? (i := 707) (by decide +kernel), List.mem_of_getElem? (i := 708) (by decide +kernel)⟩
theorem lw_p21 : lw_okq (⟨"WheelBrook$Speaker", "partsOfSlow", "(III)I"⟩, 6) := ⟨⟨by decide +kernel, by decide +kernel⟩, List.mem_of_getElem? (i := 213) (by decide +kernel), List.mem_of_getElem? (i := 711) (by decide +kernel), List.mem_of_getElem? (i := 712) (by decide +kernel)⟩
theorem lw_p22 : lw_okq (⟨"WheelBrookModel", "change", "(II)I"⟩, 27) := ⟨⟨by decide +kernel, by decide +kernel⟩, List.mem_of_getElem? (i := 789) (by decide +kernel), List.mem_of_getElem? (i := 884) (by decide +kernel), List.mem_of_getElem? (i := 885) (by decide +kernel)⟩
theorem lw_p23 : lw_okq (⟨"WheelBrookModel", "error", "(I)I"⟩, 27) := ⟨⟨by decide +kernel, by decide +kernel⟩, List.mem_of_getElem? (i := 789) (by decide +kernel), List.mem_of_getElem? (i := 888) (by decide +kernel), List.mem_of_getElem? (i := 889) (by decide +kernel)⟩
theorem lw_p24 : lw_okq (⟨"WheelBrookModel", "toldFamily", "(II)I"⟩, 27) := ⟨⟨by decide +kernel, by decide +kernel⟩, List.mem_of_getElem? (i := 789) (by decide +kernel), List.mem_of_getElem? (i := 916) (by decide +kernel), List.mem_of_getElem? (i := 917) (by decide +kernel)⟩
theorem lw_p25 : lw_okq (⟨"WheelBrookModel", "owed", "(I)I"⟩, 27) := ⟨⟨by decide +kernel, by decide +kernel⟩, List.mem_of_getElem? (i := 789) (by decide +kernel), List.mem_of_getElem? (i := 920) (by decide +kernel), List.mem_of_getElem? (i := 921) (by decide +kernel)⟩
theorem lw_p26 : lw_okq (⟨"WheelBrookModel", "prayed", "(I)I"⟩, 27) := ⟨⟨by decide +kernel, by decide +kernel⟩, List.mem_of_getElem? (i := 789) (by decide +kernel), List.mem_of_getElem? (i := 924) (by decide +kernel), List.mem_of_getElem? (i := 925) (by decide +kernel)⟩
theorem lw_p27 : lw_okq (⟨"WheelBrookModel", "isPaid", "(I)Z"⟩, 27) := ⟨⟨by decide +kernel, by decide +kernel⟩, List.mem_of_getElem? (i := 789) (by decide +kernel), List.mem_of_getElem? (i := 928) (by decide +kernel), List.mem_of_getElem? (i := 929) (by decide +kernel)⟩
theorem lw_p28 : lw_okq (⟨"WheelBrookModel", "its", "(II)I"⟩, 27) := ⟨⟨by decide +kernel, by decide +kernel⟩, List.mem_of_getElem? (i := 789) (by decide +kernel), List.mem_of_getElem? (i := 932) (by decide +kernel), List.mem_of_getElem? (i := 933) (by decide +kernel)⟩
theorem lw_p29 : lw_okq (⟨"WheelBrookModel", "adds", "(II)I"⟩, 27) := ⟨⟨by decide +kernel, by decide +kernel⟩, List.mem_of_getElem? (i := 789) (by decide +kernel), List.mem_of_getElem? (i := 940) (by decide +kernel), List.mem_of_getElem? (i := 941) (by decide +kernel)⟩
theorem lw_p30 : lw_okq (⟨"WheelBrookModel", "lays1", "(III)V"⟩, 27) := ⟨⟨by decide +kernel, by decide +kernel⟩, List.mem_of_getElem? (i := 789) (by decide +kernel), List.mem_of_getElem? (i := 944) (by decide +kernel), List.mem_of_getElem? (i := 945) (by decide +kernel)⟩
theorem lw_p31 : lw_okq (⟨"WheelBrookModel", "isWheel", "(I)Z"⟩, 27) := ⟨⟨by decide +kernel, by decide +kernel⟩, List.mem_of_getElem? (i := 789) (by decide +kernel), List.mem_of_getElem? (i := 952) (by decide +kernel), List.mem_of_getElem? (i := 953) (by decide +kernel)⟩
def lw_privs_2 : List (MethodName × Nat) := [(⟨"WheelBrook$Brook", "flood", "()V"⟩, 15), (⟨"WheelBrook$Speaker", "speak", "(IIII)I"⟩, 6), (⟨"WheelBrook$Speaker", "ofWheel", "(III)I"⟩, 6), (⟨"WheelBrook$Speaker", "divided", "(II)I"⟩, 6), (⟨"WheelBrook$Speaker", "ofOthers", "(IIII)I"⟩, 6), (⟨"WheelBrook$Speaker", "partsOfSlow", "(III)I"⟩, 6), (⟨"WheelBrookModel", "change", "(II)I"⟩, 27), (⟨"WheelBrookModel", "error", "(I)I"⟩, 27), (⟨"WheelBrookModel", "toldFamily", "(II)I"⟩, 27), (⟨"WheelBrookModel", "owed", "(I)I"⟩, 27), (⟨"WheelBrookModel", "prayed", "(I)I"⟩, 27), (⟨"WheelBrookModel", "isPaid", "(I)Z"⟩, 27), (⟨"WheelBrookModel", "its", "(II)I"⟩, 27), (⟨"WheelBrookModel", "adds", "(II)I"⟩, 27), (⟨"WheelBrookModel", "lays1", "(III)V"⟩, 27), (⟨"WheelBrookModel", "isWheel", "(I)Z"⟩, 27)]
theorem lw_r2 : ∀ q ∈ lw_privs_2, lw_okq q := List.forall_mem_cons.mpr ⟨lw_p16, List.forall_mem_cons.mpr ⟨lw_p17, List.forall_mem_cons.mpr ⟨lw_p18, List.forall_mem_cons.mpr ⟨lw_p19, List.forall_mem_cons.mpr ⟨lw_p20, List.forall_mem_cons.mpr ⟨lw_p21, List.forall_mem_cons.mpr ⟨lw_p22, List.forall_mem_cons.mpr ⟨lw_p23, List.forall_mem_cons.mpr ⟨lw_p24, List.forall_mem_cons.mpr ⟨lw_p25, List.forall_mem_cons.mpr ⟨lw_p26, List.forall_mem_cons.mpr ⟨lw_p27, List.forall_mem_cons.mpr ⟨lw_p28, List.forall_mem_cons.mpr ⟨lw_p29, List.forall_mem_cons.mpr ⟨lw_p30, List.forall_mem_cons.mpr ⟨lw_p31, fun _ h => absurd h List.not_mem_nil⟩⟩⟩⟩⟩⟩⟩⟩⟩⟩⟩⟩⟩⟩⟩⟩
theorem lw_p32 : lw_okq (⟨"WheelBrookModel", "toldWheel", "(II)I"⟩, 27) := ⟨⟨by decide +kernel, by decide +kernel⟩, List.mem_of_getElem? (i := 789) (by decide +kernel), List.mem_of_getElem? (i := 956) (by decide +kernel), List.mem_of_getElem? (i := 957) (by decide +kernel)⟩
theorem lw_p33 : lw_okq (⟨"WheelBrookModel", "flow", "()V"⟩, 27) := ⟨⟨by decide +kernel, by decide +kernel⟩, List.mem_of_getElem? (i := 789) (by decide +kernel), List.mem_of_getElem? (i := 960) (by decide +kernel), List.mem_of_getElem? (i := 961) (by decide +kernel)⟩
theorem lw_p34 : lw_okq (⟨"WheelBrookModel", "hourOfDay", "()I"⟩, 27) := ⟨⟨by decide +kernel, by decide +kernel⟩, List.mem_of_getElem? (i := 789) (by decide +kernel), List.mem_of_getElem? (i := 964) (by decide +kernel), List.mem_of_getElem? (i := 965) (by decide +kernel)⟩
theorem lw_p35 : lw_okq (⟨"WheelBrookModel", "wants", "(II)I"⟩, 27) := ⟨⟨by decide +kernel, by decide +kernel⟩, List.mem_of_getElem? (i := 789) (by decide +kernel), List.mem_of_getElem? (i := 968) (by decide +kernel), List.mem_of_getElem? (i := 969) (by decide +kernel)⟩
theorem lw_p36 : lw_okq (⟨"WheelBrookModel", "takesTold", "(II)I"⟩, 27) := ⟨⟨by decide +kernel, by decide +kernel⟩, List.mem_of_getElem? (i := 789) (by decide +kernel), List.mem_of_getElem? (i := 972) (by decide +kernel), List.mem_of_getElem? (i := 973) (by decide +kernel)⟩
theorem lw_p37 : lw_okq (⟨"WheelBrookModel", "hasText", "(I)Z"⟩, 27) := ⟨⟨by decide +kernel, by decide +kernel⟩, List.mem_of_getElem? (i := 789) (by decide +kernel), List.mem_of_getElem? (i := 976) (by decide +kernel), List.mem_of_getElem? (i := 977) (by decide +kernel)⟩
theorem lw_p38 : lw_okq (⟨"WheelBrookModel", "worked", "(I)I"⟩, 27) := ⟨⟨by decide +kernel, by decide +kernel⟩, List.mem_of_getElem? (i := 789) (by decide +kernel), List.mem_of_getElem? (i := 980) (by decide +kernel), List.mem_of_getElem? (i := 981) (by decide +kernel)⟩
theorem lw_p39 : lw_okq (⟨"WheelBrookModel", "turns", "(II)I"⟩, 27) := ⟨⟨by decide +kernel, by decide +kernel⟩, List.mem_of_getElem? (i := 789) (by decide +kernel), List.mem_of_getElem? (i := 990) (by decide +kernel), List.mem_of_getElem? (i := 991) (by decide +kernel)⟩
theorem lw_p40 : lw_okq (⟨"WheelBrookModel", "turnsTold", "(II)I"⟩, 27) := ⟨⟨by decide +kernel, by decide +kernel⟩, List.mem_of_getElem? (i := 789) (by decide +kernel), List.mem_of_getElem? (i := 994) (by decide +kernel), List.mem_of_getElem? (i := 995) (by decide +kernel)⟩
theorem lw_p41 : lw_okq (⟨"WheelBrookModel", "shows", "(II)I"⟩, 27) := ⟨⟨by decide +kernel, by decide +kernel⟩, List.mem_of_getElem? (i := 789) (by decide +kernel), List.mem_of_getElem? (i := 998) (by decide +kernel), List.mem_of_getElem? (i := 999) (by decide +kernel)⟩
theorem lw_p42 : lw_okq (⟨"WheelBrookModel", "showsBy", "(III)I"⟩, 27) := ⟨⟨by decide +kernel, by decide +kernel⟩, List.mem_of_getElem? (i := 789) (by decide +kernel), List.mem_of_getElem? (i := 1002) (by decide +kernel), List.mem_of_getElem? (i := 1003) (by decide +kernel)⟩
theorem lw_p43 : lw_okq (⟨"WheelBrookModel", "whole", "()Z"⟩, 27) := ⟨⟨by decide +kernel, by decide +kernel⟩, List.mem_of_getElem? (i := 789) (by decide +kernel), List.mem_of_getElem? (i := 1030) (by decide +kernel), List.mem_of_getElem? (i := 1031) (by decide +kernel)⟩
theorem lw_p44 : lw_okq (⟨"WheelBrookModel", "both", "()Z"⟩, 27) := ⟨⟨by decide +kernel, by decide +kernel⟩, List.mem_of_getElem? (i := 789) (by decide +kernel), List.mem_of_getElem? (i := 1034) (by decide +kernel), List.mem_of_getElem? (i := 1035) (by decide +kernel)⟩
theorem lw_p45 : lw_okq (⟨"WheelBrookModel", "compared", "()Z"⟩, 27) := ⟨⟨by decide +kernel, by decide +kernel⟩, List.mem_of_getElem? (i := 789) (by decide +kernel), List.mem_of_getElem? (i := 1038) (by decide +kernel), List.mem_of_getElem? (i := 1039) (by decide +kernel)⟩
theorem lw_p46 : lw_okq (⟨"WheelBrookModel", "sum", "()Z"⟩, 27) := ⟨⟨by decide +kernel, by decide +kernel⟩, List.mem_of_getElem? (i := 789) (by decide +kernel), List.mem_of_getElem? (i := 1042) (by decide +kernel), List.mem_of_getElem? (i := 1043) (by decide +kernel)⟩
theorem lw_p47 : lw_okq (⟨"WheelBrookModel", "product", "()Z"⟩, 27) := ⟨⟨by decide +kernel, by decide +kernel⟩, List.mem_of_getElem? (i := 789) (by decide +kernel), List.mem_of_getElem? (i := 1046) (by decide +kernel), List.mem_of_getElem? (i := 1047) (by decide +kernel)⟩
def lw_privs_3 : List (MethodName × Nat) := [(⟨"WheelBrookModel", "toldWheel", "(II)I"⟩, 27), (⟨"WheelBrookModel", "flow", "()V"⟩, 27), (⟨"WheelBrookModel", "hourOfDay", "()I"⟩, 27), (⟨"WheelBrookModel", "wants", "(II)I"⟩, 27), (⟨"WheelBrookModel", "takesTold", "(II)I"⟩, 27), (⟨"WheelBrookModel", "hasText", "(I)Z"⟩, 27), (⟨"WheelBrookModel", "worked", "(I)I"⟩, 27), (⟨"WheelBrookModel", "turns", "(II)I"⟩, 27), (⟨"WheelBrookModel", "turnsTold", "(II)I"⟩, 27), (⟨"WheelBrookModel", "shows", "(II)I"⟩, 27), (⟨"WheelBrookModel", "showsBy", "(III)I"⟩, 27), (⟨"WheelBrookModel", "whole", "()Z"⟩, 27), (⟨"WheelBrookModel", "both", "()Z"⟩, 27), (⟨"WheelBrookModel", "compared", "()Z"⟩, 27), (⟨"WheelBrookModel", "sum", "()Z"⟩, 27), (⟨"WheelBrookModel", "product", "()Z"⟩, 27)]
theorem lw_r3 : ∀ q ∈ lw_privs_3, lw_okq q := List.forall_mem_cons.mpr ⟨lw_p32, List.forall_mem_cons.mpr ⟨lw_p33, List.forall_mem_cons.mpr ⟨lw_p34, List.forall_mem_cons.mpr ⟨lw_p35, List.forall_mem_cons.mpr ⟨lw_p36, List.forall_mem_cons.mpr ⟨lw_p37, List.forall_mem_cons.mpr ⟨lw_p38, List.forall_mem_cons.mpr ⟨lw_p39, List.forall_mem_cons.mpr ⟨lw_p40, List.forall_mem_cons.mpr ⟨lw_p41, List.forall_mem_cons.mpr ⟨lw_p42, List.forall_mem_cons.mpr ⟨lw_p43, List.forall_mem_cons.mpr ⟨lw_p44, List.forall_mem_cons.mpr ⟨lw_p45, List.forall_mem_cons.mpr ⟨lw_p46, List.forall_mem_cons.mpr ⟨lw_p47, fun _ h => absurd h List.not_mem_nil⟩⟩⟩⟩⟩⟩⟩⟩⟩⟩⟩⟩⟩⟩⟩⟩
theorem lw_p48 : lw_okq (⟨"WheelBrookModel", "one", "()Z"⟩, 27) := ⟨⟨by decide +kernel, by decide +kernel⟩, List.mem_of_getElem? (i := 789) (by decide +kernel), List.mem_of_getElem? (i := 1050) (by decide +kernel), List.mem_of_getElem? (i := 1051) (by decide +kernel)⟩
theorem lw_p49 : lw_okq (⟨"WheelBrookModel", "look", "()I"⟩, 27) := ⟨⟨by decide +kernel, by decide +kernel⟩, List.mem_of_getElem? (i := 789) (by decide +kernel), List.mem_of_getElem? (i := 1054) (by decide +kernel), List.mem_of_getElem? (i := 1055) (by decide +kernel)⟩
theorem lw_p50 : lw_okq (⟨"WheelBrookModel", "isName", "(I)Z"⟩, 27) := ⟨⟨by decide +kernel, by decide +kernel⟩, List.mem_of_getElem? (i := 789) (by decide +kernel), List.mem_of_getElem? (i := 1058) (by decide +kernel), List.mem_of_getElem? (i := 1059) (by decide +kernel)⟩
theorem lw_p51 : lw_okq (⟨"WheelBrookModel", "step1", "(II)V"⟩, 27) := ⟨⟨by decide +kernel, by decide +kernel⟩, List.mem_of_getElem? (i := 789) (by decide +kernel), List.mem_of_getElem? (i := 1062) (by decide +kernel), List.mem_of_getElem? (i := 1063) (by decide +kernel)⟩
theorem lw_p52 : lw_okq (⟨"WheelBrookModel", "opens", "()Z"⟩, 27) := ⟨⟨by decide +kernel, by decide +kernel⟩, List.mem_of_getElem? (i := 789) (by decide +kernel), List.mem_of_getElem? (i := 1066) (by decide +kernel), List.mem_of_getElem? (i := 1067) (by decide +kernel)⟩
theorem lw_p53 : lw_okq (⟨"WheelBrookModel", "go", "(I)V"⟩, 27) := ⟨⟨by decide +kernel, by decide +kernel⟩, List.mem_of_getElem? (i := 789) (by decide +kernel), List.mem_of_getElem? (i := 1082) (by decide +kernel), List.mem_of_getElem? (i := 1083) (by decide +kernel)⟩
theorem lw_p54 : lw_okq (⟨"WheelBrookModel", "hour", "()V"⟩, 27) := ⟨⟨by decide +kernel, by decide +kernel⟩, List.mem_of_getElem? (i := 789) (by decide +kernel), List.mem_of_getElem? (i := 1086) (by decide +kernel), List.mem_of_getElem? (i := 1087) (by decide +kernel)⟩
theorem lw_p55 : lw_okq (⟨"WheelBrookModel", "turn1", "(II)V"⟩, 27) := ⟨⟨by decide +kernel, by decide +kernel⟩, List.mem_of_getElem? (i := 789) (by decide +kernel), List.mem_of_getElem? (i := 1090) (by decide +kernel), List.mem_of_getElem? (i := 1091) (by decide +kernel)⟩
theorem lw_p56 : lw_okq (⟨"WheelBrookModel", "prays", "(II)V"⟩, 27) := ⟨⟨by decide +kernel, by decide +kernel⟩, List.mem_of_getElem? (i := 789) (by decide +kernel), List.mem_of_getElem? (i := 1094) (by decide +kernel), List.mem_of_getElem? (i := 1095) (by decide +kernel)⟩
theorem lw_p57 : lw_okq (⟨"WheelBrookModel", "allPrayed", "()I"⟩, 27) := ⟨⟨by decide +kernel, by decide +kernel⟩, List.mem_of_getElem? (i := 789) (by decide +kernel), List.mem_of_getElem? (i := 1098) (by decide +kernel), List.mem_of_getElem? (i := 1099) (by decide +kernel)⟩
theorem lw_p58 : lw_okq (⟨"WheelBrookModel", "draw", "()I"⟩, 27) := ⟨⟨by decide +kernel, by decide +kernel⟩, List.mem_of_getElem? (i := 789) (by decide +kernel), List.mem_of_getElem? (i := 1106) (by decide +kernel), List.mem_of_getElem? (i := 1107) (by decide +kernel)⟩
theorem lw_p59 : lw_okq (⟨"WheelBrookModel", "opens", "(I)V"⟩, 27) := ⟨⟨by decide +kernel, by decide +kernel⟩, List.mem_of_getElem? (i := 789) (by decide +kernel), List.mem_of_getElem? (i := 1145) (by decide +kernel), List.mem_of_getElem? (i := 1146) (by decide +kernel)⟩
theorem lw_p60 : lw_okq (⟨"WheelBrookModel", "areAllPaid", "()Z"⟩, 27) := ⟨⟨by decide +kernel, by decide +kernel⟩, List.mem_of_getElem? (i := 789) (by decide +kernel), List.mem_of_getElem? (i := 1149) (by decide +kernel), List.mem_of_getElem? (i := 1150) (by decide +kernel)⟩
theorem lw_p61 : lw_okq (⟨"WheelBrookModel", "isTold", "(II)Z"⟩, 27) := ⟨⟨by decide +kernel, by decide +kernel⟩, List.mem_of_getElem? (i := 789) (by decide +kernel), List.mem_of_getElem? (i := 1157) (by decide +kernel), List.mem_of_getElem? (i := 1158) (by decide +kernel)⟩
theorem lw_p62 : lw_okq (⟨"WheelBrookModel", "findTurns", "(II)V"⟩, 27) := ⟨⟨by decide +kernel, by decide +kernel⟩, List.mem_of_getElem? (i := 789) (by decide +kernel), List.mem_of_getElem? (i := 1161) (by decide +kernel), List.mem_of_getElem? (i := 1162) (by decide +kernel)⟩
theorem lw_p63 : lw_okq (⟨"WheelBrookModel", "kindNow", "()I"⟩, 27) := ⟨⟨by decide +kernel, by decide +kernel⟩, List.mem_of_getElem? (i := 789) (by decide +kernel), List.mem_of_getElem? (i := 1181) (by decide +kernel), List.mem_of_getElem? (i := 1182) (by decide +kernel)⟩
def lw_privs_4 : List (MethodName × Nat) := [(⟨"WheelBrookModel", "one", "()Z"⟩, 27), (⟨"WheelBrookModel", "look", "()I"⟩, 27), (⟨"WheelBrookModel", "isName", "(I)Z"⟩, 27), (⟨"WheelBrookModel", "step1", "(II)V"⟩, 27), (⟨"WheelBrookModel", "opens", "()Z"⟩, 27), (⟨"WheelBrookModel", "go", "(I)V"⟩, 27), (⟨"WheelBrookModel", "hour", "()V"⟩, 27), (⟨"WheelBrookModel", "turn1", "(II)V"⟩, 27), (⟨"WheelBrookModel", "prays", "(II)V"⟩, 27), (⟨"WheelBrookModel", "allPrayed", "()I"⟩, 27), (⟨"WheelBrookModel", "draw", "()I"⟩, 27), (⟨"WheelBrookModel", "opens", "(I)V"⟩, 27), (⟨"WheelBrookModel", "areAllPaid", "()Z"⟩, 27), (⟨"WheelBrookModel", "isTold", "(II)Z"⟩, 27), (⟨"WheelBrookModel", "findTurns", "(II)V"⟩, 27), (⟨"WheelBrookModel", "kindNow", "()I"⟩, 27)]
theorem lw_r4 : ∀ q ∈ lw_privs_4, lw_okq q := List.forall_mem_cons.mpr ⟨lw_p48, List.forall_mem_cons.mpr ⟨lw_p49, List.forall_mem_cons.mpr ⟨lw_p50, List.forall_mem_cons.mpr ⟨lw_p51, List.forall_mem_cons.mpr ⟨lw_p52, List.forall_mem_cons.mpr ⟨lw_p53, List.forall_mem_cons.mpr ⟨lw_p54, List.forall_mem_cons.mpr ⟨lw_p55, List.forall_mem_cons.mpr ⟨lw_p56, List.forall_mem_cons.mpr ⟨lw_p57, List.forall_mem_cons.mpr ⟨lw_p58, List.forall_mem_cons.mpr ⟨lw_p59, List.forall_mem_cons.mpr ⟨lw_p60, List.forall_mem_cons.mpr ⟨lw_p61, List.forall_mem_cons.mpr ⟨lw_p62, List.forall_mem_cons.mpr ⟨lw_p63, fun _ h => absurd h List.not_mem_nil⟩⟩⟩⟩⟩⟩⟩⟩⟩⟩⟩⟩⟩⟩⟩⟩
theorem lw_p64 : lw_okq (⟨"WheelBrookModel", "flowsAs", "(II)I"⟩, 27) := ⟨⟨by decide +kernel, by decide +kernel⟩, List.mem_of_getElem? (i := 789) (by decide +kernel), List.mem_of_getElem? (i := 1185) (by decide +kernel), List.mem_of_getElem? (i := 1186) (by decide +kernel)⟩
theorem lw_p65 : lw_okq (⟨"WheelBrookModel", "begins", "(I)V"⟩, 27) := ⟨⟨by decide +kernel, by decide +kernel⟩, List.mem_of_getElem? (i := 789) (by decide +kernel), List.mem_of_getElem? (i := 1189) (by decide +kernel), List.mem_of_getElem? (i := 1190) (by decide +kernel)⟩
theorem lw_p66 : lw_okq (⟨"WheelBrookModel", "turnsAs", "(II)I"⟩, 27) := ⟨⟨by decide +kernel, by decide +kernel⟩, List.mem_of_getElem? (i := 789) (by decide +kernel), List.mem_of_getElem? (i := 1196) (by decide +kernel), List.mem_of_getElem? (i := 1197) (by decide +kernel)⟩
theorem lw_p67 : lw_okq (⟨"WheelBrookModel", "mNow", "()I"⟩, 27) := ⟨⟨by decide +kernel, by decide +kernel⟩, List.mem_of_getElem? (i := 789) (by decide +kernel), List.mem_of_getElem? (i := 1200) (by decide +kernel), List.mem_of_getElem? (i := 1201) (by decide +kernel)⟩
theorem lw_p68 : lw_okq (⟨"WheelBrookModel", "praysAs", "(II)I"⟩, 27) := ⟨⟨by decide +kernel, by decide +kernel⟩, List.mem_of_getElem? (i := 789) (by decide +kernel), List.mem_of_getElem? (i := 1204) (by decide +kernel), List.mem_of_getElem? (i := 1205) (by decide +kernel)⟩
theorem lw_p69 : lw_okq (⟨"WheelBrookModel", "partsAs", "(II)I"⟩, 27) := ⟨⟨by decide +kernel, by decide +kernel⟩, List.mem_of_getElem? (i := 789) (by decide +kernel), List.mem_of_getElem? (i := 1208) (by decide +kernel), List.mem_of_getElem? (i := 1209) (by decide +kernel)⟩
theorem lw_p70 : lw_okq (⟨"WheelBrookModel", "lacks", "(I)I"⟩, 27) := ⟨⟨by decide +kernel, by decide +kernel⟩, List.mem_of_getElem? (i := 789) (by decide +kernel), List.mem_of_getElem? (i := 1235) (by decide +kernel), List.mem_of_getElem? (i := 1236) (by decide +kernel)⟩
def lw_privs_5 : List (MethodName × Nat) := [(⟨"WheelBrookModel", "flowsAs", "(II)I"⟩, 27), (⟨"WheelBrookModel", "begins", "(I)V"⟩, 27), (⟨"WheelBrookModel", "turnsAs", "(II)I"⟩, 27), (⟨"WheelBrookModel", "mNow", "()I"⟩, 27), (⟨"WheelBrookModel", "praysAs", "(II)I"⟩, 27), (⟨"WheelBrookModel", "partsAs", "(II)I"⟩, 27), (⟨"WheelBrookModel", "lacks", "(I)I"⟩, 27)]
theorem lw_r5 : ∀ q ∈ lw_privs_5, lw_okq q := List.forall_mem_cons.mpr ⟨lw_p64, List.forall_mem_cons.mpr ⟨lw_p65, List.forall_mem_cons.mpr ⟨lw_p66, List.forall_mem_cons.mpr ⟨lw_p67, List.forall_mem_cons.mpr ⟨lw_p68, List.forall_mem_cons.mpr ⟨lw_p69, List.forall_mem_cons.mpr ⟨lw_p70, fun _ h => absurd h List.not_mem_nil⟩⟩⟩⟩⟩⟩⟩
def lw_privs : List (MethodName × Nat) := lw_privs_1 ++ (lw_privs_2 ++ (lw_privs_3 ++ (lw_privs_4 ++ (lw_privs_5))))
def lw_tbl : List Cond := k2_sels lw_privs ++ tables_1
theorem lw_privs_ok : ∀ q ∈ lw_privs, lw_okq q := by
  show ∀ q ∈ lw_privs_1 ++ (lw_privs_2 ++ (lw_privs_3 ++ (lw_privs_4 ++ (lw_privs_5)))), lw_okq q
  exact List.forall_mem_append.mpr ⟨lw_r1, List.forall_mem_append.mpr ⟨lw_r2, List.forall_mem_append.mpr ⟨lw_r3, List.forall_mem_append.mpr ⟨lw_r4, lw_r5⟩⟩⟩⟩
-- ===== end of PART A; then your names; then what follows =====
end
section
def zAOA (t : FieldType) (U : State) : Prop := (Cond.arrayOver (.array t)).before #[] U = true
theorem zAOA.of {t : FieldType} {A : Array Value} {U : State} (h : (Cond.arrayOver (.array t)).before A U = true) : zAOA t U := h
theorem zAOA.use {t : FieldType} {A : Array Value} {U : State} (h : zAOA t U) : (Cond.arrayOver (.array t)).before A U = true := h
theorem zAOA.moved {t : FieldType} {u U : State} (hvm : u.vm.Alike U.vm) (h : zAOA t u) : zAOA t U := by
  have h2 : (Cond.arrayOver (.array t)).before #[] (u.setVm U.vm) = true := by rw [Cond.arrayOver_setVmC hvm (.array t)]; exact h
  exact h2
/-! ===== BEGIN words of one list among another's, by their places ===== -/
theorem goodIn_r {big : List Cond} (ws : List Cond) (ps : List Nat) (hp : ws = ps.filterMap (fun i => big[i]?)) (h : ws.all goodWord = true) : GoodIn big ws := by
  intro w hw
  have h1 := List.all_eq_true.mp h w hw
  rw [hp] at hw
  obtain ⟨i, -, hi⟩ := List.mem_filterMap.mp hw
  have hm : w ∈ big := by first | exact List.mem_of_getElem? hi | exact List.getElem?_mem hi
  exact ⟨hm, good_of_word h1⟩
theorem goodIn_app {big a b : List Cond} (ha : GoodIn big a) (hb : GoodIn big b) : GoodIn big (a ++ b) := fun w h => (List.mem_append.mp h).elim (ha w) (hb w)
theorem goodIn_ca {big a b : List Cond} {c : Cond} (ha : GoodIn big (c :: a)) (hb : GoodIn big b) : GoodIn big (c :: (a ++ b)) := fun w h => (List.mem_cons.mp h).elim (fun e => ha w (List.mem_cons.mpr (Or.inl e))) (fun h => (List.mem_append.mp h).elim (fun h => ha w (List.mem_cons.mpr (Or.inr h))) (hb w))
theorem goodIn_sub {big ws : List Cond} (hm : ∀ w ∈ ws, w ∈ big) (h : ws.all goodWord = true) : GoodIn big ws := fun w hw => ⟨hm w hw, good_of_word (List.all_eq_true.mp h w hw)⟩
/-! ===== END ===== -/

/-! ===== BEGIN new T[n][m]: the outer array a place, the inner ones among the pooled ===== -/
/-- f, but v at every address of l -/
def vr_up {α : Type} (f : Nat → α) (l : List Nat) (v : α) : Nat → α := fun a => if a ∈ l then v else f a
theorem vr_up_in {α : Type} {f : Nat → α} {l : List Nat} {v : α} {a : Nat} (h : a ∈ l) : vr_up f l v a = v := if_pos h
theorem vr_up_ne {α : Type} {f : Nat → α} {l : List Nat} {v : α} {a : Nat} (h : a ∉ l) : vr_up f l v a = f a := if_neg h
theorem vr_rows {L l : List Nat} {f : Nat → va_E} {e : va_E} (h : ∀ a, a ∈ l → a ∉ L) : va_pl L f ++ l.map (fun a => (a, e)) = va_pl (L ++ l) (vr_up f l e) := by
  unfold va_pl
  rw [List.map_append]
  congr 1
  · apply List.map_congr_left
    intro a ha
    rw [vr_up_ne (fun q => h a q ha)]
  · apply List.map_congr_left
    intro a ha
    rw [vr_up_in ha]
theorem vr_lay {X rows : va_W} {x : Nat × va_E} {pl : va_W} {D : va_G} {cl : List vw_C} {H : Heap} (hP : va_P D cl (((X ++ pl) ++ [x]) ++ rows) H) : va_P D cl ((X ++ [x]) ++ (pl ++ rows)) H := by
  rw [List.append_assoc (X ++ pl)] at hP
  have h := va_P.swap hP
  rw [← List.append_assoc X] at h
  have h2 := va_P.swap h
  rw [List.append_assoc (X ++ [x])] at h2
  exact h2
theorem vr_layD {X rows : va_W} {x : Nat × va_E} {pl : va_W} {A : Nat → Prop} (hD : va_D A (((X ++ pl) ++ [x]) ++ rows)) : va_D A ((X ++ [x]) ++ (pl ++ rows)) := by
  rw [List.append_assoc (X ++ pl)] at hD
  have h := va_D.swap hD
  rw [← List.append_assoc X] at h
  have h2 := va_D.swap h
  rw [List.append_assoc (X ++ [x])] at h2
  exact h2
theorem vr_outer (c : ClassId) (N h0 : Nat) : ∀ i : Nat, Jvm.Free.Multi.outerC c N h0 i = arrV c N (fun j => va_rf (if j < i then some (h0 + 1 + j) else none))
  | 0 => by
    show ({ cls := c, slots := Array.replicate N .null, vm := .none } : Cell) = _
    rw [arrV_new]
    refine congrArg (arrV c N) (funext fun j => ?_)
    simp [va_rf]
  | i + 1 => by
    show (Jvm.Free.Multi.outerC c N h0 i).setSlot i (.ref (h0 + 1 + i)) = _
    rw [vr_outer c N h0 i, arrV_store]
    refine congrArg (arrV c N) (funext fun j => ?_)
    by_cases e : j = i
    · subst e
      simp [updV, va_rf]
    · by_cases h : j < i
      · simp [updV, e, h, Nat.lt_succ_of_lt h]
      · simp [updV, e, h, show ¬ j < i + 1 by omega]
section VGM
variable {p : Program} {l : Launch} {e : Env} {R : Room} {s : State} {m : MethodId} {args : Array Value} {below : List Frame} {meth : Method} {c : Code} {H : Heap} {locs : List Loc} {cells slots : Nat} {Q : State → Prop}
variable {cc : ByteArray} {pc : Nat} {ls : Array Slot} {rest : List Value} {D : va_G} {cl : List vw_C} {A : Nat → Prop} {a : Nat} {tys : List (ClassId × FieldType)} {ws : va_W} {H0 : Heap}
theorem va_mna {X : va_W} {L : List Nat} {f : Nat → va_E} {cc : ByteArray} (hexec : p.tables.exec = Jvm.exec) (hb : c.code = cc) {own : String} {index : Nat} {ty : FieldType} {cy : ClassId} (hown : s.vm.findClass own = some m.cls) (hclink : (Cond.classLink own index ("[" ++ (FieldType.array ty).toString)).before args s = true) (hover : zAOA ty s) (harr : (Cond.arrayClass ty).before args s = true) (hcy : s.vm.findClass (FieldType.array ty).toString = some cy)
    (hK : va_K D cl tys s) (hP : va_P D cl (X ++ va_pl L f) H) (hD : va_D A (X ++ va_pl L f)) (hS : va_S A H0 H locs) (hA : ∀ q, H0.size ≤ q → A q) {n k : Int32} {N' K' : Nat} {z : vp_A} (hn : ¬ n < 0) (hk : ¬ k < 0) (hN : n.toNatClampNeg = N') (hM : k.toNatClampNeg = K')
    (hb1 : N' * 4 ≤ 536870912) (hb2 : K' * componentBytes ty ≤ 536870912) (hb3 : K' ≤ 536870912) (hdf : fits ty (defaultValue ty) = true) (hdd : (defaultValue ty).isDefault = true) (hcells : cells + (1 + N') ≤ R.cells) (hslots : slots + (N' + N' * K') ≤ R.slots) (hz : ∀ c : ClassId, Jvm.Free.Multi.innerC c K' (defaultValue ty) = vp_cell c z) (hdg : decode cc pc = .ok (.multianewarray index 2, 4))
    (kk : ∀ (q : Nat) (r : Nat → Nat) (cA : ClassId) (H1 : Heap), (∀ i j : Nat, i < N' → j < N' → r i = r j → i = j) → (∀ i : Nat, i < N' → r i ∉ L) → va_K D cl (tys ++ [(cA, .array ty)]) s →
      va_P D cl ((X ++ [(q, .inl (cA, N', .inr (.inr (.inr (.inr (fun i => if i < N' then some (r i) else none))))))]) ++ va_pl (L ++ (List.range N').map r) (vr_up f ((List.range N').map r) (.inl (cy, z)))) H1 → va_D A ((X ++ [(q, .inl (cA, N', .inr (.inr (.inr (.inr (fun i => if i < N' then some (r i) else none))))))]) ++ va_pl (L ++ (List.range N').map r) (vr_up f ((List.range N').map r) (.inl (cy, z)))) → va_S A H0 H1 locs →
      W p l e R s m args below meth c H1 locs (cells + 1 + N') (slots + N' + N' * K') Q (F0 m (pc + 4) ls (.ref q :: rest))) : W p l e R s m args below meth c H locs cells slots Q (F0 m pc ls (.int k :: .int n :: rest)) := by
  subst hN
  subst hM
  intro T hT Xs
  obtain ⟨vm₁, cA, comp, -, fA, fC, hO, -, X', step⟩ := Xs.multianewarray2F hexec hown hclink (zAOA.use hover) harr (g := F0 m pc ls (.int k :: .int n :: rest)) rfl (by rw [hb]; exact hdg) rfl hn hk hb1 hb2 hb3 hdf hdd hcells hslots
  have ec : some cy = some comp := hcy.symm.trans fC
  cases ec
  generalize hF : Jvm.Free.Multi.fill (T.setVm vm₁) cA cy n.toNatClampNeg k.toNatClampNeg (defaultValue ty) n.toNatClampNeg = F at X' step
  have hTh : (T.setVm vm₁).heap = H := hT
  obtain ⟨f1, f2, -, -⟩ := Jvm.Free.Multi.fill_facts (T.setVm vm₁) cA cy n.toNatClampNeg k.toNatClampNeg (defaultValue ty) n.toNatClampNeg
  rw [hF, hTh] at f1 f2
  have hold : ∀ x : Nat, x < H.size → F.heap[x]? = H[x]? := fun x hx => by
    have := Jvm.Free.Multi.fill_old (T.setVm vm₁) cA cy n.toNatClampNeg k.toNatClampNeg (defaultValue ty) (a := x) (by rw [hTh]; exact hx) n.toNatClampNeg
    rw [hF, hTh] at this
    exact this
  have hrow : ∀ j : Nat, j < n.toNatClampNeg → F.heap[H.size + 1 + j]? = some (vp_cell cy z) := fun j hj => by
    have := Jvm.Free.Multi.fill_inner (T.setVm vm₁) cA cy n.toNatClampNeg k.toNatClampNeg (defaultValue ty) n.toNatClampNeg j hj
    rw [hF, hTh, hz] at this
    exact this
  have hout : Jvm.Free.Multi.outerC cA n.toNatClampNeg H.size n.toNatClampNeg = vp_cell cA (n.toNatClampNeg, .inr (.inr (.inr (.inr (fun i => if i < n.toNatClampNeg then some (H.size + 1 + i) else none))))) := by
    rw [vp_cell_q]
    exact vr_outer cA n.toNatClampNeg H.size n.toNatClampNeg
  rw [hout] at f2
  have hlt : ∀ a, a ∈ L → a < H.size := fun a ha => by
    obtain ⟨k9, hk9⟩ := va_pl_get (X := X) (f := f) ha
    exact (hP k9 _ hk9).lt
  have hnl : ∀ i : Nat, i < n.toNatClampNeg → H.size + 1 + i ∉ L := fun i _ h => by
    have := hlt _ h
    omega
  have hnm : ∀ a, a ∈ (List.range n.toNatClampNeg).map (fun i => H.size + 1 + i) → a ∉ L := fun a ha h => by
    obtain ⟨i, -, rfl⟩ := List.mem_map.mp ha
    have := hlt _ h
    omega
  have hP0 : va_P D cl (X ++ va_pl L f) F.heap := hP.kept (fun k9 x hx => hold x.1 ((hP k9 x hx).lt))
  have hP1 : va_P D cl ((X ++ va_pl L f) ++ [(H.size, .inl (cA, n.toNatClampNeg, .inr (.inr (.inr (.inr (fun i => if i < n.toNatClampNeg then some (H.size + 1 + i) else none))))))]) F.heap := hP0.app (fun k9 x hx => by
    have h0 : k9 < 1 := (List.getElem?_eq_some_iff.mp hx).1
    rw [show k9 = 0 by omega] at hx
    cases hx
    exact f2)
  have hP2 : va_P D cl (((X ++ va_pl L f) ++ [(H.size, .inl (cA, n.toNatClampNeg, .inr (.inr (.inr (.inr (fun i => if i < n.toNatClampNeg then some (H.size + 1 + i) else none))))))]) ++ ((List.range n.toNatClampNeg).map (fun i => H.size + 1 + i)).map (fun a => (a, .inl (cy, z)))) F.heap := hP1.app (fun k9 x hx => by
    obtain ⟨a, ha, rfl⟩ := List.mem_map.mp (List.mem_of_getElem? hx)
    obtain ⟨i, hi, rfl⟩ := List.mem_map.mp ha
    exact hrow i (List.mem_range.mp hi))
  have hD2 : va_D A (((X ++ va_pl L f) ++ [(H.size, .inl (cA, n.toNatClampNeg, .inr (.inr (.inr (.inr (fun i => if i < n.toNatClampNeg then some (H.size + 1 + i) else none))))))]) ++ ((List.range n.toNatClampNeg).map (fun i => H.size + 1 + i)).map (fun a => (a, .inl (cy, z)))) := by
    have hD1 := hD.push (e := .inl (cA, n.toNatClampNeg, .inr (.inr (.inr (.inr (fun i => if i < n.toNatClampNeg then some (H.size + 1 + i) else none)))))) hP rfl (hA _ hS.1)
    generalize hW1 : (X ++ va_pl L f) ++ [(H.size, .inl (cA, n.toNatClampNeg, .inr (.inr (.inr (.inr (fun i => if i < n.toNatClampNeg then some (H.size + 1 + i) else none))))))] = W1 at hD1 hP1 ⊢
    have hle : ∀ (k9 : Nat) (x : Nat × va_E), W1[k9]? = some x → x.1 ≤ H.size := fun k9 x hx => by
      rw [← hW1] at hx
      by_cases hl : k9 < (X ++ va_pl L f).length
      · rw [List.getElem?_append_left hl] at hx
        exact Nat.le_of_lt ((hP k9 x hx).lt)
      · rw [List.getElem?_append_right (by omega)] at hx
        have h0 : k9 - (X ++ va_pl L f).length < 1 := (List.getElem?_eq_some_iff.mp hx).1
        rw [show k9 - (X ++ va_pl L f).length = 0 by omega] at hx
        cases hx
        exact Nat.le_refl _
    have hr : ∀ (k9 : Nat) (x : Nat × va_E), (((List.range n.toNatClampNeg).map (fun i => H.size + 1 + i)).map (fun a => ((a, .inl (cy, z)) : Nat × va_E)))[k9]? = some x → x.1 = H.size + 1 + k9 := fun k9 x hx => by
      rw [List.getElem?_map, List.getElem?_map] at hx
      by_cases h9 : k9 < n.toNatClampNeg
      · rw [List.getElem?_range h9] at hx
        cases hx
        rfl
      · have hn0 : (List.range n.toNatClampNeg)[k9]? = none := List.getElem?_eq_none (by rw [List.length_range]; omega)
        rw [hn0] at hx
        cases hx
    refine ⟨fun i j x y hi hj hxy => ?_, fun k9 x hx => ?_⟩
    · by_cases h1 : i < W1.length <;> by_cases h2 : j < W1.length
      · rw [List.getElem?_append_left h1] at hi
        rw [List.getElem?_append_left h2] at hj
        exact hD1.1 i j x y hi hj hxy
      · rw [List.getElem?_append_left h1] at hi
        rw [List.getElem?_append_right (by omega)] at hj
        have := hle _ _ hi
        have := hr _ _ hj
        omega
      · rw [List.getElem?_append_right (by omega)] at hi
        rw [List.getElem?_append_left h2] at hj
        have := hle _ _ hj
        have := hr _ _ hi
        omega
      · rw [List.getElem?_append_right (by omega)] at hi hj
        have := hr _ _ hi
        have := hr _ _ hj
        omega
    · by_cases h1 : k9 < W1.length
      · rw [List.getElem?_append_left h1] at hx
        exact hD1.2 k9 x hx
      · rw [List.getElem?_append_right (by omega)] at hx
        have := hr _ _ hx
        exact hA _ (by have := hS.1; omega)
  have hAr : ArrOfT s cA (.array ty) := fun N9 z9 => by
    obtain ⟨-, k9, hk9, cm9, hkk9⟩ := (hO 0 0 0).1
    exact ⟨(fun q hq => by cases hq), k9, hk9, cm9, hkk9⟩
  have hK2 : va_K D cl (tys ++ [(cA, .array ty)]) s := ⟨hK.1, fun k9 x hx => by
    by_cases hl : k9 < tys.length
    · rw [List.getElem?_append_left hl] at hx
      exact hK.2 k9 x hx
    · rw [List.getElem?_append_right (by omega)] at hx
      have h0 : k9 - tys.length < 1 := (List.getElem?_eq_some_iff.mp hx).1
      rw [show k9 - tys.length = 0 by omega] at hx
      cases hx
      exact ⟨hAr, fA⟩⟩
  obtain ⟨t, a1, b1⟩ := kk H.size (fun i => H.size + 1 + i) cA F.heap (fun i j _ _ h => by have h9 : H.size + 1 + i = H.size + 1 + j := h; omega) hnl hK2 (by rw [← vr_rows hnm]; exact vr_lay hP2) (by rw [← vr_rows hnm]; exact vr_layD hD2) ⟨by rw [f1]; have := hS.1; omega, fun x h1 h2 => (hold x (Nat.lt_of_lt_of_le h1 hS.1)).trans (hS.2.1 x h1 h2), hS.2.2⟩ F rfl X'
  refine ⟨t, step t ?_, b1⟩
  have e : T.heap.size = H.size := by rw [hT]
  rw [e]
  exact a1
end VGM
/-! ===== END ===== -/
end
section
/-! ===== BEGIN printed: names, fields, word lists, decode rows ===== -/
def RX0 : String := "WheelBrook$Brook"
def TX0 : u_T := fun k => match k with
  | 0 => ("WheelBrook$Brook", "dayForce", "[I", true)
  | 1 => ("WheelBrook$Brook", "weeds", "[I", true)
  | 2 => ("WheelBrook$Brook", "owed", "[I", true)
  | 3 => ("WheelBrook$Brook", "prayed", "[I", true)
  | 4 => ("WheelBrook$Brook", "wheels", "[LWheelBrook$Wheel;", true)
  | 5 => ("WheelBrook$Brook", "takes", "LWheelBrook$Law;", true)
  | 6 => ("WheelBrook$Brook", "turns", "LWheelBrook$Law;", true)
  | 7 => ("WheelBrook$Brook", "names", "[I", true)
  | 8 => ("WheelBrook$Brook", "flow", "[I", true)
  | 9 => ("WheelBrook$Brook", "size", "I", false)
  | 10 => ("WheelBrook$Brook", "hour", "I", false)
  | 11 => ("WheelBrook$Brook", "cold", "I", false)
  | 12 => ("WheelBrook$Brook", "z", "I", false)
  | 13 => ("WheelBrook$Brook", "gone", "I", false)
  | _ => ("WheelBrook$Brook", "lost", "I", false)
def tyX0 : Nat → FieldType := fun k => match k with
  | 0 => .array .int
  | 1 => .array .int
  | 2 => .array .int
  | 3 => .array .int
  | 4 => .array (.object "WheelBrook$Wheel")
  | 5 => .object "WheelBrook$Law"
  | 6 => .object "WheelBrook$Law"
  | 7 => .array .int
  | 8 => .array .int
  | 9 => .int
  | 10 => .int
  | 11 => .int
  | 12 => .int
  | 13 => .int
  | _ => .int
abbrev wsX00 : List Cond := u_ws RX0 TX0 15
theorem nmX0 : ∀ a, a < 15 → ∀ b, b < 15 → a ≠ b → (TX0 a).2.1 ≠ (TX0 b).2.1 := by decide +kernel
theorem tyX0_ok : ∀ k, k < 15 → parseFieldDescriptor (TX0 k).2.2.1 = some (tyX0 k) := by decide +kernel
abbrev cX0_init : ByteArray := prog_2_method_1_code
def yX0_init : MethodName := ⟨RX0, "<init>", "()V"⟩
abbrev cX0_copyFrom : ByteArray := prog_2_method_2_code
def yX0_copyFrom : MethodName := ⟨RX0, "copyFrom", "(LWheelBrook$Brook;)V"⟩
abbrev cX0_law : ByteArray := prog_2_method_3_code
def yX0_law : MethodName := ⟨RX0, "law", "(I)LWheelBrook$Law;"⟩
abbrev cX0_addWheel : ByteArray := prog_2_method_4_code
def yX0_addWheel : MethodName := ⟨RX0, "addWheel", "(III)V"⟩
abbrev cX0_openOnly : ByteArray := prog_2_method_5_code
def yX0_openOnly : MethodName := ⟨RX0, "openOnly", "(I)V"⟩
abbrev cX0_forceNow : ByteArray := prog_2_method_6_code
def yX0_forceNow : MethodName := ⟨RX0, "forceNow", "()I"⟩
abbrev cX0_letFlow : ByteArray := prog_2_method_7_code
def yX0_letFlow : MethodName := ⟨RX0, "letFlow", "()V"⟩
abbrev cX0_wants : ByteArray := prog_2_method_8_code
def yX0_wants : MethodName := ⟨RX0, "wants", "(LWheelBrook$Wheel;I)I"⟩
abbrev cX0_toldTakes : ByteArray := prog_2_method_9_code
def yX0_toldTakes : MethodName := ⟨RX0, "toldTakes", "(LWheelBrook$Wheel;I)I"⟩
abbrev cX0_turnsBy : ByteArray := prog_2_method_10_code
def yX0_turnsBy : MethodName := ⟨RX0, "turnsBy", "(LWheelBrook$Wheel;I)I"⟩
abbrev cX0_toldTurns : ByteArray := prog_2_method_11_code
def yX0_toldTurns : MethodName := ⟨RX0, "toldTurns", "(LWheelBrook$Wheel;I)I"⟩
abbrev cX0_showsBy : ByteArray := prog_2_method_12_code
def yX0_showsBy : MethodName := ⟨RX0, "showsBy", "(LWheelBrook$Wheel;II)I"⟩
abbrev cX0_passHour : ByteArray := prog_2_method_13_code
def yX0_passHour : MethodName := ⟨RX0, "passHour", "()I"⟩
abbrev cX0_passHours : ByteArray := prog_2_method_14_code
def yX0_passHours : MethodName := ⟨RX0, "passHours", "(I)I"⟩
abbrev cX0_turnsIn : ByteArray := prog_2_method_15_code
def yX0_turnsIn : MethodName := ⟨RX0, "turnsIn", "(III)I"⟩
abbrev cX0_turnMore : ByteArray := prog_2_method_16_code
def yX0_turnMore : MethodName := ⟨RX0, "turnMore", "(LWheelBrook$Wheel;I)V"⟩
abbrev cX0_drawWeather : ByteArray := prog_2_method_17_code
def yX0_drawWeather : MethodName := ⟨RX0, "drawWeather", "()I"⟩
abbrev cX0_flood : ByteArray := prog_2_method_18_code
def yX0_flood : MethodName := ⟨RX0, "flood", "()V"⟩
abbrev cX0_isPaid : ByteArray := prog_2_method_19_code
def yX0_isPaid : MethodName := ⟨RX0, "isPaid", "(I)Z"⟩
abbrev cX0_allArePaid : ByteArray := prog_2_method_20_code
def yX0_allArePaid : MethodName := ⟨RX0, "allArePaid", "()Z"⟩
abbrev cX0_prayedOfAll : ByteArray := prog_2_method_21_code
def yX0_prayedOfAll : MethodName := ⟨RX0, "prayedOfAll", "()I"⟩
abbrev cX0_familyPart : ByteArray := prog_2_method_22_code
def yX0_familyPart : MethodName := ⟨RX0, "familyPart", "(II)I"⟩
abbrev cX0_wheelsFor : ByteArray := prog_2_method_23_code
def yX0_wheelsFor : MethodName := ⟨RX0, "wheelsFor", "(I)I"⟩
abbrev cX0_wheelPart : ByteArray := prog_2_method_24_code
def yX0_wheelPart : MethodName := ⟨RX0, "wheelPart", "(II)I"⟩
def RX1 : String := "WheelBrook$Desk"
def TX1 : u_T := fun k => match k with
  | 0 => ("WheelBrook$Desk", "tape", "[B", true)
  | 1 => ("WheelBrook$Desk", "numbers", "[I", true)
  | 2 => ("WheelBrook$Desk", "taped", "I", false)
  | _ => ("WheelBrook$Desk", "waiting", "I", false)
def tyX1 : Nat → FieldType := fun k => match k with
  | 0 => .array .byte
  | 1 => .array .int
  | 2 => .int
  | _ => .int
abbrev wsX10 : List Cond := u_ws RX1 TX1 4
theorem nmX1 : ∀ a, a < 4 → ∀ b, b < 4 → a ≠ b → (TX1 a).2.1 ≠ (TX1 b).2.1 := by decide +kernel
theorem tyX1_ok : ∀ k, k < 4 → parseFieldDescriptor (TX1 k).2.2.1 = some (tyX1 k) := by decide +kernel
abbrev cX1_init : ByteArray := prog_3_method_1_code
def yX1_init : MethodName := ⟨RX1, "<init>", "()V"⟩
abbrev cX1_addBytes : ByteArray := prog_3_method_2_code
def yX1_addBytes : MethodName := ⟨RX1, "addBytes", "(JI)V"⟩
abbrev cX1_copyFrom : ByteArray := prog_3_method_3_code
def yX1_copyFrom : MethodName := ⟨RX1, "copyFrom", "(LWheelBrook$Desk;)V"⟩
def RX2 : String := "WheelBrook$Law"
def TX2 : u_T := fun k => match k with
  | 0 => ("WheelBrook$Law", "code", "[I", true)
  | 1 => ("WheelBrook$Law", "stack", "[I", true)
  | _ => ("WheelBrook$Law", "size", "I", false)
def tyX2 : Nat → FieldType := fun k => match k with
  | 0 => .array .int
  | 1 => .array .int
  | _ => .int
abbrev wsX20 : List Cond := u_ws RX2 TX2 3
theorem nmX2 : ∀ a, a < 3 → ∀ b, b < 3 → a ≠ b → (TX2 a).2.1 ≠ (TX2 b).2.1 := by decide +kernel
theorem tyX2_ok : ∀ k, k < 3 → parseFieldDescriptor (TX2 k).2.2.1 = some (tyX2 k) := by decide +kernel
abbrev cX2_init : ByteArray := prog_4_method_1_code
def yX2_init : MethodName := ⟨RX2, "<init>", "()V"⟩
abbrev cX2_learn : ByteArray := prog_4_method_2_code
def yX2_learn : MethodName := ⟨RX2, "learn", "([II)V"⟩
abbrev cX2_value : ByteArray := prog_4_method_3_code
def yX2_value : MethodName := ⟨RX2, "value", "([I)I"⟩
abbrev cX2_nameOf : ByteArray := prog_4_method_4_code
def yX2_nameOf : MethodName := ⟨RX2, "nameOf", "([II)I"⟩
abbrev cX2_joined : ByteArray := prog_4_method_5_code
def yX2_joined : MethodName := ⟨RX2, "joined", "(III)I"⟩
def RX3 : String := "WheelBrook$Reader"
def TX3 : u_T := fun k => match k with
  | 0 => ("WheelBrook$Reader", "code", "[I", true)
  | 1 => ("WheelBrook$Reader", "signs", "[I", true)
  | 2 => ("WheelBrook$Reader", "size", "I", false)
  | 3 => ("WheelBrook$Reader", "waiting", "I", false)
  | 4 => ("WheelBrook$Reader", "open", "I", false)
  | 5 => ("WheelBrook$Reader", "brackets", "I", false)
  | 6 => ("WheelBrook$Reader", "digits", "I", false)
  | _ => ("WheelBrook$Reader", "wanting", "Z", false)
def tyX3 : Nat → FieldType := fun k => match k with
  | 0 => .array .int
  | 1 => .array .int
  | 2 => .int
  | 3 => .int
  | 4 => .int
  | 5 => .int
  | 6 => .int
  | _ => .boolean
abbrev wsX30 : List Cond := u_ws RX3 TX3 8
theorem nmX3 : ∀ a, a < 8 → ∀ b, b < 8 → a ≠ b → (TX3 a).2.1 ≠ (TX3 b).2.1 := by decide +kernel
theorem tyX3_ok : ∀ k, k < 8 → parseFieldDescriptor (TX3 k).2.2.1 = some (tyX3 k) := by decide +kernel
abbrev cX3_init : ByteArray := prog_5_method_1_code
def yX3_init : MethodName := ⟨RX3, "<init>", "()V"⟩
abbrev cX3_read : ByteArray := prog_5_method_2_code
def yX3_read : MethodName := ⟨RX3, "read", "([BII)I"⟩
abbrev cX3_goesOn : ByteArray := prog_5_method_3_code
def yX3_goesOn : MethodName := ⟨RX3, "goesOn", "(II)Z"⟩
abbrev cX3_digit : ByteArray := prog_5_method_4_code
def yX3_digit : MethodName := ⟨RX3, "digit", "(I)Z"⟩
abbrev cX3_opens : ByteArray := prog_5_method_5_code
def yX3_opens : MethodName := ⟨RX3, "opens", "(II)Z"⟩
abbrev cX3_follows : ByteArray := prog_5_method_6_code
def yX3_follows : MethodName := ⟨RX3, "follows", "(I)Z"⟩
abbrev cX3_closes : ByteArray := prog_5_method_7_code
def yX3_closes : MethodName := ⟨RX3, "closes", "()Z"⟩
abbrev cX3_writeSigns : ByteArray := prog_5_method_8_code
def yX3_writeSigns : MethodName := ⟨RX3, "writeSigns", "(I)V"⟩
abbrev cX3_write : ByteArray := prog_5_method_9_code
def yX3_write : MethodName := ⟨RX3, "write", "(I)V"⟩
abbrev cX3_hold : ByteArray := prog_5_method_10_code
def yX3_hold : MethodName := ⟨RX3, "hold", "(I)V"⟩
abbrev cX3_rankOf : ByteArray := prog_5_method_11_code
def yX3_rankOf : MethodName := ⟨RX3, "rankOf", "(I)I"⟩
def RX4 : String := "WheelBrook$Sheets"
def TX4 : u_T := fun k => match k with
  | 0 => ("WheelBrook$Sheets", "rows", "[[I", true)
  | 1 => ("WheelBrook$Sheets", "widths", "[I", true)
  | _ => ("WheelBrook$Sheets", "sizes", "[I", true)
def tyX4 : Nat → FieldType := fun k => match k with
  | 0 => .array (.array .int)
  | 1 => .array .int
  | _ => .array .int
abbrev wsX40 : List Cond := u_ws RX4 TX4 3
theorem nmX4 : ∀ a, a < 3 → ∀ b, b < 3 → a ≠ b → (TX4 a).2.1 ≠ (TX4 b).2.1 := by decide +kernel
theorem tyX4_ok : ∀ k, k < 3 → parseFieldDescriptor (TX4 k).2.2.1 = some (tyX4 k) := by decide +kernel
abbrev cX4_init : ByteArray := prog_6_method_1_code
def yX4_init : MethodName := ⟨RX4, "<init>", "()V"⟩
abbrev cX4_isMissing : ByteArray := prog_6_method_2_code
def yX4_isMissing : MethodName := ⟨RX4, "isMissing", "(I)Z"⟩
abbrev cX4_begin : ByteArray := prog_6_method_3_code
def yX4_begin : MethodName := ⟨RX4, "begin", "(III)V"⟩
abbrev cX4_lowest : ByteArray := prog_6_method_4_code
def yX4_lowest : MethodName := ⟨RX4, "lowest", "(II)I"⟩
abbrev cX4_stand : ByteArray := prog_6_method_5_code
def yX4_stand : MethodName := ⟨RX4, "stand", "(III)Z"⟩
def RX5 : String := "WheelBrook$Speaker"
def TX5 : u_T := fun k => match k with
  | 0 => ("WheelBrook$Speaker", "trace", "[I", true)
  | 1 => ("WheelBrook$Speaker", "traced", "I", false)
  | 2 => ("WheelBrook$Speaker", "parted", "Z", false)
  | 3 => ("WheelBrook$Speaker", "kind", "I", false)
  | 4 => ("WheelBrook$Speaker", "number", "I", false)
  | _ => ("WheelBrook$Speaker", "m", "I", false)
def tyX5 : Nat → FieldType := fun k => match k with
  | 0 => .array .int
  | 1 => .int
  | 2 => .boolean
  | 3 => .int
  | 4 => .int
  | _ => .int
abbrev wsX50 : List Cond := u_ws RX5 TX5 6
theorem nmX5 : ∀ a, a < 6 → ∀ b, b < 6 → a ≠ b → (TX5 a).2.1 ≠ (TX5 b).2.1 := by decide +kernel
theorem tyX5_ok : ∀ k, k < 6 → parseFieldDescriptor (TX5 k).2.2.1 = some (tyX5 k) := by decide +kernel
abbrev cX5_init : ByteArray := prog_7_method_1_code
def yX5_init : MethodName := ⟨RX5, "<init>", "()V"⟩
abbrev cX5_answer : ByteArray := prog_7_method_2_code
def yX5_answer : MethodName := ⟨RX5, "answer", "(IIIII)I"⟩
abbrev cX5_speak : ByteArray := prog_7_method_3_code
def yX5_speak : MethodName := ⟨RX5, "speak", "(IIII)I"⟩
abbrev cX5_ofWheel : ByteArray := prog_7_method_4_code
def yX5_ofWheel : MethodName := ⟨RX5, "ofWheel", "(III)I"⟩
abbrev cX5_divided : ByteArray := prog_7_method_5_code
def yX5_divided : MethodName := ⟨RX5, "divided", "(II)I"⟩
abbrev cX5_ofOthers : ByteArray := prog_7_method_6_code
def yX5_ofOthers : MethodName := ⟨RX5, "ofOthers", "(IIII)I"⟩
abbrev cX5_partsOfSlow : ByteArray := prog_7_method_7_code
def yX5_partsOfSlow : MethodName := ⟨RX5, "partsOfSlow", "(III)I"⟩
def RX6 : String := "WheelBrook$Wheel"
def TX6 : u_T := fun k => match k with
  | 0 => ("WheelBrook$Wheel", "kind", "I", false)
  | 1 => ("WheelBrook$Wheel", "m", "I", false)
  | 2 => ("WheelBrook$Wheel", "place", "I", false)
  | 3 => ("WheelBrook$Wheel", "family", "I", false)
  | 4 => ("WheelBrook$Wheel", "open", "I", false)
  | 5 => ("WheelBrook$Wheel", "counter", "I", false)
  | 6 => ("WheelBrook$Wheel", "turned", "I", false)
  | 7 => ("WheelBrook$Wheel", "took", "I", false)
  | _ => ("WheelBrook$Wheel", "turns", "I", false)
def tyX6 : Nat → FieldType := fun k => match k with
  | 0 => .int
  | 1 => .int
  | 2 => .int
  | 3 => .int
  | 4 => .int
  | 5 => .int
  | 6 => .int
  | 7 => .int
  | _ => .int
abbrev wsX60 : List Cond := u_ws RX6 TX6 9
theorem nmX6 : ∀ a, a < 9 → ∀ b, b < 9 → a ≠ b → (TX6 a).2.1 ≠ (TX6 b).2.1 := by decide +kernel
theorem tyX6_ok : ∀ k, k < 9 → parseFieldDescriptor (TX6 k).2.2.1 = some (tyX6 k) := by decide +kernel
abbrev cX6_init : ByteArray := prog_8_method_1_code
def yX6_init : MethodName := ⟨RX6, "<init>", "()V"⟩
abbrev cX6_part : ByteArray := prog_8_method_2_code
def yX6_part : MethodName := ⟨RX6, "part", "(I)I"⟩
abbrev cX6_change : ByteArray := prog_8_method_3_code
def yX6_change : MethodName := ⟨RX6, "change", "(II)V"⟩
abbrev cX6_copyFrom : ByteArray := prog_8_method_4_code
def yX6_copyFrom : MethodName := ⟨RX6, "copyFrom", "(LWheelBrook$Wheel;)V"⟩
def RX7 : String := "WheelBrook"
def TX7 : u_T := fun k => match k with
  | 0 => ("WheelBrook", "now", "LWheelBrook$Brook;", true)
  | 1 => ("WheelBrook", "kept", "LWheelBrook$Brook;", true)
  | 2 => ("WheelBrook", "trial", "LWheelBrook$Brook;", true)
  | 3 => ("WheelBrook", "desk", "LWheelBrook$Desk;", true)
  | 4 => ("WheelBrook", "keptDesk", "LWheelBrook$Desk;", true)
  | 5 => ("WheelBrook", "reader", "LWheelBrook$Reader;", true)
  | 6 => ("WheelBrook", "speaker", "LWheelBrook$Speaker;", true)
  | 7 => ("WheelBrook", "sheets", "LWheelBrook$Sheets;", true)
  | 8 => ("WheelBrook", "errors", "[I", true)
  | _ => ("WheelBrook", "images", "I", false)
def tyX7 : Nat → FieldType := fun k => match k with
  | 0 => .object "WheelBrook$Brook"
  | 1 => .object "WheelBrook$Brook"
  | 2 => .object "WheelBrook$Brook"
  | 3 => .object "WheelBrook$Desk"
  | 4 => .object "WheelBrook$Desk"
  | 5 => .object "WheelBrook$Reader"
  | 6 => .object "WheelBrook$Speaker"
  | 7 => .object "WheelBrook$Sheets"
  | 8 => .array .int
  | _ => .int
abbrev wsX70 : List Cond := u_ws RX7 TX7 10
theorem nmX7 : ∀ a, a < 10 → ∀ b, b < 10 → a ≠ b → (TX7 a).2.1 ≠ (TX7 b).2.1 := by decide +kernel
theorem tyX7_ok : ∀ k, k < 10 → parseFieldDescriptor (TX7 k).2.2.1 = some (tyX7 k) := by decide +kernel
abbrev cX7_init : ByteArray := prog_1_method_1_code
def yX7_init : MethodName := ⟨RX7, "<init>", "()V"⟩
abbrev cX7_force : ByteArray := prog_1_method_2_code
def yX7_force : MethodName := ⟨RX7, "force", "(II)I"⟩
abbrev cX7_weed : ByteArray := prog_1_method_3_code
def yX7_weed : MethodName := ⟨RX7, "weed", "(II)I"⟩
abbrev cX7_frost : ByteArray := prog_1_method_4_code
def yX7_frost : MethodName := ⟨RX7, "frost", "(I)I"⟩
abbrev cX7_owe : ByteArray := prog_1_method_5_code
def yX7_owe : MethodName := ⟨RX7, "owe", "(II)I"⟩
abbrev cX7_familyIs : ByteArray := prog_1_method_6_code
def yX7_familyIs : MethodName := ⟨RX7, "familyIs", "(II)I"⟩
abbrev cX7_wheel : ByteArray := prog_1_method_7_code
def yX7_wheel : MethodName := ⟨RX7, "wheel", "(II)I"⟩
abbrev cX7_wheelIs : ByteArray := prog_1_method_8_code
def yX7_wheelIs : MethodName := ⟨RX7, "wheelIs", "(II)I"⟩
abbrev cX7_as : ByteArray := prog_1_method_9_code
def yX7_as : MethodName := ⟨RX7, "as", "(II)I"⟩
abbrev cX7_set : ByteArray := prog_1_method_10_code
def yX7_set : MethodName := ⟨RX7, "set", "(III)I"⟩
abbrev cX7_flows : ByteArray := prog_1_method_11_code
def yX7_flows : MethodName := ⟨RX7, "flows", "(I)I"⟩
abbrev cX7_feed : ByteArray := prog_1_method_12_code
def yX7_feed : MethodName := ⟨RX7, "feed", "(JI)I"⟩
abbrev cX7_text : ByteArray := prog_1_method_13_code
def yX7_text : MethodName := ⟨RX7, "text", "(I)I"⟩
abbrev cX7_untell : ByteArray := prog_1_method_14_code
def yX7_untell : MethodName := ⟨RX7, "untell", "(I)I"⟩
abbrev cX7_hours : ByteArray := prog_1_method_15_code
def yX7_hours : MethodName := ⟨RX7, "hours", "(I)I"⟩
abbrev cX7_draws : ByteArray := prog_1_method_16_code
def yX7_draws : MethodName := ⟨RX7, "draws", "(I)I"⟩
abbrev cX7_seed : ByteArray := prog_1_method_17_code
def yX7_seed : MethodName := ⟨RX7, "seed", "(I)I"⟩
abbrev cX7_sell : ByteArray := prog_1_method_18_code
def yX7_sell : MethodName := ⟨RX7, "sell", "(III)I"⟩
abbrev cX7_fair : ByteArray := prog_1_method_19_code
def yX7_fair : MethodName := ⟨RX7, "fair", "(II)I"⟩
abbrev cX7_then : ByteArray := prog_1_method_20_code
def yX7_then : MethodName := ⟨RX7, "then", "(III)I"⟩
abbrev cX7_thenFamily : ByteArray := prog_1_method_21_code
def yX7_thenFamily : MethodName := ⟨RX7, "thenFamily", "(III)I"⟩
abbrev cX7_when : ByteArray := prog_1_method_22_code
def yX7_when : MethodName := ⟨RX7, "when", "(II)I"⟩
abbrev cX7_sluices : ByteArray := prog_1_method_23_code
def yX7_sluices : MethodName := ⟨RX7, "sluices", "(II)I"⟩
abbrev cX7_fewer : ByteArray := prog_1_method_24_code
def yX7_fewer : MethodName := ⟨RX7, "fewer", "(III)I"⟩
abbrev cX7_bestPlace : ByteArray := prog_1_method_25_code
def yX7_bestPlace : MethodName := ⟨RX7, "bestPlace", "(II)I"⟩
abbrev cX7_who : ByteArray := prog_1_method_26_code
def yX7_who : MethodName := ⟨RX7, "who", "(II)I"⟩
abbrev cX7_slipped : ByteArray := prog_1_method_27_code
def yX7_slipped : MethodName := ⟨RX7, "slipped", "()I"⟩
abbrev cX7_voice : ByteArray := prog_1_method_28_code
def yX7_voice : MethodName := ⟨RX7, "voice", "(III)I"⟩
abbrev cX7_body : ByteArray := prog_1_method_29_code
def yX7_body : MethodName := ⟨RX7, "body", "(I)I"⟩
abbrev cX7_sheet : ByteArray := prog_1_method_30_code
def yX7_sheet : MethodName := ⟨RX7, "sheet", "(III)I"⟩
abbrev cX7_put : ByteArray := prog_1_method_31_code
def yX7_put : MethodName := ⟨RX7, "put", "(III)I"⟩
abbrev cX7_move : ByteArray := prog_1_method_32_code
def yX7_move : MethodName := ⟨RX7, "move", "(IIIII)I"⟩
abbrev cX7_forces : ByteArray := prog_1_method_33_code
def yX7_forces : MethodName := ⟨RX7, "forces", "(I)I"⟩
abbrev cX7_judge : ByteArray := prog_1_method_34_code
def yX7_judge : MethodName := ⟨RX7, "judge", "(I)I"⟩
abbrev cX7_image : ByteArray := prog_1_method_35_code
def yX7_image : MethodName := ⟨RX7, "image", "()I"⟩
abbrev cX7_restore : ByteArray := prog_1_method_36_code
def yX7_restore : MethodName := ⟨RX7, "restore", "()I"⟩
abbrev cX7_tell : ByteArray := prog_1_method_37_code
def yX7_tell : MethodName := ⟨RX7, "tell", "(I)I"⟩
abbrev cX7_check : ByteArray := prog_1_method_38_code
def yX7_check : MethodName := ⟨RX7, "check", "(I)I"⟩
abbrev cX7_count : ByteArray := prog_1_method_39_code
def yX7_count : MethodName := ⟨RX7, "count", "(I)I"⟩
abbrev cX7_told : ByteArray := prog_1_method_40_code
def yX7_told : MethodName := ⟨RX7, "told", "(I)I"⟩
abbrev cX7_error : ByteArray := prog_1_method_41_code
def yX7_error : MethodName := ⟨RX7, "error", "(I)I"⟩
abbrev cX7_noWheel : ByteArray := prog_1_method_42_code
def yX7_noWheel : MethodName := ⟨RX7, "noWheel", "(I)Z"⟩
abbrev cX7_noSheet : ByteArray := prog_1_method_43_code
def yX7_noSheet : MethodName := ⟨RX7, "noSheet", "(I)Z"⟩
abbrev cX7_outside : ByteArray := prog_1_method_44_code
def yX7_outside : MethodName := ⟨RX7, "outside", "(III)Z"⟩
abbrev cX7_held : ByteArray := prog_1_method_45_code
def yX7_held : MethodName := ⟨RX7, "held", "(III)I"⟩
abbrev cX7_isUnder : ByteArray := prog_1_method_46_code
def yX7_isUnder : MethodName := ⟨RX7, "isUnder", "(II)Z"⟩
def RX8 : String := "WheelBrookModel"
def TX8 : u_T := fun k => match k with
  | 0 => ("WheelBrookModel", "s", "[I", true)
  | 1 => ("WheelBrookModel", "kept", "[I", true)
  | 2 => ("WheelBrookModel", "put", "[I", true)
  | 3 => ("WheelBrookModel", "images", "I", false)
  | 4 => ("WheelBrookModel", "errors", "[I", true)
  | 5 => ("WheelBrookModel", "at", "I", false)
  | 6 => ("WheelBrookModel", "open", "I", false)
  | 7 => ("WheelBrookModel", "steps", "I", false)
  | 8 => ("WheelBrookModel", "use", "I", false)
  | 9 => ("WheelBrookModel", "step", "[I", true)
  | 10 => ("WheelBrookModel", "named", "[I", true)
  | 11 => ("WheelBrookModel", "pile", "[I", true)
  | 12 => ("WheelBrookModel", "flowing", "[I", true)
  | 13 => ("WheelBrookModel", "took", "[I", true)
  | 14 => ("WheelBrookModel", "lost", "I", false)
  | 15 => ("WheelBrookModel", "taken", "I", false)
  | 16 => ("WheelBrookModel", "turned", "[I", true)
  | 17 => ("WheelBrookModel", "others", "I", false)
  | 18 => ("WheelBrookModel", "own", "I", false)
  | 19 => ("WheelBrookModel", "trace", "[I", true)
  | 20 => ("WheelBrookModel", "traced", "I", false)
  | 21 => ("WheelBrookModel", "speaks", "I", false)
  | 22 => ("WheelBrookModel", "isParted", "Z", false)
  | 23 => ("WheelBrookModel", "bits", "[I", true)
  | 24 => ("WheelBrookModel", "sizes", "[I", true)
  | 25 => ("WheelBrookModel", "number", "[I", true)
  | _ => ("WheelBrookModel", "aside", "[I", true)
def tyX8 : Nat → FieldType := fun k => match k with
  | 0 => .array .int
  | 1 => .array .int
  | 2 => .array .int
  | 3 => .int
  | 4 => .array .int
  | 5 => .int
  | 6 => .int
  | 7 => .int
  | 8 => .int
  | 9 => .array .int
  | 10 => .array .int
  | 11 => .array .int
  | 12 => .array .int
  | 13 => .array .int
  | 14 => .int
  | 15 => .int
  | 16 => .array .int
  | 17 => .int
  | 18 => .int
  | 19 => .array .int
  | 20 => .int
  | 21 => .int
  | 22 => .boolean
  | 23 => .array .int
  | 24 => .array .int
  | 25 => .array .int
  | _ => .array .int
abbrev wsX80 : List Cond := u_ws RX8 TX8 27
theorem nmX8 : ∀ a, a < 27 → ∀ b, b < 27 → a ≠ b → (TX8 a).2.1 ≠ (TX8 b).2.1 := by decide +kernel
theorem tyX8_ok : ∀ k, k < 27 → parseFieldDescriptor (TX8 k).2.2.1 = some (tyX8 k) := by decide +kernel
abbrev cX8_init : ByteArray := prog_10_method_1_code
def yX8_init : MethodName := ⟨RX8, "<init>", "()V"⟩
abbrev cX8_error : ByteArray := prog_10_method_2_code
def yX8_error : MethodName := ⟨RX8, "error", "(I)I"⟩
abbrev cX8_in : ByteArray := prog_10_method_3_code
def yX8_in : MethodName := ⟨RX8, "in", "(III)Z"⟩
abbrev cX8_held : ByteArray := prog_10_method_4_code
def yX8_held : MethodName := ⟨RX8, "held", "(III)I"⟩
abbrev cX8_carry : ByteArray := prog_10_method_5_code
def yX8_carry : MethodName := ⟨RX8, "carry", "([I[I)V"⟩
abbrev cX8_isWheel : ByteArray := prog_10_method_6_code
def yX8_isWheel : MethodName := ⟨RX8, "isWheel", "(I)Z"⟩
abbrev cX8_isFamily : ByteArray := prog_10_method_7_code
def yX8_isFamily : MethodName := ⟨RX8, "isFamily", "(I)Z"⟩
abbrev cX8_isPlace : ByteArray := prog_10_method_8_code
def yX8_isPlace : MethodName := ⟨RX8, "isPlace", "(I)Z"⟩
abbrev cX8_its : ByteArray := prog_10_method_9_code
def yX8_its : MethodName := ⟨RX8, "its", "(II)I"⟩
abbrev cX8_lays1 : ByteArray := prog_10_method_10_code
def yX8_lays1 : MethodName := ⟨RX8, "lays1", "(III)V"⟩
abbrev cX8_owed : ByteArray := prog_10_method_11_code
def yX8_owed : MethodName := ⟨RX8, "owed", "(I)I"⟩
abbrev cX8_prayed : ByteArray := prog_10_method_12_code
def yX8_prayed : MethodName := ⟨RX8, "prayed", "(I)I"⟩
abbrev cX8_prays : ByteArray := prog_10_method_13_code
def yX8_prays : MethodName := ⟨RX8, "prays", "(II)V"⟩
abbrev cX8_isPaid : ByteArray := prog_10_method_14_code
def yX8_isPaid : MethodName := ⟨RX8, "isPaid", "(I)Z"⟩
abbrev cX8_hourOfDay : ByteArray := prog_10_method_15_code
def yX8_hourOfDay : MethodName := ⟨RX8, "hourOfDay", "()I"⟩
abbrev cX8_change : ByteArray := prog_10_method_16_code
def yX8_change : MethodName := ⟨RX8, "change", "(II)I"⟩
abbrev cX8_force : ByteArray := prog_10_method_17_code
def yX8_force : MethodName := ⟨RX8, "force", "(II)I"⟩
abbrev cX8_weed : ByteArray := prog_10_method_18_code
def yX8_weed : MethodName := ⟨RX8, "weed", "(II)I"⟩
abbrev cX8_frost : ByteArray := prog_10_method_19_code
def yX8_frost : MethodName := ⟨RX8, "frost", "(I)I"⟩
abbrev cX8_owe : ByteArray := prog_10_method_20_code
def yX8_owe : MethodName := ⟨RX8, "owe", "(II)I"⟩
abbrev cX8_toldFamily : ByteArray := prog_10_method_21_code
def yX8_toldFamily : MethodName := ⟨RX8, "toldFamily", "(II)I"⟩
abbrev cX8_familyIs : ByteArray := prog_10_method_22_code
def yX8_familyIs : MethodName := ⟨RX8, "familyIs", "(II)I"⟩
abbrev cX8_adds : ByteArray := prog_10_method_23_code
def yX8_adds : MethodName := ⟨RX8, "adds", "(II)I"⟩
abbrev cX8_wheel : ByteArray := prog_10_method_24_code
def yX8_wheel : MethodName := ⟨RX8, "wheel", "(II)I"⟩
abbrev cX8_toldWheel : ByteArray := prog_10_method_25_code
def yX8_toldWheel : MethodName := ⟨RX8, "toldWheel", "(II)I"⟩
abbrev cX8_wheelIs : ByteArray := prog_10_method_26_code
def yX8_wheelIs : MethodName := ⟨RX8, "wheelIs", "(II)I"⟩
abbrev cX8_isUnder : ByteArray := prog_10_method_27_code
def yX8_isUnder : MethodName := ⟨RX8, "isUnder", "(II)Z"⟩
abbrev cX8_as : ByteArray := prog_10_method_28_code
def yX8_as : MethodName := ⟨RX8, "as", "(II)I"⟩
abbrev cX8_most : ByteArray := prog_10_method_29_code
def yX8_most : MethodName := ⟨RX8, "most", "(I)I"⟩
abbrev cX8_set : ByteArray := prog_10_method_30_code
def yX8_set : MethodName := ⟨RX8, "set", "(III)I"⟩
abbrev cX8_feed : ByteArray := prog_10_method_31_code
def yX8_feed : MethodName := ⟨RX8, "feed", "(JI)I"⟩
abbrev cX8_look : ByteArray := prog_10_method_32_code
def yX8_look : MethodName := ⟨RX8, "look", "()I"⟩
abbrev cX8_isName : ByteArray := prog_10_method_33_code
def yX8_isName : MethodName := ⟨RX8, "isName", "(I)Z"⟩
abbrev cX8_step1 : ByteArray := prog_10_method_34_code
def yX8_step1 : MethodName := ⟨RX8, "step1", "(II)V"⟩
abbrev cX8_whole : ByteArray := prog_10_method_35_code
def yX8_whole : MethodName := ⟨RX8, "whole", "()Z"⟩
abbrev cX8_both : ByteArray := prog_10_method_36_code
def yX8_both : MethodName := ⟨RX8, "both", "()Z"⟩
abbrev cX8_compared : ByteArray := prog_10_method_37_code
def yX8_compared : MethodName := ⟨RX8, "compared", "()Z"⟩
abbrev cX8_sum : ByteArray := prog_10_method_38_code
def yX8_sum : MethodName := ⟨RX8, "sum", "()Z"⟩
abbrev cX8_product : ByteArray := prog_10_method_39_code
def yX8_product : MethodName := ⟨RX8, "product", "()Z"⟩
abbrev cX8_opens : ByteArray := prog_10_method_40_code
def yX8_opens : MethodName := ⟨RX8, "opens", "()Z"⟩
abbrev cX8_one : ByteArray := prog_10_method_41_code
def yX8_one : MethodName := ⟨RX8, "one", "()Z"⟩
abbrev cX8_hasText : ByteArray := prog_10_method_42_code
def yX8_hasText : MethodName := ⟨RX8, "hasText", "(I)Z"⟩
abbrev cX8_text : ByteArray := prog_10_method_43_code
def yX8_text : MethodName := ⟨RX8, "text", "(I)I"⟩
abbrev cX8_untell : ByteArray := prog_10_method_44_code
def yX8_untell : MethodName := ⟨RX8, "untell", "(I)I"⟩
abbrev cX8_joined : ByteArray := prog_10_method_45_code
def yX8_joined : MethodName := ⟨RX8, "joined", "(III)I"⟩
abbrev cX8_worked : ByteArray := prog_10_method_46_code
def yX8_worked : MethodName := ⟨RX8, "worked", "(I)I"⟩
abbrev cX8_takesTold : ByteArray := prog_10_method_47_code
def yX8_takesTold : MethodName := ⟨RX8, "takesTold", "(II)I"⟩
abbrev cX8_wants : ByteArray := prog_10_method_48_code
def yX8_wants : MethodName := ⟨RX8, "wants", "(II)I"⟩
abbrev cX8_turnsTold : ByteArray := prog_10_method_49_code
def yX8_turnsTold : MethodName := ⟨RX8, "turnsTold", "(II)I"⟩
abbrev cX8_turns : ByteArray := prog_10_method_50_code
def yX8_turns : MethodName := ⟨RX8, "turns", "(II)I"⟩
abbrev cX8_shows : ByteArray := prog_10_method_51_code
def yX8_shows : MethodName := ⟨RX8, "shows", "(II)I"⟩
abbrev cX8_showsBy : ByteArray := prog_10_method_52_code
def yX8_showsBy : MethodName := ⟨RX8, "showsBy", "(III)I"⟩
abbrev cX8_flow : ByteArray := prog_10_method_53_code
def yX8_flow : MethodName := ⟨RX8, "flow", "()V"⟩
abbrev cX8_flows : ByteArray := prog_10_method_54_code
def yX8_flows : MethodName := ⟨RX8, "flows", "(I)I"⟩
abbrev cX8_turn1 : ByteArray := prog_10_method_55_code
def yX8_turn1 : MethodName := ⟨RX8, "turn1", "(II)V"⟩
abbrev cX8_hour : ByteArray := prog_10_method_56_code
def yX8_hour : MethodName := ⟨RX8, "hour", "()V"⟩
abbrev cX8_go : ByteArray := prog_10_method_57_code
def yX8_go : MethodName := ⟨RX8, "go", "(I)V"⟩
abbrev cX8_allPrayed : ByteArray := prog_10_method_58_code
def yX8_allPrayed : MethodName := ⟨RX8, "allPrayed", "()I"⟩
abbrev cX8_hours : ByteArray := prog_10_method_59_code
def yX8_hours : MethodName := ⟨RX8, "hours", "(I)I"⟩
abbrev cX8_draw : ByteArray := prog_10_method_60_code
def yX8_draw : MethodName := ⟨RX8, "draw", "()I"⟩
abbrev cX8_draws : ByteArray := prog_10_method_61_code
def yX8_draws : MethodName := ⟨RX8, "draws", "(I)I"⟩
abbrev cX8_seed : ByteArray := prog_10_method_62_code
def yX8_seed : MethodName := ⟨RX8, "seed", "(I)I"⟩
abbrev cX8_sell : ByteArray := prog_10_method_63_code
def yX8_sell : MethodName := ⟨RX8, "sell", "(III)I"⟩
abbrev cX8_fair : ByteArray := prog_10_method_64_code
def yX8_fair : MethodName := ⟨RX8, "fair", "(II)I"⟩
abbrev cX8_isAhead : ByteArray := prog_10_method_65_code
def yX8_isAhead : MethodName := ⟨RX8, "isAhead", "(I)Z"⟩
abbrev cX8_then : ByteArray := prog_10_method_66_code
def yX8_then : MethodName := ⟨RX8, "then", "(III)I"⟩
abbrev cX8_thenFamily : ByteArray := prog_10_method_67_code
def yX8_thenFamily : MethodName := ⟨RX8, "thenFamily", "(III)I"⟩
abbrev cX8_when : ByteArray := prog_10_method_68_code
def yX8_when : MethodName := ⟨RX8, "when", "(II)I"⟩
abbrev cX8_opens_ : ByteArray := prog_10_method_69_code
def yX8_opens_ : MethodName := ⟨RX8, "opens", "(I)V"⟩
abbrev cX8_areAllPaid : ByteArray := prog_10_method_70_code
def yX8_areAllPaid : MethodName := ⟨RX8, "areAllPaid", "()Z"⟩
abbrev cX8_sluices : ByteArray := prog_10_method_71_code
def yX8_sluices : MethodName := ⟨RX8, "sluices", "(II)I"⟩
abbrev cX8_findTurns : ByteArray := prog_10_method_72_code
def yX8_findTurns : MethodName := ⟨RX8, "findTurns", "(II)V"⟩
abbrev cX8_isTold : ByteArray := prog_10_method_73_code
def yX8_isTold : MethodName := ⟨RX8, "isTold", "(II)Z"⟩
abbrev cX8_fewer : ByteArray := prog_10_method_74_code
def yX8_fewer : MethodName := ⟨RX8, "fewer", "(III)I"⟩
abbrev cX8_bestPlace : ByteArray := prog_10_method_75_code
def yX8_bestPlace : MethodName := ⟨RX8, "bestPlace", "(II)I"⟩
abbrev cX8_who : ByteArray := prog_10_method_76_code
def yX8_who : MethodName := ⟨RX8, "who", "(II)I"⟩
abbrev cX8_slipped : ByteArray := prog_10_method_77_code
def yX8_slipped : MethodName := ⟨RX8, "slipped", "()I"⟩
abbrev cX8_begins : ByteArray := prog_10_method_78_code
def yX8_begins : MethodName := ⟨RX8, "begins", "(I)V"⟩
abbrev cX8_above : ByteArray := prog_10_method_79_code
def yX8_above : MethodName := ⟨RX8, "above", "(I)I"⟩
abbrev cX8_kindNow : ByteArray := prog_10_method_80_code
def yX8_kindNow : MethodName := ⟨RX8, "kindNow", "()I"⟩
abbrev cX8_mNow : ByteArray := prog_10_method_81_code
def yX8_mNow : MethodName := ⟨RX8, "mNow", "()I"⟩
abbrev cX8_flowsAs : ByteArray := prog_10_method_82_code
def yX8_flowsAs : MethodName := ⟨RX8, "flowsAs", "(II)I"⟩
abbrev cX8_turnsAs : ByteArray := prog_10_method_83_code
def yX8_turnsAs : MethodName := ⟨RX8, "turnsAs", "(II)I"⟩
abbrev cX8_praysAs : ByteArray := prog_10_method_84_code
def yX8_praysAs : MethodName := ⟨RX8, "praysAs", "(II)I"⟩
abbrev cX8_partsAs : ByteArray := prog_10_method_85_code
def yX8_partsAs : MethodName := ⟨RX8, "partsAs", "(II)I"⟩
abbrev cX8_voice : ByteArray := prog_10_method_86_code
def yX8_voice : MethodName := ⟨RX8, "voice", "(III)I"⟩
abbrev cX8_body : ByteArray := prog_10_method_87_code
def yX8_body : MethodName := ⟨RX8, "body", "(I)I"⟩
abbrev cX8_isSheet : ByteArray := prog_10_method_88_code
def yX8_isSheet : MethodName := ⟨RX8, "isSheet", "(I)Z"⟩
abbrev cX8_sheet : ByteArray := prog_10_method_89_code
def yX8_sheet : MethodName := ⟨RX8, "sheet", "(III)I"⟩
abbrev cX8_put : ByteArray := prog_10_method_90_code
def yX8_put : MethodName := ⟨RX8, "put", "(III)I"⟩
abbrev cX8_move : ByteArray := prog_10_method_91_code
def yX8_move : MethodName := ⟨RX8, "move", "(IIIII)I"⟩
abbrev cX8_lacks : ByteArray := prog_10_method_92_code
def yX8_lacks : MethodName := ⟨RX8, "lacks", "(I)I"⟩
abbrev cX8_forces : ByteArray := prog_10_method_93_code
def yX8_forces : MethodName := ⟨RX8, "forces", "(I)I"⟩
abbrev cX8_judge : ByteArray := prog_10_method_94_code
def yX8_judge : MethodName := ⟨RX8, "judge", "(I)I"⟩
abbrev cX8_image : ByteArray := prog_10_method_95_code
def yX8_image : MethodName := ⟨RX8, "image", "()I"⟩
abbrev cX8_restore : ByteArray := prog_10_method_96_code
def yX8_restore : MethodName := ⟨RX8, "restore", "()I"⟩
abbrev cX8_tell : ByteArray := prog_10_method_97_code
def yX8_tell : MethodName := ⟨RX8, "tell", "(I)I"⟩
abbrev cX8_check : ByteArray := prog_10_method_98_code
def yX8_check : MethodName := ⟨RX8, "check", "(I)I"⟩
abbrev cX8_count : ByteArray := prog_10_method_99_code
def yX8_count : MethodName := ⟨RX8, "count", "(I)I"⟩
abbrev cX8_told : ByteArray := prog_10_method_100_code
def yX8_told : MethodName := ⟨RX8, "told", "(I)I"⟩
def RJ11 : String := "java/lang/Character"
def TJ11 : u_T := fun k => match k with
  | _ => ("", "", "", false)
def tyJ11 : Nat → FieldType := fun k => match k with
  | _ => .int
abbrev wsJ110 : List Cond := u_ws RJ11 TJ11 0
theorem nmJ11 : ∀ a, a < 0 → ∀ b, b < 0 → a ≠ b → (TJ11 a).2.1 ≠ (TJ11 b).2.1 := by decide +kernel
theorem tyJ11_ok : ∀ k, k < 0 → parseFieldDescriptor (TJ11 k).2.2.1 = some (tyJ11 k) := by decide +kernel
abbrev cJ11_isValidCodePoint_9a6ad : ByteArray := prog_11_method_11_code
def yJ11_isValidCodePoint_9a6ad : MethodName := ⟨RJ11, "isValidCodePoint", "(I)Z"⟩
abbrev cJ11_highSurrogate_5068e : ByteArray := prog_11_method_28_code
def yJ11_highSurrogate_5068e : MethodName := ⟨RJ11, "highSurrogate", "(I)C"⟩
abbrev cJ11_lowSurrogate_5068e : ByteArray := prog_11_method_29_code
def yJ11_lowSurrogate_5068e : MethodName := ⟨RJ11, "lowSurrogate", "(I)C"⟩
def RJ9 : String := "java/lang/Math"
def TJ9 : u_T := fun k => match k with
  | _ => ("", "", "", false)
def tyJ9 : Nat → FieldType := fun k => match k with
  | _ => .int
abbrev wsJ90 : List Cond := u_ws RJ9 TJ9 0
theorem nmJ9 : ∀ a, a < 0 → ∀ b, b < 0 → a ≠ b → (TJ9 a).2.1 ≠ (TJ9 b).2.1 := by decide +kernel
theorem tyJ9_ok : ∀ k, k < 0 → parseFieldDescriptor (TJ9 k).2.2.1 = some (tyJ9 k) := by decide +kernel
abbrev cJ9_max_7cf53 : ByteArray := prog_12_method_65_code
def yJ9_max_7cf53 : MethodName := ⟨RJ9, "max", "(II)I"⟩
abbrev cJ9_min_7cf53 : ByteArray := prog_12_method_69_code
def yJ9_min_7cf53 : MethodName := ⟨RJ9, "min", "(II)I"⟩
def RJ0 : String := "java/lang/String"
def TJ0 : u_T := fun k => match k with
  | _ => ("", "", "", false)
def tyJ0 : Nat → FieldType := fun k => match k with
  | _ => .int
abbrev wsJ00 : List Cond := u_ws RJ0 TJ0 0
theorem nmJ0 : ∀ a, a < 0 → ∀ b, b < 0 → a ≠ b → (TJ0 a).2.1 ≠ (TJ0 b).2.1 := by decide +kernel
theorem tyJ0_ok : ∀ k, k < 0 → parseFieldDescriptor (TJ0 k).2.2.1 = some (tyJ0 k) := by decide +kernel
abbrev cJ0_length_8abf5 : ByteArray := prog_13_method_54_code
def yJ0_length_8abf5 : MethodName := ⟨RJ0, "length", "()I"⟩
abbrev cJ0_indexOf_0f7a4 : ByteArray := prog_13_method_79_code
def yJ0_indexOf_0f7a4 : MethodName := ⟨RJ0, "indexOf", "(I)I"⟩
abbrev cJ0_indexOf_7cf53 : ByteArray := prog_13_method_80_code
def yJ0_indexOf_7cf53 : MethodName := ⟨RJ0, "indexOf", "(II)I"⟩
abbrev cJ0_coder_7d493 : ByteArray := prog_13_method_152_code
def yJ0_coder_7d493 : MethodName := ⟨RJ0, "coder", "()B"⟩
abbrev cJ0_isLatin1_aae02 : ByteArray := prog_13_method_154_code
def yJ0_isLatin1_aae02 : MethodName := ⟨RJ0, "isLatin1", "()Z"⟩
abbrev cJ0_checkBoundsBeginEnd_23922 : ByteArray := prog_13_method_158_code
def yJ0_checkBoundsBeginEnd_23922 : MethodName := ⟨RJ0, "checkBoundsBeginEnd", "(III)V"⟩
def RJ1 : String := "java/lang/StringLatin1"
def TJ1 : u_T := fun k => match k with
  | _ => ("", "", "", false)
def tyJ1 : Nat → FieldType := fun k => match k with
  | _ => .int
abbrev wsJ10 : List Cond := u_ws RJ1 TJ1 0
theorem nmJ1 : ∀ a, a < 0 → ∀ b, b < 0 → a ≠ b → (TJ1 a).2.1 ≠ (TJ1 b).2.1 := by decide +kernel
theorem tyJ1_ok : ∀ k, k < 0 → parseFieldDescriptor (TJ1 k).2.2.1 = some (tyJ1 k) := by decide +kernel
abbrev cJ1_canEncode_9a6ad : ByteArray := prog_14_method_4_code
def yJ1_canEncode_9a6ad : MethodName := ⟨RJ1, "canEncode", "(I)Z"⟩
abbrev cJ1_indexOf_4cfef : ByteArray := prog_14_method_22_code
def yJ1_indexOf_4cfef : MethodName := ⟨RJ1, "indexOf", "([BIII)I"⟩
abbrev cJ1_indexOfChar_4cfef : ByteArray := prog_14_method_23_code
def yJ1_indexOfChar_4cfef : MethodName := ⟨RJ1, "indexOfChar", "([BIII)I"⟩
def RJ2 : String := "java/lang/StringUTF16"
def TJ2 : u_T := fun k => match k with
  | _ => ("", "", "", false)
def tyJ2 : Nat → FieldType := fun k => match k with
  | _ => .int
abbrev wsJ20 : List Cond := u_ws RJ2 TJ2 0
theorem nmJ2 : ∀ a, a < 0 → ∀ b, b < 0 → a ≠ b → (TJ2 a).2.1 ≠ (TJ2 b).2.1 := by decide +kernel
theorem tyJ2_ok : ∀ k, k < 0 → parseFieldDescriptor (TJ2 k).2.2.1 = some (tyJ2 k) := by decide +kernel
abbrev cJ2_getChar_3b067 : ByteArray := prog_15_method_5_code
def yJ2_getChar_3b067 : MethodName := ⟨RJ2, "getChar", "([BI)C"⟩
abbrev cJ2_length_9d52b : ByteArray := prog_15_method_6_code
def yJ2_length_9d52b : MethodName := ⟨RJ2, "length", "([B)I"⟩
abbrev cJ2_indexOf_4cfef : ByteArray := prog_15_method_40_code
def yJ2_indexOf_4cfef : MethodName := ⟨RJ2, "indexOf", "([BIII)I"⟩
abbrev cJ2_indexOfChar_4cfef : ByteArray := prog_15_method_47_code
def yJ2_indexOfChar_4cfef : MethodName := ⟨RJ2, "indexOfChar", "([BIII)I"⟩
abbrev cJ2_indexOfCharUnsafe_4cfef : ByteArray := prog_15_method_48_code
def yJ2_indexOfCharUnsafe_4cfef : MethodName := ⟨RJ2, "indexOfCharUnsafe", "([BIII)I"⟩
abbrev cJ2_indexOfSupplementary_4cfef : ByteArray := prog_15_method_49_code
def yJ2_indexOfSupplementary_4cfef : MethodName := ⟨RJ2, "indexOfSupplementary", "([BIII)I"⟩
abbrev cJ2_checkBoundsBeginEnd_d044e : ByteArray := prog_15_method_93_code
def yJ2_checkBoundsBeginEnd_d044e : MethodName := ⟨RJ2, "checkBoundsBeginEnd", "(II[B)V"⟩
def RJ10 : String := "java/lang/System"
def TJ10 : u_T := fun k => match k with
  | _ => ("", "", "", false)
def tyJ10 : Nat → FieldType := fun k => match k with
  | _ => .int
abbrev wsJ100 : List Cond := u_ws RJ10 TJ10 0
theorem nmJ10 : ∀ a, a < 0 → ∀ b, b < 0 → a ≠ b → (TJ10 a).2.1 ≠ (TJ10 b).2.1 := by decide +kernel
theorem tyJ10_ok : ∀ k, k < 0 → parseFieldDescriptor (TJ10 k).2.2.1 = some (tyJ10 k) := by decide +kernel
def RJ3 : String := "jdk/internal/util/Preconditions"
def TJ3 : u_T := fun k => match k with
  | _ => ("", "", "", false)
def tyJ3 : Nat → FieldType := fun k => match k with
  | _ => .int
abbrev wsJ30 : List Cond := u_ws RJ3 TJ3 0
theorem nmJ3 : ∀ a, a < 0 → ∀ b, b < 0 → a ≠ b → (TJ3 a).2.1 ≠ (TJ3 b).2.1 := by decide +kernel
theorem tyJ3_ok : ∀ k, k < 0 → parseFieldDescriptor (TJ3 k).2.2.1 = some (tyJ3 k) := by decide +kernel
abbrev cJ3_checkFromToIndex_8c36e : ByteArray := prog_17_method_12_code
def yJ3_checkFromToIndex_8c36e : MethodName := ⟨RJ3, "checkFromToIndex", "(IIILjava/util/function/BiFunction;)I"⟩
def RL : String := "WheelBrookLaw"
abbrev cL_law : ByteArray := code
def yL_law : MethodName := ⟨RL, "law", "([I)Z"⟩
end
section
def wsL_law_r1 : List Cond := [Cond.classLink RL 7 RX7, Cond.instantiable RX7 10, Cond.initialized RX7, Cond.classLink RL 10 RX8, Cond.instantiable RX8 27, Cond.initialized RX8, Cond.constantLong RL 56 (4294967295), Cond.methodLink RL 9 yX7_init, Cond.instanceMethod yX7_init, Cond.code yX7_init cX7_init 1 none, Cond.methodLink RX7 1 objectInit, Cond.instanceMethod objectInit, Cond.code objectInit ⟨#[0xb1]⟩ 1 none, Cond.classLink RX7 7 RX0, Cond.instantiable RX0 15, Cond.initialized RX0, Cond.fieldLink RX7 10 "WheelBrook" "now" "LWheelBrook$Brook;", Cond.fieldLink RX7 16 "WheelBrook" "kept" "LWheelBrook$Brook;", Cond.fieldLink RX7 19 "WheelBrook" "trial" "LWheelBrook$Brook;", Cond.classLink RX7 22 RX1, Cond.instantiable RX1 4, Cond.initialized RX1, Cond.fieldLink RX7 25 "WheelBrook" "desk" "LWheelBrook$Desk;", Cond.fieldLink RX7 29 "WheelBrook" "keptDesk" "LWheelBrook$Desk;"]
def wsL_law_r2 : List Cond := [Cond.classLink RX7 32 RX3, Cond.instantiable RX3 8, Cond.initialized RX3, Cond.fieldLink RX7 35 "WheelBrook" "reader" "LWheelBrook$Reader;", Cond.classLink RX7 39 RX5, Cond.instantiable RX5 6, Cond.initialized RX5, Cond.fieldLink RX7 42 "WheelBrook" "speaker" "LWheelBrook$Speaker;", Cond.classLink RX7 46 RX4, Cond.instantiable RX4 3, Cond.initialized RX4, Cond.fieldLink RX7 49 "WheelBrook" "sheets" "LWheelBrook$Sheets;", Cond.arrayClass .int, Cond.fieldLink RX7 53 "WheelBrook" "errors" "[I", Cond.methodLink RX7 9 yX0_init, Cond.instanceMethod yX0_init, Cond.code yX0_init cX0_init 2 none, Cond.methodLink RX0 3 objectInit, Cond.fieldLink RX0 9 "WheelBrook$Brook" "dayForce" "[I", Cond.fieldLink RX0 15 "WheelBrook$Brook" "weeds" "[I", Cond.fieldLink RX0 18 "WheelBrook$Brook" "owed" "[I", Cond.fieldLink RX0 21 "WheelBrook$Brook" "prayed" "[I", Cond.classLink RX0 24 RX6, Cond.fieldLink RX0 26 "WheelBrook$Brook" "wheels" "[LWheelBrook$Wheel;"]
def wsL_law_r3 : List Cond := [Cond.classLink RX0 30 RX2, Cond.instantiable RX2 3, Cond.initialized RX2, Cond.fieldLink RX0 33 "WheelBrook$Brook" "takes" "LWheelBrook$Law;", Cond.fieldLink RX0 37 "WheelBrook$Brook" "turns" "LWheelBrook$Law;", Cond.fieldLink RX0 40 "WheelBrook$Brook" "names" "[I", Cond.fieldLink RX0 43 "WheelBrook$Brook" "flow" "[I", Cond.fieldLink RX0 46 "WheelBrook$Brook" "z" "I", Cond.instantiable RX6 9, Cond.initialized RX6, Cond.instanceMethod yX2_init, Cond.code yX2_init cX2_init 1 none, Cond.methodLink RX2 3 objectInit, Cond.fieldLink RX2 9 "WheelBrook$Law" "code" "[I", Cond.fieldLink RX2 15 "WheelBrook$Law" "stack" "[I", Cond.instanceMethod yX6_init, Cond.code yX6_init cX6_init 1 none, Cond.methodLink RX6 1 objectInit, Cond.instanceMethod yX1_init, Cond.code yX1_init cX1_init 1 none, Cond.methodLink RX1 3 objectInit, Cond.arrayClass .byte, Cond.fieldLink RX1 9 "WheelBrook$Desk" "tape" "[B", Cond.fieldLink RX1 15 "WheelBrook$Desk" "numbers" "[I"]
def wsL_law_r4 : List Cond := [Cond.instanceMethod yX3_init, Cond.code yX3_init cX3_init 1 none, Cond.methodLink RX3 3 objectInit, Cond.fieldLink RX3 9 "WheelBrook$Reader" "code" "[I", Cond.fieldLink RX3 15 "WheelBrook$Reader" "signs" "[I", Cond.instanceMethod yX5_init, Cond.code yX5_init cX5_init 1 none, Cond.methodLink RX5 3 objectInit, Cond.fieldLink RX5 9 "WheelBrook$Speaker" "trace" "[I", Cond.instanceMethod yX4_init, Cond.code yX4_init cX4_init 1 none, Cond.methodLink RX4 3 objectInit, Cond.classLink RX4 11 "[[I", Cond.fieldLink RX4 13 "WheelBrook$Sheets" "rows" "[[I", Cond.fieldLink RX4 16 "WheelBrook$Sheets" "widths" "[I", Cond.fieldLink RX4 20 "WheelBrook$Sheets" "sizes" "[I", Cond.methodLink RL 12 yX8_init, Cond.instanceMethod yX8_init, Cond.code yX8_init cX8_init 2 none, Cond.methodLink RX8 1 objectInit, Cond.fieldLink RX8 7 "WheelBrookModel" "s" "[I", Cond.fieldLink RX8 13 "WheelBrookModel" "kept" "[I", Cond.fieldLink RX8 16 "WheelBrookModel" "put" "[I", Cond.fieldLink RX8 19 "WheelBrookModel" "errors" "[I"]
def wsL_law_r5 : List Cond := [Cond.fieldLink RX8 22 "WheelBrookModel" "step" "[I", Cond.fieldLink RX8 25 "WheelBrookModel" "named" "[I", Cond.fieldLink RX8 28 "WheelBrookModel" "pile" "[I", Cond.fieldLink RX8 31 "WheelBrookModel" "flowing" "[I", Cond.fieldLink RX8 34 "WheelBrookModel" "took" "[I", Cond.fieldLink RX8 37 "WheelBrookModel" "turned" "[I", Cond.fieldLink RX8 40 "WheelBrookModel" "trace" "[I", Cond.fieldLink RX8 43 "WheelBrookModel" "bits" "[I", Cond.fieldLink RX8 46 "WheelBrookModel" "sizes" "[I", Cond.fieldLink RX8 49 "WheelBrookModel" "number" "[I", Cond.fieldLink RX8 52 "WheelBrookModel" "aside" "[I", Cond.methodLink RL 13 yX7_force, Cond.instanceMethod yX7_force, Cond.selects RX7 yX7_force yX7_force, Cond.code yX7_force cX7_force 4 (some .int), Cond.fieldLink RX7 65 "WheelBrook$Brook" "dayForce" "[I", Cond.methodLink RX7 57 yX7_outside, Cond.static yX7_outside, Cond.code yX7_outside cX7_outside 3 (some .boolean), Cond.methodLink RX7 61 yX7_error, Cond.instanceMethod yX7_error, Cond.selects RX7 yX7_error yX7_error, Cond.code yX7_error cX7_error 2 (some .int), Cond.constant RX7 278 (-1000000000)]
def wsL_law_r6 : List Cond := [Cond.methodLink RL 17 yX8_force, Cond.instanceMethod yX8_force, Cond.selects RX8 yX8_force yX8_force, Cond.code yX8_force cX8_force 3 (some .int), Cond.methodLink RX8 56 yX8_in, Cond.static yX8_in, Cond.code yX8_in cX8_in 3 (some .boolean), Cond.methodLink RX8 72 yX8_change, Cond.instanceMethod yX8_change, Cond.selects RX8 yX8_change yX8_change, Cond.code yX8_change cX8_change 4 (some .int), Cond.methodLink RX8 76 yX8_error, Cond.instanceMethod yX8_error, Cond.selects RX8 yX8_error yX8_error, Cond.code yX8_error cX8_error 2 (some .int), Cond.constant RX8 55 (-1000000000), Cond.methodLink RL 18 yX7_weed, Cond.instanceMethod yX7_weed, Cond.selects RX7 yX7_weed yX7_weed, Cond.code yX7_weed cX7_weed 4 (some .int), Cond.fieldLink RX7 68 "WheelBrook$Brook" "weeds" "[I", Cond.methodLink RL 21 yX8_weed, Cond.instanceMethod yX8_weed, Cond.selects RX8 yX8_weed yX8_weed]
def wsL_law_r7 : List Cond := [Cond.code yX8_weed cX8_weed 3 (some .int), Cond.methodLink RX8 79 yX8_isPlace, Cond.static yX8_isPlace, Cond.code yX8_isPlace cX8_isPlace 1 (some .boolean), Cond.methodLink RL 22 yX7_frost, Cond.instanceMethod yX7_frost, Cond.selects RX7 yX7_frost yX7_frost, Cond.code yX7_frost cX7_frost 3 (some .int), Cond.fieldLink RX7 71 "WheelBrook$Brook" "cold" "I", Cond.methodLink RL 26 yX8_frost, Cond.instanceMethod yX8_frost, Cond.selects RX8 yX8_frost yX8_frost, Cond.code yX8_frost cX8_frost 2 (some .int), Cond.methodLink RL 27 yX7_owe, Cond.instanceMethod yX7_owe, Cond.selects RX7 yX7_owe yX7_owe, Cond.code yX7_owe cX7_owe 4 (some .int), Cond.constant RX7 75 (99999), Cond.fieldLink RX7 76 "WheelBrook$Brook" "owed" "[I", Cond.methodLink RL 30 yX8_owe, Cond.instanceMethod yX8_owe, Cond.selects RX8 yX8_owe yX8_owe, Cond.code yX8_owe cX8_owe 3 (some .int), Cond.constant RX8 86 (99999)]
def wsL_law_r8 : List Cond := [Cond.methodLink RX8 83 yX8_isFamily, Cond.static yX8_isFamily, Cond.code yX8_isFamily cX8_isFamily 1 (some .boolean), Cond.methodLink RL 31 yX7_familyIs, Cond.instanceMethod yX7_familyIs, Cond.selects RX7 yX7_familyIs yX7_familyIs, Cond.code yX7_familyIs cX7_familyIs 3 (some .int), Cond.methodLink RX7 79 yX0_familyPart, Cond.instanceMethod yX0_familyPart, Cond.selects RX0 yX0_familyPart yX0_familyPart, Cond.code yX0_familyPart cX0_familyPart 3 (some .int), Cond.methodLink RX0 163 yX0_isPaid, Cond.instanceMethod yX0_isPaid, Cond.selects RX0 yX0_isPaid yX0_isPaid, Cond.code yX0_isPaid cX0_isPaid 2 (some .boolean), Cond.methodLink RX0 167 yX0_wheelsFor, Cond.instanceMethod yX0_wheelsFor, Cond.selects RX0 yX0_wheelsFor yX0_wheelsFor, Cond.code yX0_wheelsFor cX0_wheelsFor 4 (some .int), Cond.fieldLink RX0 57 "WheelBrook$Brook" "size" "I", Cond.fieldLink RX0 87 "WheelBrook$Wheel" "family" "I", Cond.methodLink RL 34 yX8_familyIs, Cond.instanceMethod yX8_familyIs, Cond.selects RX8 yX8_familyIs yX8_familyIs]
def wsL_law_r9 : List Cond := [Cond.code yX8_familyIs cX8_familyIs 3 (some .int), Cond.methodLink RX8 93 yX8_toldFamily, Cond.instanceMethod yX8_toldFamily, Cond.selects RX8 yX8_toldFamily yX8_toldFamily, Cond.code yX8_toldFamily cX8_toldFamily 5 (some .int), Cond.methodLink RX8 69 yX8_owed, Cond.instanceMethod yX8_owed, Cond.selects RX8 yX8_owed yX8_owed, Cond.code yX8_owed cX8_owed 2 (some .int), Cond.methodLink RX8 65 yX8_prayed, Cond.instanceMethod yX8_prayed, Cond.selects RX8 yX8_prayed yX8_prayed, Cond.code yX8_prayed cX8_prayed 2 (some .int), Cond.methodLink RX8 87 yX8_isPaid, Cond.instanceMethod yX8_isPaid, Cond.selects RX8 yX8_isPaid yX8_isPaid, Cond.code yX8_isPaid cX8_isPaid 2 (some .boolean), Cond.methodLink RX8 90 yX8_its, Cond.instanceMethod yX8_its, Cond.selects RX8 yX8_its yX8_its, Cond.code yX8_its cX8_its 3 (some .int), Cond.methodLink RL 35 yX7_wheel, Cond.instanceMethod yX7_wheel, Cond.selects RX7 yX7_wheel yX7_wheel]
def wsL_law_r10 : List Cond := [Cond.code yX7_wheel cX7_wheel 3 (some .int), Cond.fieldLink RX7 83 "WheelBrook$Brook" "size" "I", Cond.methodLink RX7 86 yX0_addWheel, Cond.instanceMethod yX0_addWheel, Cond.selects RX0 yX0_addWheel yX0_addWheel, Cond.code yX0_addWheel cX0_addWheel 5 none, Cond.fieldLink RX0 78 "WheelBrook$Wheel" "kind" "I", Cond.fieldLink RX0 81 "WheelBrook$Wheel" "m" "I", Cond.fieldLink RX0 84 "WheelBrook$Wheel" "place" "I", Cond.fieldLink RX0 90 "WheelBrook$Wheel" "open" "I", Cond.fieldLink RX0 93 "WheelBrook$Wheel" "counter" "I", Cond.fieldLink RX0 96 "WheelBrook$Wheel" "turned" "I", Cond.methodLink RL 38 yX8_wheel, Cond.instanceMethod yX8_wheel, Cond.selects RX8 yX8_wheel yX8_wheel, Cond.code yX8_wheel cX8_wheel 3 (some .int), Cond.methodLink RX8 100 yX8_adds, Cond.instanceMethod yX8_adds, Cond.selects RX8 yX8_adds yX8_adds, Cond.code yX8_adds cX8_adds 4 (some .int), Cond.methodLink RX8 96 yX8_lays1, Cond.instanceMethod yX8_lays1, Cond.selects RX8 yX8_lays1 yX8_lays1, Cond.code yX8_lays1 cX8_lays1 4 none]
def wsL_law_r11 : List Cond := [Cond.methodLink RL 39 yX7_wheelIs, Cond.instanceMethod yX7_wheelIs, Cond.selects RX7 yX7_wheelIs yX7_wheelIs, Cond.code yX7_wheelIs cX7_wheelIs 3 (some .int), Cond.methodLink RX7 90 yX7_noWheel, Cond.instanceMethod yX7_noWheel, Cond.selects RX7 yX7_noWheel yX7_noWheel, Cond.code yX7_noWheel cX7_noWheel 2 (some .boolean), Cond.methodLink RX7 94 yX0_wheelPart, Cond.instanceMethod yX0_wheelPart, Cond.selects RX0 yX0_wheelPart yX0_wheelPart, Cond.code yX0_wheelPart cX0_wheelPart 5 (some .int), Cond.fieldLink RX0 116 "WheelBrook$Wheel" "took" "I", Cond.methodLink RX0 171 yX6_part, Cond.instanceMethod yX6_part, Cond.selects RX6 yX6_part yX6_part, Cond.code yX6_part cX6_part 2 (some .int), Cond.fieldLink RX6 7 "WheelBrook$Wheel" "kind" "I", Cond.fieldLink RX6 13 "WheelBrook$Wheel" "m" "I", Cond.fieldLink RX6 16 "WheelBrook$Wheel" "place" "I", Cond.fieldLink RX6 19 "WheelBrook$Wheel" "family" "I", Cond.fieldLink RX6 22 "WheelBrook$Wheel" "open" "I", Cond.fieldLink RX6 25 "WheelBrook$Wheel" "counter" "I", Cond.fieldLink RX6 28 "WheelBrook$Wheel" "turned" "I"]
def wsL_law_r12 : List Cond := [Cond.methodLink RX0 136 yX0_letFlow, Cond.instanceMethod yX0_letFlow, Cond.selects RX0 yX0_letFlow yX0_letFlow, Cond.code yX0_letFlow cX0_letFlow 6 none, Cond.fieldLink RX0 103 "WheelBrook$Brook" "lost" "I", Cond.methodLink RX0 106 Lib.Math.min.name, Cond.static Lib.Math.min.name, Cond.initialized "java/lang/Math", Cond.code Lib.Math.min.name Lib.Math.min.code 2 (some .int), Cond.fieldLink RX0 119 "WheelBrook$Brook" "gone" "I", Cond.methodLink RX0 99 yX0_forceNow, Cond.instanceMethod yX0_forceNow, Cond.selects RX0 yX0_forceNow yX0_forceNow, Cond.code yX0_forceNow cX0_forceNow 1 (some .int), Cond.fieldLink RX0 72 "WheelBrook$Brook" "hour" "I", Cond.methodLink RX0 112 yX0_wants, Cond.instanceMethod yX0_wants, Cond.selects RX0 yX0_wants yX0_wants, Cond.code yX0_wants cX0_wants 3 (some .int), Cond.fieldLink RX0 75 "WheelBrook$Brook" "cold" "I", Cond.static yX7_held, Cond.code yX7_held cX7_held 3 (some .int), Cond.methodLink RX7 182 Lib.Math.min.name, Cond.methodLink RX7 279 Lib.Math.max.name]
def wsL_law_r13 : List Cond := [Cond.static Lib.Math.max.name, Cond.code Lib.Math.max.name Lib.Math.max.code 2 (some .int), Cond.methodLink RX0 126 yX0_toldTakes, Cond.instanceMethod yX0_toldTakes, Cond.selects RX0 yX0_toldTakes yX0_toldTakes, Cond.code yX0_toldTakes cX0_toldTakes 3 (some .int), Cond.fieldLink RX0 67 "WheelBrook$Law" "size" "I", Cond.methodLink RX0 129 yX2_value, Cond.instanceMethod yX2_value, Cond.selects RX2 yX2_value yX2_value, Cond.code yX2_value cX2_value 5 (some .int), Cond.fieldLink RX2 24 "WheelBrook$Law" "size" "I", Cond.methodLink RX2 28 yX2_nameOf, Cond.static yX2_nameOf, Cond.code yX2_nameOf cX2_nameOf 2 (some .int), Cond.methodLink RX2 32 yX2_joined, Cond.static yX2_joined, Cond.code yX2_joined cX2_joined 3 (some .int), Cond.methodLink RX0 139 yX0_turnsBy, Cond.instanceMethod yX0_turnsBy, Cond.selects RX0 yX0_turnsBy yX0_turnsBy, Cond.code yX0_turnsBy cX0_turnsBy 3 (some .int), Cond.methodLink RX0 133 yX0_toldTurns, Cond.instanceMethod yX0_toldTurns]
def wsL_law_r14 : List Cond := [Cond.selects RX0 yX0_toldTurns yX0_toldTurns, Cond.code yX0_toldTurns cX0_toldTurns 3 (some .int), Cond.methodLink RX0 148 yX0_showsBy, Cond.static yX0_showsBy, Cond.code yX0_showsBy cX0_showsBy 3 (some .int), Cond.methodLink RL 42 yX8_wheelIs, Cond.instanceMethod yX8_wheelIs, Cond.selects RX8 yX8_wheelIs yX8_wheelIs, Cond.code yX8_wheelIs cX8_wheelIs 3 (some .int), Cond.methodLink RX8 112 yX8_isWheel, Cond.instanceMethod yX8_isWheel, Cond.selects RX8 yX8_isWheel yX8_isWheel, Cond.code yX8_isWheel cX8_isWheel 2 (some .boolean), Cond.methodLink RX8 115 yX8_toldWheel, Cond.instanceMethod yX8_toldWheel, Cond.selects RX8 yX8_toldWheel yX8_toldWheel, Cond.code yX8_toldWheel cX8_toldWheel 3 (some .int), Cond.methodLink RX8 103 yX8_flow, Cond.instanceMethod yX8_flow, Cond.selects RX8 yX8_flow yX8_flow, Cond.code yX8_flow cX8_flow 5 none, Cond.fieldLink RX8 194 "WheelBrookModel" "lost" "I", Cond.fieldLink RX8 197 "WheelBrookModel" "taken" "I", Cond.methodLink RX8 179 yX8_hourOfDay]
def wsL_law_r15 : List Cond := [Cond.instanceMethod yX8_hourOfDay, Cond.selects RX8 yX8_hourOfDay yX8_hourOfDay, Cond.code yX8_hourOfDay cX8_hourOfDay 1 (some .int), Cond.methodLink RX8 200 yX8_wants, Cond.instanceMethod yX8_wants, Cond.selects RX8 yX8_wants yX8_wants, Cond.code yX8_wants cX8_wants 5 (some .int), Cond.methodLink RX8 185 yX8_takesTold, Cond.instanceMethod yX8_takesTold, Cond.selects RX8 yX8_takesTold yX8_takesTold, Cond.code yX8_takesTold cX8_takesTold 3 (some .int), Cond.methodLink RX8 173 yX8_hasText, Cond.instanceMethod yX8_hasText, Cond.selects RX8 yX8_hasText yX8_hasText, Cond.code yX8_hasText cX8_hasText 2 (some .boolean), Cond.methodLink RX8 182 yX8_worked, Cond.instanceMethod yX8_worked, Cond.selects RX8 yX8_worked yX8_worked, Cond.code yX8_worked cX8_worked 7 (some .int), Cond.methodLink RX8 176 yX8_joined, Cond.static yX8_joined, Cond.code yX8_joined cX8_joined 3 (some .int), Cond.methodLink RX8 61 yX8_held, Cond.static yX8_held]
def wsL_law_r16 : List Cond := [Cond.code yX8_held cX8_held 3 (some .int), Cond.methodLink RX8 106 yX8_turns, Cond.instanceMethod yX8_turns, Cond.selects RX8 yX8_turns yX8_turns, Cond.code yX8_turns cX8_turns 4 (some .int), Cond.methodLink RX8 188 yX8_turnsTold, Cond.instanceMethod yX8_turnsTold, Cond.selects RX8 yX8_turnsTold yX8_turnsTold, Cond.code yX8_turnsTold cX8_turnsTold 3 (some .int), Cond.methodLink RX8 109 yX8_shows, Cond.instanceMethod yX8_shows, Cond.selects RX8 yX8_shows yX8_shows, Cond.code yX8_shows cX8_shows 3 (some .int), Cond.methodLink RX8 191 yX8_showsBy, Cond.instanceMethod yX8_showsBy, Cond.selects RX8 yX8_showsBy yX8_showsBy, Cond.code yX8_showsBy cX8_showsBy 4 (some .int), Cond.methodLink RL 43 yX7_as, Cond.instanceMethod yX7_as, Cond.selects RX7 yX7_as yX7_as, Cond.code yX7_as cX7_as 4 (some .int), Cond.fieldLink RX7 97 "WheelBrook$Brook" "wheels" "[LWheelBrook$Wheel;", Cond.fieldLink RX7 101 "WheelBrook$Wheel" "kind" "I", Cond.fieldLink RX7 110 "WheelBrook$Wheel" "counter" "I"]
def wsL_law_r17 : List Cond := [Cond.methodLink RX7 106 yX7_isUnder, Cond.static yX7_isUnder, Cond.code yX7_isUnder cX7_isUnder 4 (some .boolean), Cond.fieldLink RX7 282 "WheelBrook" "ABOVE" "[I", Cond.methodLink RL 46 yX8_as, Cond.instanceMethod yX8_as, Cond.selects RX8 yX8_as yX8_as, Cond.code yX8_as cX8_as 3 (some .int), Cond.methodLink RX8 118 yX8_isUnder, Cond.static yX8_isUnder, Cond.code yX8_isUnder cX8_isUnder 2 (some .boolean), Cond.methodLink RL 47 yX7_set, Cond.instanceMethod yX7_set, Cond.selects RX7 yX7_set yX7_set, Cond.code yX7_set cX7_set 6 (some .int), Cond.fieldLink RX7 113 "WheelBrook" "MOST_SET" "[I", Cond.methodLink RX7 116 yX6_part, Cond.methodLink RX7 119 yX6_change, Cond.instanceMethod yX6_change, Cond.selects RX6 yX6_change yX6_change, Cond.code yX6_change cX6_change 3 none, Cond.methodLink RL 51 yX8_set, Cond.instanceMethod yX8_set, Cond.selects RX8 yX8_set yX8_set]
def wsL_law_r18 : List Cond := [Cond.code yX8_set cX8_set 4 (some .int), Cond.methodLink RX8 122 yX8_most, Cond.static yX8_most, Cond.code yX8_most cX8_most 1 (some .int), Cond.constant RX8 60 (999999), Cond.methodLink RL 52 yX7_flows, Cond.instanceMethod yX7_flows, Cond.selects RX7 yX7_flows yX7_flows, Cond.code yX7_flows cX7_flows 2 (some .int), Cond.fieldLink RX7 126 "WheelBrook$Brook" "flow" "[I", Cond.methodLink RX7 123 yX0_letFlow, Cond.methodLink RL 55 yX8_flows, Cond.instanceMethod yX8_flows, Cond.selects RX8 yX8_flows yX8_flows, Cond.code yX8_flows cX8_flows 2 (some .int), Cond.methodLink RL 58 yX7_feed, Cond.instanceMethod yX7_feed, Cond.selects RX7 yX7_feed yX7_feed, Cond.code yX7_feed cX7_feed 4 (some .int), Cond.fieldLink RX7 129 "WheelBrook$Desk" "taped" "I", Cond.methodLink RX7 132 yX1_addBytes, Cond.instanceMethod yX1_addBytes, Cond.selects RX1 yX1_addBytes yX1_addBytes, Cond.code yX1_addBytes cX1_addBytes 5 none]
def wsL_law_r19 : List Cond := [Cond.fieldLink RX1 19 "WheelBrook$Desk" "taped" "I", Cond.methodLink RL 62 yX8_feed, Cond.instanceMethod yX8_feed, Cond.selects RX8 yX8_feed yX8_feed, Cond.code yX8_feed cX8_feed 5 (some .int), Cond.constantLong RX8 125 (255), Cond.methodLink RL 63 yX7_text, Cond.instanceMethod yX7_text, Cond.selects RX7 yX7_text yX7_text, Cond.code yX7_text cX7_text 3 (some .int), Cond.fieldLink RX7 136 "WheelBrook$Desk" "tape" "[B", Cond.fieldLink RX7 148 "WheelBrook$Reader" "code" "[I", Cond.fieldLink RX7 151 "WheelBrook$Reader" "size" "I", Cond.methodLink RX7 140 yX3_read, Cond.instanceMethod yX3_read, Cond.selects RX3 yX3_read yX3_read, Cond.code yX3_read cX3_read 5 (some .int), Cond.fieldLink RX3 18 "WheelBrook$Reader" "size" "I", Cond.fieldLink RX3 22 "WheelBrook$Reader" "waiting" "I", Cond.fieldLink RX3 25 "WheelBrook$Reader" "open" "I", Cond.fieldLink RX3 28 "WheelBrook$Reader" "brackets" "I", Cond.fieldLink RX3 31 "WheelBrook$Reader" "digits" "I", Cond.fieldLink RX3 34 "WheelBrook$Reader" "wanting" "Z", Cond.methodLink RX3 38 yX3_goesOn]
def wsL_law_r20 : List Cond := [Cond.instanceMethod yX3_goesOn, Cond.selects RX3 yX3_goesOn yX3_goesOn, Cond.code yX3_goesOn cX3_goesOn 3 (some .boolean), Cond.methodLink RX3 46 yX3_digit, Cond.instanceMethod yX3_digit, Cond.selects RX3 yX3_digit yX3_digit, Cond.code yX3_digit cX3_digit 2 (some .boolean), Cond.methodLink RX3 56 yX3_write, Cond.instanceMethod yX3_write, Cond.selects RX3 yX3_write yX3_write, Cond.code yX3_write cX3_write 2 none, Cond.methodLink RX3 50 yX3_opens, Cond.instanceMethod yX3_opens, Cond.selects RX3 yX3_opens yX3_opens, Cond.code yX3_opens cX3_opens 4 (some .boolean), Cond.methodLink RX3 59 yX3_hold, Cond.instanceMethod yX3_hold, Cond.selects RX3 yX3_hold yX3_hold, Cond.code yX3_hold cX3_hold 2 none, Cond.methodLink RX3 66 yJ0_indexOf_0f7a4, Cond.instanceMethod yJ0_indexOf_0f7a4, Cond.selects RJ0 yJ0_indexOf_0f7a4 yJ0_indexOf_0f7a4, Cond.initialized RJ0, Cond.code yJ0_indexOf_0f7a4 cJ0_indexOf_0f7a4 2 (some .int)]
def wsL_law_r21 : List Cond := [Cond.methodLink RJ0 633 yJ0_indexOf_7cf53, Cond.instanceMethod yJ0_indexOf_7cf53, Cond.selects RJ0 yJ0_indexOf_7cf53 yJ0_indexOf_7cf53, Cond.code yJ0_indexOf_7cf53 cJ0_indexOf_7cf53 3 (some .int), Cond.fieldLink RJ0 9 "java/lang/String" "value" "[B", Cond.methodLink RJ0 492 yJ0_isLatin1_aae02, Cond.instanceMethod yJ0_isLatin1_aae02, Cond.selects RJ0 yJ0_isLatin1_aae02 yJ0_isLatin1_aae02, Cond.code yJ0_isLatin1_aae02 cJ0_isLatin1_aae02 1 (some .boolean), Cond.fieldLink RJ0 38 "java/lang/String" "COMPACT_STRINGS" "Z", Cond.fieldLink RJ0 15 "java/lang/String" "coder" "B", Cond.methodLink RJ0 505 yJ0_length_8abf5, Cond.instanceMethod yJ0_length_8abf5, Cond.selects RJ0 yJ0_length_8abf5 yJ0_length_8abf5, Cond.code yJ0_length_8abf5 cJ0_length_8abf5 1 (some .int), Cond.methodLink RJ0 335 yJ0_coder_7d493, Cond.instanceMethod yJ0_coder_7d493, Cond.selects RJ0 yJ0_coder_7d493 yJ0_coder_7d493, Cond.code yJ0_coder_7d493 cJ0_coder_7d493 1 (some .byte), Cond.methodLink RJ0 637 yJ1_indexOf_4cfef, Cond.static yJ1_indexOf_4cfef, Cond.initialized RJ1, Cond.code yJ1_indexOf_4cfef cJ1_indexOf_4cfef 4 (some .int), Cond.methodLink RJ1 92 Lib.Math.max.name]
def wsL_law_r22 : List Cond := [Cond.methodLink RJ1 38 Lib.Math.min.name, Cond.methodLink RJ1 88 yJ1_canEncode_9a6ad, Cond.static yJ1_canEncode_9a6ad, Cond.code yJ1_canEncode_9a6ad cJ1_canEncode_9a6ad 1 (some .boolean), Cond.methodLink RJ1 95 yJ1_indexOfChar_4cfef, Cond.static yJ1_indexOfChar_4cfef, Cond.code yJ1_indexOfChar_4cfef cJ1_indexOfChar_4cfef 6 (some .int), Cond.methodLink RJ0 640 yJ2_indexOf_4cfef, Cond.static yJ2_indexOf_4cfef, Cond.initialized RJ2, Cond.code yJ2_indexOf_4cfef cJ2_indexOf_4cfef 4 (some .int), Cond.methodLink RJ2 224 Lib.Math.max.name, Cond.methodLink RJ2 183 Lib.Math.min.name, Cond.constant RJ2 227 (65536), Cond.methodLink RJ2 228 yJ2_indexOfChar_4cfef, Cond.static yJ2_indexOfChar_4cfef, Cond.code yJ2_indexOfChar_4cfef cJ2_indexOfChar_4cfef 4 (some .int), Cond.methodLink RJ2 96 yJ2_checkBoundsBeginEnd_d044e, Cond.static yJ2_checkBoundsBeginEnd_d044e, Cond.code yJ2_checkBoundsBeginEnd_d044e cJ2_checkBoundsBeginEnd_d044e 3 none, Cond.methodLink RJ2 48 yJ2_length_9d52b, Cond.static yJ2_length_9d52b, Cond.code yJ2_length_9d52b cJ2_length_9d52b 1 (some .int), Cond.methodLink RJ2 241 yJ0_checkBoundsBeginEnd_23922]
def wsL_law_r23 : List Cond := [Cond.static yJ0_checkBoundsBeginEnd_23922, Cond.code yJ0_checkBoundsBeginEnd_23922 cJ0_checkBoundsBeginEnd_23922 3 none, Cond.fieldLink RJ0 1053 "jdk/internal/util/Preconditions" "SIOOBE_FORMATTER" "Ljava/util/function/BiFunction;", Cond.methodLink RJ0 1062 yJ3_checkFromToIndex_8c36e, Cond.static yJ3_checkFromToIndex_8c36e, Cond.initialized RJ3, Cond.code yJ3_checkFromToIndex_8c36e cJ3_checkFromToIndex_8c36e 4 (some .int), Cond.methodLink RJ2 244 yJ2_indexOfCharUnsafe_4cfef, Cond.static yJ2_indexOfCharUnsafe_4cfef, Cond.code yJ2_indexOfCharUnsafe_4cfef cJ2_indexOfCharUnsafe_4cfef 5 (some .int), Cond.methodLink RJ2 71 yJ2_getChar_3b067, Cond.static yJ2_getChar_3b067, Cond.code yJ2_getChar_3b067 cJ2_getChar_3b067 2 (some .char), Cond.fieldLink RJ2 44 "java/lang/StringUTF16" "$assertionsDisabled" "Z", Cond.fieldLink RJ2 59 "java/lang/StringUTF16" "HI_BYTE_SHIFT" "I", Cond.fieldLink RJ2 63 "java/lang/StringUTF16" "LO_BYTE_SHIFT" "I", Cond.methodLink RJ2 232 yJ2_indexOfSupplementary_4cfef, Cond.static yJ2_indexOfSupplementary_4cfef, Cond.code yJ2_indexOfSupplementary_4cfef cJ2_indexOfSupplementary_4cfef 7 (some .int), Cond.methodLink RJ2 164 yJ11_isValidCodePoint_9a6ad, Cond.static yJ11_isValidCodePoint_9a6ad, Cond.initialized RJ11, Cond.code yJ11_isValidCodePoint_9a6ad cJ11_isValidCodePoint_9a6ad 2 (some .boolean), Cond.methodLink RJ2 157 yJ11_highSurrogate_5068e]
def wsL_law_r24 : List Cond := [Cond.static yJ11_highSurrogate_5068e, Cond.code yJ11_highSurrogate_5068e cJ11_highSurrogate_5068e 1 (some .char), Cond.constant RJ11 110 (55232), Cond.methodLink RJ2 161 yJ11_lowSurrogate_5068e, Cond.static yJ11_lowSurrogate_5068e, Cond.code yJ11_lowSurrogate_5068e cJ11_lowSurrogate_5068e 1 (some .char), Cond.constant RJ11 76 (56320), Cond.methodLink RX3 53 yX3_follows, Cond.instanceMethod yX3_follows, Cond.selects RX3 yX3_follows yX3_follows, Cond.code yX3_follows cX3_follows 3 (some .boolean), Cond.methodLink RX3 74 yX3_closes, Cond.instanceMethod yX3_closes, Cond.selects RX3 yX3_closes yX3_closes, Cond.code yX3_closes cX3_closes 1 (some .boolean), Cond.methodLink RX3 42 yX3_writeSigns, Cond.instanceMethod yX3_writeSigns, Cond.selects RX3 yX3_writeSigns yX3_writeSigns, Cond.code yX3_writeSigns cX3_writeSigns 4 none, Cond.methodLink RX3 78 yX3_rankOf, Cond.static yX3_rankOf, Cond.code yX3_rankOf cX3_rankOf 1 (some .int), Cond.methodLink RX7 144 yX0_law, Cond.instanceMethod yX0_law]
def wsL_law_r25 : List Cond := [Cond.selects RX0 yX0_law yX0_law, Cond.code yX0_law cX0_law 2 (some (.object "WheelBrook$Law")), Cond.methodLink RX7 152 yX2_learn, Cond.instanceMethod yX2_learn, Cond.selects RX2 yX2_learn yX2_learn, Cond.code yX2_learn cX2_learn 3 none, Cond.methodLink RX2 18 arraycopyName, Cond.native arraycopyName, Cond.static arraycopyName, Cond.initialized "java/lang/System", Cond.methodLink RL 66 yX8_text, Cond.instanceMethod yX8_text, Cond.selects RX8 yX8_text yX8_text, Cond.code yX8_text cX8_text 5 (some .int), Cond.fieldLink RX8 131 "WheelBrookModel" "use" "I", Cond.fieldLink RX8 127 "WheelBrookModel" "at" "I", Cond.fieldLink RX8 161 "WheelBrookModel" "open" "I", Cond.fieldLink RX8 134 "WheelBrookModel" "steps" "I", Cond.methodLink RX8 170 yX8_whole, Cond.instanceMethod yX8_whole, Cond.selects RX8 yX8_whole yX8_whole, Cond.code yX8_whole cX8_whole 1 (some .boolean), Cond.methodLink RX8 137 yX8_both, Cond.instanceMethod yX8_both]
def wsL_law_r26 : List Cond := [Cond.selects RX8 yX8_both yX8_both, Cond.methodLink RX8 141 yX8_look, Cond.instanceMethod yX8_look, Cond.selects RX8 yX8_look yX8_look, Cond.code yX8_look cX8_look 1 (some .int), Cond.methodLink RX8 145 yX8_step1, Cond.instanceMethod yX8_step1, Cond.selects RX8 yX8_step1 yX8_step1, Cond.code yX8_step1 cX8_step1 3 none, Cond.code yX8_both cX8_both 1 (some .boolean), Cond.methodLink RX8 149 yX8_compared, Cond.instanceMethod yX8_compared, Cond.selects RX8 yX8_compared yX8_compared, Cond.code yX8_compared cX8_compared 2 (some .boolean), Cond.methodLink RX8 152 yX8_sum, Cond.instanceMethod yX8_sum, Cond.selects RX8 yX8_sum yX8_sum, Cond.code yX8_one cX8_one 4 (some .boolean), Cond.methodLink RX8 164 yX8_isName, Cond.instanceMethod yX8_isName, Cond.selects RX8 yX8_isName yX8_isName, Cond.code yX8_isName cX8_isName 2 (some .boolean), Cond.methodLink RX8 167 yX8_opens, Cond.instanceMethod yX8_opens]
def wsL_law_r27 : List Cond := [Cond.selects RX8 yX8_opens yX8_opens, Cond.code yX8_opens cX8_opens 1 (some .boolean), Cond.methodLink RX8 158 yX8_one, Cond.instanceMethod yX8_one, Cond.selects RX8 yX8_one yX8_one, Cond.code yX8_product cX8_product 2 (some .boolean), Cond.code yX8_sum cX8_sum 2 (some .boolean), Cond.methodLink RX8 155 yX8_product, Cond.instanceMethod yX8_product, Cond.selects RX8 yX8_product yX8_product, Cond.methodLink RL 67 yX7_untell, Cond.instanceMethod yX7_untell, Cond.selects RX7 yX7_untell yX7_untell, Cond.code yX7_untell cX7_untell 4 (some .int), Cond.fieldLink RX7 158 "WheelBrook$Law" "size" "I", Cond.methodLink RL 70 yX8_untell, Cond.instanceMethod yX8_untell, Cond.selects RX8 yX8_untell yX8_untell, Cond.code yX8_untell cX8_untell 3 (some .int), Cond.methodLink RL 71 yX7_hours, Cond.instanceMethod yX7_hours, Cond.selects RX7 yX7_hours yX7_hours, Cond.code yX7_hours cX7_hours 2 (some .int), Cond.fieldLink RX7 159 "WheelBrook$Brook" "hour" "I"]
def wsL_law_r28 : List Cond := [Cond.methodLink RX7 162 yX0_passHours, Cond.instanceMethod yX0_passHours, Cond.selects RX0 yX0_passHours yX0_passHours, Cond.code yX0_passHours cX0_passHours 4 (some .int), Cond.methodLink RX0 153 yX0_passHour, Cond.instanceMethod yX0_passHour, Cond.selects RX0 yX0_passHour yX0_passHour, Cond.code yX0_passHour cX0_passHour 4 (some .int), Cond.fieldLink RX0 142 "WheelBrook$Wheel" "turns" "I", Cond.constant RX0 152 (999999), Cond.methodLink RX0 144 yX0_turnMore, Cond.instanceMethod yX0_turnMore, Cond.selects RX0 yX0_turnMore yX0_turnMore, Cond.code yX0_turnMore cX0_turnMore 3 none, Cond.methodLink RX7 165 yX0_prayedOfAll, Cond.instanceMethod yX0_prayedOfAll, Cond.selects RX0 yX0_prayedOfAll yX0_prayedOfAll, Cond.code yX0_prayedOfAll cX0_prayedOfAll 3 (some .int), Cond.methodLink RL 74 yX8_hours, Cond.instanceMethod yX8_hours, Cond.selects RX8 yX8_hours yX8_hours, Cond.code yX8_hours cX8_hours 2 (some .int), Cond.methodLink RX8 212 yX8_go, Cond.instanceMethod yX8_go]
def wsL_law_r29 : List Cond := [Cond.selects RX8 yX8_go yX8_go, Cond.code yX8_go cX8_go 3 none, Cond.methodLink RX8 209 yX8_hour, Cond.instanceMethod yX8_hour, Cond.selects RX8 yX8_hour yX8_hour, Cond.code yX8_hour cX8_hour 3 none, Cond.methodLink RX8 206 yX8_turn1, Cond.instanceMethod yX8_turn1, Cond.selects RX8 yX8_turn1 yX8_turn1, Cond.code yX8_turn1 cX8_turn1 3 none, Cond.methodLink RX8 203 yX8_prays, Cond.instanceMethod yX8_prays, Cond.selects RX8 yX8_prays yX8_prays, Cond.code yX8_prays cX8_prays 3 none, Cond.methodLink RX8 216 yX8_allPrayed, Cond.instanceMethod yX8_allPrayed, Cond.selects RX8 yX8_allPrayed yX8_allPrayed, Cond.code yX8_allPrayed cX8_allPrayed 3 (some .int), Cond.methodLink RL 75 yX7_draws, Cond.instanceMethod yX7_draws, Cond.selects RX7 yX7_draws yX7_draws, Cond.code yX7_draws cX7_draws 4 (some .int), Cond.methodLink RX7 169 yX0_drawWeather, Cond.instanceMethod yX0_drawWeather]
def wsL_law_r30 : List Cond := [Cond.selects RX0 yX0_drawWeather yX0_drawWeather, Cond.code yX0_drawWeather cX0_drawWeather 2 (some .int), Cond.constant RX0 156 (1103515245), Cond.methodLink RX0 160 Lib.Math.max.name, Cond.methodLink RX0 157 yX0_flood, Cond.instanceMethod yX0_flood, Cond.selects RX0 yX0_flood yX0_flood, Cond.code yX0_flood cX0_flood 2 none, Cond.methodLink RX7 172 yX0_passHour, Cond.methodLink RL 78 yX8_draws, Cond.instanceMethod yX8_draws, Cond.selects RX8 yX8_draws yX8_draws, Cond.code yX8_draws cX8_draws 6 (some .int), Cond.methodLink RX8 220 yX8_draw, Cond.instanceMethod yX8_draw, Cond.selects RX8 yX8_draw yX8_draw, Cond.code yX8_draw cX8_draw 1 (some .int), Cond.constant RX8 219 (1103515245), Cond.methodLink RL 79 yX7_seed, Cond.instanceMethod yX7_seed, Cond.selects RX7 yX7_seed yX7_seed, Cond.code yX7_seed cX7_seed 3 (some .int), Cond.fieldLink RX7 175 "WheelBrook$Brook" "z" "I", Cond.methodLink RL 82 yX8_seed]
def wsL_law_r31 : List Cond := [Cond.instanceMethod yX8_seed, Cond.selects RX8 yX8_seed yX8_seed, Cond.code yX8_seed cX8_seed 2 (some .int), Cond.methodLink RL 83 yX7_sell, Cond.instanceMethod yX7_sell, Cond.selects RX7 yX7_sell yX7_sell, Cond.code yX7_sell cX7_sell 4 (some .int), Cond.fieldLink RX7 178 "WheelBrook$Brook" "prayed" "[I", Cond.constant RX7 181 (999999), Cond.methodLink RL 86 yX8_sell, Cond.instanceMethod yX8_sell, Cond.selects RX8 yX8_sell yX8_sell, Cond.code yX8_sell cX8_sell 4 (some .int), Cond.methodLink RL 87 yX7_fair, Cond.instanceMethod yX7_fair, Cond.selects RX7 yX7_fair yX7_fair, Cond.code yX7_fair cX7_fair 5 (some .int), Cond.methodLink RL 90 yX8_fair, Cond.instanceMethod yX8_fair, Cond.selects RX8 yX8_fair yX8_fair, Cond.code yX8_fair cX8_fair 3 (some .int), Cond.methodLink RL 91 yX7_then, Cond.instanceMethod yX7_then, Cond.selects RX7 yX7_then yX7_then]
def wsL_law_r32 : List Cond := [Cond.code yX7_then cX7_then 4 (some .int), Cond.methodLink RX7 187 yX0_copyFrom, Cond.instanceMethod yX0_copyFrom, Cond.selects RX0 yX0_copyFrom yX0_copyFrom, Cond.code yX0_copyFrom cX0_copyFrom 3 none, Cond.methodLink RX0 51 arraycopyName, Cond.fieldLink RX0 64 "WheelBrook$Law" "code" "[I", Cond.methodLink RX0 60 yX6_copyFrom, Cond.instanceMethod yX6_copyFrom, Cond.selects RX6 yX6_copyFrom yX6_copyFrom, Cond.code yX6_copyFrom cX6_copyFrom 2 none, Cond.methodLink RX0 68 yX2_learn, Cond.methodLink RL 94 yX8_then, Cond.instanceMethod yX8_then, Cond.selects RX8 yX8_then yX8_then, Cond.code yX8_then cX8_then 5 (some .int), Cond.methodLink RX8 223 yX8_isAhead, Cond.static yX8_isAhead, Cond.code yX8_isAhead cX8_isAhead 1 (some .boolean), Cond.methodLink RX8 226 yX8_carry, Cond.static yX8_carry, Cond.code yX8_carry cX8_carry 3 none, Cond.methodLink RL 95 yX7_thenFamily, Cond.instanceMethod yX7_thenFamily]
def wsL_law_r33 : List Cond := [Cond.selects RX7 yX7_thenFamily yX7_thenFamily, Cond.code yX7_thenFamily cX7_thenFamily 4 (some .int), Cond.methodLink RL 98 yX8_thenFamily, Cond.instanceMethod yX8_thenFamily, Cond.selects RX8 yX8_thenFamily yX8_thenFamily, Cond.code yX8_thenFamily cX8_thenFamily 5 (some .int), Cond.methodLink RL 99 yX7_when, Cond.instanceMethod yX7_when, Cond.selects RX7 yX7_when yX7_when, Cond.code yX7_when cX7_when 4 (some .int), Cond.methodLink RX7 191 yX0_isPaid, Cond.methodLink RL 102 yX8_when, Cond.instanceMethod yX8_when, Cond.selects RX8 yX8_when yX8_when, Cond.code yX8_when cX8_when 5 (some .int), Cond.methodLink RL 103 yX7_sluices, Cond.instanceMethod yX7_sluices, Cond.selects RX7 yX7_sluices yX7_sluices, Cond.code yX7_sluices cX7_sluices 7 (some .int), Cond.methodLink RX7 194 yX0_openOnly, Cond.instanceMethod yX0_openOnly, Cond.selects RX0 yX0_openOnly yX0_openOnly, Cond.code yX0_openOnly cX0_openOnly 3 none, Cond.methodLink RX7 198 yX0_allArePaid]
def wsL_law_r34 : List Cond := [Cond.instanceMethod yX0_allArePaid, Cond.selects RX0 yX0_allArePaid yX0_allArePaid, Cond.code yX0_allArePaid cX0_allArePaid 2 (some .boolean), Cond.methodLink RL 106 yX8_sluices, Cond.instanceMethod yX8_sluices, Cond.selects RX8 yX8_sluices yX8_sluices, Cond.code yX8_sluices cX8_sluices 8 (some .int), Cond.methodLink RX8 230 yX8_opens_, Cond.instanceMethod yX8_opens_, Cond.selects RX8 yX8_opens_ yX8_opens_, Cond.code yX8_opens_ cX8_opens_ 3 none, Cond.methodLink RX8 232 yX8_areAllPaid, Cond.instanceMethod yX8_areAllPaid, Cond.selects RX8 yX8_areAllPaid yX8_areAllPaid, Cond.code yX8_areAllPaid cX8_areAllPaid 3 (some .boolean), Cond.methodLink RL 107 yX7_fewer, Cond.instanceMethod yX7_fewer, Cond.selects RX7 yX7_fewer yX7_fewer, Cond.code yX7_fewer cX7_fewer 6 (some .int), Cond.methodLink RX7 202 yX0_turnsIn, Cond.instanceMethod yX0_turnsIn, Cond.selects RX0 yX0_turnsIn yX0_turnsIn, Cond.code yX0_turnsIn cX0_turnsIn 7 (some .int), Cond.methodLink RL 110 yX8_fewer]
def wsL_law_r35 : List Cond := [Cond.instanceMethod yX8_fewer, Cond.selects RX8 yX8_fewer yX8_fewer, Cond.code yX8_fewer cX8_fewer 7 (some .int), Cond.fieldLink RX8 235 "WheelBrookModel" "others" "I", Cond.methodLink RX8 241 yX8_isTold, Cond.instanceMethod yX8_isTold, Cond.selects RX8 yX8_isTold yX8_isTold, Cond.code yX8_isTold cX8_isTold 3 (some .boolean), Cond.methodLink RX8 244 yX8_findTurns, Cond.instanceMethod yX8_findTurns, Cond.selects RX8 yX8_findTurns yX8_findTurns, Cond.code yX8_findTurns cX8_findTurns 5 none, Cond.fieldLink RX8 238 "WheelBrookModel" "own" "I", Cond.methodLink RL 111 yX7_bestPlace, Cond.instanceMethod yX7_bestPlace, Cond.selects RX7 yX7_bestPlace yX7_bestPlace, Cond.code yX7_bestPlace cX7_bestPlace 8 (some .int), Cond.methodLink RL 114 yX8_bestPlace, Cond.instanceMethod yX8_bestPlace, Cond.selects RX8 yX8_bestPlace yX8_bestPlace, Cond.code yX8_bestPlace cX8_bestPlace 8 (some .int), Cond.methodLink RL 115 yX7_who, Cond.instanceMethod yX7_who, Cond.selects RX7 yX7_who yX7_who]
def wsL_law_r36 : List Cond := [Cond.code yX7_who cX7_who 8 (some .int), Cond.fieldLink RX7 206 "WheelBrook$Brook" "gone" "I", Cond.methodLink RL 118 yX8_who, Cond.instanceMethod yX8_who, Cond.selects RX8 yX8_who yX8_who, Cond.code yX8_who cX8_who 9 (some .int), Cond.methodLink RL 119 yX7_slipped, Cond.instanceMethod yX7_slipped, Cond.selects RX7 yX7_slipped yX7_slipped, Cond.code yX7_slipped cX7_slipped 3 (some .int), Cond.fieldLink RX7 209 "WheelBrook$Wheel" "turned" "I", Cond.methodLink RL 123 yX8_slipped, Cond.instanceMethod yX8_slipped, Cond.selects RX8 yX8_slipped yX8_slipped, Cond.code yX8_slipped cX8_slipped 3 (some .int), Cond.methodLink RL 124 yX7_voice, Cond.instanceMethod yX7_voice, Cond.selects RX7 yX7_voice yX7_voice, Cond.code yX7_voice cX7_voice 6 (some .int), Cond.fieldLink RX7 212 "WheelBrook$Wheel" "m" "I", Cond.fieldLink RX7 219 "WheelBrook$Speaker" "parted" "Z", Cond.methodLink RX7 215 yX5_answer, Cond.instanceMethod yX5_answer, Cond.selects RX5 yX5_answer yX5_answer]
def wsL_law_r37 : List Cond := [Cond.code yX5_answer cX5_answer 6 (some .int), Cond.fieldLink RX5 15 "WheelBrook$Speaker" "kind" "I", Cond.fieldLink RX5 19 "WheelBrook$Speaker" "number" "I", Cond.fieldLink RX5 22 "WheelBrook$Speaker" "m" "I", Cond.fieldLink RX5 25 "WheelBrook$Speaker" "traced" "I", Cond.fieldLink RX5 28 "WheelBrook$Speaker" "parted" "Z", Cond.methodLink RX5 32 yX5_speak, Cond.instanceMethod yX5_speak, Cond.selects RX5 yX5_speak yX5_speak, Cond.code yX5_speak cX5_speak 7 (some .int), Cond.fieldLink RX5 36 "WheelBrook$Speaker" "BODIES" "[I", Cond.methodLink RX5 42 yX5_ofWheel, Cond.instanceMethod yX5_ofWheel, Cond.selects RX5 yX5_ofWheel yX5_ofWheel, Cond.methodLink RX5 46 yX5_ofOthers, Cond.instanceMethod yX5_ofOthers, Cond.selects RX5 yX5_ofOthers yX5_ofOthers, Cond.code yX5_ofOthers cX5_ofOthers 6 (some .int), Cond.methodLink RX5 53 yX5_partsOfSlow, Cond.instanceMethod yX5_partsOfSlow, Cond.selects RX5 yX5_partsOfSlow yX5_partsOfSlow, Cond.code yX5_ofWheel cX5_ofWheel 4 (some .int), Cond.methodLink RX5 49 yX5_divided, Cond.instanceMethod yX5_divided]
def wsL_law_r38 : List Cond := [Cond.selects RX5 yX5_divided yX5_divided, Cond.code yX5_divided cX5_divided 3 (some .int), Cond.code yX5_partsOfSlow cX5_partsOfSlow 5 (some .int), Cond.methodLink RL 127 yX8_voice, Cond.instanceMethod yX8_voice, Cond.selects RX8 yX8_voice yX8_voice, Cond.code yX8_voice cX8_voice 6 (some .int), Cond.fieldLink RX8 247 "WheelBrookModel" "traced" "I", Cond.fieldLink RX8 250 "WheelBrookModel" "speaks" "I", Cond.fieldLink RX8 274 "WheelBrookModel" "isParted" "Z", Cond.methodLink RX8 262 yX8_kindNow, Cond.instanceMethod yX8_kindNow, Cond.selects RX8 yX8_kindNow yX8_kindNow, Cond.code yX8_kindNow cX8_kindNow 1 (some .int), Cond.methodLink RX8 259 yX8_flowsAs, Cond.instanceMethod yX8_flowsAs, Cond.selects RX8 yX8_flowsAs yX8_flowsAs, Cond.code yX8_flowsAs cX8_flowsAs 3 (some .int), Cond.methodLink RX8 253 yX8_begins, Cond.instanceMethod yX8_begins, Cond.selects RX8 yX8_begins yX8_begins, Cond.code yX8_begins cX8_begins 2 none, Cond.methodLink RX8 256 yX8_above, Cond.static yX8_above]
def wsL_law_r39 : List Cond := [Cond.code yX8_above cX8_above 1 (some .int), Cond.methodLink RX8 265 yX8_turnsAs, Cond.instanceMethod yX8_turnsAs, Cond.selects RX8 yX8_turnsAs yX8_turnsAs, Cond.code yX8_turnsAs cX8_turnsAs 3 (some .int), Cond.methodLink RX8 268 yX8_mNow, Cond.instanceMethod yX8_mNow, Cond.selects RX8 yX8_mNow yX8_mNow, Cond.code yX8_mNow cX8_mNow 1 (some .int), Cond.methodLink RX8 271 yX8_praysAs, Cond.instanceMethod yX8_praysAs, Cond.selects RX8 yX8_praysAs yX8_praysAs, Cond.code yX8_praysAs cX8_praysAs 3 (some .int), Cond.methodLink RX8 278 yX8_partsAs, Cond.instanceMethod yX8_partsAs, Cond.selects RX8 yX8_partsAs yX8_partsAs, Cond.code yX8_partsAs cX8_partsAs 5 (some .int), Cond.methodLink RL 128 yX7_body, Cond.instanceMethod yX7_body, Cond.selects RX7 yX7_body yX7_body, Cond.code yX7_body cX7_body 2 (some .int), Cond.fieldLink RX7 223 "WheelBrook$Speaker" "traced" "I", Cond.fieldLink RX7 226 "WheelBrook$Speaker" "trace" "[I", Cond.methodLink RL 131 yX8_body]
def wsL_law_r40 : List Cond := [Cond.instanceMethod yX8_body, Cond.selects RX8 yX8_body yX8_body, Cond.code yX8_body cX8_body 2 (some .int), Cond.methodLink RL 132 yX7_sheet, Cond.instanceMethod yX7_sheet, Cond.selects RX7 yX7_sheet yX7_sheet, Cond.code yX7_sheet cX7_sheet 4 (some .int), Cond.methodLink RX7 229 yX7_noSheet, Cond.static yX7_noSheet, Cond.code yX7_noSheet cX7_noSheet 1 (some .boolean), Cond.methodLink RX7 232 yX4_begin, Cond.instanceMethod yX4_begin, Cond.selects RX4 yX4_begin yX4_begin, Cond.code yX4_begin cX4_begin 5 none, Cond.methodLink RL 135 yX8_sheet, Cond.instanceMethod yX8_sheet, Cond.selects RX8 yX8_sheet yX8_sheet, Cond.code yX8_sheet cX8_sheet 5 (some .int), Cond.methodLink RX8 281 yX8_isSheet, Cond.static yX8_isSheet, Cond.code yX8_isSheet cX8_isSheet 1 (some .boolean), Cond.methodLink RL 136 yX7_put, Cond.instanceMethod yX7_put, Cond.selects RX7 yX7_put yX7_put]
def wsL_law_r41 : List Cond := [Cond.code yX7_put cX7_put 4 (some .int), Cond.fieldLink RX7 238 "WheelBrook$Sheets" "sizes" "[I", Cond.fieldLink RX7 241 "WheelBrook$Sheets" "rows" "[[I", Cond.methodLink RX7 235 yX4_isMissing, Cond.instanceMethod yX4_isMissing, Cond.selects RX4 yX4_isMissing yX4_isMissing, Cond.code yX4_isMissing cX4_isMissing 2 (some .boolean), Cond.methodLink RX7 245 yX4_lowest, Cond.instanceMethod yX4_lowest, Cond.selects RX4 yX4_lowest yX4_lowest, Cond.code yX4_lowest cX4_lowest 3 (some .int), Cond.methodLink RL 139 yX8_put, Cond.instanceMethod yX8_put, Cond.selects RX8 yX8_put yX8_put, Cond.code yX8_put cX8_put 5 (some .int), Cond.methodLink RL 140 yX7_move, Cond.instanceMethod yX7_move, Cond.selects RX7 yX7_move yX7_move, Cond.code yX7_move cX7_move 6 (some .int), Cond.fieldLink RX7 248 "WheelBrook$Sheets" "widths" "[I", Cond.methodLink RX7 254 arraycopyName, Cond.methodLink RX7 251 yX4_stand, Cond.instanceMethod yX4_stand, Cond.selects RX4 yX4_stand yX4_stand]
def wsL_law_r42 : List Cond := [Cond.code yX4_stand cX4_stand 4 (some .boolean), Cond.methodLink RL 144 yX8_move, Cond.instanceMethod yX8_move, Cond.selects RX8 yX8_move yX8_move, Cond.code yX8_move cX8_move 7 (some .int), Cond.methodLink RL 145 yX7_forces, Cond.instanceMethod yX7_forces, Cond.selects RX7 yX7_forces yX7_forces, Cond.code yX7_forces cX7_forces 3 (some .int), Cond.methodLink RL 148 yX8_forces, Cond.instanceMethod yX8_forces, Cond.selects RX8 yX8_forces yX8_forces, Cond.code yX8_forces cX8_forces 4 (some .int), Cond.methodLink RX8 284 yX8_lacks, Cond.instanceMethod yX8_lacks, Cond.selects RX8 yX8_lacks yX8_lacks, Cond.code yX8_lacks cX8_lacks 2 (some .int), Cond.methodLink RL 149 yX7_judge, Cond.instanceMethod yX7_judge, Cond.selects RX7 yX7_judge yX7_judge, Cond.code yX7_judge cX7_judge 3 (some .int), Cond.methodLink RL 152 yX8_judge, Cond.instanceMethod yX8_judge, Cond.selects RX8 yX8_judge yX8_judge]
def wsL_law_r43 : List Cond := [Cond.code yX8_judge cX8_judge 4 (some .int), Cond.methodLink RL 153 yX7_image, Cond.instanceMethod yX7_image, Cond.selects RX7 yX7_image yX7_image, Cond.code yX7_image cX7_image 1 (some .int), Cond.fieldLink RX7 263 "WheelBrook" "images" "I", Cond.methodLink RX7 260 yX1_copyFrom, Cond.instanceMethod yX1_copyFrom, Cond.selects RX1 yX1_copyFrom yX1_copyFrom, Cond.code yX1_copyFrom cX1_copyFrom 2 none, Cond.methodLink RX1 23 arraycopyName, Cond.fieldLink RX1 29 "WheelBrook$Desk" "waiting" "I", Cond.methodLink RL 156 yX8_image, Cond.instanceMethod yX8_image, Cond.selects RX8 yX8_image yX8_image, Cond.code yX8_image cX8_image 1 (some .int), Cond.fieldLink RX8 287 "WheelBrookModel" "images" "I", Cond.methodLink RL 157 yX7_restore, Cond.instanceMethod yX7_restore, Cond.selects RX7 yX7_restore yX7_restore, Cond.code yX7_restore cX7_restore 1 (some .int), Cond.methodLink RL 160 yX8_restore, Cond.instanceMethod yX8_restore, Cond.selects RX8 yX8_restore yX8_restore]
def wsL_law_r44 : List Cond := [Cond.code yX8_restore cX8_restore 1 (some .int), Cond.methodLink RL 161 yX7_tell, Cond.instanceMethod yX7_tell, Cond.selects RX7 yX7_tell yX7_tell, Cond.code yX7_tell cX7_tell 2 (some .int), Cond.fieldLink RX7 266 "WheelBrook$Desk" "waiting" "I", Cond.fieldLink RX7 269 "WheelBrook$Desk" "numbers" "[I", Cond.methodLink RL 164 yX8_tell, Cond.instanceMethod yX8_tell, Cond.selects RX8 yX8_tell yX8_tell, Cond.code yX8_tell cX8_tell 2 (some .int), Cond.methodLink RL 165 yX7_check, Cond.instanceMethod yX7_check, Cond.selects RX7 yX7_check yX7_check, Cond.code yX7_check cX7_check 4 (some .int), Cond.methodLink RL 168 yX8_check, Cond.instanceMethod yX8_check, Cond.selects RX8 yX8_check yX8_check, Cond.code yX8_check cX8_check 5 (some .int), Cond.methodLink RL 169 yX7_count, Cond.instanceMethod yX7_count, Cond.selects RX7 yX7_count yX7_count, Cond.code yX7_count cX7_count 2 (some .int), Cond.fieldLink RX7 275 "WheelBrook$Brook" "lost" "I"]
def wsL_law_r45 : List Cond := [Cond.methodLink RX7 272 yX0_forceNow, Cond.methodLink RL 172 yX8_count, Cond.instanceMethod yX8_count, Cond.selects RX8 yX8_count yX8_count, Cond.code yX8_count cX8_count 2 (some .int), Cond.methodLink RL 173 yX7_told, Cond.instanceMethod yX7_told, Cond.selects RX7 yX7_told yX7_told, Cond.code yX7_told cX7_told 2 (some .int), Cond.methodLink RL 176 yX8_told, Cond.instanceMethod yX8_told, Cond.selects RX8 yX8_told yX8_told, Cond.code yX8_told cX8_told 2 (some .int)]
def wsL_law : List Cond := (wsL_law_r1 ++ (wsL_law_r2 ++ (wsL_law_r3 ++ (wsL_law_r4 ++ (wsL_law_r5 ++ (wsL_law_r6 ++ (wsL_law_r7 ++ (wsL_law_r8 ++ (wsL_law_r9 ++ (wsL_law_r10 ++ (wsL_law_r11 ++ (wsL_law_r12 ++ (wsL_law_r13 ++ (wsL_law_r14 ++ (wsL_law_r15 ++ (wsL_law_r16 ++ (wsL_law_r17 ++ (wsL_law_r18 ++ (wsL_law_r19 ++ (wsL_law_r20 ++ (wsL_law_r21 ++ (wsL_law_r22 ++ (wsL_law_r23 ++ (wsL_law_r24 ++ (wsL_law_r25 ++ (wsL_law_r26 ++ (wsL_law_r27 ++ (wsL_law_r28 ++ (wsL_law_r29 ++ (wsL_law_r30 ++ (wsL_law_r31 ++ (wsL_law_r32 ++ (wsL_law_r33 ++ (wsL_law_r34 ++ (wsL_law_r35 ++ (wsL_law_r36 ++ (wsL_law_r37 ++ (wsL_law_r38 ++ (wsL_law_r39 ++ (wsL_law_r40 ++ (wsL_law_r41 ++ (wsL_law_r42 ++ (wsL_law_r43 ++ (wsL_law_r44 ++ wsL_law_r45)))))))))))))))))))))))))))))))))))))))))))) ++ wsX70 ++ wsX80 ++ wsX00 ++ wsX10 ++ wsX30 ++ wsX50 ++ wsX40 ++ wsX20 ++ wsX60 ++ ([] : List Cond)
theorem inlX0 : ∀ w ∈ wsX00, w ∈ wsL_law := fun _ h => List.mem_append_left _ (List.mem_append_left _ (List.mem_append_left _ (List.mem_append_left _ (List.mem_append_left _ (List.mem_append_left _ (List.mem_append_left _ (List.mem_append_right _ h)))))))
theorem inlX1 : ∀ w ∈ wsX10, w ∈ wsL_law := fun _ h => List.mem_append_left _ (List.mem_append_left _ (List.mem_append_left _ (List.mem_append_left _ (List.mem_append_left _ (List.mem_append_left _ (List.mem_append_right _ h))))))
theorem inlX2 : ∀ w ∈ wsX20, w ∈ wsL_law := fun _ h => List.mem_append_left _ (List.mem_append_left _ (List.mem_append_right _ h))
theorem inlX3 : ∀ w ∈ wsX30, w ∈ wsL_law := fun _ h => List.mem_append_left _ (List.mem_append_left _ (List.mem_append_left _ (List.mem_append_left _ (List.mem_append_left _ (List.mem_append_right _ h)))))
theorem inlX4 : ∀ w ∈ wsX40, w ∈ wsL_law := fun _ h => List.mem_append_left _ (List.mem_append_left _ (List.mem_append_left _ (List.mem_append_right _ h)))
theorem inlX5 : ∀ w ∈ wsX50, w ∈ wsL_law := fun _ h => List.mem_append_left _ (List.mem_append_left _ (List.mem_append_left _ (List.mem_append_left _ (List.mem_append_right _ h))))
theorem inlX6 : ∀ w ∈ wsX60, w ∈ wsL_law := fun _ h => List.mem_append_left _ (List.mem_append_right _ h)
theorem inlX7 : ∀ w ∈ wsX70, w ∈ wsL_law := fun _ h => List.mem_append_left _ (List.mem_append_left _ (List.mem_append_left _ (List.mem_append_left _ (List.mem_append_left _ (List.mem_append_left _ (List.mem_append_left _ (List.mem_append_left _ (List.mem_append_left _ (List.mem_append_right _ h)))))))))
theorem inlX8 : ∀ w ∈ wsX80, w ∈ wsL_law := fun _ h => List.mem_append_left _ (List.mem_append_left _ (List.mem_append_left _ (List.mem_append_left _ (List.mem_append_left _ (List.mem_append_left _ (List.mem_append_left _ (List.mem_append_left _ (List.mem_append_right _ h))))))))
set_option maxRecDepth 20000 in
abbrev vwCl : List vw_C := [(RX0, TX0, 15), (RX1, TX1, 4), (RX2, TX2, 3), (RX3, TX3, 8), (RX4, TX4, 3), (RX5, TX5, 6), (RX6, TX6, 9), (RX7, TX7, 10), (RX8, TX8, 27)]
/-! ===== the words of all: one list for every method ===== -/
abbrev zW0 : List Cond := wsL_law
theorem zin_r1 : ∀ w ∈ wsL_law_r1, w ∈ zW0 := fun _ h => List.mem_append_left _ (List.mem_append_left _ (List.mem_append_left _ (List.mem_append_left _ (List.mem_append_left _ (List.mem_append_left _ (List.mem_append_left _ (List.mem_append_left _ (List.mem_append_left _ (List.mem_append_left _ (List.mem_append_left _ h))))))))))
theorem zin_r2 : ∀ w ∈ wsL_law_r2, w ∈ zW0 := fun _ h => List.mem_append_left _ (List.mem_append_left _ (List.mem_append_left _ (List.mem_append_left _ (List.mem_append_left _ (List.mem_append_left _ (List.mem_append_left _ (List.mem_append_left _ (List.mem_append_left _ (List.mem_append_left _ (List.mem_append_right _ (List.mem_append_left _ h)))))))))))
theorem zin_r3 : ∀ w ∈ wsL_law_r3, w ∈ zW0 := fun _ h => List.mem_append_left _ (List.mem_append_left _ (List.mem_append_left _ (List.mem_append_left _ (List.mem_append_left _ (List.mem_append_left _ (List.mem_append_left _ (List.mem_append_left _ (List.mem_append_left _ (List.mem_append_left _ (List.mem_append_right _ (List.mem_append_right _ (List.mem_append_left _ h))))))))))))
theorem zin_r4 : ∀ w ∈ wsL_law_r4, w ∈ zW0 := fun _ h => List.mem_append_left _ (List.mem_append_left _ (List.mem_append_left _ (List.mem_append_left _ (List.mem_append_left _ (List.mem_append_left _ (List.mem_append_left _ (List.mem_append_left _ (List.mem_append_left _ (List.mem_append_left _ (List.mem_append_right _ (List.mem_append_right _ (List.mem_append_right _ (List.mem_append_left _ h)))))))))))))
theorem zin_r5 : ∀ w ∈ wsL_law_r5, w ∈ zW0 := fun _ h => List.mem_append_left _ (List.mem_append_left _ (List.mem_append_left _ (List.mem_append_left _ (List.mem_append_left _ (List.mem_append_left _ (List.mem_append_left _ (List.mem_append_left _ (List.mem_append_left _ (List.mem_append_left _ (List.mem_append_right _ (List.mem_append_right _ (List.mem_append_right _ (List.mem_append_right _ (List.mem_append_left _ h))))))))))))))
theorem zin_r6 : ∀ w ∈ wsL_law_r6, w ∈ zW0 := fun _ h => List.mem_append_left _ (List.mem_append_left _ (List.mem_append_left _ (List.mem_append_left _ (List.mem_append_left _ (List.mem_append_left _ (List.mem_append_left _ (List.mem_append_left _ (List.mem_append_left _ (List.mem_append_left _ (List.mem_append_right _ (List.mem_append_right _ (List.mem_append_right _ (List.mem_append_right _ (List.mem_append_right _ (List.mem_append_left _ h)))))))))))))))
theorem zin_r7 : ∀ w ∈ wsL_law_r7, w ∈ zW0 := fun _ h => List.mem_append_left _ (List.mem_append_left _ (List.mem_append_left _ (List.mem_append_left _ (List.mem_append_left _ (List.mem_append_left _ (List.mem_append_left _ (List.mem_append_left _ (List.mem_append_left _ (List.mem_append_left _ (List.mem_append_right _ (List.mem_append_right _ (List.mem_append_right _ (List.mem_append_right _ (List.mem_append_right _ (List.mem_append_right _ (List.mem_append_left _ h))))))))))))))))
theorem zin_r8 : ∀ w ∈ wsL_law_r8, w ∈ zW0 := fun _ h => List.mem_append_left _ (List.mem_append_left _ (List.mem_append_left _ (List.mem_append_left _ (List.mem_append_left _ (List.mem_append_left _ (List.mem_append_left _ (List.mem_append_left _ (List.mem_append_left _ (List.mem_append_left _ (List.mem_append_right _ (List.mem_append_right _ (List.mem_append_right _ (List.mem_append_right _ (List.mem_append_right _ (List.mem_append_right _ (List.mem_append_right _ (List.mem_append_left _ h)))))))))))))))))
theorem zin_r9 : ∀ w ∈ wsL_law_r9, w ∈ zW0 := fun _ h => List.mem_append_left _ (List.mem_append_left _ (List.mem_append_left _ (List.mem_append_left _ (List.mem_append_left _ (List.mem_append_left _ (List.mem_append_left _ (List.mem_append_left _ (List.mem_append_left _ (List.mem_append_left _ (List.mem_append_right _ (List.mem_append_right _ (List.mem_append_right _ (List.mem_append_right _ (List.mem_append_right _ (List.mem_append_right _ (List.mem_append_right _ (List.mem_append_right _ (List.mem_append_left _ h))))))))))))))))))
theorem zin_r10 : ∀ w ∈ wsL_law_r10, w ∈ zW0 := fun _ h => List.mem_append_left _ (List.mem_append_left _ (List.mem_append_left _ (List.mem_append_left _ (List.mem_append_left _ (List.mem_append_left _ (List.mem_append_left _ (List.mem_append_left _ (List.mem_append_left _ (List.mem_append_left _ (List.mem_append_right _ (List.mem_append_right _ (List.mem_append_right _ (List.mem_append_right _ (List.mem_append_right _ (List.mem_append_right _ (List.mem_append_right _ (List.mem_append_right _ (List.mem_append_right _ (List.mem_append_left _ h)))))))))))))))))))
theorem zin_r11 : ∀ w ∈ wsL_law_r11, w ∈ zW0 := fun _ h => List.mem_append_left _ (List.mem_append_left _ (List.mem_append_left _ (List.mem_append_left _ (List.mem_append_left _ (List.mem_append_left _ (List.mem_append_left _ (List.mem_append_left _ (List.mem_append_left _ (List.mem_append_left _ (List.mem_append_right _ (List.mem_append_right _ (List.mem_append_right _ (List.mem_append_right _ (List.mem_append_right _ (List.mem_append_right _ (List.mem_append_right _ (List.mem_append_right _ (List.mem_append_right _ (List.mem_append_right _ (List.mem_append_left _ h))))))))))))))))))))
theorem zin_r12 : ∀ w ∈ wsL_law_r12, w ∈ zW0 := fun _ h => List.mem_append_left _ (List.mem_append_left _ (List.mem_append_left _ (List.mem_append_left _ (List.mem_append_left _ (List.mem_append_left _ (List.mem_append_left _ (List.mem_append_left _ (List.mem_append_left _ (List.mem_append_left _ (List.mem_append_right _ (List.mem_append_right _ (List.mem_append_right _ (List.mem_append_right _ (List.mem_append_right _ (List.mem_append_right _ (List.mem_append_right _ (List.mem_append_right _ (List.mem_append_right _ (List.mem_append_right _ (List.mem_append_right _ (List.mem_append_left _ h)))))))))))))))))))))
theorem zin_r13 : ∀ w ∈ wsL_law_r13, w ∈ zW0 := fun _ h => List.mem_append_left _ (List.mem_append_left _ (List.mem_append_left _ (List.mem_append_left _ (List.mem_append_left _ (List.mem_append_left _ (List.mem_append_left _ (List.mem_append_left _ (List.mem_append_left _ (List.mem_append_left _ (List.mem_append_right _ (List.mem_append_right _ (List.mem_append_right _ (List.mem_append_right _ (List.mem_append_right _ (List.mem_append_right _ (List.mem_append_right _ (List.mem_append_right _ (List.mem_append_right _ (List.mem_append_right _ (List.mem_append_right _ (List.mem_append_right _ (List.mem_append_left _ h))))))))))))))))))))))
theorem zin_r14 : ∀ w ∈ wsL_law_r14, w ∈ zW0 := fun _ h => List.mem_append_left _ (List.mem_append_left _ (List.mem_append_left _ (List.mem_append_left _ (List.mem_append_left _ (List.mem_append_left _ (List.mem_append_left _ (List.mem_append_left _ (List.mem_append_left _ (List.mem_append_left _ (List.mem_append_right _ (List.mem_append_right _ (List.mem_append_right _ (List.mem_append_right _ (List.mem_append_right _ (List.mem_append_right _ (List.mem_append_right _ (List.mem_append_right _ (List.mem_append_right _ (List.mem_append_right _ (List.mem_append_right _ (List.mem_append_right _ (List.mem_append_right _ (List.mem_append_left _ h)))))))))))))))))))))))
theorem zin_r15 : ∀ w ∈ wsL_law_r15, w ∈ zW0 := fun _ h => List.mem_append_left _ (List.mem_append_left _ (List.mem_append_left _ (List.mem_append_left _ (List.mem_append_left _ (List.mem_append_left _ (List.mem_append_left _ (List.mem_append_left _ (List.mem_append_left _ (List.mem_append_left _ (List.mem_append_right _ (List.mem_append_right _ (List.mem_append_right _ (List.mem_append_right _ (List.mem_append_right _ (List.mem_append_right _ (List.mem_append_right _ (List.mem_append_right _ (List.mem_append_right _ (List.mem_append_right _ (List.mem_append_right _ (List.mem_append_right _ (List.mem_append_right _ (List.mem_append_right _ (List.mem_append_left _ h))))))))))))))))))))))))
theorem zin_r16 : ∀ w ∈ wsL_law_r16, w ∈ zW0 := fun _ h => List.mem_append_left _ (List.mem_append_left _ (List.mem_append_left _ (List.mem_append_left _ (List.mem_append_left _ (List.mem_append_left _ (List.mem_append_left _ (List.mem_append_left _ (List.mem_append_left _ (List.mem_append_left _ (List.mem_append_right _ (List.mem_append_right _ (List.mem_append_right _ (List.mem_append_right _ (List.mem_append_right _ (List.mem_append_right _ (List.mem_append_right _ (List.mem_append_right _ (List.mem_append_right _ (List.mem_append_right _ (List.mem_append_right _ (List.mem_append_right _ (List.mem_append_right _ (List.mem_append_right _ (List.mem_append_right _ (List.mem_append_left _ h)))))))))))))))))))))))))
theorem zin_r17 : ∀ w ∈ wsL_law_r17, w ∈ zW0 := fun _ h => List.mem_append_left _ (List.mem_append_left _ (List.mem_append_left _ (List.mem_append_left _ (List.mem_append_left _ (List.mem_append_left _ (List.mem_append_left _ (List.mem_append_left _ (List.mem_append_left _ (List.mem_append_left _ (List.mem_append_right _ (List.mem_append_right _ (List.mem_append_right _ (List.mem_append_right _ (List.mem_append_right _ (List.mem_append_right _ (List.mem_append_right _ (List.mem_append_right _ (List.mem_append_right _ (List.mem_append_right _ (List.mem_append_right _ (List.mem_append_right _ (List.mem_append_right _ (List.mem_append_right _ (List.mem_append_right _ (List.mem_append_right _ (List.mem_append_left _ h))))))))))))))))))))))))))
theorem zin_r18 : ∀ w ∈ wsL_law_r18, w ∈ zW0 := fun _ h => List.mem_append_left _ (List.mem_append_left _ (List.mem_append_left _ (List.mem_append_left _ (List.mem_append_left _ (List.mem_append_left _ (List.mem_append_left _ (List.mem_append_left _ (List.mem_append_left _ (List.mem_append_left _ (List.mem_append_right _ (List.mem_append_right _ (List.mem_append_right _ (List.mem_append_right _ (List.mem_append_right _ (List.mem_append_right _ (List.mem_append_right _ (List.mem_append_right _ (List.mem_append_right _ (List.mem_append_right _ (List.mem_append_right _ (List.mem_append_right _ (List.mem_append_right _ (List.mem_append_right _ (List.mem_append_right _ (List.mem_append_right _ (List.mem_append_right _ (List.mem_append_left _ h)))))))))))))))))))))))))))
theorem zin_r19 : ∀ w ∈ wsL_law_r19, w ∈ zW0 := fun _ h => List.mem_append_left _ (List.mem_append_left _ (List.mem_append_left _ (List.mem_append_left _ (List.mem_append_left _ (List.mem_append_left _ (List.mem_append_left _ (List.mem_append_left _ (List.mem_append_left _ (List.mem_append_left _ (List.mem_append_right _ (List.mem_append_right _ (List.mem_append_right _ (List.mem_append_right _ (List.mem_append_right _ (List.mem_append_right _ (List.mem_append_right _ (List.mem_append_right _ (List.mem_append_right _ (List.mem_append_right _ (List.mem_append_right _ (List.mem_append_right _ (List.mem_append_right _ (List.mem_append_right _ (List.mem_append_right _ (List.mem_append_right _ (List.mem_append_right _ (List.mem_append_right _ (List.mem_append_left _ h))))))))))))))))))))))))))))
theorem zin_r20 : ∀ w ∈ wsL_law_r20, w ∈ zW0 := fun _ h => List.mem_append_left _ (List.mem_append_left _ (List.mem_append_left _ (List.mem_append_left _ (List.mem_append_left _ (List.mem_append_left _ (List.mem_append_left _ (List.mem_append_left _ (List.mem_append_left _ (List.mem_append_left _ (List.mem_append_right _ (List.mem_append_right _ (List.mem_append_right _ (List.mem_append_right _ (List.mem_append_right _ (List.mem_append_right _ (List.mem_append_right _ (List.mem_append_right _ (List.mem_append_right _ (List.mem_append_right _ (List.mem_append_right _ (List.mem_append_right _ (List.mem_append_right _ (List.mem_append_right _ (List.mem_append_right _ (List.mem_append_right _ (List.mem_append_right _ (List.mem_append_right _ (List.mem_append_right _ (List.mem_append_left _ h)))))))))))))))))))))))))))))
theorem zin_r21 : ∀ w ∈ wsL_law_r21, w ∈ zW0 := fun _ h => List.mem_append_left _ (List.mem_append_left _ (List.mem_append_left _ (List.mem_append_left _ (List.mem_append_left _ (List.mem_append_left _ (List.mem_append_left _ (List.mem_append_left _ (List.mem_append_left _ (List.mem_append_left _ (List.mem_append_right _ (List.mem_append_right _ (List.mem_append_right _ (List.mem_append_right _ (List.mem_append_right _ (List.mem_append_right _ (List.mem_append_right _ (List.mem_append_right _ (List.mem_append_right _ (List.mem_append_right _ (List.mem_append_right _ (List.mem_append_right _ (List.mem_append_right _ (List.mem_append_right _ (List.mem_append_right _ (List.mem_append_right _ (List.mem_append_right _ (List.mem_append_right _ (List.mem_append_right _ (List.mem_append_right _ (List.mem_append_left _ h))))))))))))))))))))))))))))))
theorem zin_r22 : ∀ w ∈ wsL_law_r22, w ∈ zW0 := fun _ h => List.mem_append_left _ (List.mem_append_left _ (List.mem_append_left _ (List.mem_append_left _ (List.mem_append_left _ (List.mem_append_left _ (List.mem_append_left _ (List.mem_append_left _ (List.mem_append_left _ (List.mem_append_left _ (List.mem_append_right _ (List.mem_append_right _ (List.mem_append_right _ (List.mem_append_right _ (List.mem_append_right _ (List.mem_append_right _ (List.mem_append_right _ (List.mem_append_right _ (List.mem_append_right _ (List.mem_append_right _ (List.mem_append_right _ (List.mem_append_right _ (List.mem_append_right _ (List.mem_append_right _ (List.mem_append_right _ (List.mem_append_right _ (List.mem_append_right _ (List.mem_append_right _ (List.mem_append_right _ (List.mem_append_right _ (List.mem_append_right _ (List.mem_append_left _ h)))))))))))))))))))))))))))))))
theorem zin_r23 : ∀ w ∈ wsL_law_r23, w ∈ zW0 := fun _ h => List.mem_append_left _ (List.mem_append_left _ (List.mem_append_left _ (List.mem_append_left _ (List.mem_append_left _ (List.mem_append_left _ (List.mem_append_left _ (List.mem_append_left _ (List.mem_append_left _ (List.mem_append_left _ (List.mem_append_right _ (List.mem_append_right _ (List.mem_append_right _ (List.mem_append_right _ (List.mem_append_right _ (List.mem_append_right _ (List.mem_append_right _ (List.mem_append_right _ (List.mem_append_right _ (List.mem_append_right _ (List.mem_append_right _ (List.mem_append_right _ (List.mem_append_right _ (List.mem_append_right _ (List.mem_append_right _ (List.mem_append_right _ (List.mem_append_right _ (List.mem_append_right _ (List.mem_append_right _ (List.mem_append_right _ (List.mem_append_right _ (List.mem_append_right _ (List.mem_append_left _ h))))))))))))))))))))))))))))))))
theorem zin_r24 : ∀ w ∈ wsL_law_r24, w ∈ zW0 := fun _ h => List.mem_append_left _ (List.mem_append_left _ (List.mem_append_left _ (List.mem_append_left _ (List.mem_append_left _ (List.mem_append_left _ (List.mem_append_left _ (List.mem_append_left _ (List.mem_append_left _ (List.mem_append_left _ (List.mem_append_right _ (List.mem_append_right _ (List.mem_append_right _ (List.mem_append_right _ (List.mem_append_right _ (List.mem_append_right _ (List.mem_append_right _ (List.mem_append_right _ (List.mem_append_right _ (List.mem_append_right _ (List.mem_append_right _ (List.mem_append_right _ (List.mem_append_right _ (List.mem_append_right _ (List.mem_append_right _ (List.mem_append_right _ (List.mem_append_right _ (List.mem_append_right _ (List.mem_append_right _ (List.mem_append_right _ (List.mem_append_right _ (List.mem_append_right _ (List.mem_append_right _ (List.mem_append_left _ h)))))))))))))))))))))))))))))))))
theorem zin_r25 : ∀ w ∈ wsL_law_r25, w ∈ zW0 := fun _ h => List.mem_append_left _ (List.mem_append_left _ (List.mem_append_left _ (List.mem_append_left _ (List.mem_append_left _ (List.mem_append_left _ (List.mem_append_left _ (List.mem_append_left _ (List.mem_append_left _ (List.mem_append_left _ (List.mem_append_right _ (List.mem_append_right _ (List.mem_append_right _ (List.mem_append_right _ (List.mem_append_right _ (List.mem_append_right _ (List.mem_append_right _ (List.mem_append_right _ (List.mem_append_right _ (List.mem_append_right _ (List.mem_append_right _ (List.mem_append_right _ (List.mem_append_right _ (List.mem_append_right _ (List.mem_append_right _ (List.mem_append_right _ (List.mem_append_right _ (List.mem_append_right _ (List.mem_append_right _ (List.mem_append_right _ (List.mem_append_right _ (List.mem_append_right _ (List.mem_append_right _ (List.mem_append_right _ (List.mem_append_left _ h))))))))))))))))))))))))))))))))))
theorem zin_r26 : ∀ w ∈ wsL_law_r26, w ∈ zW0 := fun _ h => List.mem_append_left _ (List.mem_append_left _ (List.mem_append_left _ (List.mem_append_left _ (List.mem_append_left _ (List.mem_append_left _ (List.mem_append_left _ (List.mem_append_left _ (List.mem_append_left _ (List.mem_append_left _ (List.mem_append_right _ (List.mem_append_right _ (List.mem_append_right _ (List.mem_append_right _ (List.mem_append_right _ (List.mem_append_right _ (List.mem_append_right _ (List.mem_append_right _ (List.mem_append_right _ (List.mem_append_right _ (List.mem_append_right _ (List.mem_append_right _ (List.mem_append_right _ (List.mem_append_right _ (List.mem_append_right _ (List.mem_append_right _ (List.mem_append_right _ (List.mem_append_right _ (List.mem_append_right _ (List.mem_append_right _ (List.mem_append_right _ (List.mem_append_right _ (List.mem_append_right _ (List.mem_append_right _ (List.mem_append_right _ (List.mem_append_left _ h)))))))))))))))))))))))))))))))))))
theorem zin_r27 : ∀ w ∈ wsL_law_r27, w ∈ zW0 := fun _ h => List.mem_append_left _ (List.mem_append_left _ (List.mem_append_left _ (List.mem_append_left _ (List.mem_append_left _ (List.mem_append_left _ (List.mem_append_left _ (List.mem_append_left _ (List.mem_append_left _ (List.mem_append_left _ (List.mem_append_right _ (List.mem_append_right _ (List.mem_append_right _ (List.mem_append_right _ (List.mem_append_right _ (List.mem_append_right _ (List.mem_append_right _ (List.mem_append_right _ (List.mem_append_right _ (List.mem_append_right _ (List.mem_append_right _ (List.mem_append_right _ (List.mem_append_right _ (List.mem_append_right _ (List.mem_append_right _ (List.mem_append_right _ (List.mem_append_right _ (List.mem_append_right _ (List.mem_append_right _ (List.mem_append_right _ (List.mem_append_right _ (List.mem_append_right _ (List.mem_append_right _ (List.mem_append_right _ (List.mem_append_right _ (List.mem_append_right _ (List.mem_append_left _ h))))))))))))))))))))))))))))))))))))
theorem zin_r28 : ∀ w ∈ wsL_law_r28, w ∈ zW0 := fun _ h => List.mem_append_left _ (List.mem_append_left _ (List.mem_append_left _ (List.mem_append_left _ (List.mem_append_left _ (List.mem_append_left _ (List.mem_append_left _ (List.mem_append_left _ (List.mem_append_left _ (List.mem_append_left _ (List.mem_append_right _ (List.mem_append_right _ (List.mem_append_right _ (List.mem_append_right _ (List.mem_append_right _ (List.mem_append_right _ (List.mem_append_right _ (List.mem_append_right _ (List.mem_append_right _ (List.mem_append_right _ (List.mem_append_right _ (List.mem_append_right _ (List.mem_append_right _ (List.mem_append_right _ (List.mem_append_right _ (List.mem_append_right _ (List.mem_append_right _ (List.mem_append_right _ (List.mem_append_right _ (List.mem_append_right _ (List.mem_append_right _ (List.mem_append_right _ (List.mem_append_right _ (List.mem_append_right _ (List.mem_append_right _ (List.mem_append_right _ (List.mem_append_right _ (List.mem_append_left _ h)))))))))))))))))))))))))))))))))))))
theorem zin_r29 : ∀ w ∈ wsL_law_r29, w ∈ zW0 := fun _ h => List.mem_append_left _ (List.mem_append_left _ (List.mem_append_left _ (List.mem_append_left _ (List.mem_append_left _ (List.mem_append_left _ (List.mem_append_left _ (List.mem_append_left _ (List.mem_append_left _ (List.mem_append_left _ (List.mem_append_right _ (List.mem_append_right _ (List.mem_append_right _ (List.mem_append_right _ (List.mem_append_right _ (List.mem_append_right _ (List.mem_append_right _ (List.mem_append_right _ (List.mem_append_right _ (List.mem_append_right _ (List.mem_append_right _ (List.mem_append_right _ (List.mem_append_right _ (List.mem_append_right _ (List.mem_append_right _ (List.mem_append_right _ (List.mem_append_right _ (List.mem_append_right _ (List.mem_append_right _ (List.mem_append_right _ (List.mem_append_right _ (List.mem_append_right _ (List.mem_append_right _ (List.mem_append_right _ (List.mem_append_right _ (List.mem_append_right _ (List.mem_append_right _ (List.mem_append_right _ (List.mem_append_left _ h))))))))))))))))))))))))))))))))))))))
theorem zin_r30 : ∀ w ∈ wsL_law_r30, w ∈ zW0 := fun _ h => List.mem_append_left _ (List.mem_append_left _ (List.mem_append_left _ (List.mem_append_left _ (List.mem_append_left _ (List.mem_append_left _ (List.mem_append_left _ (List.mem_append_left _ (List.mem_append_left _ (List.mem_append_left _ (List.mem_append_right _ (List.mem_append_right _ (List.mem_append_right _ (List.mem_append_right _ (List.mem_append_right _ (List.mem_append_right _ (List.mem_append_right _ (List.mem_append_right _ (List.mem_append_right _ (List.mem_append_right _ (List.mem_append_right _ (List.mem_append_right _ (List.mem_append_right _ (List.mem_append_right _ (List.mem_append_right _ (List.mem_append_right _ (List.mem_append_right _ (List.mem_append_right _ (List.mem_append_right _ (List.mem_append_right _ (List.mem_append_right _ (List.mem_append_right _ (List.mem_append_right _ (List.mem_append_right _ (List.mem_append_right _ (List.mem_append_right _ (List.mem_append_right _ (List.mem_append_right _ (List.mem_append_right _ (List.mem_append_left _ h)))))))))))))))))))))))))))))))))))))))
theorem zin_r31 : ∀ w ∈ wsL_law_r31, w ∈ zW0 := fun _ h => List.mem_append_left _ (List.mem_append_left _ (List.mem_append_left _ (List.mem_append_left _ (List.mem_append_left _ (List.mem_append_left _ (List.mem_append_left _ (List.mem_append_left _ (List.mem_append_left _ (List.mem_append_left _ (List.mem_append_right _ (List.mem_append_right _ (List.mem_append_right _ (List.mem_append_right _ (List.mem_append_right _ (List.mem_append_right _ (List.mem_append_right _ (List.mem_append_right _ (List.mem_append_right _ (List.mem_append_right _ (List.mem_append_right _ (List.mem_append_right _ (List.mem_append_right _ (List.mem_append_right _ (List.mem_append_right _ (List.mem_append_right _ (List.mem_append_right _ (List.mem_append_right _ (List.mem_append_right _ (List.mem_append_right _ (List.mem_append_right _ (List.mem_append_right _ (List.mem_append_right _ (List.mem_append_right _ (List.mem_append_right _ (List.mem_append_right _ (List.mem_append_right _ (List.mem_append_right _ (List.mem_append_right _ (List.mem_append_right _ (List.mem_append_left _ h))))))))))))))))))))))))))))))))))))))))
theorem zin_r32 : ∀ w ∈ wsL_law_r32, w ∈ zW0 := fun _ h => List.mem_append_left _ (List.mem_append_left _ (List.mem_append_left _ (List.mem_append_left _ (List.mem_append_left _ (List.mem_append_left _ (List.mem_append_left _ (List.mem_append_left _ (List.mem_append_left _ (List.mem_append_left _ (List.mem_append_right _ (List.mem_append_right _ (List.mem_append_right _ (List.mem_append_right _ (List.mem_append_right _ (List.mem_append_right _ (List.mem_append_right _ (List.mem_append_right _ (List.mem_append_right _ (List.mem_append_right _ (List.mem_append_right _ (List.mem_append_right _ (List.mem_append_right _ (List.mem_append_right _ (List.mem_append_right _ (List.mem_append_right _ (List.mem_append_right _ (List.mem_append_right _ (List.mem_append_right _ (List.mem_append_right _ (List.mem_append_right _ (List.mem_append_right _ (List.mem_append_right _ (List.mem_append_right _ (List.mem_append_right _ (List.mem_append_right _ (List.mem_append_right _ (List.mem_append_right _ (List.mem_append_right _ (List.mem_append_right _ (List.mem_append_right _ (List.mem_append_left _ h)))))))))))))))))))))))))))))))))))))))))
theorem zin_r33 : ∀ w ∈ wsL_law_r33, w ∈ zW0 := fun _ h => List.mem_append_left _ (List.mem_append_left _ (List.mem_append_left _ (List.mem_append_left _ (List.mem_append_left _ (List.mem_append_left _ (List.mem_append_left _ (List.mem_append_left _ (List.mem_append_left _ (List.mem_append_left _ (List.mem_append_right _ (List.mem_append_right _ (List.mem_append_right _ (List.mem_append_right _ (List.mem_append_right _ (List.mem_append_right _ (List.mem_append_right _ (List.mem_append_right _ (List.mem_append_right _ (List.mem_append_right _ (List.mem_append_right _ (List.mem_append_right _ (List.mem_append_right _ (List.mem_append_right _ (List.mem_append_right _ (List.mem_append_right _ (List.mem_append_right _ (List.mem_append_right _ (List.mem_append_right _ (List.mem_append_right _ (List.mem_append_right _ (List.mem_append_right _ (List.mem_append_right _ (List.mem_append_right _ (List.mem_append_right _ (List.mem_append_right _ (List.mem_append_right _ (List.mem_append_right _ (List.mem_append_right _ (List.mem_append_right _ (List.mem_append_right _ (List.mem_append_right _ (List.mem_append_left _ h))))))))))))))))))))))))))))))))))))))))))
theorem zin_r34 : ∀ w ∈ wsL_law_r34, w ∈ zW0 := fun _ h => List.mem_append_left _ (List.mem_append_left _ (List.mem_append_left _ (List.mem_append_left _ (List.mem_append_left _ (List.mem_append_left _ (List.mem_append_left _ (List.mem_append_left _ (List.mem_append_left _ (List.mem_append_left _ (List.mem_append_right _ (List.mem_append_right _ (List.mem_append_right _ (List.mem_append_right _ (List.mem_append_right _ (List.mem_append_right _ (List.mem_append_right _ (List.mem_append_right _ (List.mem_append_right _ (List.mem_append_right _ (List.mem_append_right _ (List.mem_append_right _ (List.mem_append_right _ (List.mem_append_right _ (List.mem_append_right _ (List.mem_append_right _ (List.mem_append_right _ (List.mem_append_right _ (List.mem_append_right _ (List.mem_append_right _ (List.mem_append_right _ (List.mem_append_right _ (List.mem_append_right _ (List.mem_append_right _ (List.mem_append_right _ (List.mem_append_right _ (List.mem_append_right _ (List.mem_append_right _ (List.mem_append_right _ (List.mem_append_right _ (List.mem_append_right _ (List.mem_append_right _ (List.mem_append_right _ (List.mem_append_left _ h)))))))))))))))))))))))))))))))))))))))))))
theorem zin_r35 : ∀ w ∈ wsL_law_r35, w ∈ zW0 := fun _ h => List.mem_append_left _ (List.mem_append_left _ (List.mem_append_left _ (List.mem_append_left _ (List.mem_append_left _ (List.mem_append_left _ (List.mem_append_left _ (List.mem_append_left _ (List.mem_append_left _ (List.mem_append_left _ (List.mem_append_right _ (List.mem_append_right _ (List.mem_append_right _ (List.mem_append_right _ (List.mem_append_right _ (List.mem_append_right _ (List.mem_append_right _ (List.mem_append_right _ (List.mem_append_right _ (List.mem_append_right _ (List.mem_append_right _ (List.mem_append_right _ (List.mem_append_right _ (List.mem_append_right _ (List.mem_append_right _ (List.mem_append_right _ (List.mem_append_right _ (List.mem_append_right _ (List.mem_append_right _ (List.mem_append_right _ (List.mem_append_right _ (List.mem_append_right _ (List.mem_append_right _ (List.mem_append_right _ (List.mem_append_right _ (List.mem_append_right _ (List.mem_append_right _ (List.mem_append_right _ (List.mem_append_right _ (List.mem_append_right _ (List.mem_append_right _ (List.mem_append_right _ (List.mem_append_right _ (List.mem_append_right _ (List.mem_append_left _ h))))))))))))))))))))))))))))))))))))))))))))
theorem zin_r36 : ∀ w ∈ wsL_law_r36, w ∈ zW0 := fun _ h => List.mem_append_left _ (List.mem_append_left _ (List.mem_append_left _ (List.mem_append_left _ (List.mem_append_left _ (List.mem_append_left _ (List.mem_append_left _ (List.mem_append_left _ (List.mem_append_left _ (List.mem_append_left _ (List.mem_append_right _ (List.mem_append_right _ (List.mem_append_right _ (List.mem_append_right _ (List.mem_append_right _ (List.mem_append_right _ (List.mem_append_right _ (List.mem_append_right _ (List.mem_append_right _ (List.mem_append_right _ (List.mem_append_right _ (List.mem_append_right _ (List.mem_append_right _ (List.mem_append_right _ (List.mem_append_right _ (List.mem_append_right _ (List.mem_append_right _ (List.mem_append_right _ (List.mem_append_right _ (List.mem_append_right _ (List.mem_append_right _ (List.mem_append_right _ (List.mem_append_right _ (List.mem_append_right _ (List.mem_append_right _ (List.mem_append_right _ (List.mem_append_right _ (List.mem_append_right _ (List.mem_append_right _ (List.mem_append_right _ (List.mem_append_right _ (List.mem_append_right _ (List.mem_append_right _ (List.mem_append_right _ (List.mem_append_right _ (List.mem_append_left _ h)))))))))))))))))))))))))))))))))))))))))))))
theorem zin_r37 : ∀ w ∈ wsL_law_r37, w ∈ zW0 := fun _ h => List.mem_append_left _ (List.mem_append_left _ (List.mem_append_left _ (List.mem_append_left _ (List.mem_append_left _ (List.mem_append_left _ (List.mem_append_left _ (List.mem_append_left _ (List.mem_append_left _ (List.mem_append_left _ (List.mem_append_right _ (List.mem_append_right _ (List.mem_append_right _ (List.mem_append_right _ (List.mem_append_right _ (List.mem_append_right _ (List.mem_append_right _ (List.mem_append_right _ (List.mem_append_right _ (List.mem_append_right _ (List.mem_append_right _ (List.mem_append_right _ (List.mem_append_right _ (List.mem_append_right _ (List.mem_append_right _ (List.mem_append_right _ (List.mem_append_right _ (List.mem_append_right _ (List.mem_append_right _ (List.mem_append_right _ (List.mem_append_right _ (List.mem_append_right _ (List.mem_append_right _ (List.mem_append_right _ (List.mem_append_right _ (List.mem_append_right _ (List.mem_append_right _ (List.mem_append_right _ (List.mem_append_right _ (List.mem_append_right _ (List.mem_append_right _ (List.mem_append_right _ (List.mem_append_right _ (List.mem_append_right _ (List.mem_append_right _ (List.mem_append_right _ (List.mem_append_left _ h))))))))))))))))))))))))))))))))))))))))))))))
theorem zin_r38 : ∀ w ∈ wsL_law_r38, w ∈ zW0 := fun _ h => List.mem_append_left _ (List.mem_append_left _ (List.mem_append_left _ (List.mem_append_left _ (List.mem_append_left _ (List.mem_append_left _ (List.mem_append_left _ (List.mem_append_left _ (List.mem_append_left _ (List.mem_append_left _ (List.mem_append_right _ (List.mem_append_right _ (List.mem_append_right _ (List.mem_append_right _ (List.mem_append_right _ (List.mem_append_right _ (List.mem_append_right _ (List.mem_append_right _ (List.mem_append_right _ (List.mem_append_right _ (List.mem_append_right _ (List.mem_append_right _ (List.mem_append_right _ (List.mem_append_right _ (List.mem_append_right _ (List.mem_append_right _ (List.mem_append_right _ (List.mem_append_right _ (List.mem_append_right _ (List.mem_append_right _ (List.mem_append_right _ (List.mem_append_right _ (List.mem_append_right _ (List.mem_append_right _ (List.mem_append_right _ (List.mem_append_right _ (List.mem_append_right _ (List.mem_append_right _ (List.mem_append_right _ (List.mem_append_right _ (List.mem_append_right _ (List.mem_append_right _ (List.mem_append_right _ (List.mem_append_right _ (List.mem_append_right _ (List.mem_append_right _ (List.mem_append_right _ (List.mem_append_left _ h)))))))))))))))))))))))))))))))))))))))))))))))
theorem zin_r39 : ∀ w ∈ wsL_law_r39, w ∈ zW0 := fun _ h => List.mem_append_left _ (List.mem_append_left _ (List.mem_append_left _ (List.mem_append_left _ (List.mem_append_left _ (List.mem_append_left _ (List.mem_append_left _ (List.mem_append_left _ (List.mem_append_left _ (List.mem_append_left _ (List.mem_append_right _ (List.mem_append_right _ (List.mem_append_right _ (List.mem_append_right _ (List.mem_append_right _ (List.mem_append_right _ (List.mem_append_right _ (List.mem_append_right _ (List.mem_append_right _ (List.mem_append_right _ (List.mem_append_right _ (List.mem_append_right _ (List.mem_append_right _ (List.mem_append_right _ (List.mem_append_right _ (List.mem_append_right _ (List.mem_append_right _ (List.mem_append_right _ (List.mem_append_right _ (List.mem_append_right _ (List.mem_append_right _ (List.mem_append_right _ (List.mem_append_right _ (List.mem_append_right _ (List.mem_append_right _ (List.mem_append_right _ (List.mem_append_right _ (List.mem_append_right _ (List.mem_append_right _ (List.mem_append_right _ (List.mem_append_right _ (List.mem_append_right _ (List.mem_append_right _ (List.mem_append_right _ (List.mem_append_right _ (List.mem_append_right _ (List.mem_append_right _ (List.mem_append_right _ (List.mem_append_left _ h))))))))))))))))))))))))))))))))))))))))))))))))
theorem zin_r40 : ∀ w ∈ wsL_law_r40, w ∈ zW0 := fun _ h => List.mem_append_left _ (List.mem_append_left _ (List.mem_append_left _ (List.mem_append_left _ (List.mem_append_left _ (List.mem_append_left _ (List.mem_append_left _ (List.mem_append_left _ (List.mem_append_left _ (List.mem_append_left _ (List.mem_append_right _ (List.mem_append_right _ (List.mem_append_right _ (List.mem_append_right _ (List.mem_append_right _ (List.mem_append_right _ (List.mem_append_right _ (List.mem_append_right _ (List.mem_append_right _ (List.mem_append_right _ (List.mem_append_right _ (List.mem_append_right _ (List.mem_append_right _ (List.mem_append_right _ (List.mem_append_right _ (List.mem_append_right _ (List.mem_append_right _ (List.mem_append_right _ (List.mem_append_right _ (List.mem_append_right _ (List.mem_append_right _ (List.mem_append_right _ (List.mem_append_right _ (List.mem_append_right _ (List.mem_append_right _ (List.mem_append_right _ (List.mem_append_right _ (List.mem_append_right _ (List.mem_append_right _ (List.mem_append_right _ (List.mem_append_right _ (List.mem_append_right _ (List.mem_append_right _ (List.mem_append_right _ (List.mem_append_right _ (List.mem_append_right _ (List.mem_append_right _ (List.mem_append_right _ (List.mem_append_right _ (List.mem_append_left _ h)))))))))))))))))))))))))))))))))))))))))))))))))
theorem zin_r41 : ∀ w ∈ wsL_law_r41, w ∈ zW0 := fun _ h => List.mem_append_left _ (List.mem_append_left _ (List.mem_append_left _ (List.mem_append_left _ (List.mem_append_left _ (List.mem_append_left _ (List.mem_append_left _ (List.mem_append_left _ (List.mem_append_left _ (List.mem_append_left _ (List.mem_append_right _ (List.mem_append_right _ (List.mem_append_right _ (List.mem_append_right _ (List.mem_append_right _ (List.mem_append_right _ (List.mem_append_right _ (List.mem_append_right _ (List.mem_append_right _ (List.mem_append_right _ (List.mem_append_right _ (List.mem_append_right _ (List.mem_append_right _ (List.mem_append_right _ (List.mem_append_right _ (List.mem_append_right _ (List.mem_append_right _ (List.mem_append_right _ (List.mem_append_right _ (List.mem_append_right _ (List.mem_append_right _ (List.mem_append_right _ (List.mem_append_right _ (List.mem_append_right _ (List.mem_append_right _ (List.mem_append_right _ (List.mem_append_right _ (List.mem_append_right _ (List.mem_append_right _ (List.mem_append_right _ (List.mem_append_right _ (List.mem_append_right _ (List.mem_append_right _ (List.mem_append_right _ (List.mem_append_right _ (List.mem_append_right _ (List.mem_append_right _ (List.mem_append_right _ (List.mem_append_right _ (List.mem_append_right _ (List.mem_append_left _ h))))))))))))))))))))))))))))))))))))))))))))))))))
theorem zin_r42 : ∀ w ∈ wsL_law_r42, w ∈ zW0 := fun _ h => List.mem_append_left _ (List.mem_append_left _ (List.mem_append_left _ (List.mem_append_left _ (List.mem_append_left _ (List.mem_append_left _ (List.mem_append_left _ (List.mem_append_left _ (List.mem_append_left _ (List.mem_append_left _ (List.mem_append_right _ (List.mem_append_right _ (List.mem_append_right _ (List.mem_append_right _ (List.mem_append_right _ (List.mem_append_right _ (List.mem_append_right _ (List.mem_append_right _ (List.mem_append_right _ (List.mem_append_right _ (List.mem_append_right _ (List.mem_append_right _ (List.mem_append_right _ (List.mem_append_right _ (List.mem_append_right _ (List.mem_append_right _ (List.mem_append_right _ (List.mem_append_right _ (List.mem_append_right _ (List.mem_append_right _ (List.mem_append_right _ (List.mem_append_right _ (List.mem_append_right _ (List.mem_append_right _ (List.mem_append_right _ (List.mem_append_right _ (List.mem_append_right _ (List.mem_append_right _ (List.mem_append_right _ (List.mem_append_right _ (List.mem_append_right _ (List.mem_append_right _ (List.mem_append_right _ (List.mem_append_right _ (List.mem_append_right _ (List.mem_append_right _ (List.mem_append_right _ (List.mem_append_right _ (List.mem_append_right _ (List.mem_append_right _ (List.mem_append_right _ (List.mem_append_left _ h)))))))))))))))))))))))))))))))))))))))))))))))))))
theorem zin_r43 : ∀ w ∈ wsL_law_r43, w ∈ zW0 := fun _ h => List.mem_append_left _ (List.mem_append_left _ (List.mem_append_left _ (List.mem_append_left _ (List.mem_append_left _ (List.mem_append_left _ (List.mem_append_left _ (List.mem_append_left _ (List.mem_append_left _ (List.mem_append_left _ (List.mem_append_right _ (List.mem_append_right _ (List.mem_append_right _ (List.mem_append_right _ (List.mem_append_right _ (List.mem_append_right _ (List.mem_append_right _ (List.mem_append_right _ (List.mem_append_right _ (List.mem_append_right _ (List.mem_append_right _ (List.mem_append_right _ (List.mem_append_right _ (List.mem_append_right _ (List.mem_append_right _ (List.mem_append_right _ (List.mem_append_right _ (List.mem_append_right _ (List.mem_append_right _ (List.mem_append_right _ (List.mem_append_right _ (List.mem_append_right _ (List.mem_append_right _ (List.mem_append_right _ (List.mem_append_right _ (List.mem_append_right _ (List.mem_append_right _ (List.mem_append_right _ (List.mem_append_right _ (List.mem_append_right _ (List.mem_append_right _ (List.mem_append_right _ (List.mem_append_right _ (List.mem_append_right _ (List.mem_append_right _ (List.mem_append_right _ (List.mem_append_right _ (List.mem_append_right _ (List.mem_append_right _ (List.mem_append_right _ (List.mem_append_right _ (List.mem_append_right _ (List.mem_append_left _ h))))))))))))))))))))))))))))))))))))))))))))))))))))
theorem zin_r44 : ∀ w ∈ wsL_law_r44, w ∈ zW0 := fun _ h => List.mem_append_left _ (List.mem_append_left _ (List.mem_append_left _ (List.mem_append_left _ (List.mem_append_left _ (List.mem_append_left _ (List.mem_append_left _ (List.mem_append_left _ (List.mem_append_left _ (List.mem_append_left _ (List.mem_append_right _ (List.mem_append_right _ (List.mem_append_right _ (List.mem_append_right _ (List.mem_append_right _ (List.mem_append_right _ (List.mem_append_right _ (List.mem_append_right _ (List.mem_append_right _ (List.mem_append_right _ (List.mem_append_right _ (List.mem_append_right _ (List.mem_append_right _ (List.mem_append_right _ (List.mem_append_right _ (List.mem_append_right _ (List.mem_append_right _ (List.mem_append_right _ (List.mem_append_right _ (List.mem_append_right _ (List.mem_append_right _ (List.mem_append_right _ (List.mem_append_right _ (List.mem_append_right _ (List.mem_append_right _ (List.mem_append_right _ (List.mem_append_right _ (List.mem_append_right _ (List.mem_append_right _ (List.mem_append_right _ (List.mem_append_right _ (List.mem_append_right _ (List.mem_append_right _ (List.mem_append_right _ (List.mem_append_right _ (List.mem_append_right _ (List.mem_append_right _ (List.mem_append_right _ (List.mem_append_right _ (List.mem_append_right _ (List.mem_append_right _ (List.mem_append_right _ (List.mem_append_right _ (List.mem_append_left _ h)))))))))))))))))))))))))))))))))))))))))))))))))))))
theorem zin_r45 : ∀ w ∈ wsL_law_r45, w ∈ zW0 := fun _ h => List.mem_append_left _ (List.mem_append_left _ (List.mem_append_left _ (List.mem_append_left _ (List.mem_append_left _ (List.mem_append_left _ (List.mem_append_left _ (List.mem_append_left _ (List.mem_append_left _ (List.mem_append_left _ (List.mem_append_right _ (List.mem_append_right _ (List.mem_append_right _ (List.mem_append_right _ (List.mem_append_right _ (List.mem_append_right _ (List.mem_append_right _ (List.mem_append_right _ (List.mem_append_right _ (List.mem_append_right _ (List.mem_append_right _ (List.mem_append_right _ (List.mem_append_right _ (List.mem_append_right _ (List.mem_append_right _ (List.mem_append_right _ (List.mem_append_right _ (List.mem_append_right _ (List.mem_append_right _ (List.mem_append_right _ (List.mem_append_right _ (List.mem_append_right _ (List.mem_append_right _ (List.mem_append_right _ (List.mem_append_right _ (List.mem_append_right _ (List.mem_append_right _ (List.mem_append_right _ (List.mem_append_right _ (List.mem_append_right _ (List.mem_append_right _ (List.mem_append_right _ (List.mem_append_right _ (List.mem_append_right _ (List.mem_append_right _ (List.mem_append_right _ (List.mem_append_right _ (List.mem_append_right _ (List.mem_append_right _ (List.mem_append_right _ (List.mem_append_right _ (List.mem_append_right _ (List.mem_append_right _ (List.mem_append_right _ (h))))))))))))))))))))))))))))))))))))))))))))))))))))))
theorem zgood_of {ws : List Cond} (h : ws.all goodWord = true) : ∀ w ∈ ws, (w.onTables && w.keeps) = true ∨ ∃ ty, w = .arrayClass ty := fun w hw => good_of_word (List.all_eq_true.mp h w hw)
theorem zgd_r1 : wsL_law_r1.all goodWord = true := by decide +kernel
theorem zgd_r2 : wsL_law_r2.all goodWord = true := by decide +kernel
theorem zgd_r3 : wsL_law_r3.all goodWord = true := by decide +kernel
theorem zgd_r4 : wsL_law_r4.all goodWord = true := by decide +kernel
theorem zgd_r5 : wsL_law_r5.all goodWord = true := by decide +kernel
theorem zgd_r6 : wsL_law_r6.all goodWord = true := by decide +kernel
theorem zgd_r7 : wsL_law_r7.all goodWord = true := by decide +kernel
theorem zgd_r8 : wsL_law_r8.all goodWord = true := by decide +kernel
theorem zgd_r9 : wsL_law_r9.all goodWord = true := by decide +kernel
theorem zgd_r10 : wsL_law_r10.all goodWord = true := by decide +kernel
theorem zgd_r11 : wsL_law_r11.all goodWord = true := by decide +kernel
theorem zgd_r12 : wsL_law_r12.all goodWord = true := by decide +kernel
theorem zgd_r13 : wsL_law_r13.all goodWord = true := by decide +kernel
theorem zgd_r14 : wsL_law_r14.all goodWord = true := by decide +kernel
theorem zgd_r15 : wsL_law_r15.all goodWord = true := by decide +kernel
theorem zgd_r16 : wsL_law_r16.all goodWord = true := by decide +kernel
theorem zgd_r17 : wsL_law_r17.all goodWord = true := by decide +kernel
theorem zgd_r18 : wsL_law_r18.all goodWord = true := by decide +kernel
theorem zgd_r19 : wsL_law_r19.all goodWord = true := by decide +kernel
theorem zgd_r20 : wsL_law_r20.all goodWord = true := by decide +kernel
theorem zgd_r21 : wsL_law_r21.all goodWord = true := by decide +kernel
theorem zgd_r22 : wsL_law_r22.all goodWord = true := by decide +kernel
theorem zgd_r23 : wsL_law_r23.all goodWord = true := by decide +kernel
theorem zgd_r24 : wsL_law_r24.all goodWord = true := by decide +kernel
theorem zgd_r25 : wsL_law_r25.all goodWord = true := by decide +kernel
theorem zgd_r26 : wsL_law_r26.all goodWord = true := by decide +kernel
theorem zgd_r27 : wsL_law_r27.all goodWord = true := by decide +kernel
theorem zgd_r28 : wsL_law_r28.all goodWord = true := by decide +kernel
theorem zgd_r29 : wsL_law_r29.all goodWord = true := by decide +kernel
theorem zgd_r30 : wsL_law_r30.all goodWord = true := by decide +kernel
theorem zgd_r31 : wsL_law_r31.all goodWord = true := by decide +kernel
theorem zgd_r32 : wsL_law_r32.all goodWord = true := by decide +kernel
theorem zgd_r33 : wsL_law_r33.all goodWord = true := by decide +kernel
theorem zgd_r34 : wsL_law_r34.all goodWord = true := by decide +kernel
theorem zgd_r35 : wsL_law_r35.all goodWord = true := by decide +kernel
theorem zgd_r36 : wsL_law_r36.all goodWord = true := by decide +kernel
theorem zgd_r37 : wsL_law_r37.all goodWord = true := by decide +kernel
theorem zgd_r38 : wsL_law_r38.all goodWord = true := by decide +kernel
theorem zgd_r39 : wsL_law_r39.all goodWord = true := by decide +kernel
theorem zgd_r40 : wsL_law_r40.all goodWord = true := by decide +kernel
theorem zgd_r41 : wsL_law_r41.all goodWord = true := by decide +kernel
theorem zgd_r42 : wsL_law_r42.all goodWord = true := by decide +kernel
theorem zgd_r43 : wsL_law_r43.all goodWord = true := by decide +kernel
theorem zgd_r44 : wsL_law_r44.all goodWord = true := by decide +kernel
theorem zgd_r45 : wsL_law_r45.all goodWord = true := by decide +kernel
theorem zgd_X7 : wsX70.all goodWord = true := by decide +kernel
theorem zgd_X8 : wsX80.all goodWord = true := by decide +kernel
theorem zgd_X0 : wsX00.all goodWord = true := by decide +kernel
theorem zgd_X1 : wsX10.all goodWord = true := by decide +kernel
theorem zgd_X3 : wsX30.all goodWord = true := by decide +kernel
theorem zgd_X5 : wsX50.all goodWord = true := by decide +kernel
theorem zgd_X4 : wsX40.all goodWord = true := by decide +kernel
theorem zgd_X2 : wsX20.all goodWord = true := by decide +kernel
theorem zgd_X6 : wsX60.all goodWord = true := by decide +kernel
theorem zall_app {a b : List Cond} (ha : a.all goodWord = true) (hb : b.all goodWord = true) : (a ++ b).all goodWord = true := by rw [List.all_append, ha, hb]; rfl
theorem zgd_all : zW0.all goodWord = true := zall_app (zall_app (zall_app (zall_app (zall_app (zall_app (zall_app (zall_app (zall_app (zall_app (zall_app zgd_r1 (zall_app zgd_r2 (zall_app zgd_r3 (zall_app zgd_r4 (zall_app zgd_r5 (zall_app zgd_r6 (zall_app zgd_r7 (zall_app zgd_r8 (zall_app zgd_r9 (zall_app zgd_r10 (zall_app zgd_r11 (zall_app zgd_r12 (zall_app zgd_r13 (zall_app zgd_r14 (zall_app zgd_r15 (zall_app zgd_r16 (zall_app zgd_r17 (zall_app zgd_r18 (zall_app zgd_r19 (zall_app zgd_r20 (zall_app zgd_r21 (zall_app zgd_r22 (zall_app zgd_r23 (zall_app zgd_r24 (zall_app zgd_r25 (zall_app zgd_r26 (zall_app zgd_r27 (zall_app zgd_r28 (zall_app zgd_r29 (zall_app zgd_r30 (zall_app zgd_r31 (zall_app zgd_r32 (zall_app zgd_r33 (zall_app zgd_r34 (zall_app zgd_r35 (zall_app zgd_r36 (zall_app zgd_r37 (zall_app zgd_r38 (zall_app zgd_r39 (zall_app zgd_r40 (zall_app zgd_r41 (zall_app zgd_r42 (zall_app zgd_r43 (zall_app zgd_r44 (zgd_r45))))))))))))))))))))))))))))))))))))))))))))) zgd_X7) zgd_X8) zgd_X0) zgd_X1) zgd_X3) zgd_X5) zgd_X4) zgd_X2) zgd_X6) rfl
theorem zW0_good : ∀ w ∈ zW0, w ∈ zW0 ∧ ((w.onTables && w.keeps) = true ∨ ∃ ty, w = .arrayClass ty) := fun w h => ⟨h, zgood_of zgd_all w h⟩
theorem zgood1 {w : Cond} (h : w ∈ zW0) : GoodIn zW0 (w :: zW0) := fun v hv => (List.mem_cons.mp hv).elim (fun e => by rw [e]; exact zW0_good w h) (zW0_good v)
end
section
theorem dX0_init_0 : decode cX0_init 0 = .ok (.aload_n 0, 1) := by decide +kernel
theorem dX0_init_1 : decode cX0_init 1 = .ok (.invokespecial 3, 3) := by decide +kernel
theorem dX0_init_4 : decode cX0_init 4 = .ok (.aload_n 0, 1) := by decide +kernel
theorem dX0_init_5 : decode cX0_init 5 = .ok (.bipush 24, 2) := by decide +kernel
theorem dX0_init_7 : decode cX0_init 7 = .ok (.newarray .int, 2) := by decide +kernel
theorem dX0_init_9 : decode cX0_init 9 = .ok (.putfield 9, 3) := by decide +kernel
theorem dX0_init_12 : decode cX0_init 12 = .ok (.aload_n 0, 1) := by decide +kernel
theorem dX0_init_13 : decode cX0_init 13 = .ok (.bipush 12, 2) := by decide +kernel
theorem dX0_init_15 : decode cX0_init 15 = .ok (.newarray .int, 2) := by decide +kernel
theorem dX0_init_17 : decode cX0_init 17 = .ok (.putfield 15, 3) := by decide +kernel
theorem dX0_init_20 : decode cX0_init 20 = .ok (.aload_n 0, 1) := by decide +kernel
theorem dX0_init_21 : decode cX0_init 21 = .ok (.iconst 5, 1) := by decide +kernel
theorem dX0_init_22 : decode cX0_init 22 = .ok (.newarray .int, 2) := by decide +kernel
theorem dX0_init_24 : decode cX0_init 24 = .ok (.putfield 18, 3) := by decide +kernel
theorem dX0_init_27 : decode cX0_init 27 = .ok (.aload_n 0, 1) := by decide +kernel
theorem dX0_init_28 : decode cX0_init 28 = .ok (.iconst 5, 1) := by decide +kernel
theorem dX0_init_29 : decode cX0_init 29 = .ok (.newarray .int, 2) := by decide +kernel
theorem dX0_init_31 : decode cX0_init 31 = .ok (.putfield 21, 3) := by decide +kernel
theorem dX0_init_34 : decode cX0_init 34 = .ok (.aload_n 0, 1) := by decide +kernel
theorem dX0_init_35 : decode cX0_init 35 = .ok (.bipush 8, 2) := by decide +kernel
theorem dX0_init_37 : decode cX0_init 37 = .ok (.anewarray 24, 3) := by decide +kernel
theorem dX0_init_40 : decode cX0_init 40 = .ok (.putfield 26, 3) := by decide +kernel
theorem dX0_init_43 : decode cX0_init 43 = .ok (.aload_n 0, 1) := by decide +kernel
theorem dX0_init_44 : decode cX0_init 44 = .ok (.new 30, 3) := by decide +kernel
theorem dX0_init_47 : decode cX0_init 47 = .ok (.dup, 1) := by decide +kernel
theorem dX0_init_48 : decode cX0_init 48 = .ok (.invokespecial 32, 3) := by decide +kernel
theorem dX0_init_51 : decode cX0_init 51 = .ok (.putfield 33, 3) := by decide +kernel
theorem dX0_init_54 : decode cX0_init 54 = .ok (.aload_n 0, 1) := by decide +kernel
theorem dX0_init_55 : decode cX0_init 55 = .ok (.new 30, 3) := by decide +kernel
theorem dX0_init_58 : decode cX0_init 58 = .ok (.dup, 1) := by decide +kernel
theorem dX0_init_59 : decode cX0_init 59 = .ok (.invokespecial 32, 3) := by decide +kernel
theorem dX0_init_62 : decode cX0_init 62 = .ok (.putfield 37, 3) := by decide +kernel
theorem dX0_init_65 : decode cX0_init 65 = .ok (.aload_n 0, 1) := by decide +kernel
theorem dX0_init_66 : decode cX0_init 66 = .ok (.iconst 4, 1) := by decide +kernel
theorem dX0_init_67 : decode cX0_init 67 = .ok (.newarray .int, 2) := by decide +kernel
theorem dX0_init_69 : decode cX0_init 69 = .ok (.putfield 40, 3) := by decide +kernel
theorem dX0_init_72 : decode cX0_init 72 = .ok (.aload_n 0, 1) := by decide +kernel
theorem dX0_init_73 : decode cX0_init 73 = .ok (.bipush 12, 2) := by decide +kernel
theorem dX0_init_75 : decode cX0_init 75 = .ok (.newarray .int, 2) := by decide +kernel
theorem dX0_init_77 : decode cX0_init 77 = .ok (.putfield 43, 3) := by decide +kernel
theorem dX0_init_80 : decode cX0_init 80 = .ok (.aload_n 0, 1) := by decide +kernel
theorem dX0_init_81 : decode cX0_init 81 = .ok (.iconst 1, 1) := by decide +kernel
theorem dX0_init_82 : decode cX0_init 82 = .ok (.putfield 46, 3) := by decide +kernel
theorem dX0_init_85 : decode cX0_init 85 = .ok (.iconst 0, 1) := by decide +kernel
theorem dX0_init_86 : decode cX0_init 86 = .ok (.istore_n 1, 1) := by decide +kernel
theorem dX0_init_87 : decode cX0_init 87 = .ok (.iload_n 1, 1) := by decide +kernel
theorem dX0_init_88 : decode cX0_init 88 = .ok (.bipush 24, 2) := by decide +kernel
theorem dX0_init_90 : decode cX0_init 90 = .ok (.if_icmp .ge 17, 3) := by decide +kernel
theorem dX0_init_93 : decode cX0_init 93 = .ok (.aload_n 0, 1) := by decide +kernel
theorem dX0_init_94 : decode cX0_init 94 = .ok (.getfield 9, 3) := by decide +kernel
theorem dX0_init_97 : decode cX0_init 97 = .ok (.iload_n 1, 1) := by decide +kernel
theorem dX0_init_98 : decode cX0_init 98 = .ok (.bipush 30, 2) := by decide +kernel
theorem dX0_init_100 : decode cX0_init 100 = .ok (.iastore, 1) := by decide +kernel
theorem dX0_init_101 : decode cX0_init 101 = .ok (.iinc 1 1, 3) := by decide +kernel
theorem dX0_init_104 : decode cX0_init 104 = .ok (.goto (-17), 3) := by decide +kernel
theorem dX0_init_107 : decode cX0_init 107 = .ok (.iconst 0, 1) := by decide +kernel
theorem dX0_init_108 : decode cX0_init 108 = .ok (.istore_n 1, 1) := by decide +kernel
theorem dX0_init_109 : decode cX0_init 109 = .ok (.iload_n 1, 1) := by decide +kernel
theorem dX0_init_110 : decode cX0_init 110 = .ok (.bipush 8, 2) := by decide +kernel
theorem dX0_init_112 : decode cX0_init 112 = .ok (.if_icmp .ge 22, 3) := by decide +kernel
theorem dX0_init_115 : decode cX0_init 115 = .ok (.aload_n 0, 1) := by decide +kernel
theorem dX0_init_116 : decode cX0_init 116 = .ok (.getfield 26, 3) := by decide +kernel
theorem dX0_init_119 : decode cX0_init 119 = .ok (.iload_n 1, 1) := by decide +kernel
theorem dX0_init_120 : decode cX0_init 120 = .ok (.new 24, 3) := by decide +kernel
theorem dX0_init_123 : decode cX0_init 123 = .ok (.dup, 1) := by decide +kernel
theorem dX0_init_124 : decode cX0_init 124 = .ok (.invokespecial 50, 3) := by decide +kernel
theorem dX0_init_127 : decode cX0_init 127 = .ok (.aastore, 1) := by decide +kernel
theorem dX0_init_128 : decode cX0_init 128 = .ok (.iinc 1 1, 3) := by decide +kernel
theorem dX0_init_131 : decode cX0_init 131 = .ok (.goto (-22), 3) := by decide +kernel
theorem dX0_init_134 : decode cX0_init 134 = .ok (.return_, 1) := by decide +kernel
theorem dX0_copyFrom_0 : decode cX0_copyFrom 0 = .ok (.aload_n 1, 1) := by decide +kernel
theorem dX0_copyFrom_1 : decode cX0_copyFrom 1 = .ok (.getfield 9, 3) := by decide +kernel
theorem dX0_copyFrom_4 : decode cX0_copyFrom 4 = .ok (.iconst 0, 1) := by decide +kernel
theorem dX0_copyFrom_5 : decode cX0_copyFrom 5 = .ok (.aload_n 0, 1) := by decide +kernel
theorem dX0_copyFrom_6 : decode cX0_copyFrom 6 = .ok (.getfield 9, 3) := by decide +kernel
theorem dX0_copyFrom_9 : decode cX0_copyFrom 9 = .ok (.iconst 0, 1) := by decide +kernel
theorem dX0_copyFrom_10 : decode cX0_copyFrom 10 = .ok (.bipush 24, 2) := by decide +kernel
theorem dX0_copyFrom_12 : decode cX0_copyFrom 12 = .ok (.invokestatic 51, 3) := by decide +kernel
theorem dX0_copyFrom_15 : decode cX0_copyFrom 15 = .ok (.aload_n 1, 1) := by decide +kernel
theorem dX0_copyFrom_16 : decode cX0_copyFrom 16 = .ok (.getfield 15, 3) := by decide +kernel
theorem dX0_copyFrom_19 : decode cX0_copyFrom 19 = .ok (.iconst 0, 1) := by decide +kernel
theorem dX0_copyFrom_20 : decode cX0_copyFrom 20 = .ok (.aload_n 0, 1) := by decide +kernel
theorem dX0_copyFrom_21 : decode cX0_copyFrom 21 = .ok (.getfield 15, 3) := by decide +kernel
theorem dX0_copyFrom_24 : decode cX0_copyFrom 24 = .ok (.iconst 0, 1) := by decide +kernel
theorem dX0_copyFrom_25 : decode cX0_copyFrom 25 = .ok (.bipush 12, 2) := by decide +kernel
theorem dX0_copyFrom_27 : decode cX0_copyFrom 27 = .ok (.invokestatic 51, 3) := by decide +kernel
theorem dX0_copyFrom_30 : decode cX0_copyFrom 30 = .ok (.aload_n 1, 1) := by decide +kernel
theorem dX0_copyFrom_31 : decode cX0_copyFrom 31 = .ok (.getfield 18, 3) := by decide +kernel
theorem dX0_copyFrom_34 : decode cX0_copyFrom 34 = .ok (.iconst 0, 1) := by decide +kernel
theorem dX0_copyFrom_35 : decode cX0_copyFrom 35 = .ok (.aload_n 0, 1) := by decide +kernel
theorem dX0_copyFrom_36 : decode cX0_copyFrom 36 = .ok (.getfield 18, 3) := by decide +kernel
theorem dX0_copyFrom_39 : decode cX0_copyFrom 39 = .ok (.iconst 0, 1) := by decide +kernel
theorem dX0_copyFrom_40 : decode cX0_copyFrom 40 = .ok (.iconst 5, 1) := by decide +kernel
theorem dX0_copyFrom_41 : decode cX0_copyFrom 41 = .ok (.invokestatic 51, 3) := by decide +kernel
theorem dX0_copyFrom_44 : decode cX0_copyFrom 44 = .ok (.aload_n 1, 1) := by decide +kernel
theorem dX0_copyFrom_45 : decode cX0_copyFrom 45 = .ok (.getfield 21, 3) := by decide +kernel
theorem dX0_copyFrom_48 : decode cX0_copyFrom 48 = .ok (.iconst 0, 1) := by decide +kernel
theorem dX0_copyFrom_49 : decode cX0_copyFrom 49 = .ok (.aload_n 0, 1) := by decide +kernel
theorem dX0_copyFrom_50 : decode cX0_copyFrom 50 = .ok (.getfield 21, 3) := by decide +kernel
theorem dX0_copyFrom_53 : decode cX0_copyFrom 53 = .ok (.iconst 0, 1) := by decide +kernel
theorem dX0_copyFrom_54 : decode cX0_copyFrom 54 = .ok (.iconst 5, 1) := by decide +kernel
theorem dX0_copyFrom_55 : decode cX0_copyFrom 55 = .ok (.invokestatic 51, 3) := by decide +kernel
theorem dX0_copyFrom_58 : decode cX0_copyFrom 58 = .ok (.iconst 0, 1) := by decide +kernel
theorem dX0_copyFrom_59 : decode cX0_copyFrom 59 = .ok (.istore_n 2, 1) := by decide +kernel
theorem dX0_copyFrom_60 : decode cX0_copyFrom 60 = .ok (.iload_n 2, 1) := by decide +kernel
theorem dX0_copyFrom_61 : decode cX0_copyFrom 61 = .ok (.aload_n 1, 1) := by decide +kernel
theorem dX0_copyFrom_62 : decode cX0_copyFrom 62 = .ok (.getfield 57, 3) := by decide +kernel
theorem dX0_copyFrom_65 : decode cX0_copyFrom 65 = .ok (.if_icmp .ge 24, 3) := by decide +kernel
theorem dX0_copyFrom_68 : decode cX0_copyFrom 68 = .ok (.aload_n 0, 1) := by decide +kernel
theorem dX0_copyFrom_69 : decode cX0_copyFrom 69 = .ok (.getfield 26, 3) := by decide +kernel
theorem dX0_copyFrom_72 : decode cX0_copyFrom 72 = .ok (.iload_n 2, 1) := by decide +kernel
theorem dX0_copyFrom_73 : decode cX0_copyFrom 73 = .ok (.aaload, 1) := by decide +kernel
theorem dX0_copyFrom_74 : decode cX0_copyFrom 74 = .ok (.aload_n 1, 1) := by decide +kernel
theorem dX0_copyFrom_75 : decode cX0_copyFrom 75 = .ok (.getfield 26, 3) := by decide +kernel
theorem dX0_copyFrom_78 : decode cX0_copyFrom 78 = .ok (.iload_n 2, 1) := by decide +kernel
theorem dX0_copyFrom_79 : decode cX0_copyFrom 79 = .ok (.aaload, 1) := by decide +kernel
theorem dX0_copyFrom_80 : decode cX0_copyFrom 80 = .ok (.invokevirtual 60, 3) := by decide +kernel
theorem dX0_copyFrom_83 : decode cX0_copyFrom 83 = .ok (.iinc 2 1, 3) := by decide +kernel
theorem dX0_copyFrom_86 : decode cX0_copyFrom 86 = .ok (.goto (-26), 3) := by decide +kernel
theorem dX0_copyFrom_89 : decode cX0_copyFrom 89 = .ok (.aload_n 0, 1) := by decide +kernel
theorem dX0_copyFrom_90 : decode cX0_copyFrom 90 = .ok (.getfield 33, 3) := by decide +kernel
theorem dX0_copyFrom_93 : decode cX0_copyFrom 93 = .ok (.aload_n 1, 1) := by decide +kernel
theorem dX0_copyFrom_94 : decode cX0_copyFrom 94 = .ok (.getfield 33, 3) := by decide +kernel
theorem dX0_copyFrom_97 : decode cX0_copyFrom 97 = .ok (.getfield 64, 3) := by decide +kernel
theorem dX0_copyFrom_100 : decode cX0_copyFrom 100 = .ok (.aload_n 1, 1) := by decide +kernel
theorem dX0_copyFrom_101 : decode cX0_copyFrom 101 = .ok (.getfield 33, 3) := by decide +kernel
theorem dX0_copyFrom_104 : decode cX0_copyFrom 104 = .ok (.getfield 67, 3) := by decide +kernel
theorem dX0_copyFrom_107 : decode cX0_copyFrom 107 = .ok (.invokevirtual 68, 3) := by decide +kernel
theorem dX0_copyFrom_110 : decode cX0_copyFrom 110 = .ok (.aload_n 0, 1) := by decide +kernel
theorem dX0_copyFrom_111 : decode cX0_copyFrom 111 = .ok (.getfield 37, 3) := by decide +kernel
theorem dX0_copyFrom_114 : decode cX0_copyFrom 114 = .ok (.aload_n 1, 1) := by decide +kernel
theorem dX0_copyFrom_115 : decode cX0_copyFrom 115 = .ok (.getfield 37, 3) := by decide +kernel
theorem dX0_copyFrom_118 : decode cX0_copyFrom 118 = .ok (.getfield 64, 3) := by decide +kernel
theorem dX0_copyFrom_121 : decode cX0_copyFrom 121 = .ok (.aload_n 1, 1) := by decide +kernel
theorem dX0_copyFrom_122 : decode cX0_copyFrom 122 = .ok (.getfield 37, 3) := by decide +kernel
theorem dX0_copyFrom_125 : decode cX0_copyFrom 125 = .ok (.getfield 67, 3) := by decide +kernel
theorem dX0_copyFrom_128 : decode cX0_copyFrom 128 = .ok (.invokevirtual 68, 3) := by decide +kernel
theorem dX0_copyFrom_131 : decode cX0_copyFrom 131 = .ok (.aload_n 0, 1) := by decide +kernel
theorem dX0_copyFrom_132 : decode cX0_copyFrom 132 = .ok (.aload_n 1, 1) := by decide +kernel
theorem dX0_copyFrom_133 : decode cX0_copyFrom 133 = .ok (.getfield 57, 3) := by decide +kernel
theorem dX0_copyFrom_136 : decode cX0_copyFrom 136 = .ok (.putfield 57, 3) := by decide +kernel
theorem dX0_copyFrom_139 : decode cX0_copyFrom 139 = .ok (.aload_n 0, 1) := by decide +kernel
theorem dX0_copyFrom_140 : decode cX0_copyFrom 140 = .ok (.aload_n 1, 1) := by decide +kernel
theorem dX0_copyFrom_141 : decode cX0_copyFrom 141 = .ok (.getfield 72, 3) := by decide +kernel
theorem dX0_copyFrom_144 : decode cX0_copyFrom 144 = .ok (.putfield 72, 3) := by decide +kernel
theorem dX0_copyFrom_147 : decode cX0_copyFrom 147 = .ok (.aload_n 0, 1) := by decide +kernel
theorem dX0_copyFrom_148 : decode cX0_copyFrom 148 = .ok (.aload_n 1, 1) := by decide +kernel
theorem dX0_copyFrom_149 : decode cX0_copyFrom 149 = .ok (.getfield 75, 3) := by decide +kernel
theorem dX0_copyFrom_152 : decode cX0_copyFrom 152 = .ok (.putfield 75, 3) := by decide +kernel
theorem dX0_copyFrom_155 : decode cX0_copyFrom 155 = .ok (.aload_n 0, 1) := by decide +kernel
theorem dX0_copyFrom_156 : decode cX0_copyFrom 156 = .ok (.aload_n 1, 1) := by decide +kernel
theorem dX0_copyFrom_157 : decode cX0_copyFrom 157 = .ok (.getfield 46, 3) := by decide +kernel
theorem dX0_copyFrom_160 : decode cX0_copyFrom 160 = .ok (.putfield 46, 3) := by decide +kernel
theorem dX0_copyFrom_163 : decode cX0_copyFrom 163 = .ok (.return_, 1) := by decide +kernel
theorem dX0_law_0 : decode cX0_law 0 = .ok (.iload_n 1, 1) := by decide +kernel
theorem dX0_law_1 : decode cX0_law 1 = .ok (.ifCond .ne 10, 3) := by decide +kernel
theorem dX0_law_4 : decode cX0_law 4 = .ok (.aload_n 0, 1) := by decide +kernel
theorem dX0_law_5 : decode cX0_law 5 = .ok (.getfield 33, 3) := by decide +kernel
theorem dX0_law_8 : decode cX0_law 8 = .ok (.goto 7, 3) := by decide +kernel
theorem dX0_law_11 : decode cX0_law 11 = .ok (.aload_n 0, 1) := by decide +kernel
theorem dX0_law_12 : decode cX0_law 12 = .ok (.getfield 37, 3) := by decide +kernel
theorem dX0_law_15 : decode cX0_law 15 = .ok (.areturn, 1) := by decide +kernel
theorem dX0_addWheel_0 : decode cX0_addWheel 0 = .ok (.aload_n 0, 1) := by decide +kernel
theorem dX0_addWheel_1 : decode cX0_addWheel 1 = .ok (.getfield 57, 3) := by decide +kernel
theorem dX0_addWheel_4 : decode cX0_addWheel 4 = .ok (.bipush 8, 2) := by decide +kernel
theorem dX0_addWheel_6 : decode cX0_addWheel 6 = .ok (.if_icmp .ge 72, 3) := by decide +kernel
theorem dX0_addWheel_9 : decode cX0_addWheel 9 = .ok (.aload_n 0, 1) := by decide +kernel
theorem dX0_addWheel_10 : decode cX0_addWheel 10 = .ok (.getfield 26, 3) := by decide +kernel
theorem dX0_addWheel_13 : decode cX0_addWheel 13 = .ok (.aload_n 0, 1) := by decide +kernel
theorem dX0_addWheel_14 : decode cX0_addWheel 14 = .ok (.getfield 57, 3) := by decide +kernel
theorem dX0_addWheel_17 : decode cX0_addWheel 17 = .ok (.aaload, 1) := by decide +kernel
theorem dX0_addWheel_18 : decode cX0_addWheel 18 = .ok (.astore 4, 2) := by decide +kernel
theorem dX0_addWheel_20 : decode cX0_addWheel 20 = .ok (.aload 4, 2) := by decide +kernel
theorem dX0_addWheel_22 : decode cX0_addWheel 22 = .ok (.iload_n 1, 1) := by decide +kernel
theorem dX0_addWheel_23 : decode cX0_addWheel 23 = .ok (.bipush 10, 2) := by decide +kernel
theorem dX0_addWheel_25 : decode cX0_addWheel 25 = .ok (.idiv, 1) := by decide +kernel
theorem dX0_addWheel_26 : decode cX0_addWheel 26 = .ok (.putfield 78, 3) := by decide +kernel
theorem dX0_addWheel_29 : decode cX0_addWheel 29 = .ok (.aload 4, 2) := by decide +kernel
theorem dX0_addWheel_31 : decode cX0_addWheel 31 = .ok (.iload_n 1, 1) := by decide +kernel
theorem dX0_addWheel_32 : decode cX0_addWheel 32 = .ok (.bipush 10, 2) := by decide +kernel
theorem dX0_addWheel_34 : decode cX0_addWheel 34 = .ok (.irem, 1) := by decide +kernel
theorem dX0_addWheel_35 : decode cX0_addWheel 35 = .ok (.putfield 81, 3) := by decide +kernel
theorem dX0_addWheel_38 : decode cX0_addWheel 38 = .ok (.aload 4, 2) := by decide +kernel
theorem dX0_addWheel_40 : decode cX0_addWheel 40 = .ok (.iload_n 2, 1) := by decide +kernel
theorem dX0_addWheel_41 : decode cX0_addWheel 41 = .ok (.putfield 84, 3) := by decide +kernel
theorem dX0_addWheel_44 : decode cX0_addWheel 44 = .ok (.aload 4, 2) := by decide +kernel
theorem dX0_addWheel_46 : decode cX0_addWheel 46 = .ok (.iload_n 3, 1) := by decide +kernel
theorem dX0_addWheel_47 : decode cX0_addWheel 47 = .ok (.putfield 87, 3) := by decide +kernel
theorem dX0_addWheel_50 : decode cX0_addWheel 50 = .ok (.aload 4, 2) := by decide +kernel
theorem dX0_addWheel_52 : decode cX0_addWheel 52 = .ok (.iconst 1, 1) := by decide +kernel
theorem dX0_addWheel_53 : decode cX0_addWheel 53 = .ok (.putfield 90, 3) := by decide +kernel
theorem dX0_addWheel_56 : decode cX0_addWheel 56 = .ok (.aload 4, 2) := by decide +kernel
theorem dX0_addWheel_58 : decode cX0_addWheel 58 = .ok (.iconst 0, 1) := by decide +kernel
theorem dX0_addWheel_59 : decode cX0_addWheel 59 = .ok (.putfield 93, 3) := by decide +kernel
theorem dX0_addWheel_62 : decode cX0_addWheel 62 = .ok (.aload 4, 2) := by decide +kernel
theorem dX0_addWheel_64 : decode cX0_addWheel 64 = .ok (.iconst 0, 1) := by decide +kernel
theorem dX0_addWheel_65 : decode cX0_addWheel 65 = .ok (.putfield 96, 3) := by decide +kernel
theorem dX0_addWheel_68 : decode cX0_addWheel 68 = .ok (.aload_n 0, 1) := by decide +kernel
theorem dX0_addWheel_69 : decode cX0_addWheel 69 = .ok (.dup, 1) := by decide +kernel
theorem dX0_addWheel_70 : decode cX0_addWheel 70 = .ok (.getfield 57, 3) := by decide +kernel
theorem dX0_addWheel_73 : decode cX0_addWheel 73 = .ok (.iconst 1, 1) := by decide +kernel
theorem dX0_addWheel_74 : decode cX0_addWheel 74 = .ok (.iadd, 1) := by decide +kernel
theorem dX0_addWheel_75 : decode cX0_addWheel 75 = .ok (.putfield 57, 3) := by decide +kernel
theorem dX0_addWheel_78 : decode cX0_addWheel 78 = .ok (.return_, 1) := by decide +kernel
theorem dX0_openOnly_0 : decode cX0_openOnly 0 = .ok (.iconst 0, 1) := by decide +kernel
theorem dX0_openOnly_1 : decode cX0_openOnly 1 = .ok (.istore_n 2, 1) := by decide +kernel
theorem dX0_openOnly_2 : decode cX0_openOnly 2 = .ok (.iload_n 2, 1) := by decide +kernel
theorem dX0_openOnly_3 : decode cX0_openOnly 3 = .ok (.aload_n 0, 1) := by decide +kernel
theorem dX0_openOnly_4 : decode cX0_openOnly 4 = .ok (.getfield 57, 3) := by decide +kernel
theorem dX0_openOnly_7 : decode cX0_openOnly 7 = .ok (.if_icmp .ge 23, 3) := by decide +kernel
theorem dX0_openOnly_10 : decode cX0_openOnly 10 = .ok (.aload_n 0, 1) := by decide +kernel
theorem dX0_openOnly_11 : decode cX0_openOnly 11 = .ok (.getfield 26, 3) := by decide +kernel
theorem dX0_openOnly_14 : decode cX0_openOnly 14 = .ok (.iload_n 2, 1) := by decide +kernel
theorem dX0_openOnly_15 : decode cX0_openOnly 15 = .ok (.aaload, 1) := by decide +kernel
theorem dX0_openOnly_16 : decode cX0_openOnly 16 = .ok (.iload_n 1, 1) := by decide +kernel
theorem dX0_openOnly_17 : decode cX0_openOnly 17 = .ok (.iload_n 2, 1) := by decide +kernel
theorem dX0_openOnly_18 : decode cX0_openOnly 18 = .ok (.ishr, 1) := by decide +kernel
theorem dX0_openOnly_19 : decode cX0_openOnly 19 = .ok (.iconst 1, 1) := by decide +kernel
theorem dX0_openOnly_20 : decode cX0_openOnly 20 = .ok (.iand, 1) := by decide +kernel
theorem dX0_openOnly_21 : decode cX0_openOnly 21 = .ok (.putfield 90, 3) := by decide +kernel
theorem dX0_openOnly_24 : decode cX0_openOnly 24 = .ok (.iinc 2 1, 3) := by decide +kernel
theorem dX0_openOnly_27 : decode cX0_openOnly 27 = .ok (.goto (-25), 3) := by decide +kernel
theorem dX0_openOnly_30 : decode cX0_openOnly 30 = .ok (.return_, 1) := by decide +kernel
theorem dX0_forceNow_0 : decode cX0_forceNow 0 = .ok (.aload_n 0, 1) := by decide +kernel
theorem dX0_forceNow_1 : decode cX0_forceNow 1 = .ok (.getfield 9, 3) := by decide +kernel
theorem dX0_forceNow_4 : decode cX0_forceNow 4 = .ok (.aload_n 0, 1) := by decide +kernel
theorem dX0_forceNow_5 : decode cX0_forceNow 5 = .ok (.getfield 72, 3) := by decide +kernel
theorem dX0_forceNow_8 : decode cX0_forceNow 8 = .ok (.bipush 24, 2) := by decide +kernel
theorem dX0_forceNow_10 : decode cX0_forceNow 10 = .ok (.irem, 1) := by decide +kernel
theorem dX0_forceNow_11 : decode cX0_forceNow 11 = .ok (.iaload, 1) := by decide +kernel
theorem dX0_forceNow_12 : decode cX0_forceNow 12 = .ok (.ireturn, 1) := by decide +kernel
theorem dX0_letFlow_0 : decode cX0_letFlow 0 = .ok (.aload_n 0, 1) := by decide +kernel
theorem dX0_letFlow_1 : decode cX0_letFlow 1 = .ok (.invokevirtual 99, 3) := by decide +kernel
theorem dX0_letFlow_4 : decode cX0_letFlow 4 = .ok (.istore_n 1, 1) := by decide +kernel
theorem dX0_letFlow_5 : decode cX0_letFlow 5 = .ok (.aload_n 0, 1) := by decide +kernel
theorem dX0_letFlow_6 : decode cX0_letFlow 6 = .ok (.iconst 0, 1) := by decide +kernel
theorem dX0_letFlow_7 : decode cX0_letFlow 7 = .ok (.putfield 103, 3) := by decide +kernel
theorem dX0_letFlow_10 : decode cX0_letFlow 10 = .ok (.iconst 0, 1) := by decide +kernel
theorem dX0_letFlow_11 : decode cX0_letFlow 11 = .ok (.istore_n 2, 1) := by decide +kernel
theorem dX0_letFlow_12 : decode cX0_letFlow 12 = .ok (.iload_n 2, 1) := by decide +kernel
theorem dX0_letFlow_13 : decode cX0_letFlow 13 = .ok (.bipush 12, 2) := by decide +kernel
theorem dX0_letFlow_15 : decode cX0_letFlow 15 = .ok (.if_icmp .ge 97, 3) := by decide +kernel
theorem dX0_letFlow_18 : decode cX0_letFlow 18 = .ok (.aload_n 0, 1) := by decide +kernel
theorem dX0_letFlow_19 : decode cX0_letFlow 19 = .ok (.getfield 43, 3) := by decide +kernel
theorem dX0_letFlow_22 : decode cX0_letFlow 22 = .ok (.iload_n 2, 1) := by decide +kernel
theorem dX0_letFlow_23 : decode cX0_letFlow 23 = .ok (.iload_n 1, 1) := by decide +kernel
theorem dX0_letFlow_24 : decode cX0_letFlow 24 = .ok (.iastore, 1) := by decide +kernel
theorem dX0_letFlow_25 : decode cX0_letFlow 25 = .ok (.iload_n 1, 1) := by decide +kernel
theorem dX0_letFlow_26 : decode cX0_letFlow 26 = .ok (.aload_n 0, 1) := by decide +kernel
theorem dX0_letFlow_27 : decode cX0_letFlow 27 = .ok (.getfield 15, 3) := by decide +kernel
theorem dX0_letFlow_30 : decode cX0_letFlow 30 = .ok (.iload_n 2, 1) := by decide +kernel
theorem dX0_letFlow_31 : decode cX0_letFlow 31 = .ok (.iaload, 1) := by decide +kernel
theorem dX0_letFlow_32 : decode cX0_letFlow 32 = .ok (.invokestatic 106, 3) := by decide +kernel
theorem dX0_letFlow_35 : decode cX0_letFlow 35 = .ok (.istore_n 3, 1) := by decide +kernel
theorem dX0_letFlow_36 : decode cX0_letFlow 36 = .ok (.aload_n 0, 1) := by decide +kernel
theorem dX0_letFlow_37 : decode cX0_letFlow 37 = .ok (.dup, 1) := by decide +kernel
theorem dX0_letFlow_38 : decode cX0_letFlow 38 = .ok (.getfield 103, 3) := by decide +kernel
theorem dX0_letFlow_41 : decode cX0_letFlow 41 = .ok (.iload_n 3, 1) := by decide +kernel
theorem dX0_letFlow_42 : decode cX0_letFlow 42 = .ok (.iadd, 1) := by decide +kernel
theorem dX0_letFlow_43 : decode cX0_letFlow 43 = .ok (.putfield 103, 3) := by decide +kernel
theorem dX0_letFlow_46 : decode cX0_letFlow 46 = .ok (.iload_n 1, 1) := by decide +kernel
theorem dX0_letFlow_47 : decode cX0_letFlow 47 = .ok (.iload_n 3, 1) := by decide +kernel
theorem dX0_letFlow_48 : decode cX0_letFlow 48 = .ok (.isub, 1) := by decide +kernel
theorem dX0_letFlow_49 : decode cX0_letFlow 49 = .ok (.istore_n 1, 1) := by decide +kernel
theorem dX0_letFlow_50 : decode cX0_letFlow 50 = .ok (.iconst 0, 1) := by decide +kernel
theorem dX0_letFlow_51 : decode cX0_letFlow 51 = .ok (.istore 4, 2) := by decide +kernel
theorem dX0_letFlow_53 : decode cX0_letFlow 53 = .ok (.iload 4, 2) := by decide +kernel
theorem dX0_letFlow_55 : decode cX0_letFlow 55 = .ok (.aload_n 0, 1) := by decide +kernel
theorem dX0_letFlow_56 : decode cX0_letFlow 56 = .ok (.getfield 57, 3) := by decide +kernel
theorem dX0_letFlow_59 : decode cX0_letFlow 59 = .ok (.if_icmp .ge 47, 3) := by decide +kernel
theorem dX0_letFlow_62 : decode cX0_letFlow 62 = .ok (.aload_n 0, 1) := by decide +kernel
theorem dX0_letFlow_63 : decode cX0_letFlow 63 = .ok (.getfield 26, 3) := by decide +kernel
theorem dX0_letFlow_66 : decode cX0_letFlow 66 = .ok (.iload 4, 2) := by decide +kernel
theorem dX0_letFlow_68 : decode cX0_letFlow 68 = .ok (.aaload, 1) := by decide +kernel
theorem dX0_letFlow_69 : decode cX0_letFlow 69 = .ok (.astore 5, 2) := by decide +kernel
theorem dX0_letFlow_71 : decode cX0_letFlow 71 = .ok (.aload 5, 2) := by decide +kernel
theorem dX0_letFlow_73 : decode cX0_letFlow 73 = .ok (.getfield 84, 3) := by decide +kernel
theorem dX0_letFlow_76 : decode cX0_letFlow 76 = .ok (.iload_n 2, 1) := by decide +kernel
theorem dX0_letFlow_77 : decode cX0_letFlow 77 = .ok (.if_icmp .ne 23, 3) := by decide +kernel
theorem dX0_letFlow_80 : decode cX0_letFlow 80 = .ok (.aload 5, 2) := by decide +kernel
theorem dX0_letFlow_82 : decode cX0_letFlow 82 = .ok (.aload_n 0, 1) := by decide +kernel
theorem dX0_letFlow_83 : decode cX0_letFlow 83 = .ok (.aload 5, 2) := by decide +kernel
theorem dX0_letFlow_85 : decode cX0_letFlow 85 = .ok (.iload_n 1, 1) := by decide +kernel
theorem dX0_letFlow_86 : decode cX0_letFlow 86 = .ok (.invokevirtual 112, 3) := by decide +kernel
theorem dX0_letFlow_89 : decode cX0_letFlow 89 = .ok (.putfield 116, 3) := by decide +kernel
theorem dX0_letFlow_92 : decode cX0_letFlow 92 = .ok (.iload_n 1, 1) := by decide +kernel
theorem dX0_letFlow_93 : decode cX0_letFlow 93 = .ok (.aload 5, 2) := by decide +kernel
theorem dX0_letFlow_95 : decode cX0_letFlow 95 = .ok (.getfield 116, 3) := by decide +kernel
theorem dX0_letFlow_98 : decode cX0_letFlow 98 = .ok (.isub, 1) := by decide +kernel
theorem dX0_letFlow_99 : decode cX0_letFlow 99 = .ok (.istore_n 1, 1) := by decide +kernel
theorem dX0_letFlow_100 : decode cX0_letFlow 100 = .ok (.iinc 4 1, 3) := by decide +kernel
theorem dX0_letFlow_103 : decode cX0_letFlow 103 = .ok (.goto (-50), 3) := by decide +kernel
theorem dX0_letFlow_106 : decode cX0_letFlow 106 = .ok (.iinc 2 1, 3) := by decide +kernel
theorem dX0_letFlow_109 : decode cX0_letFlow 109 = .ok (.goto (-97), 3) := by decide +kernel
theorem dX0_letFlow_112 : decode cX0_letFlow 112 = .ok (.aload_n 0, 1) := by decide +kernel
theorem dX0_letFlow_113 : decode cX0_letFlow 113 = .ok (.iload_n 1, 1) := by decide +kernel
theorem dX0_letFlow_114 : decode cX0_letFlow 114 = .ok (.putfield 119, 3) := by decide +kernel
theorem dX0_letFlow_117 : decode cX0_letFlow 117 = .ok (.return_, 1) := by decide +kernel
theorem dX0_wants_0 : decode cX0_wants 0 = .ok (.aload_n 1, 1) := by decide +kernel
theorem dX0_wants_1 : decode cX0_wants 1 = .ok (.getfield 90, 3) := by decide +kernel
theorem dX0_wants_4 : decode cX0_wants 4 = .ok (.ifCond .eq 14, 3) := by decide +kernel
theorem dX0_wants_7 : decode cX0_wants 7 = .ok (.aload_n 1, 1) := by decide +kernel
theorem dX0_wants_8 : decode cX0_wants 8 = .ok (.getfield 81, 3) := by decide +kernel
theorem dX0_wants_11 : decode cX0_wants 11 = .ok (.aload_n 0, 1) := by decide +kernel
theorem dX0_wants_12 : decode cX0_wants 12 = .ok (.getfield 75, 3) := by decide +kernel
theorem dX0_wants_15 : decode cX0_wants 15 = .ok (.if_icmp .ge 5, 3) := by decide +kernel
theorem dX0_wants_18 : decode cX0_wants 18 = .ok (.iconst 0, 1) := by decide +kernel
theorem dX0_wants_19 : decode cX0_wants 19 = .ok (.ireturn, 1) := by decide +kernel
theorem dX0_wants_20 : decode cX0_wants 20 = .ok (.aload_n 1, 1) := by decide +kernel
theorem dX0_wants_21 : decode cX0_wants 21 = .ok (.getfield 78, 3) := by decide +kernel
theorem dX0_wants_24 : decode cX0_wants 24 = .ok (.tableswitch 87 1 6 #[40, 54, 64, 40, 64, 75], 40) := by decide +kernel
theorem dX0_wants_64 : decode cX0_wants 64 = .ok (.iload_n 2, 1) := by decide +kernel
theorem dX0_wants_65 : decode cX0_wants 65 = .ok (.iconst 3, 1) := by decide +kernel
theorem dX0_wants_66 : decode cX0_wants 66 = .ok (.idiv, 1) := by decide +kernel
theorem dX0_wants_67 : decode cX0_wants 67 = .ok (.aload_n 1, 1) := by decide +kernel
theorem dX0_wants_68 : decode cX0_wants 68 = .ok (.getfield 81, 3) := by decide +kernel
theorem dX0_wants_71 : decode cX0_wants 71 = .ok (.iadd, 1) := by decide +kernel
theorem dX0_wants_72 : decode cX0_wants 72 = .ok (.iconst 0, 1) := by decide +kernel
theorem dX0_wants_73 : decode cX0_wants 73 = .ok (.iload_n 2, 1) := by decide +kernel
theorem dX0_wants_74 : decode cX0_wants 74 = .ok (.invokestatic 122, 3) := by decide +kernel
theorem dX0_wants_77 : decode cX0_wants 77 = .ok (.ireturn, 1) := by decide +kernel
theorem dX0_wants_78 : decode cX0_wants 78 = .ok (.aload_n 1, 1) := by decide +kernel
theorem dX0_wants_79 : decode cX0_wants 79 = .ok (.getfield 81, 3) := by decide +kernel
theorem dX0_wants_82 : decode cX0_wants 82 = .ok (.iconst 0, 1) := by decide +kernel
theorem dX0_wants_83 : decode cX0_wants 83 = .ok (.iload_n 2, 1) := by decide +kernel
theorem dX0_wants_84 : decode cX0_wants 84 = .ok (.invokestatic 122, 3) := by decide +kernel
theorem dX0_wants_87 : decode cX0_wants 87 = .ok (.ireturn, 1) := by decide +kernel
theorem dX0_wants_88 : decode cX0_wants 88 = .ok (.iload_n 2, 1) := by decide +kernel
theorem dX0_wants_89 : decode cX0_wants 89 = .ok (.iconst 3, 1) := by decide +kernel
theorem dX0_wants_90 : decode cX0_wants 90 = .ok (.idiv, 1) := by decide +kernel
theorem dX0_wants_91 : decode cX0_wants 91 = .ok (.iconst 2, 1) := by decide +kernel
theorem dX0_wants_92 : decode cX0_wants 92 = .ok (.imul, 1) := by decide +kernel
theorem dX0_wants_93 : decode cX0_wants 93 = .ok (.iconst 0, 1) := by decide +kernel
theorem dX0_wants_94 : decode cX0_wants 94 = .ok (.iload_n 2, 1) := by decide +kernel
theorem dX0_wants_95 : decode cX0_wants 95 = .ok (.invokestatic 122, 3) := by decide +kernel
theorem dX0_wants_98 : decode cX0_wants 98 = .ok (.ireturn, 1) := by decide +kernel
theorem dX0_wants_99 : decode cX0_wants 99 = .ok (.aload_n 0, 1) := by decide +kernel
theorem dX0_wants_100 : decode cX0_wants 100 = .ok (.aload_n 1, 1) := by decide +kernel
theorem dX0_wants_101 : decode cX0_wants 101 = .ok (.iload_n 2, 1) := by decide +kernel
theorem dX0_wants_102 : decode cX0_wants 102 = .ok (.invokevirtual 126, 3) := by decide +kernel
theorem dX0_wants_105 : decode cX0_wants 105 = .ok (.iconst 0, 1) := by decide +kernel
theorem dX0_wants_106 : decode cX0_wants 106 = .ok (.iload_n 2, 1) := by decide +kernel
theorem dX0_wants_107 : decode cX0_wants 107 = .ok (.invokestatic 122, 3) := by decide +kernel
theorem dX0_wants_110 : decode cX0_wants 110 = .ok (.ireturn, 1) := by decide +kernel
theorem dX0_wants_111 : decode cX0_wants 111 = .ok (.iload_n 2, 1) := by decide +kernel
theorem dX0_wants_112 : decode cX0_wants 112 = .ok (.iconst 3, 1) := by decide +kernel
theorem dX0_wants_113 : decode cX0_wants 113 = .ok (.idiv, 1) := by decide +kernel
theorem dX0_wants_114 : decode cX0_wants 114 = .ok (.iconst 0, 1) := by decide +kernel
theorem dX0_wants_115 : decode cX0_wants 115 = .ok (.iload_n 2, 1) := by decide +kernel
theorem dX0_wants_116 : decode cX0_wants 116 = .ok (.invokestatic 122, 3) := by decide +kernel
theorem dX0_wants_119 : decode cX0_wants 119 = .ok (.ireturn, 1) := by decide +kernel
theorem dX0_toldTakes_0 : decode cX0_toldTakes 0 = .ok (.aload_n 0, 1) := by decide +kernel
theorem dX0_toldTakes_1 : decode cX0_toldTakes 1 = .ok (.getfield 33, 3) := by decide +kernel
theorem dX0_toldTakes_4 : decode cX0_toldTakes 4 = .ok (.getfield 67, 3) := by decide +kernel
theorem dX0_toldTakes_7 : decode cX0_toldTakes 7 = .ok (.ifCond .ne 7, 3) := by decide +kernel
theorem dX0_toldTakes_10 : decode cX0_toldTakes 10 = .ok (.iload_n 2, 1) := by decide +kernel
theorem dX0_toldTakes_11 : decode cX0_toldTakes 11 = .ok (.iconst 2, 1) := by decide +kernel
theorem dX0_toldTakes_12 : decode cX0_toldTakes 12 = .ok (.idiv, 1) := by decide +kernel
theorem dX0_toldTakes_13 : decode cX0_toldTakes 13 = .ok (.ireturn, 1) := by decide +kernel
theorem dX0_toldTakes_14 : decode cX0_toldTakes 14 = .ok (.aload_n 0, 1) := by decide +kernel
theorem dX0_toldTakes_15 : decode cX0_toldTakes 15 = .ok (.getfield 40, 3) := by decide +kernel
theorem dX0_toldTakes_18 : decode cX0_toldTakes 18 = .ok (.iconst 0, 1) := by decide +kernel
theorem dX0_toldTakes_19 : decode cX0_toldTakes 19 = .ok (.iload_n 2, 1) := by decide +kernel
theorem dX0_toldTakes_20 : decode cX0_toldTakes 20 = .ok (.iastore, 1) := by decide +kernel
theorem dX0_toldTakes_21 : decode cX0_toldTakes 21 = .ok (.aload_n 0, 1) := by decide +kernel
theorem dX0_toldTakes_22 : decode cX0_toldTakes 22 = .ok (.getfield 40, 3) := by decide +kernel
theorem dX0_toldTakes_25 : decode cX0_toldTakes 25 = .ok (.iconst 1, 1) := by decide +kernel
theorem dX0_toldTakes_26 : decode cX0_toldTakes 26 = .ok (.aload_n 1, 1) := by decide +kernel
theorem dX0_toldTakes_27 : decode cX0_toldTakes 27 = .ok (.getfield 84, 3) := by decide +kernel
theorem dX0_toldTakes_30 : decode cX0_toldTakes 30 = .ok (.iastore, 1) := by decide +kernel
theorem dX0_toldTakes_31 : decode cX0_toldTakes 31 = .ok (.aload_n 0, 1) := by decide +kernel
theorem dX0_toldTakes_32 : decode cX0_toldTakes 32 = .ok (.getfield 40, 3) := by decide +kernel
theorem dX0_toldTakes_35 : decode cX0_toldTakes 35 = .ok (.iconst 2, 1) := by decide +kernel
theorem dX0_toldTakes_36 : decode cX0_toldTakes 36 = .ok (.aload_n 0, 1) := by decide +kernel
theorem dX0_toldTakes_37 : decode cX0_toldTakes 37 = .ok (.getfield 72, 3) := by decide +kernel
theorem dX0_toldTakes_40 : decode cX0_toldTakes 40 = .ok (.bipush 24, 2) := by decide +kernel
theorem dX0_toldTakes_42 : decode cX0_toldTakes 42 = .ok (.irem, 1) := by decide +kernel
theorem dX0_toldTakes_43 : decode cX0_toldTakes 43 = .ok (.iastore, 1) := by decide +kernel
theorem dX0_toldTakes_44 : decode cX0_toldTakes 44 = .ok (.aload_n 0, 1) := by decide +kernel
theorem dX0_toldTakes_45 : decode cX0_toldTakes 45 = .ok (.getfield 40, 3) := by decide +kernel
theorem dX0_toldTakes_48 : decode cX0_toldTakes 48 = .ok (.iconst 3, 1) := by decide +kernel
theorem dX0_toldTakes_49 : decode cX0_toldTakes 49 = .ok (.aload_n 1, 1) := by decide +kernel
theorem dX0_toldTakes_50 : decode cX0_toldTakes 50 = .ok (.getfield 81, 3) := by decide +kernel
theorem dX0_toldTakes_53 : decode cX0_toldTakes 53 = .ok (.iastore, 1) := by decide +kernel
theorem dX0_toldTakes_54 : decode cX0_toldTakes 54 = .ok (.aload_n 0, 1) := by decide +kernel
theorem dX0_toldTakes_55 : decode cX0_toldTakes 55 = .ok (.getfield 33, 3) := by decide +kernel
theorem dX0_toldTakes_58 : decode cX0_toldTakes 58 = .ok (.aload_n 0, 1) := by decide +kernel
theorem dX0_toldTakes_59 : decode cX0_toldTakes 59 = .ok (.getfield 40, 3) := by decide +kernel
theorem dX0_toldTakes_62 : decode cX0_toldTakes 62 = .ok (.invokevirtual 129, 3) := by decide +kernel
theorem dX0_toldTakes_65 : decode cX0_toldTakes 65 = .ok (.ireturn, 1) := by decide +kernel
theorem dX0_turnsBy_0 : decode cX0_turnsBy 0 = .ok (.aload_n 1, 1) := by decide +kernel
theorem dX0_turnsBy_1 : decode cX0_turnsBy 1 = .ok (.getfield 78, 3) := by decide +kernel
theorem dX0_turnsBy_4 : decode cX0_turnsBy 4 = .ok (.tableswitch 101 1 6 #[40, 101, 74, 51, 85, 87], 40) := by decide +kernel
theorem dX0_turnsBy_44 : decode cX0_turnsBy 44 = .ok (.iload_n 2, 1) := by decide +kernel
theorem dX0_turnsBy_45 : decode cX0_turnsBy 45 = .ok (.iconst 2, 1) := by decide +kernel
theorem dX0_turnsBy_46 : decode cX0_turnsBy 46 = .ok (.idiv, 1) := by decide +kernel
theorem dX0_turnsBy_47 : decode cX0_turnsBy 47 = .ok (.iconst 0, 1) := by decide +kernel
theorem dX0_turnsBy_48 : decode cX0_turnsBy 48 = .ok (.sipush 9999, 3) := by decide +kernel
theorem dX0_turnsBy_51 : decode cX0_turnsBy 51 = .ok (.invokestatic 122, 3) := by decide +kernel
theorem dX0_turnsBy_54 : decode cX0_turnsBy 54 = .ok (.ireturn, 1) := by decide +kernel
theorem dX0_turnsBy_55 : decode cX0_turnsBy 55 = .ok (.iload_n 2, 1) := by decide +kernel
theorem dX0_turnsBy_56 : decode cX0_turnsBy 56 = .ok (.iconst 2, 1) := by decide +kernel
theorem dX0_turnsBy_57 : decode cX0_turnsBy 57 = .ok (.idiv, 1) := by decide +kernel
theorem dX0_turnsBy_58 : decode cX0_turnsBy 58 = .ok (.ifCond .le 11, 3) := by decide +kernel
theorem dX0_turnsBy_61 : decode cX0_turnsBy 61 = .ok (.iload_n 2, 1) := by decide +kernel
theorem dX0_turnsBy_62 : decode cX0_turnsBy 62 = .ok (.iconst 2, 1) := by decide +kernel
theorem dX0_turnsBy_63 : decode cX0_turnsBy 63 = .ok (.idiv, 1) := by decide +kernel
theorem dX0_turnsBy_64 : decode cX0_turnsBy 64 = .ok (.iconst 1, 1) := by decide +kernel
theorem dX0_turnsBy_65 : decode cX0_turnsBy 65 = .ok (.iadd, 1) := by decide +kernel
theorem dX0_turnsBy_66 : decode cX0_turnsBy 66 = .ok (.goto 4, 3) := by decide +kernel
theorem dX0_turnsBy_69 : decode cX0_turnsBy 69 = .ok (.iconst 0, 1) := by decide +kernel
theorem dX0_turnsBy_70 : decode cX0_turnsBy 70 = .ok (.iconst 0, 1) := by decide +kernel
theorem dX0_turnsBy_71 : decode cX0_turnsBy 71 = .ok (.sipush 9999, 3) := by decide +kernel
theorem dX0_turnsBy_74 : decode cX0_turnsBy 74 = .ok (.invokestatic 122, 3) := by decide +kernel
theorem dX0_turnsBy_77 : decode cX0_turnsBy 77 = .ok (.ireturn, 1) := by decide +kernel
theorem dX0_turnsBy_78 : decode cX0_turnsBy 78 = .ok (.iconst 2, 1) := by decide +kernel
theorem dX0_turnsBy_79 : decode cX0_turnsBy 79 = .ok (.iload_n 2, 1) := by decide +kernel
theorem dX0_turnsBy_80 : decode cX0_turnsBy 80 = .ok (.imul, 1) := by decide +kernel
theorem dX0_turnsBy_81 : decode cX0_turnsBy 81 = .ok (.iconst 0, 1) := by decide +kernel
theorem dX0_turnsBy_82 : decode cX0_turnsBy 82 = .ok (.sipush 9999, 3) := by decide +kernel
theorem dX0_turnsBy_85 : decode cX0_turnsBy 85 = .ok (.invokestatic 122, 3) := by decide +kernel
theorem dX0_turnsBy_88 : decode cX0_turnsBy 88 = .ok (.ireturn, 1) := by decide +kernel
theorem dX0_turnsBy_89 : decode cX0_turnsBy 89 = .ok (.iconst 0, 1) := by decide +kernel
theorem dX0_turnsBy_90 : decode cX0_turnsBy 90 = .ok (.ireturn, 1) := by decide +kernel
theorem dX0_turnsBy_91 : decode cX0_turnsBy 91 = .ok (.aload_n 0, 1) := by decide +kernel
theorem dX0_turnsBy_92 : decode cX0_turnsBy 92 = .ok (.aload_n 1, 1) := by decide +kernel
theorem dX0_turnsBy_93 : decode cX0_turnsBy 93 = .ok (.iload_n 2, 1) := by decide +kernel
theorem dX0_turnsBy_94 : decode cX0_turnsBy 94 = .ok (.invokevirtual 133, 3) := by decide +kernel
theorem dX0_turnsBy_97 : decode cX0_turnsBy 97 = .ok (.iconst 0, 1) := by decide +kernel
theorem dX0_turnsBy_98 : decode cX0_turnsBy 98 = .ok (.sipush 9999, 3) := by decide +kernel
theorem dX0_turnsBy_101 : decode cX0_turnsBy 101 = .ok (.invokestatic 122, 3) := by decide +kernel
theorem dX0_turnsBy_104 : decode cX0_turnsBy 104 = .ok (.ireturn, 1) := by decide +kernel
theorem dX0_turnsBy_105 : decode cX0_turnsBy 105 = .ok (.iload_n 2, 1) := by decide +kernel
theorem dX0_turnsBy_106 : decode cX0_turnsBy 106 = .ok (.iconst 0, 1) := by decide +kernel
theorem dX0_turnsBy_107 : decode cX0_turnsBy 107 = .ok (.sipush 9999, 3) := by decide +kernel
theorem dX0_turnsBy_110 : decode cX0_turnsBy 110 = .ok (.invokestatic 122, 3) := by decide +kernel
theorem dX0_turnsBy_113 : decode cX0_turnsBy 113 = .ok (.ireturn, 1) := by decide +kernel
theorem dX0_toldTurns_0 : decode cX0_toldTurns 0 = .ok (.aload_n 0, 1) := by decide +kernel
theorem dX0_toldTurns_1 : decode cX0_toldTurns 1 = .ok (.getfield 37, 3) := by decide +kernel
theorem dX0_toldTurns_4 : decode cX0_toldTurns 4 = .ok (.getfield 67, 3) := by decide +kernel
theorem dX0_toldTurns_7 : decode cX0_toldTurns 7 = .ok (.ifCond .ne 5, 3) := by decide +kernel
theorem dX0_toldTurns_10 : decode cX0_toldTurns 10 = .ok (.iload_n 2, 1) := by decide +kernel
theorem dX0_toldTurns_11 : decode cX0_toldTurns 11 = .ok (.ireturn, 1) := by decide +kernel
theorem dX0_toldTurns_12 : decode cX0_toldTurns 12 = .ok (.aload_n 0, 1) := by decide +kernel
theorem dX0_toldTurns_13 : decode cX0_toldTurns 13 = .ok (.getfield 40, 3) := by decide +kernel
theorem dX0_toldTurns_16 : decode cX0_toldTurns 16 = .ok (.iconst 0, 1) := by decide +kernel
theorem dX0_toldTurns_17 : decode cX0_toldTurns 17 = .ok (.iload_n 2, 1) := by decide +kernel
theorem dX0_toldTurns_18 : decode cX0_toldTurns 18 = .ok (.iastore, 1) := by decide +kernel
theorem dX0_toldTurns_19 : decode cX0_toldTurns 19 = .ok (.aload_n 0, 1) := by decide +kernel
theorem dX0_toldTurns_20 : decode cX0_toldTurns 20 = .ok (.getfield 40, 3) := by decide +kernel
theorem dX0_toldTurns_23 : decode cX0_toldTurns 23 = .ok (.iconst 1, 1) := by decide +kernel
theorem dX0_toldTurns_24 : decode cX0_toldTurns 24 = .ok (.aload_n 1, 1) := by decide +kernel
theorem dX0_toldTurns_25 : decode cX0_toldTurns 25 = .ok (.getfield 93, 3) := by decide +kernel
theorem dX0_toldTurns_28 : decode cX0_toldTurns 28 = .ok (.iastore, 1) := by decide +kernel
theorem dX0_toldTurns_29 : decode cX0_toldTurns 29 = .ok (.aload_n 0, 1) := by decide +kernel
theorem dX0_toldTurns_30 : decode cX0_toldTurns 30 = .ok (.getfield 40, 3) := by decide +kernel
theorem dX0_toldTurns_33 : decode cX0_toldTurns 33 = .ok (.iconst 2, 1) := by decide +kernel
theorem dX0_toldTurns_34 : decode cX0_toldTurns 34 = .ok (.aload_n 1, 1) := by decide +kernel
theorem dX0_toldTurns_35 : decode cX0_toldTurns 35 = .ok (.getfield 81, 3) := by decide +kernel
theorem dX0_toldTurns_38 : decode cX0_toldTurns 38 = .ok (.iastore, 1) := by decide +kernel
theorem dX0_toldTurns_39 : decode cX0_toldTurns 39 = .ok (.aload_n 0, 1) := by decide +kernel
theorem dX0_toldTurns_40 : decode cX0_toldTurns 40 = .ok (.getfield 40, 3) := by decide +kernel
theorem dX0_toldTurns_43 : decode cX0_toldTurns 43 = .ok (.iconst 3, 1) := by decide +kernel
theorem dX0_toldTurns_44 : decode cX0_toldTurns 44 = .ok (.iconst 0, 1) := by decide +kernel
theorem dX0_toldTurns_45 : decode cX0_toldTurns 45 = .ok (.iastore, 1) := by decide +kernel
theorem dX0_toldTurns_46 : decode cX0_toldTurns 46 = .ok (.aload_n 0, 1) := by decide +kernel
theorem dX0_toldTurns_47 : decode cX0_toldTurns 47 = .ok (.getfield 37, 3) := by decide +kernel
theorem dX0_toldTurns_50 : decode cX0_toldTurns 50 = .ok (.aload_n 0, 1) := by decide +kernel
theorem dX0_toldTurns_51 : decode cX0_toldTurns 51 = .ok (.getfield 40, 3) := by decide +kernel
theorem dX0_toldTurns_54 : decode cX0_toldTurns 54 = .ok (.invokevirtual 129, 3) := by decide +kernel
theorem dX0_toldTurns_57 : decode cX0_toldTurns 57 = .ok (.ireturn, 1) := by decide +kernel
theorem dX0_showsBy_0 : decode cX0_showsBy 0 = .ok (.aload_n 0, 1) := by decide +kernel
theorem dX0_showsBy_1 : decode cX0_showsBy 1 = .ok (.getfield 78, 3) := by decide +kernel
theorem dX0_showsBy_4 : decode cX0_showsBy 4 = .ok (.tableswitch 49 2 5 #[45, 49, 32, 34], 32) := by decide +kernel
theorem dX0_showsBy_36 : decode cX0_showsBy 36 = .ok (.iconst 0, 1) := by decide +kernel
theorem dX0_showsBy_37 : decode cX0_showsBy 37 = .ok (.ireturn, 1) := by decide +kernel
theorem dX0_showsBy_38 : decode cX0_showsBy 38 = .ok (.iconst 2, 1) := by decide +kernel
theorem dX0_showsBy_39 : decode cX0_showsBy 39 = .ok (.iload_n 1, 1) := by decide +kernel
theorem dX0_showsBy_40 : decode cX0_showsBy 40 = .ok (.imul, 1) := by decide +kernel
theorem dX0_showsBy_41 : decode cX0_showsBy 41 = .ok (.iconst 0, 1) := by decide +kernel
theorem dX0_showsBy_42 : decode cX0_showsBy 42 = .ok (.sipush 9999, 3) := by decide +kernel
theorem dX0_showsBy_45 : decode cX0_showsBy 45 = .ok (.invokestatic 122, 3) := by decide +kernel
theorem dX0_showsBy_48 : decode cX0_showsBy 48 = .ok (.ireturn, 1) := by decide +kernel
theorem dX0_showsBy_49 : decode cX0_showsBy 49 = .ok (.iload_n 2, 1) := by decide +kernel
theorem dX0_showsBy_50 : decode cX0_showsBy 50 = .ok (.iconst 2, 1) := by decide +kernel
theorem dX0_showsBy_51 : decode cX0_showsBy 51 = .ok (.idiv, 1) := by decide +kernel
theorem dX0_showsBy_52 : decode cX0_showsBy 52 = .ok (.ireturn, 1) := by decide +kernel
theorem dX0_showsBy_53 : decode cX0_showsBy 53 = .ok (.iload_n 2, 1) := by decide +kernel
theorem dX0_showsBy_54 : decode cX0_showsBy 54 = .ok (.ireturn, 1) := by decide +kernel
theorem dX0_passHour_0 : decode cX0_passHour 0 = .ok (.iconst 0, 1) := by decide +kernel
theorem dX0_passHour_1 : decode cX0_passHour 1 = .ok (.istore_n 1, 1) := by decide +kernel
theorem dX0_passHour_2 : decode cX0_passHour 2 = .ok (.aload_n 0, 1) := by decide +kernel
theorem dX0_passHour_3 : decode cX0_passHour 3 = .ok (.invokevirtual 136, 3) := by decide +kernel
theorem dX0_passHour_6 : decode cX0_passHour 6 = .ok (.iconst 0, 1) := by decide +kernel
theorem dX0_passHour_7 : decode cX0_passHour 7 = .ok (.istore_n 2, 1) := by decide +kernel
theorem dX0_passHour_8 : decode cX0_passHour 8 = .ok (.iload_n 2, 1) := by decide +kernel
theorem dX0_passHour_9 : decode cX0_passHour 9 = .ok (.aload_n 0, 1) := by decide +kernel
theorem dX0_passHour_10 : decode cX0_passHour 10 = .ok (.getfield 57, 3) := by decide +kernel
theorem dX0_passHour_13 : decode cX0_passHour 13 = .ok (.if_icmp .ge 71, 3) := by decide +kernel
theorem dX0_passHour_16 : decode cX0_passHour 16 = .ok (.aload_n 0, 1) := by decide +kernel
theorem dX0_passHour_17 : decode cX0_passHour 17 = .ok (.getfield 26, 3) := by decide +kernel
theorem dX0_passHour_20 : decode cX0_passHour 20 = .ok (.iload_n 2, 1) := by decide +kernel
theorem dX0_passHour_21 : decode cX0_passHour 21 = .ok (.aaload, 1) := by decide +kernel
theorem dX0_passHour_22 : decode cX0_passHour 22 = .ok (.astore_n 3, 1) := by decide +kernel
theorem dX0_passHour_23 : decode cX0_passHour 23 = .ok (.iload_n 1, 1) := by decide +kernel
theorem dX0_passHour_24 : decode cX0_passHour 24 = .ok (.aload_n 3, 1) := by decide +kernel
theorem dX0_passHour_25 : decode cX0_passHour 25 = .ok (.getfield 116, 3) := by decide +kernel
theorem dX0_passHour_28 : decode cX0_passHour 28 = .ok (.iadd, 1) := by decide +kernel
theorem dX0_passHour_29 : decode cX0_passHour 29 = .ok (.istore_n 1, 1) := by decide +kernel
theorem dX0_passHour_30 : decode cX0_passHour 30 = .ok (.aload_n 3, 1) := by decide +kernel
theorem dX0_passHour_31 : decode cX0_passHour 31 = .ok (.aload_n 0, 1) := by decide +kernel
theorem dX0_passHour_32 : decode cX0_passHour 32 = .ok (.aload_n 3, 1) := by decide +kernel
theorem dX0_passHour_33 : decode cX0_passHour 33 = .ok (.aload_n 3, 1) := by decide +kernel
theorem dX0_passHour_34 : decode cX0_passHour 34 = .ok (.getfield 116, 3) := by decide +kernel
theorem dX0_passHour_37 : decode cX0_passHour 37 = .ok (.invokevirtual 139, 3) := by decide +kernel
theorem dX0_passHour_40 : decode cX0_passHour 40 = .ok (.putfield 142, 3) := by decide +kernel
theorem dX0_passHour_43 : decode cX0_passHour 43 = .ok (.aload_n 0, 1) := by decide +kernel
theorem dX0_passHour_44 : decode cX0_passHour 44 = .ok (.aload_n 3, 1) := by decide +kernel
theorem dX0_passHour_45 : decode cX0_passHour 45 = .ok (.aload_n 3, 1) := by decide +kernel
theorem dX0_passHour_46 : decode cX0_passHour 46 = .ok (.getfield 142, 3) := by decide +kernel
theorem dX0_passHour_49 : decode cX0_passHour 49 = .ok (.invokevirtual 144, 3) := by decide +kernel
theorem dX0_passHour_52 : decode cX0_passHour 52 = .ok (.aload_n 3, 1) := by decide +kernel
theorem dX0_passHour_53 : decode cX0_passHour 53 = .ok (.aload_n 3, 1) := by decide +kernel
theorem dX0_passHour_54 : decode cX0_passHour 54 = .ok (.getfield 93, 3) := by decide +kernel
theorem dX0_passHour_57 : decode cX0_passHour 57 = .ok (.aload_n 3, 1) := by decide +kernel
theorem dX0_passHour_58 : decode cX0_passHour 58 = .ok (.aload_n 3, 1) := by decide +kernel
theorem dX0_passHour_59 : decode cX0_passHour 59 = .ok (.getfield 116, 3) := by decide +kernel
theorem dX0_passHour_62 : decode cX0_passHour 62 = .ok (.aload_n 3, 1) := by decide +kernel
theorem dX0_passHour_63 : decode cX0_passHour 63 = .ok (.getfield 142, 3) := by decide +kernel
theorem dX0_passHour_66 : decode cX0_passHour 66 = .ok (.invokestatic 148, 3) := by decide +kernel
theorem dX0_passHour_69 : decode cX0_passHour 69 = .ok (.iadd, 1) := by decide +kernel
theorem dX0_passHour_70 : decode cX0_passHour 70 = .ok (.ldc 152, 2) := by decide +kernel
theorem dX0_passHour_72 : decode cX0_passHour 72 = .ok (.invokestatic 106, 3) := by decide +kernel
theorem dX0_passHour_75 : decode cX0_passHour 75 = .ok (.putfield 93, 3) := by decide +kernel
theorem dX0_passHour_78 : decode cX0_passHour 78 = .ok (.iinc 2 1, 3) := by decide +kernel
theorem dX0_passHour_81 : decode cX0_passHour 81 = .ok (.goto (-73), 3) := by decide +kernel
theorem dX0_passHour_84 : decode cX0_passHour 84 = .ok (.aload_n 0, 1) := by decide +kernel
theorem dX0_passHour_85 : decode cX0_passHour 85 = .ok (.dup, 1) := by decide +kernel
theorem dX0_passHour_86 : decode cX0_passHour 86 = .ok (.getfield 72, 3) := by decide +kernel
theorem dX0_passHour_89 : decode cX0_passHour 89 = .ok (.iconst 1, 1) := by decide +kernel
theorem dX0_passHour_90 : decode cX0_passHour 90 = .ok (.iadd, 1) := by decide +kernel
theorem dX0_passHour_91 : decode cX0_passHour 91 = .ok (.putfield 72, 3) := by decide +kernel
theorem dX0_passHour_94 : decode cX0_passHour 94 = .ok (.iload_n 1, 1) := by decide +kernel
theorem dX0_passHour_95 : decode cX0_passHour 95 = .ok (.ireturn, 1) := by decide +kernel
theorem dX0_passHours_0 : decode cX0_passHours 0 = .ok (.iconst 0, 1) := by decide +kernel
theorem dX0_passHours_1 : decode cX0_passHours 1 = .ok (.istore_n 2, 1) := by decide +kernel
theorem dX0_passHours_2 : decode cX0_passHours 2 = .ok (.iconst 0, 1) := by decide +kernel
theorem dX0_passHours_3 : decode cX0_passHours 3 = .ok (.istore_n 3, 1) := by decide +kernel
theorem dX0_passHours_4 : decode cX0_passHours 4 = .ok (.iload_n 3, 1) := by decide +kernel
theorem dX0_passHours_5 : decode cX0_passHours 5 = .ok (.iload_n 1, 1) := by decide +kernel
theorem dX0_passHours_6 : decode cX0_passHours 6 = .ok (.if_icmp .ge 16, 3) := by decide +kernel
theorem dX0_passHours_9 : decode cX0_passHours 9 = .ok (.iload_n 2, 1) := by decide +kernel
theorem dX0_passHours_10 : decode cX0_passHours 10 = .ok (.aload_n 0, 1) := by decide +kernel
theorem dX0_passHours_11 : decode cX0_passHours 11 = .ok (.invokevirtual 153, 3) := by decide +kernel
theorem dX0_passHours_14 : decode cX0_passHours 14 = .ok (.iadd, 1) := by decide +kernel
theorem dX0_passHours_15 : decode cX0_passHours 15 = .ok (.istore_n 2, 1) := by decide +kernel
theorem dX0_passHours_16 : decode cX0_passHours 16 = .ok (.iinc 3 1, 3) := by decide +kernel
theorem dX0_passHours_19 : decode cX0_passHours 19 = .ok (.goto (-15), 3) := by decide +kernel
theorem dX0_passHours_22 : decode cX0_passHours 22 = .ok (.iload_n 2, 1) := by decide +kernel
theorem dX0_passHours_23 : decode cX0_passHours 23 = .ok (.ireturn, 1) := by decide +kernel
theorem dX0_turnsIn_0 : decode cX0_turnsIn 0 = .ok (.iconst 0, 1) := by decide +kernel
theorem dX0_turnsIn_1 : decode cX0_turnsIn 1 = .ok (.istore 4, 2) := by decide +kernel
theorem dX0_turnsIn_3 : decode cX0_turnsIn 3 = .ok (.iconst 0, 1) := by decide +kernel
theorem dX0_turnsIn_4 : decode cX0_turnsIn 4 = .ok (.istore 5, 2) := by decide +kernel
theorem dX0_turnsIn_6 : decode cX0_turnsIn 6 = .ok (.iload 5, 2) := by decide +kernel
theorem dX0_turnsIn_8 : decode cX0_turnsIn 8 = .ok (.iload_n 1, 1) := by decide +kernel
theorem dX0_turnsIn_9 : decode cX0_turnsIn 9 = .ok (.if_icmp .ge 53, 3) := by decide +kernel
theorem dX0_turnsIn_12 : decode cX0_turnsIn 12 = .ok (.aload_n 0, 1) := by decide +kernel
theorem dX0_turnsIn_13 : decode cX0_turnsIn 13 = .ok (.invokevirtual 153, 3) := by decide +kernel
theorem dX0_turnsIn_16 : decode cX0_turnsIn 16 = .ok (.pop, 1) := by decide +kernel
theorem dX0_turnsIn_17 : decode cX0_turnsIn 17 = .ok (.iload_n 2, 1) := by decide +kernel
theorem dX0_turnsIn_18 : decode cX0_turnsIn 18 = .ok (.istore 6, 2) := by decide +kernel
theorem dX0_turnsIn_20 : decode cX0_turnsIn 20 = .ok (.iload 6, 2) := by decide +kernel
theorem dX0_turnsIn_22 : decode cX0_turnsIn 22 = .ok (.iload_n 3, 1) := by decide +kernel
theorem dX0_turnsIn_23 : decode cX0_turnsIn 23 = .ok (.if_icmp .ge 33, 3) := by decide +kernel
theorem dX0_turnsIn_26 : decode cX0_turnsIn 26 = .ok (.iload 6, 2) := by decide +kernel
theorem dX0_turnsIn_28 : decode cX0_turnsIn 28 = .ok (.aload_n 0, 1) := by decide +kernel
theorem dX0_turnsIn_29 : decode cX0_turnsIn 29 = .ok (.getfield 57, 3) := by decide +kernel
theorem dX0_turnsIn_32 : decode cX0_turnsIn 32 = .ok (.if_icmp .ge 24, 3) := by decide +kernel
theorem dX0_turnsIn_35 : decode cX0_turnsIn 35 = .ok (.iload 4, 2) := by decide +kernel
theorem dX0_turnsIn_37 : decode cX0_turnsIn 37 = .ok (.aload_n 0, 1) := by decide +kernel
theorem dX0_turnsIn_38 : decode cX0_turnsIn 38 = .ok (.getfield 26, 3) := by decide +kernel
theorem dX0_turnsIn_41 : decode cX0_turnsIn 41 = .ok (.iload 6, 2) := by decide +kernel
theorem dX0_turnsIn_43 : decode cX0_turnsIn 43 = .ok (.aaload, 1) := by decide +kernel
theorem dX0_turnsIn_44 : decode cX0_turnsIn 44 = .ok (.getfield 142, 3) := by decide +kernel
theorem dX0_turnsIn_47 : decode cX0_turnsIn 47 = .ok (.iadd, 1) := by decide +kernel
theorem dX0_turnsIn_48 : decode cX0_turnsIn 48 = .ok (.istore 4, 2) := by decide +kernel
theorem dX0_turnsIn_50 : decode cX0_turnsIn 50 = .ok (.iinc 6 1, 3) := by decide +kernel
theorem dX0_turnsIn_53 : decode cX0_turnsIn 53 = .ok (.goto (-33), 3) := by decide +kernel
theorem dX0_turnsIn_56 : decode cX0_turnsIn 56 = .ok (.iinc 5 1, 3) := by decide +kernel
theorem dX0_turnsIn_59 : decode cX0_turnsIn 59 = .ok (.goto (-53), 3) := by decide +kernel
theorem dX0_turnsIn_62 : decode cX0_turnsIn 62 = .ok (.iload 4, 2) := by decide +kernel
theorem dX0_turnsIn_64 : decode cX0_turnsIn 64 = .ok (.ireturn, 1) := by decide +kernel
theorem dX0_turnMore_0 : decode cX0_turnMore 0 = .ok (.aload_n 1, 1) := by decide +kernel
theorem dX0_turnMore_1 : decode cX0_turnMore 1 = .ok (.aload_n 1, 1) := by decide +kernel
theorem dX0_turnMore_2 : decode cX0_turnMore 2 = .ok (.getfield 96, 3) := by decide +kernel
theorem dX0_turnMore_5 : decode cX0_turnMore 5 = .ok (.iload_n 2, 1) := by decide +kernel
theorem dX0_turnMore_6 : decode cX0_turnMore 6 = .ok (.iadd, 1) := by decide +kernel
theorem dX0_turnMore_7 : decode cX0_turnMore 7 = .ok (.ldc 152, 2) := by decide +kernel
theorem dX0_turnMore_9 : decode cX0_turnMore 9 = .ok (.invokestatic 106, 3) := by decide +kernel
theorem dX0_turnMore_12 : decode cX0_turnMore 12 = .ok (.putfield 96, 3) := by decide +kernel
theorem dX0_turnMore_15 : decode cX0_turnMore 15 = .ok (.aload_n 0, 1) := by decide +kernel
theorem dX0_turnMore_16 : decode cX0_turnMore 16 = .ok (.getfield 21, 3) := by decide +kernel
theorem dX0_turnMore_19 : decode cX0_turnMore 19 = .ok (.aload_n 1, 1) := by decide +kernel
theorem dX0_turnMore_20 : decode cX0_turnMore 20 = .ok (.getfield 87, 3) := by decide +kernel
theorem dX0_turnMore_23 : decode cX0_turnMore 23 = .ok (.aload_n 0, 1) := by decide +kernel
theorem dX0_turnMore_24 : decode cX0_turnMore 24 = .ok (.getfield 21, 3) := by decide +kernel
theorem dX0_turnMore_27 : decode cX0_turnMore 27 = .ok (.aload_n 1, 1) := by decide +kernel
theorem dX0_turnMore_28 : decode cX0_turnMore 28 = .ok (.getfield 87, 3) := by decide +kernel
theorem dX0_turnMore_31 : decode cX0_turnMore 31 = .ok (.iaload, 1) := by decide +kernel
theorem dX0_turnMore_32 : decode cX0_turnMore 32 = .ok (.iload_n 2, 1) := by decide +kernel
theorem dX0_turnMore_33 : decode cX0_turnMore 33 = .ok (.iadd, 1) := by decide +kernel
theorem dX0_turnMore_34 : decode cX0_turnMore 34 = .ok (.ldc 152, 2) := by decide +kernel
theorem dX0_turnMore_36 : decode cX0_turnMore 36 = .ok (.invokestatic 106, 3) := by decide +kernel
theorem dX0_turnMore_39 : decode cX0_turnMore 39 = .ok (.iastore, 1) := by decide +kernel
theorem dX0_turnMore_40 : decode cX0_turnMore 40 = .ok (.return_, 1) := by decide +kernel
theorem dX0_drawWeather_0 : decode cX0_drawWeather 0 = .ok (.aload_n 0, 1) := by decide +kernel
theorem dX0_drawWeather_1 : decode cX0_drawWeather 1 = .ok (.aload_n 0, 1) := by decide +kernel
theorem dX0_drawWeather_2 : decode cX0_drawWeather 2 = .ok (.getfield 46, 3) := by decide +kernel
theorem dX0_drawWeather_5 : decode cX0_drawWeather 5 = .ok (.ldc 156, 2) := by decide +kernel
theorem dX0_drawWeather_7 : decode cX0_drawWeather 7 = .ok (.imul, 1) := by decide +kernel
theorem dX0_drawWeather_8 : decode cX0_drawWeather 8 = .ok (.sipush 12345, 3) := by decide +kernel
theorem dX0_drawWeather_11 : decode cX0_drawWeather 11 = .ok (.iadd, 1) := by decide +kernel
theorem dX0_drawWeather_12 : decode cX0_drawWeather 12 = .ok (.putfield 46, 3) := by decide +kernel
theorem dX0_drawWeather_15 : decode cX0_drawWeather 15 = .ok (.aload_n 0, 1) := by decide +kernel
theorem dX0_drawWeather_16 : decode cX0_drawWeather 16 = .ok (.getfield 46, 3) := by decide +kernel
theorem dX0_drawWeather_19 : decode cX0_drawWeather 19 = .ok (.bipush 8, 2) := by decide +kernel
theorem dX0_drawWeather_21 : decode cX0_drawWeather 21 = .ok (.iushr, 1) := by decide +kernel
theorem dX0_drawWeather_22 : decode cX0_drawWeather 22 = .ok (.bipush 16, 2) := by decide +kernel
theorem dX0_drawWeather_24 : decode cX0_drawWeather 24 = .ok (.irem, 1) := by decide +kernel
theorem dX0_drawWeather_25 : decode cX0_drawWeather 25 = .ok (.istore_n 1, 1) := by decide +kernel
theorem dX0_drawWeather_26 : decode cX0_drawWeather 26 = .ok (.iload_n 1, 1) := by decide +kernel
theorem dX0_drawWeather_27 : decode cX0_drawWeather 27 = .ok (.ifCond .ne 9, 3) := by decide +kernel
theorem dX0_drawWeather_30 : decode cX0_drawWeather 30 = .ok (.aload_n 0, 1) := by decide +kernel
theorem dX0_drawWeather_31 : decode cX0_drawWeather 31 = .ok (.invokevirtual 157, 3) := by decide +kernel
theorem dX0_drawWeather_34 : decode cX0_drawWeather 34 = .ok (.iconst 1, 1) := by decide +kernel
theorem dX0_drawWeather_35 : decode cX0_drawWeather 35 = .ok (.ireturn, 1) := by decide +kernel
theorem dX0_drawWeather_36 : decode cX0_drawWeather 36 = .ok (.iload_n 1, 1) := by decide +kernel
theorem dX0_drawWeather_37 : decode cX0_drawWeather 37 = .ok (.iconst 3, 1) := by decide +kernel
theorem dX0_drawWeather_38 : decode cX0_drawWeather 38 = .ok (.if_icmp .gt 21, 3) := by decide +kernel
theorem dX0_drawWeather_41 : decode cX0_drawWeather 41 = .ok (.aload_n 0, 1) := by decide +kernel
theorem dX0_drawWeather_42 : decode cX0_drawWeather 42 = .ok (.aload_n 0, 1) := by decide +kernel
theorem dX0_drawWeather_43 : decode cX0_drawWeather 43 = .ok (.getfield 75, 3) := by decide +kernel
theorem dX0_drawWeather_46 : decode cX0_drawWeather 46 = .ok (.iconst 1, 1) := by decide +kernel
theorem dX0_drawWeather_47 : decode cX0_drawWeather 47 = .ok (.iadd, 1) := by decide +kernel
theorem dX0_drawWeather_48 : decode cX0_drawWeather 48 = .ok (.bipush 9, 2) := by decide +kernel
theorem dX0_drawWeather_50 : decode cX0_drawWeather 50 = .ok (.invokestatic 106, 3) := by decide +kernel
theorem dX0_drawWeather_53 : decode cX0_drawWeather 53 = .ok (.putfield 75, 3) := by decide +kernel
theorem dX0_drawWeather_56 : decode cX0_drawWeather 56 = .ok (.goto 23, 3) := by decide +kernel
theorem dX0_drawWeather_59 : decode cX0_drawWeather 59 = .ok (.iload_n 1, 1) := by decide +kernel
theorem dX0_drawWeather_60 : decode cX0_drawWeather 60 = .ok (.bipush 6, 2) := by decide +kernel
theorem dX0_drawWeather_62 : decode cX0_drawWeather 62 = .ok (.if_icmp .gt 17, 3) := by decide +kernel
theorem dX0_drawWeather_65 : decode cX0_drawWeather 65 = .ok (.aload_n 0, 1) := by decide +kernel
theorem dX0_drawWeather_66 : decode cX0_drawWeather 66 = .ok (.aload_n 0, 1) := by decide +kernel
theorem dX0_drawWeather_67 : decode cX0_drawWeather 67 = .ok (.getfield 75, 3) := by decide +kernel
theorem dX0_drawWeather_70 : decode cX0_drawWeather 70 = .ok (.iconst 1, 1) := by decide +kernel
theorem dX0_drawWeather_71 : decode cX0_drawWeather 71 = .ok (.isub, 1) := by decide +kernel
theorem dX0_drawWeather_72 : decode cX0_drawWeather 72 = .ok (.iconst 0, 1) := by decide +kernel
theorem dX0_drawWeather_73 : decode cX0_drawWeather 73 = .ok (.invokestatic 160, 3) := by decide +kernel
theorem dX0_drawWeather_76 : decode cX0_drawWeather 76 = .ok (.putfield 75, 3) := by decide +kernel
theorem dX0_drawWeather_79 : decode cX0_drawWeather 79 = .ok (.iconst 0, 1) := by decide +kernel
theorem dX0_drawWeather_80 : decode cX0_drawWeather 80 = .ok (.ireturn, 1) := by decide +kernel
theorem dX0_flood_0 : decode cX0_flood 0 = .ok (.iconst 0, 1) := by decide +kernel
theorem dX0_flood_1 : decode cX0_flood 1 = .ok (.istore_n 1, 1) := by decide +kernel
theorem dX0_flood_2 : decode cX0_flood 2 = .ok (.iload_n 1, 1) := by decide +kernel
theorem dX0_flood_3 : decode cX0_flood 3 = .ok (.aload_n 0, 1) := by decide +kernel
theorem dX0_flood_4 : decode cX0_flood 4 = .ok (.getfield 57, 3) := by decide +kernel
theorem dX0_flood_7 : decode cX0_flood 7 = .ok (.if_icmp .ge 41, 3) := by decide +kernel
theorem dX0_flood_10 : decode cX0_flood 10 = .ok (.aload_n 0, 1) := by decide +kernel
theorem dX0_flood_11 : decode cX0_flood 11 = .ok (.getfield 26, 3) := by decide +kernel
theorem dX0_flood_14 : decode cX0_flood 14 = .ok (.iload_n 1, 1) := by decide +kernel
theorem dX0_flood_15 : decode cX0_flood 15 = .ok (.aaload, 1) := by decide +kernel
theorem dX0_flood_16 : decode cX0_flood 16 = .ok (.getfield 90, 3) := by decide +kernel
theorem dX0_flood_19 : decode cX0_flood 19 = .ok (.iconst 1, 1) := by decide +kernel
theorem dX0_flood_20 : decode cX0_flood 20 = .ok (.if_icmp .ne 22, 3) := by decide +kernel
theorem dX0_flood_23 : decode cX0_flood 23 = .ok (.aload_n 0, 1) := by decide +kernel
theorem dX0_flood_24 : decode cX0_flood 24 = .ok (.aload_n 0, 1) := by decide +kernel
theorem dX0_flood_25 : decode cX0_flood 25 = .ok (.getfield 26, 3) := by decide +kernel
theorem dX0_flood_28 : decode cX0_flood 28 = .ok (.iload_n 1, 1) := by decide +kernel
theorem dX0_flood_29 : decode cX0_flood 29 = .ok (.aaload, 1) := by decide +kernel
theorem dX0_flood_30 : decode cX0_flood 30 = .ok (.aload_n 0, 1) := by decide +kernel
theorem dX0_flood_31 : decode cX0_flood 31 = .ok (.getfield 26, 3) := by decide +kernel
theorem dX0_flood_34 : decode cX0_flood 34 = .ok (.iload_n 1, 1) := by decide +kernel
theorem dX0_flood_35 : decode cX0_flood 35 = .ok (.aaload, 1) := by decide +kernel
theorem dX0_flood_36 : decode cX0_flood 36 = .ok (.getfield 81, 3) := by decide +kernel
theorem dX0_flood_39 : decode cX0_flood 39 = .ok (.invokevirtual 144, 3) := by decide +kernel
theorem dX0_flood_42 : decode cX0_flood 42 = .ok (.iinc 1 1, 3) := by decide +kernel
theorem dX0_flood_45 : decode cX0_flood 45 = .ok (.goto (-43), 3) := by decide +kernel
theorem dX0_flood_48 : decode cX0_flood 48 = .ok (.return_, 1) := by decide +kernel
theorem dX0_isPaid_0 : decode cX0_isPaid 0 = .ok (.aload_n 0, 1) := by decide +kernel
theorem dX0_isPaid_1 : decode cX0_isPaid 1 = .ok (.getfield 21, 3) := by decide +kernel
theorem dX0_isPaid_4 : decode cX0_isPaid 4 = .ok (.iload_n 1, 1) := by decide +kernel
theorem dX0_isPaid_5 : decode cX0_isPaid 5 = .ok (.iaload, 1) := by decide +kernel
theorem dX0_isPaid_6 : decode cX0_isPaid 6 = .ok (.aload_n 0, 1) := by decide +kernel
theorem dX0_isPaid_7 : decode cX0_isPaid 7 = .ok (.getfield 18, 3) := by decide +kernel
theorem dX0_isPaid_10 : decode cX0_isPaid 10 = .ok (.iload_n 1, 1) := by decide +kernel
theorem dX0_isPaid_11 : decode cX0_isPaid 11 = .ok (.iaload, 1) := by decide +kernel
theorem dX0_isPaid_12 : decode cX0_isPaid 12 = .ok (.if_icmp .lt 7, 3) := by decide +kernel
theorem dX0_isPaid_15 : decode cX0_isPaid 15 = .ok (.iconst 1, 1) := by decide +kernel
theorem dX0_isPaid_16 : decode cX0_isPaid 16 = .ok (.goto 4, 3) := by decide +kernel
theorem dX0_isPaid_19 : decode cX0_isPaid 19 = .ok (.iconst 0, 1) := by decide +kernel
theorem dX0_isPaid_20 : decode cX0_isPaid 20 = .ok (.ireturn, 1) := by decide +kernel
theorem dX0_allArePaid_0 : decode cX0_allArePaid 0 = .ok (.iconst 0, 1) := by decide +kernel
theorem dX0_allArePaid_1 : decode cX0_allArePaid 1 = .ok (.istore_n 1, 1) := by decide +kernel
theorem dX0_allArePaid_2 : decode cX0_allArePaid 2 = .ok (.iload_n 1, 1) := by decide +kernel
theorem dX0_allArePaid_3 : decode cX0_allArePaid 3 = .ok (.iconst 5, 1) := by decide +kernel
theorem dX0_allArePaid_4 : decode cX0_allArePaid 4 = .ok (.if_icmp .ge 19, 3) := by decide +kernel
theorem dX0_allArePaid_7 : decode cX0_allArePaid 7 = .ok (.aload_n 0, 1) := by decide +kernel
theorem dX0_allArePaid_8 : decode cX0_allArePaid 8 = .ok (.iload_n 1, 1) := by decide +kernel
theorem dX0_allArePaid_9 : decode cX0_allArePaid 9 = .ok (.invokevirtual 163, 3) := by decide +kernel
theorem dX0_allArePaid_12 : decode cX0_allArePaid 12 = .ok (.ifCond .ne 5, 3) := by decide +kernel
theorem dX0_allArePaid_15 : decode cX0_allArePaid 15 = .ok (.iconst 0, 1) := by decide +kernel
theorem dX0_allArePaid_16 : decode cX0_allArePaid 16 = .ok (.ireturn, 1) := by decide +kernel
theorem dX0_allArePaid_17 : decode cX0_allArePaid 17 = .ok (.iinc 1 1, 3) := by decide +kernel
theorem dX0_allArePaid_20 : decode cX0_allArePaid 20 = .ok (.goto (-18), 3) := by decide +kernel
theorem dX0_allArePaid_23 : decode cX0_allArePaid 23 = .ok (.iconst 1, 1) := by decide +kernel
theorem dX0_allArePaid_24 : decode cX0_allArePaid 24 = .ok (.ireturn, 1) := by decide +kernel
theorem dX0_prayedOfAll_0 : decode cX0_prayedOfAll 0 = .ok (.iconst 0, 1) := by decide +kernel
theorem dX0_prayedOfAll_1 : decode cX0_prayedOfAll 1 = .ok (.istore_n 1, 1) := by decide +kernel
theorem dX0_prayedOfAll_2 : decode cX0_prayedOfAll 2 = .ok (.iconst 0, 1) := by decide +kernel
theorem dX0_prayedOfAll_3 : decode cX0_prayedOfAll 3 = .ok (.istore_n 2, 1) := by decide +kernel
theorem dX0_prayedOfAll_4 : decode cX0_prayedOfAll 4 = .ok (.iload_n 2, 1) := by decide +kernel
theorem dX0_prayedOfAll_5 : decode cX0_prayedOfAll 5 = .ok (.iconst 5, 1) := by decide +kernel
theorem dX0_prayedOfAll_6 : decode cX0_prayedOfAll 6 = .ok (.if_icmp .ge 18, 3) := by decide +kernel
theorem dX0_prayedOfAll_9 : decode cX0_prayedOfAll 9 = .ok (.iload_n 1, 1) := by decide +kernel
theorem dX0_prayedOfAll_10 : decode cX0_prayedOfAll 10 = .ok (.aload_n 0, 1) := by decide +kernel
theorem dX0_prayedOfAll_11 : decode cX0_prayedOfAll 11 = .ok (.getfield 21, 3) := by decide +kernel
theorem dX0_prayedOfAll_14 : decode cX0_prayedOfAll 14 = .ok (.iload_n 2, 1) := by decide +kernel
theorem dX0_prayedOfAll_15 : decode cX0_prayedOfAll 15 = .ok (.iaload, 1) := by decide +kernel
theorem dX0_prayedOfAll_16 : decode cX0_prayedOfAll 16 = .ok (.iadd, 1) := by decide +kernel
theorem dX0_prayedOfAll_17 : decode cX0_prayedOfAll 17 = .ok (.istore_n 1, 1) := by decide +kernel
theorem dX0_prayedOfAll_18 : decode cX0_prayedOfAll 18 = .ok (.iinc 2 1, 3) := by decide +kernel
theorem dX0_prayedOfAll_21 : decode cX0_prayedOfAll 21 = .ok (.goto (-17), 3) := by decide +kernel
theorem dX0_prayedOfAll_24 : decode cX0_prayedOfAll 24 = .ok (.iload_n 1, 1) := by decide +kernel
theorem dX0_prayedOfAll_25 : decode cX0_prayedOfAll 25 = .ok (.ireturn, 1) := by decide +kernel
theorem dX0_familyPart_0 : decode cX0_familyPart 0 = .ok (.iload_n 2, 1) := by decide +kernel
theorem dX0_familyPart_1 : decode cX0_familyPart 1 = .ok (.tableswitch 55 0 2 #[27, 34, 41], 27) := by decide +kernel
theorem dX0_familyPart_28 : decode cX0_familyPart 28 = .ok (.aload_n 0, 1) := by decide +kernel
theorem dX0_familyPart_29 : decode cX0_familyPart 29 = .ok (.getfield 18, 3) := by decide +kernel
theorem dX0_familyPart_32 : decode cX0_familyPart 32 = .ok (.iload_n 1, 1) := by decide +kernel
theorem dX0_familyPart_33 : decode cX0_familyPart 33 = .ok (.iaload, 1) := by decide +kernel
theorem dX0_familyPart_34 : decode cX0_familyPart 34 = .ok (.ireturn, 1) := by decide +kernel
theorem dX0_familyPart_35 : decode cX0_familyPart 35 = .ok (.aload_n 0, 1) := by decide +kernel
theorem dX0_familyPart_36 : decode cX0_familyPart 36 = .ok (.getfield 21, 3) := by decide +kernel
theorem dX0_familyPart_39 : decode cX0_familyPart 39 = .ok (.iload_n 1, 1) := by decide +kernel
theorem dX0_familyPart_40 : decode cX0_familyPart 40 = .ok (.iaload, 1) := by decide +kernel
theorem dX0_familyPart_41 : decode cX0_familyPart 41 = .ok (.ireturn, 1) := by decide +kernel
theorem dX0_familyPart_42 : decode cX0_familyPart 42 = .ok (.aload_n 0, 1) := by decide +kernel
theorem dX0_familyPart_43 : decode cX0_familyPart 43 = .ok (.iload_n 1, 1) := by decide +kernel
theorem dX0_familyPart_44 : decode cX0_familyPart 44 = .ok (.invokevirtual 163, 3) := by decide +kernel
theorem dX0_familyPart_47 : decode cX0_familyPart 47 = .ok (.ifCond .eq 7, 3) := by decide +kernel
theorem dX0_familyPart_50 : decode cX0_familyPart 50 = .ok (.iconst 1, 1) := by decide +kernel
theorem dX0_familyPart_51 : decode cX0_familyPart 51 = .ok (.goto 4, 3) := by decide +kernel
theorem dX0_familyPart_54 : decode cX0_familyPart 54 = .ok (.iconst 0, 1) := by decide +kernel
theorem dX0_familyPart_55 : decode cX0_familyPart 55 = .ok (.ireturn, 1) := by decide +kernel
theorem dX0_familyPart_56 : decode cX0_familyPart 56 = .ok (.aload_n 0, 1) := by decide +kernel
theorem dX0_familyPart_57 : decode cX0_familyPart 57 = .ok (.iload_n 1, 1) := by decide +kernel
theorem dX0_familyPart_58 : decode cX0_familyPart 58 = .ok (.invokevirtual 167, 3) := by decide +kernel
theorem dX0_familyPart_61 : decode cX0_familyPart 61 = .ok (.ireturn, 1) := by decide +kernel
theorem dX0_wheelsFor_0 : decode cX0_wheelsFor 0 = .ok (.iconst 0, 1) := by decide +kernel
theorem dX0_wheelsFor_1 : decode cX0_wheelsFor 1 = .ok (.istore_n 2, 1) := by decide +kernel
theorem dX0_wheelsFor_2 : decode cX0_wheelsFor 2 = .ok (.iconst 0, 1) := by decide +kernel
theorem dX0_wheelsFor_3 : decode cX0_wheelsFor 3 = .ok (.istore_n 3, 1) := by decide +kernel
theorem dX0_wheelsFor_4 : decode cX0_wheelsFor 4 = .ok (.iload_n 3, 1) := by decide +kernel
theorem dX0_wheelsFor_5 : decode cX0_wheelsFor 5 = .ok (.aload_n 0, 1) := by decide +kernel
theorem dX0_wheelsFor_6 : decode cX0_wheelsFor 6 = .ok (.getfield 57, 3) := by decide +kernel
theorem dX0_wheelsFor_9 : decode cX0_wheelsFor 9 = .ok (.if_icmp .ge 25, 3) := by decide +kernel
theorem dX0_wheelsFor_12 : decode cX0_wheelsFor 12 = .ok (.aload_n 0, 1) := by decide +kernel
theorem dX0_wheelsFor_13 : decode cX0_wheelsFor 13 = .ok (.getfield 26, 3) := by decide +kernel
theorem dX0_wheelsFor_16 : decode cX0_wheelsFor 16 = .ok (.iload_n 3, 1) := by decide +kernel
theorem dX0_wheelsFor_17 : decode cX0_wheelsFor 17 = .ok (.aaload, 1) := by decide +kernel
theorem dX0_wheelsFor_18 : decode cX0_wheelsFor 18 = .ok (.getfield 87, 3) := by decide +kernel
theorem dX0_wheelsFor_21 : decode cX0_wheelsFor 21 = .ok (.iload_n 1, 1) := by decide +kernel
theorem dX0_wheelsFor_22 : decode cX0_wheelsFor 22 = .ok (.if_icmp .ne 6, 3) := by decide +kernel
theorem dX0_wheelsFor_25 : decode cX0_wheelsFor 25 = .ok (.iinc 2 1, 3) := by decide +kernel
theorem dX0_wheelsFor_28 : decode cX0_wheelsFor 28 = .ok (.iinc 3 1, 3) := by decide +kernel
theorem dX0_wheelsFor_31 : decode cX0_wheelsFor 31 = .ok (.goto (-27), 3) := by decide +kernel
theorem dX0_wheelsFor_34 : decode cX0_wheelsFor 34 = .ok (.iload_n 2, 1) := by decide +kernel
theorem dX0_wheelsFor_35 : decode cX0_wheelsFor 35 = .ok (.ireturn, 1) := by decide +kernel
theorem dX0_wheelPart_0 : decode cX0_wheelPart 0 = .ok (.aload_n 0, 1) := by decide +kernel
theorem dX0_wheelPart_1 : decode cX0_wheelPart 1 = .ok (.getfield 26, 3) := by decide +kernel
theorem dX0_wheelPart_4 : decode cX0_wheelPart 4 = .ok (.iload_n 1, 1) := by decide +kernel
theorem dX0_wheelPart_5 : decode cX0_wheelPart 5 = .ok (.aaload, 1) := by decide +kernel
theorem dX0_wheelPart_6 : decode cX0_wheelPart 6 = .ok (.astore_n 3, 1) := by decide +kernel
theorem dX0_wheelPart_7 : decode cX0_wheelPart 7 = .ok (.iload_n 2, 1) := by decide +kernel
theorem dX0_wheelPart_8 : decode cX0_wheelPart 8 = .ok (.bipush 7, 2) := by decide +kernel
theorem dX0_wheelPart_10 : decode cX0_wheelPart 10 = .ok (.if_icmp .ge 9, 3) := by decide +kernel
theorem dX0_wheelPart_13 : decode cX0_wheelPart 13 = .ok (.aload_n 3, 1) := by decide +kernel
theorem dX0_wheelPart_14 : decode cX0_wheelPart 14 = .ok (.iload_n 2, 1) := by decide +kernel
theorem dX0_wheelPart_15 : decode cX0_wheelPart 15 = .ok (.invokevirtual 171, 3) := by decide +kernel
theorem dX0_wheelPart_18 : decode cX0_wheelPart 18 = .ok (.ireturn, 1) := by decide +kernel
theorem dX0_wheelPart_19 : decode cX0_wheelPart 19 = .ok (.aload_n 0, 1) := by decide +kernel
theorem dX0_wheelPart_20 : decode cX0_wheelPart 20 = .ok (.invokevirtual 136, 3) := by decide +kernel
theorem dX0_wheelPart_23 : decode cX0_wheelPart 23 = .ok (.iload_n 2, 1) := by decide +kernel
theorem dX0_wheelPart_24 : decode cX0_wheelPart 24 = .ok (.bipush 7, 2) := by decide +kernel
theorem dX0_wheelPart_26 : decode cX0_wheelPart 26 = .ok (.if_icmp .ne 8, 3) := by decide +kernel
theorem dX0_wheelPart_29 : decode cX0_wheelPart 29 = .ok (.aload_n 3, 1) := by decide +kernel
theorem dX0_wheelPart_30 : decode cX0_wheelPart 30 = .ok (.getfield 116, 3) := by decide +kernel
theorem dX0_wheelPart_33 : decode cX0_wheelPart 33 = .ok (.ireturn, 1) := by decide +kernel
theorem dX0_wheelPart_34 : decode cX0_wheelPart 34 = .ok (.aload_n 0, 1) := by decide +kernel
theorem dX0_wheelPart_35 : decode cX0_wheelPart 35 = .ok (.aload_n 3, 1) := by decide +kernel
theorem dX0_wheelPart_36 : decode cX0_wheelPart 36 = .ok (.aload_n 3, 1) := by decide +kernel
theorem dX0_wheelPart_37 : decode cX0_wheelPart 37 = .ok (.getfield 116, 3) := by decide +kernel
theorem dX0_wheelPart_40 : decode cX0_wheelPart 40 = .ok (.invokevirtual 139, 3) := by decide +kernel
theorem dX0_wheelPart_43 : decode cX0_wheelPart 43 = .ok (.istore 4, 2) := by decide +kernel
theorem dX0_wheelPart_45 : decode cX0_wheelPart 45 = .ok (.iload_n 2, 1) := by decide +kernel
theorem dX0_wheelPart_46 : decode cX0_wheelPart 46 = .ok (.bipush 8, 2) := by decide +kernel
theorem dX0_wheelPart_48 : decode cX0_wheelPart 48 = .ok (.if_icmp .ne 8, 3) := by decide +kernel
theorem dX0_wheelPart_51 : decode cX0_wheelPart 51 = .ok (.iload 4, 2) := by decide +kernel
theorem dX0_wheelPart_53 : decode cX0_wheelPart 53 = .ok (.goto 13, 3) := by decide +kernel
theorem dX0_wheelPart_56 : decode cX0_wheelPart 56 = .ok (.aload_n 3, 1) := by decide +kernel
theorem dX0_wheelPart_57 : decode cX0_wheelPart 57 = .ok (.aload_n 3, 1) := by decide +kernel
theorem dX0_wheelPart_58 : decode cX0_wheelPart 58 = .ok (.getfield 116, 3) := by decide +kernel
theorem dX0_wheelPart_61 : decode cX0_wheelPart 61 = .ok (.iload 4, 2) := by decide +kernel
theorem dX0_wheelPart_63 : decode cX0_wheelPart 63 = .ok (.invokestatic 148, 3) := by decide +kernel
theorem dX0_wheelPart_66 : decode cX0_wheelPart 66 = .ok (.ireturn, 1) := by decide +kernel
theorem dX1_init_0 : decode cX1_init 0 = .ok (.aload_n 0, 1) := by decide +kernel
theorem dX1_init_1 : decode cX1_init 1 = .ok (.invokespecial 3, 3) := by decide +kernel
theorem dX1_init_4 : decode cX1_init 4 = .ok (.aload_n 0, 1) := by decide +kernel
theorem dX1_init_5 : decode cX1_init 5 = .ok (.bipush 60, 2) := by decide +kernel
theorem dX1_init_7 : decode cX1_init 7 = .ok (.newarray .byte, 2) := by decide +kernel
theorem dX1_init_9 : decode cX1_init 9 = .ok (.putfield 9, 3) := by decide +kernel
theorem dX1_init_12 : decode cX1_init 12 = .ok (.aload_n 0, 1) := by decide +kernel
theorem dX1_init_13 : decode cX1_init 13 = .ok (.bipush 24, 2) := by decide +kernel
theorem dX1_init_15 : decode cX1_init 15 = .ok (.newarray .int, 2) := by decide +kernel
theorem dX1_init_17 : decode cX1_init 17 = .ok (.putfield 15, 3) := by decide +kernel
theorem dX1_init_20 : decode cX1_init 20 = .ok (.return_, 1) := by decide +kernel
theorem dX1_addBytes_0 : decode cX1_addBytes 0 = .ok (.iconst 0, 1) := by decide +kernel
theorem dX1_addBytes_1 : decode cX1_addBytes 1 = .ok (.istore 4, 2) := by decide +kernel
theorem dX1_addBytes_3 : decode cX1_addBytes 3 = .ok (.iload 4, 2) := by decide +kernel
theorem dX1_addBytes_5 : decode cX1_addBytes 5 = .ok (.iload_n 3, 1) := by decide +kernel
theorem dX1_addBytes_6 : decode cX1_addBytes 6 = .ok (.if_icmp .ge 46, 3) := by decide +kernel
theorem dX1_addBytes_9 : decode cX1_addBytes 9 = .ok (.aload_n 0, 1) := by decide +kernel
theorem dX1_addBytes_10 : decode cX1_addBytes 10 = .ok (.getfield 19, 3) := by decide +kernel
theorem dX1_addBytes_13 : decode cX1_addBytes 13 = .ok (.bipush 60, 2) := by decide +kernel
theorem dX1_addBytes_15 : decode cX1_addBytes 15 = .ok (.if_icmp .ge 37, 3) := by decide +kernel
theorem dX1_addBytes_18 : decode cX1_addBytes 18 = .ok (.aload_n 0, 1) := by decide +kernel
theorem dX1_addBytes_19 : decode cX1_addBytes 19 = .ok (.getfield 9, 3) := by decide +kernel
theorem dX1_addBytes_22 : decode cX1_addBytes 22 = .ok (.aload_n 0, 1) := by decide +kernel
theorem dX1_addBytes_23 : decode cX1_addBytes 23 = .ok (.getfield 19, 3) := by decide +kernel
theorem dX1_addBytes_26 : decode cX1_addBytes 26 = .ok (.lload_n 1, 1) := by decide +kernel
theorem dX1_addBytes_27 : decode cX1_addBytes 27 = .ok (.bipush 8, 2) := by decide +kernel
theorem dX1_addBytes_29 : decode cX1_addBytes 29 = .ok (.iload 4, 2) := by decide +kernel
theorem dX1_addBytes_31 : decode cX1_addBytes 31 = .ok (.imul, 1) := by decide +kernel
theorem dX1_addBytes_32 : decode cX1_addBytes 32 = .ok (.lushr, 1) := by decide +kernel
theorem dX1_addBytes_33 : decode cX1_addBytes 33 = .ok (.l2i, 1) := by decide +kernel
theorem dX1_addBytes_34 : decode cX1_addBytes 34 = .ok (.i2b, 1) := by decide +kernel
theorem dX1_addBytes_35 : decode cX1_addBytes 35 = .ok (.bastore, 1) := by decide +kernel
theorem dX1_addBytes_36 : decode cX1_addBytes 36 = .ok (.aload_n 0, 1) := by decide +kernel
theorem dX1_addBytes_37 : decode cX1_addBytes 37 = .ok (.dup, 1) := by decide +kernel
theorem dX1_addBytes_38 : decode cX1_addBytes 38 = .ok (.getfield 19, 3) := by decide +kernel
theorem dX1_addBytes_41 : decode cX1_addBytes 41 = .ok (.iconst 1, 1) := by decide +kernel
theorem dX1_addBytes_42 : decode cX1_addBytes 42 = .ok (.iadd, 1) := by decide +kernel
theorem dX1_addBytes_43 : decode cX1_addBytes 43 = .ok (.putfield 19, 3) := by decide +kernel
theorem dX1_addBytes_46 : decode cX1_addBytes 46 = .ok (.iinc 4 1, 3) := by decide +kernel
theorem dX1_addBytes_49 : decode cX1_addBytes 49 = .ok (.goto (-46), 3) := by decide +kernel
theorem dX1_addBytes_52 : decode cX1_addBytes 52 = .ok (.return_, 1) := by decide +kernel
theorem dX1_copyFrom_0 : decode cX1_copyFrom 0 = .ok (.aload_n 1, 1) := by decide +kernel
theorem dX1_copyFrom_1 : decode cX1_copyFrom 1 = .ok (.getfield 9, 3) := by decide +kernel
theorem dX1_copyFrom_4 : decode cX1_copyFrom 4 = .ok (.iconst 0, 1) := by decide +kernel
theorem dX1_copyFrom_5 : decode cX1_copyFrom 5 = .ok (.aload_n 0, 1) := by decide +kernel
theorem dX1_copyFrom_6 : decode cX1_copyFrom 6 = .ok (.getfield 9, 3) := by decide +kernel
theorem dX1_copyFrom_9 : decode cX1_copyFrom 9 = .ok (.iconst 0, 1) := by decide +kernel
theorem dX1_copyFrom_10 : decode cX1_copyFrom 10 = .ok (.bipush 60, 2) := by decide +kernel
theorem dX1_copyFrom_12 : decode cX1_copyFrom 12 = .ok (.invokestatic 23, 3) := by decide +kernel
theorem dX1_copyFrom_15 : decode cX1_copyFrom 15 = .ok (.aload_n 1, 1) := by decide +kernel
theorem dX1_copyFrom_16 : decode cX1_copyFrom 16 = .ok (.getfield 15, 3) := by decide +kernel
theorem dX1_copyFrom_19 : decode cX1_copyFrom 19 = .ok (.iconst 0, 1) := by decide +kernel
theorem dX1_copyFrom_20 : decode cX1_copyFrom 20 = .ok (.aload_n 0, 1) := by decide +kernel
theorem dX1_copyFrom_21 : decode cX1_copyFrom 21 = .ok (.getfield 15, 3) := by decide +kernel
theorem dX1_copyFrom_24 : decode cX1_copyFrom 24 = .ok (.iconst 0, 1) := by decide +kernel
theorem dX1_copyFrom_25 : decode cX1_copyFrom 25 = .ok (.bipush 24, 2) := by decide +kernel
theorem dX1_copyFrom_27 : decode cX1_copyFrom 27 = .ok (.invokestatic 23, 3) := by decide +kernel
theorem dX1_copyFrom_30 : decode cX1_copyFrom 30 = .ok (.aload_n 0, 1) := by decide +kernel
theorem dX1_copyFrom_31 : decode cX1_copyFrom 31 = .ok (.aload_n 1, 1) := by decide +kernel
theorem dX1_copyFrom_32 : decode cX1_copyFrom 32 = .ok (.getfield 19, 3) := by decide +kernel
theorem dX1_copyFrom_35 : decode cX1_copyFrom 35 = .ok (.putfield 19, 3) := by decide +kernel
theorem dX1_copyFrom_38 : decode cX1_copyFrom 38 = .ok (.aload_n 0, 1) := by decide +kernel
theorem dX1_copyFrom_39 : decode cX1_copyFrom 39 = .ok (.aload_n 1, 1) := by decide +kernel
theorem dX1_copyFrom_40 : decode cX1_copyFrom 40 = .ok (.getfield 29, 3) := by decide +kernel
theorem dX1_copyFrom_43 : decode cX1_copyFrom 43 = .ok (.putfield 29, 3) := by decide +kernel
theorem dX1_copyFrom_46 : decode cX1_copyFrom 46 = .ok (.return_, 1) := by decide +kernel
theorem dX2_init_0 : decode cX2_init 0 = .ok (.aload_n 0, 1) := by decide +kernel
theorem dX2_init_1 : decode cX2_init 1 = .ok (.invokespecial 3, 3) := by decide +kernel
theorem dX2_init_4 : decode cX2_init 4 = .ok (.aload_n 0, 1) := by decide +kernel
theorem dX2_init_5 : decode cX2_init 5 = .ok (.bipush 60, 2) := by decide +kernel
theorem dX2_init_7 : decode cX2_init 7 = .ok (.newarray .int, 2) := by decide +kernel
theorem dX2_init_9 : decode cX2_init 9 = .ok (.putfield 9, 3) := by decide +kernel
theorem dX2_init_12 : decode cX2_init 12 = .ok (.aload_n 0, 1) := by decide +kernel
theorem dX2_init_13 : decode cX2_init 13 = .ok (.bipush 60, 2) := by decide +kernel
theorem dX2_init_15 : decode cX2_init 15 = .ok (.newarray .int, 2) := by decide +kernel
theorem dX2_init_17 : decode cX2_init 17 = .ok (.putfield 15, 3) := by decide +kernel
theorem dX2_init_20 : decode cX2_init 20 = .ok (.return_, 1) := by decide +kernel
theorem dX2_learn_0 : decode cX2_learn 0 = .ok (.iload_n 2, 1) := by decide +kernel
theorem dX2_learn_1 : decode cX2_learn 1 = .ok (.ifCond .lt 31, 3) := by decide +kernel
theorem dX2_learn_4 : decode cX2_learn 4 = .ok (.iload_n 2, 1) := by decide +kernel
theorem dX2_learn_5 : decode cX2_learn 5 = .ok (.bipush 60, 2) := by decide +kernel
theorem dX2_learn_7 : decode cX2_learn 7 = .ok (.if_icmp .gt 25, 3) := by decide +kernel
theorem dX2_learn_10 : decode cX2_learn 10 = .ok (.iload_n 2, 1) := by decide +kernel
theorem dX2_learn_11 : decode cX2_learn 11 = .ok (.aload_n 1, 1) := by decide +kernel
theorem dX2_learn_12 : decode cX2_learn 12 = .ok (.arraylength, 1) := by decide +kernel
theorem dX2_learn_13 : decode cX2_learn 13 = .ok (.if_icmp .gt 19, 3) := by decide +kernel
theorem dX2_learn_16 : decode cX2_learn 16 = .ok (.aload_n 1, 1) := by decide +kernel
theorem dX2_learn_17 : decode cX2_learn 17 = .ok (.iconst 0, 1) := by decide +kernel
theorem dX2_learn_18 : decode cX2_learn 18 = .ok (.aload_n 0, 1) := by decide +kernel
theorem dX2_learn_19 : decode cX2_learn 19 = .ok (.getfield 9, 3) := by decide +kernel
theorem dX2_learn_22 : decode cX2_learn 22 = .ok (.iconst 0, 1) := by decide +kernel
theorem dX2_learn_23 : decode cX2_learn 23 = .ok (.iload_n 2, 1) := by decide +kernel
theorem dX2_learn_24 : decode cX2_learn 24 = .ok (.invokestatic 18, 3) := by decide +kernel
theorem dX2_learn_27 : decode cX2_learn 27 = .ok (.aload_n 0, 1) := by decide +kernel
theorem dX2_learn_28 : decode cX2_learn 28 = .ok (.iload_n 2, 1) := by decide +kernel
theorem dX2_learn_29 : decode cX2_learn 29 = .ok (.putfield 24, 3) := by decide +kernel
theorem dX2_learn_32 : decode cX2_learn 32 = .ok (.return_, 1) := by decide +kernel
theorem dX2_value_0 : decode cX2_value 0 = .ok (.iconst 0, 1) := by decide +kernel
theorem dX2_value_1 : decode cX2_value 1 = .ok (.istore_n 2, 1) := by decide +kernel
theorem dX2_value_2 : decode cX2_value 2 = .ok (.iconst 0, 1) := by decide +kernel
theorem dX2_value_3 : decode cX2_value 3 = .ok (.istore_n 3, 1) := by decide +kernel
theorem dX2_value_4 : decode cX2_value 4 = .ok (.iload_n 3, 1) := by decide +kernel
theorem dX2_value_5 : decode cX2_value 5 = .ok (.aload_n 0, 1) := by decide +kernel
theorem dX2_value_6 : decode cX2_value 6 = .ok (.getfield 24, 3) := by decide +kernel
theorem dX2_value_9 : decode cX2_value 9 = .ok (.if_icmp .ge 144, 3) := by decide +kernel
theorem dX2_value_12 : decode cX2_value 12 = .ok (.iload_n 3, 1) := by decide +kernel
theorem dX2_value_13 : decode cX2_value 13 = .ok (.bipush 60, 2) := by decide +kernel
theorem dX2_value_15 : decode cX2_value 15 = .ok (.if_icmp .ge 138, 3) := by decide +kernel
theorem dX2_value_18 : decode cX2_value 18 = .ok (.aload_n 0, 1) := by decide +kernel
theorem dX2_value_19 : decode cX2_value 19 = .ok (.getfield 9, 3) := by decide +kernel
theorem dX2_value_22 : decode cX2_value 22 = .ok (.iload_n 3, 1) := by decide +kernel
theorem dX2_value_23 : decode cX2_value 23 = .ok (.iaload, 1) := by decide +kernel
theorem dX2_value_24 : decode cX2_value 24 = .ok (.istore 4, 2) := by decide +kernel
theorem dX2_value_26 : decode cX2_value 26 = .ok (.iload 4, 2) := by decide +kernel
theorem dX2_value_28 : decode cX2_value 28 = .ok (.ifCond .lt 44, 3) := by decide +kernel
theorem dX2_value_31 : decode cX2_value 31 = .ok (.iload_n 2, 1) := by decide +kernel
theorem dX2_value_32 : decode cX2_value 32 = .ok (.bipush 60, 2) := by decide +kernel
theorem dX2_value_34 : decode cX2_value 34 = .ok (.if_icmp .ge 113, 3) := by decide +kernel
theorem dX2_value_37 : decode cX2_value 37 = .ok (.aload_n 0, 1) := by decide +kernel
theorem dX2_value_38 : decode cX2_value 38 = .ok (.getfield 15, 3) := by decide +kernel
theorem dX2_value_41 : decode cX2_value 41 = .ok (.iload_n 2, 1) := by decide +kernel
theorem dX2_value_42 : decode cX2_value 42 = .ok (.iload 4, 2) := by decide +kernel
theorem dX2_value_44 : decode cX2_value 44 = .ok (.sipush 10000, 3) := by decide +kernel
theorem dX2_value_47 : decode cX2_value 47 = .ok (.if_icmp .ge 8, 3) := by decide +kernel
theorem dX2_value_50 : decode cX2_value 50 = .ok (.iload 4, 2) := by decide +kernel
theorem dX2_value_52 : decode cX2_value 52 = .ok (.goto 13, 3) := by decide +kernel
theorem dX2_value_55 : decode cX2_value 55 = .ok (.aload_n 1, 1) := by decide +kernel
theorem dX2_value_56 : decode cX2_value 56 = .ok (.iload 4, 2) := by decide +kernel
theorem dX2_value_58 : decode cX2_value 58 = .ok (.sipush 10000, 3) := by decide +kernel
theorem dX2_value_61 : decode cX2_value 61 = .ok (.isub, 1) := by decide +kernel
theorem dX2_value_62 : decode cX2_value 62 = .ok (.invokestatic 28, 3) := by decide +kernel
theorem dX2_value_65 : decode cX2_value 65 = .ok (.iastore, 1) := by decide +kernel
theorem dX2_value_66 : decode cX2_value 66 = .ok (.iinc 2 1, 3) := by decide +kernel
theorem dX2_value_69 : decode cX2_value 69 = .ok (.goto 78, 3) := by decide +kernel
theorem dX2_value_72 : decode cX2_value 72 = .ok (.iload 4, 2) := by decide +kernel
theorem dX2_value_74 : decode cX2_value 74 = .ok (.bipush (-33), 2) := by decide +kernel
theorem dX2_value_76 : decode cX2_value 76 = .ok (.if_icmp .ne 35, 3) := by decide +kernel
theorem dX2_value_79 : decode cX2_value 79 = .ok (.iload_n 2, 1) := by decide +kernel
theorem dX2_value_80 : decode cX2_value 80 = .ok (.iconst 1, 1) := by decide +kernel
theorem dX2_value_81 : decode cX2_value 81 = .ok (.if_icmp .lt 66, 3) := by decide +kernel
theorem dX2_value_84 : decode cX2_value 84 = .ok (.aload_n 0, 1) := by decide +kernel
theorem dX2_value_85 : decode cX2_value 85 = .ok (.getfield 15, 3) := by decide +kernel
theorem dX2_value_88 : decode cX2_value 88 = .ok (.iload_n 2, 1) := by decide +kernel
theorem dX2_value_89 : decode cX2_value 89 = .ok (.iconst 1, 1) := by decide +kernel
theorem dX2_value_90 : decode cX2_value 90 = .ok (.isub, 1) := by decide +kernel
theorem dX2_value_91 : decode cX2_value 91 = .ok (.aload_n 0, 1) := by decide +kernel
theorem dX2_value_92 : decode cX2_value 92 = .ok (.getfield 15, 3) := by decide +kernel
theorem dX2_value_95 : decode cX2_value 95 = .ok (.iload_n 2, 1) := by decide +kernel
theorem dX2_value_96 : decode cX2_value 96 = .ok (.iconst 1, 1) := by decide +kernel
theorem dX2_value_97 : decode cX2_value 97 = .ok (.isub, 1) := by decide +kernel
theorem dX2_value_98 : decode cX2_value 98 = .ok (.iaload, 1) := by decide +kernel
theorem dX2_value_99 : decode cX2_value 99 = .ok (.ifCond .ne 7, 3) := by decide +kernel
theorem dX2_value_102 : decode cX2_value 102 = .ok (.iconst 1, 1) := by decide +kernel
theorem dX2_value_103 : decode cX2_value 103 = .ok (.goto 4, 3) := by decide +kernel
theorem dX2_value_106 : decode cX2_value 106 = .ok (.iconst 0, 1) := by decide +kernel
theorem dX2_value_107 : decode cX2_value 107 = .ok (.iastore, 1) := by decide +kernel
theorem dX2_value_108 : decode cX2_value 108 = .ok (.goto 39, 3) := by decide +kernel
theorem dX2_value_111 : decode cX2_value 111 = .ok (.iload_n 2, 1) := by decide +kernel
theorem dX2_value_112 : decode cX2_value 112 = .ok (.iconst 2, 1) := by decide +kernel
theorem dX2_value_113 : decode cX2_value 113 = .ok (.if_icmp .lt 34, 3) := by decide +kernel
theorem dX2_value_116 : decode cX2_value 116 = .ok (.iinc 2 (-1), 3) := by decide +kernel
theorem dX2_value_119 : decode cX2_value 119 = .ok (.aload_n 0, 1) := by decide +kernel
theorem dX2_value_120 : decode cX2_value 120 = .ok (.getfield 15, 3) := by decide +kernel
theorem dX2_value_123 : decode cX2_value 123 = .ok (.iload_n 2, 1) := by decide +kernel
theorem dX2_value_124 : decode cX2_value 124 = .ok (.iconst 1, 1) := by decide +kernel
theorem dX2_value_125 : decode cX2_value 125 = .ok (.isub, 1) := by decide +kernel
theorem dX2_value_126 : decode cX2_value 126 = .ok (.iload 4, 2) := by decide +kernel
theorem dX2_value_128 : decode cX2_value 128 = .ok (.ineg, 1) := by decide +kernel
theorem dX2_value_129 : decode cX2_value 129 = .ok (.aload_n 0, 1) := by decide +kernel
theorem dX2_value_130 : decode cX2_value 130 = .ok (.getfield 15, 3) := by decide +kernel
theorem dX2_value_133 : decode cX2_value 133 = .ok (.iload_n 2, 1) := by decide +kernel
theorem dX2_value_134 : decode cX2_value 134 = .ok (.iconst 1, 1) := by decide +kernel
theorem dX2_value_135 : decode cX2_value 135 = .ok (.isub, 1) := by decide +kernel
theorem dX2_value_136 : decode cX2_value 136 = .ok (.iaload, 1) := by decide +kernel
theorem dX2_value_137 : decode cX2_value 137 = .ok (.aload_n 0, 1) := by decide +kernel
theorem dX2_value_138 : decode cX2_value 138 = .ok (.getfield 15, 3) := by decide +kernel
theorem dX2_value_141 : decode cX2_value 141 = .ok (.iload_n 2, 1) := by decide +kernel
theorem dX2_value_142 : decode cX2_value 142 = .ok (.iaload, 1) := by decide +kernel
theorem dX2_value_143 : decode cX2_value 143 = .ok (.invokestatic 32, 3) := by decide +kernel
theorem dX2_value_146 : decode cX2_value 146 = .ok (.iastore, 1) := by decide +kernel
theorem dX2_value_147 : decode cX2_value 147 = .ok (.iinc 3 1, 3) := by decide +kernel
theorem dX2_value_150 : decode cX2_value 150 = .ok (.goto (-146), 3) := by decide +kernel
theorem dX2_value_153 : decode cX2_value 153 = .ok (.iload_n 2, 1) := by decide +kernel
theorem dX2_value_154 : decode cX2_value 154 = .ok (.iconst 1, 1) := by decide +kernel
theorem dX2_value_155 : decode cX2_value 155 = .ok (.if_icmp .ne 12, 3) := by decide +kernel
theorem dX2_value_158 : decode cX2_value 158 = .ok (.aload_n 0, 1) := by decide +kernel
theorem dX2_value_159 : decode cX2_value 159 = .ok (.getfield 15, 3) := by decide +kernel
theorem dX2_value_162 : decode cX2_value 162 = .ok (.iconst 0, 1) := by decide +kernel
theorem dX2_value_163 : decode cX2_value 163 = .ok (.iaload, 1) := by decide +kernel
theorem dX2_value_164 : decode cX2_value 164 = .ok (.goto 4, 3) := by decide +kernel
theorem dX2_value_167 : decode cX2_value 167 = .ok (.iconst 0, 1) := by decide +kernel
theorem dX2_value_168 : decode cX2_value 168 = .ok (.ireturn, 1) := by decide +kernel
theorem dX2_nameOf_0 : decode cX2_nameOf 0 = .ok (.iload_n 1, 1) := by decide +kernel
theorem dX2_nameOf_1 : decode cX2_nameOf 1 = .ok (.ifCond .lt 15, 3) := by decide +kernel
theorem dX2_nameOf_4 : decode cX2_nameOf 4 = .ok (.iload_n 1, 1) := by decide +kernel
theorem dX2_nameOf_5 : decode cX2_nameOf 5 = .ok (.aload_n 0, 1) := by decide +kernel
theorem dX2_nameOf_6 : decode cX2_nameOf 6 = .ok (.arraylength, 1) := by decide +kernel
theorem dX2_nameOf_7 : decode cX2_nameOf 7 = .ok (.if_icmp .ge 9, 3) := by decide +kernel
theorem dX2_nameOf_10 : decode cX2_nameOf 10 = .ok (.aload_n 0, 1) := by decide +kernel
theorem dX2_nameOf_11 : decode cX2_nameOf 11 = .ok (.iload_n 1, 1) := by decide +kernel
theorem dX2_nameOf_12 : decode cX2_nameOf 12 = .ok (.iaload, 1) := by decide +kernel
theorem dX2_nameOf_13 : decode cX2_nameOf 13 = .ok (.goto 4, 3) := by decide +kernel
theorem dX2_nameOf_16 : decode cX2_nameOf 16 = .ok (.iconst 0, 1) := by decide +kernel
theorem dX2_nameOf_17 : decode cX2_nameOf 17 = .ok (.ireturn, 1) := by decide +kernel
theorem dX2_joined_0 : decode cX2_joined 0 = .ok (.iload_n 0, 1) := by decide +kernel
theorem dX2_joined_1 : decode cX2_joined 1 = .ok (.lookupswitch 168 #[(38, 97), (42, 152), (43, 144), (45, 148), (47, 156), (60, 111), (61, 122), (62, 133), (124, 83)], 83) := by decide +kernel
theorem dX2_joined_84 : decode cX2_joined 84 = .ok (.iload_n 1, 1) := by decide +kernel
theorem dX2_joined_85 : decode cX2_joined 85 = .ok (.ifCond .ne 7, 3) := by decide +kernel
theorem dX2_joined_88 : decode cX2_joined 88 = .ok (.iload_n 2, 1) := by decide +kernel
theorem dX2_joined_89 : decode cX2_joined 89 = .ok (.ifCond .eq 7, 3) := by decide +kernel
theorem dX2_joined_92 : decode cX2_joined 92 = .ok (.iconst 1, 1) := by decide +kernel
theorem dX2_joined_93 : decode cX2_joined 93 = .ok (.goto 4, 3) := by decide +kernel
theorem dX2_joined_96 : decode cX2_joined 96 = .ok (.iconst 0, 1) := by decide +kernel
theorem dX2_joined_97 : decode cX2_joined 97 = .ok (.ireturn, 1) := by decide +kernel
theorem dX2_joined_98 : decode cX2_joined 98 = .ok (.iload_n 1, 1) := by decide +kernel
theorem dX2_joined_99 : decode cX2_joined 99 = .ok (.ifCond .eq 11, 3) := by decide +kernel
theorem dX2_joined_102 : decode cX2_joined 102 = .ok (.iload_n 2, 1) := by decide +kernel
theorem dX2_joined_103 : decode cX2_joined 103 = .ok (.ifCond .eq 7, 3) := by decide +kernel
theorem dX2_joined_106 : decode cX2_joined 106 = .ok (.iconst 1, 1) := by decide +kernel
theorem dX2_joined_107 : decode cX2_joined 107 = .ok (.goto 4, 3) := by decide +kernel
theorem dX2_joined_110 : decode cX2_joined 110 = .ok (.iconst 0, 1) := by decide +kernel
theorem dX2_joined_111 : decode cX2_joined 111 = .ok (.ireturn, 1) := by decide +kernel
theorem dX2_joined_112 : decode cX2_joined 112 = .ok (.iload_n 1, 1) := by decide +kernel
theorem dX2_joined_113 : decode cX2_joined 113 = .ok (.iload_n 2, 1) := by decide +kernel
theorem dX2_joined_114 : decode cX2_joined 114 = .ok (.if_icmp .ge 7, 3) := by decide +kernel
theorem dX2_joined_117 : decode cX2_joined 117 = .ok (.iconst 1, 1) := by decide +kernel
theorem dX2_joined_118 : decode cX2_joined 118 = .ok (.goto 4, 3) := by decide +kernel
theorem dX2_joined_121 : decode cX2_joined 121 = .ok (.iconst 0, 1) := by decide +kernel
theorem dX2_joined_122 : decode cX2_joined 122 = .ok (.ireturn, 1) := by decide +kernel
theorem dX2_joined_123 : decode cX2_joined 123 = .ok (.iload_n 1, 1) := by decide +kernel
theorem dX2_joined_124 : decode cX2_joined 124 = .ok (.iload_n 2, 1) := by decide +kernel
theorem dX2_joined_125 : decode cX2_joined 125 = .ok (.if_icmp .ne 7, 3) := by decide +kernel
theorem dX2_joined_128 : decode cX2_joined 128 = .ok (.iconst 1, 1) := by decide +kernel
theorem dX2_joined_129 : decode cX2_joined 129 = .ok (.goto 4, 3) := by decide +kernel
theorem dX2_joined_132 : decode cX2_joined 132 = .ok (.iconst 0, 1) := by decide +kernel
theorem dX2_joined_133 : decode cX2_joined 133 = .ok (.ireturn, 1) := by decide +kernel
theorem dX2_joined_134 : decode cX2_joined 134 = .ok (.iload_n 1, 1) := by decide +kernel
theorem dX2_joined_135 : decode cX2_joined 135 = .ok (.iload_n 2, 1) := by decide +kernel
theorem dX2_joined_136 : decode cX2_joined 136 = .ok (.if_icmp .le 7, 3) := by decide +kernel
theorem dX2_joined_139 : decode cX2_joined 139 = .ok (.iconst 1, 1) := by decide +kernel
theorem dX2_joined_140 : decode cX2_joined 140 = .ok (.goto 4, 3) := by decide +kernel
theorem dX2_joined_143 : decode cX2_joined 143 = .ok (.iconst 0, 1) := by decide +kernel
theorem dX2_joined_144 : decode cX2_joined 144 = .ok (.ireturn, 1) := by decide +kernel
theorem dX2_joined_145 : decode cX2_joined 145 = .ok (.iload_n 1, 1) := by decide +kernel
theorem dX2_joined_146 : decode cX2_joined 146 = .ok (.iload_n 2, 1) := by decide +kernel
theorem dX2_joined_147 : decode cX2_joined 147 = .ok (.iadd, 1) := by decide +kernel
theorem dX2_joined_148 : decode cX2_joined 148 = .ok (.ireturn, 1) := by decide +kernel
theorem dX2_joined_149 : decode cX2_joined 149 = .ok (.iload_n 1, 1) := by decide +kernel
theorem dX2_joined_150 : decode cX2_joined 150 = .ok (.iload_n 2, 1) := by decide +kernel
theorem dX2_joined_151 : decode cX2_joined 151 = .ok (.isub, 1) := by decide +kernel
theorem dX2_joined_152 : decode cX2_joined 152 = .ok (.ireturn, 1) := by decide +kernel
theorem dX2_joined_153 : decode cX2_joined 153 = .ok (.iload_n 1, 1) := by decide +kernel
theorem dX2_joined_154 : decode cX2_joined 154 = .ok (.iload_n 2, 1) := by decide +kernel
theorem dX2_joined_155 : decode cX2_joined 155 = .ok (.imul, 1) := by decide +kernel
theorem dX2_joined_156 : decode cX2_joined 156 = .ok (.ireturn, 1) := by decide +kernel
theorem dX2_joined_157 : decode cX2_joined 157 = .ok (.iload_n 2, 1) := by decide +kernel
theorem dX2_joined_158 : decode cX2_joined 158 = .ok (.ifCond .ne 7, 3) := by decide +kernel
theorem dX2_joined_161 : decode cX2_joined 161 = .ok (.iconst 0, 1) := by decide +kernel
theorem dX2_joined_162 : decode cX2_joined 162 = .ok (.goto 6, 3) := by decide +kernel
theorem dX2_joined_165 : decode cX2_joined 165 = .ok (.iload_n 1, 1) := by decide +kernel
theorem dX2_joined_166 : decode cX2_joined 166 = .ok (.iload_n 2, 1) := by decide +kernel
theorem dX2_joined_167 : decode cX2_joined 167 = .ok (.idiv, 1) := by decide +kernel
theorem dX2_joined_168 : decode cX2_joined 168 = .ok (.ireturn, 1) := by decide +kernel
theorem dX2_joined_169 : decode cX2_joined 169 = .ok (.iload_n 2, 1) := by decide +kernel
theorem dX2_joined_170 : decode cX2_joined 170 = .ok (.ifCond .ne 7, 3) := by decide +kernel
theorem dX2_joined_173 : decode cX2_joined 173 = .ok (.iconst 0, 1) := by decide +kernel
theorem dX2_joined_174 : decode cX2_joined 174 = .ok (.goto 6, 3) := by decide +kernel
theorem dX2_joined_177 : decode cX2_joined 177 = .ok (.iload_n 1, 1) := by decide +kernel
theorem dX2_joined_178 : decode cX2_joined 178 = .ok (.iload_n 2, 1) := by decide +kernel
theorem dX2_joined_179 : decode cX2_joined 179 = .ok (.irem, 1) := by decide +kernel
theorem dX2_joined_180 : decode cX2_joined 180 = .ok (.ireturn, 1) := by decide +kernel
theorem dX3_init_0 : decode cX3_init 0 = .ok (.aload_n 0, 1) := by decide +kernel
theorem dX3_init_1 : decode cX3_init 1 = .ok (.invokespecial 3, 3) := by decide +kernel
theorem dX3_init_4 : decode cX3_init 4 = .ok (.aload_n 0, 1) := by decide +kernel
theorem dX3_init_5 : decode cX3_init 5 = .ok (.bipush 60, 2) := by decide +kernel
theorem dX3_init_7 : decode cX3_init 7 = .ok (.newarray .int, 2) := by decide +kernel
theorem dX3_init_9 : decode cX3_init 9 = .ok (.putfield 9, 3) := by decide +kernel
theorem dX3_init_12 : decode cX3_init 12 = .ok (.aload_n 0, 1) := by decide +kernel
theorem dX3_init_13 : decode cX3_init 13 = .ok (.bipush 60, 2) := by decide +kernel
theorem dX3_init_15 : decode cX3_init 15 = .ok (.newarray .int, 2) := by decide +kernel
theorem dX3_init_17 : decode cX3_init 17 = .ok (.putfield 15, 3) := by decide +kernel
theorem dX3_init_20 : decode cX3_init 20 = .ok (.return_, 1) := by decide +kernel
theorem dX3_read_0 : decode cX3_read 0 = .ok (.aload_n 0, 1) := by decide +kernel
theorem dX3_read_1 : decode cX3_read 1 = .ok (.iconst 0, 1) := by decide +kernel
theorem dX3_read_2 : decode cX3_read 2 = .ok (.putfield 18, 3) := by decide +kernel
theorem dX3_read_5 : decode cX3_read 5 = .ok (.aload_n 0, 1) := by decide +kernel
theorem dX3_read_6 : decode cX3_read 6 = .ok (.iconst 0, 1) := by decide +kernel
theorem dX3_read_7 : decode cX3_read 7 = .ok (.putfield 22, 3) := by decide +kernel
theorem dX3_read_10 : decode cX3_read 10 = .ok (.aload_n 0, 1) := by decide +kernel
theorem dX3_read_11 : decode cX3_read 11 = .ok (.iconst 0, 1) := by decide +kernel
theorem dX3_read_12 : decode cX3_read 12 = .ok (.putfield 25, 3) := by decide +kernel
theorem dX3_read_15 : decode cX3_read 15 = .ok (.aload_n 0, 1) := by decide +kernel
theorem dX3_read_16 : decode cX3_read 16 = .ok (.iconst 0, 1) := by decide +kernel
theorem dX3_read_17 : decode cX3_read 17 = .ok (.putfield 28, 3) := by decide +kernel
theorem dX3_read_20 : decode cX3_read 20 = .ok (.aload_n 0, 1) := by decide +kernel
theorem dX3_read_21 : decode cX3_read 21 = .ok (.iconst 0, 1) := by decide +kernel
theorem dX3_read_22 : decode cX3_read 22 = .ok (.putfield 31, 3) := by decide +kernel
theorem dX3_read_25 : decode cX3_read 25 = .ok (.aload_n 0, 1) := by decide +kernel
theorem dX3_read_26 : decode cX3_read 26 = .ok (.iconst 1, 1) := by decide +kernel
theorem dX3_read_27 : decode cX3_read 27 = .ok (.putfield 34, 3) := by decide +kernel
theorem dX3_read_30 : decode cX3_read 30 = .ok (.iconst 0, 1) := by decide +kernel
theorem dX3_read_31 : decode cX3_read 31 = .ok (.istore 4, 2) := by decide +kernel
theorem dX3_read_33 : decode cX3_read 33 = .ok (.iload 4, 2) := by decide +kernel
theorem dX3_read_35 : decode cX3_read 35 = .ok (.iload_n 2, 1) := by decide +kernel
theorem dX3_read_36 : decode cX3_read 36 = .ok (.if_icmp .ge 35, 3) := by decide +kernel
theorem dX3_read_39 : decode cX3_read 39 = .ok (.iload 4, 2) := by decide +kernel
theorem dX3_read_41 : decode cX3_read 41 = .ok (.aload_n 1, 1) := by decide +kernel
theorem dX3_read_42 : decode cX3_read 42 = .ok (.arraylength, 1) := by decide +kernel
theorem dX3_read_43 : decode cX3_read 43 = .ok (.if_icmp .ge 28, 3) := by decide +kernel
theorem dX3_read_46 : decode cX3_read 46 = .ok (.aload_n 0, 1) := by decide +kernel
theorem dX3_read_47 : decode cX3_read 47 = .ok (.aload_n 1, 1) := by decide +kernel
theorem dX3_read_48 : decode cX3_read 48 = .ok (.iload 4, 2) := by decide +kernel
theorem dX3_read_50 : decode cX3_read 50 = .ok (.baload, 1) := by decide +kernel
theorem dX3_read_51 : decode cX3_read 51 = .ok (.sipush 255, 3) := by decide +kernel
theorem dX3_read_54 : decode cX3_read 54 = .ok (.iand, 1) := by decide +kernel
theorem dX3_read_55 : decode cX3_read 55 = .ok (.iload_n 3, 1) := by decide +kernel
theorem dX3_read_56 : decode cX3_read 56 = .ok (.invokevirtual 38, 3) := by decide +kernel
theorem dX3_read_59 : decode cX3_read 59 = .ok (.ifCond .ne 6, 3) := by decide +kernel
theorem dX3_read_62 : decode cX3_read 62 = .ok (.iload 4, 2) := by decide +kernel
theorem dX3_read_64 : decode cX3_read 64 = .ok (.ireturn, 1) := by decide +kernel
theorem dX3_read_65 : decode cX3_read 65 = .ok (.iinc 4 1, 3) := by decide +kernel
theorem dX3_read_68 : decode cX3_read 68 = .ok (.goto (-35), 3) := by decide +kernel
theorem dX3_read_71 : decode cX3_read 71 = .ok (.aload_n 0, 1) := by decide +kernel
theorem dX3_read_72 : decode cX3_read 72 = .ok (.getfield 34, 3) := by decide +kernel
theorem dX3_read_75 : decode cX3_read 75 = .ok (.ifCond .ne 10, 3) := by decide +kernel
theorem dX3_read_78 : decode cX3_read 78 = .ok (.aload_n 0, 1) := by decide +kernel
theorem dX3_read_79 : decode cX3_read 79 = .ok (.getfield 28, 3) := by decide +kernel
theorem dX3_read_82 : decode cX3_read 82 = .ok (.ifCond .le 5, 3) := by decide +kernel
theorem dX3_read_85 : decode cX3_read 85 = .ok (.iload_n 2, 1) := by decide +kernel
theorem dX3_read_86 : decode cX3_read 86 = .ok (.ireturn, 1) := by decide +kernel
theorem dX3_read_87 : decode cX3_read 87 = .ok (.aload_n 0, 1) := by decide +kernel
theorem dX3_read_88 : decode cX3_read 88 = .ok (.iconst 1, 1) := by decide +kernel
theorem dX3_read_89 : decode cX3_read 89 = .ok (.invokevirtual 42, 3) := by decide +kernel
theorem dX3_read_92 : decode cX3_read 92 = .ok (.iconst (-1), 1) := by decide +kernel
theorem dX3_read_93 : decode cX3_read 93 = .ok (.ireturn, 1) := by decide +kernel
theorem dX3_goesOn_0 : decode cX3_goesOn 0 = .ok (.iload_n 1, 1) := by decide +kernel
theorem dX3_goesOn_1 : decode cX3_goesOn 1 = .ok (.bipush 48, 2) := by decide +kernel
theorem dX3_goesOn_3 : decode cX3_goesOn 3 = .ok (.if_icmp .lt 18, 3) := by decide +kernel
theorem dX3_goesOn_6 : decode cX3_goesOn 6 = .ok (.iload_n 1, 1) := by decide +kernel
theorem dX3_goesOn_7 : decode cX3_goesOn 7 = .ok (.bipush 57, 2) := by decide +kernel
theorem dX3_goesOn_9 : decode cX3_goesOn 9 = .ok (.if_icmp .gt 12, 3) := by decide +kernel
theorem dX3_goesOn_12 : decode cX3_goesOn 12 = .ok (.aload_n 0, 1) := by decide +kernel
theorem dX3_goesOn_13 : decode cX3_goesOn 13 = .ok (.iload_n 1, 1) := by decide +kernel
theorem dX3_goesOn_14 : decode cX3_goesOn 14 = .ok (.bipush 48, 2) := by decide +kernel
theorem dX3_goesOn_16 : decode cX3_goesOn 16 = .ok (.isub, 1) := by decide +kernel
theorem dX3_goesOn_17 : decode cX3_goesOn 17 = .ok (.invokevirtual 46, 3) := by decide +kernel
theorem dX3_goesOn_20 : decode cX3_goesOn 20 = .ok (.ireturn, 1) := by decide +kernel
theorem dX3_goesOn_21 : decode cX3_goesOn 21 = .ok (.aload_n 0, 1) := by decide +kernel
theorem dX3_goesOn_22 : decode cX3_goesOn 22 = .ok (.iconst 0, 1) := by decide +kernel
theorem dX3_goesOn_23 : decode cX3_goesOn 23 = .ok (.putfield 31, 3) := by decide +kernel
theorem dX3_goesOn_26 : decode cX3_goesOn 26 = .ok (.aload_n 0, 1) := by decide +kernel
theorem dX3_goesOn_27 : decode cX3_goesOn 27 = .ok (.getfield 34, 3) := by decide +kernel
theorem dX3_goesOn_30 : decode cX3_goesOn 30 = .ok (.ifCond .eq 12, 3) := by decide +kernel
theorem dX3_goesOn_33 : decode cX3_goesOn 33 = .ok (.aload_n 0, 1) := by decide +kernel
theorem dX3_goesOn_34 : decode cX3_goesOn 34 = .ok (.iload_n 1, 1) := by decide +kernel
theorem dX3_goesOn_35 : decode cX3_goesOn 35 = .ok (.iload_n 2, 1) := by decide +kernel
theorem dX3_goesOn_36 : decode cX3_goesOn 36 = .ok (.invokevirtual 50, 3) := by decide +kernel
theorem dX3_goesOn_39 : decode cX3_goesOn 39 = .ok (.goto 8, 3) := by decide +kernel
theorem dX3_goesOn_42 : decode cX3_goesOn 42 = .ok (.aload_n 0, 1) := by decide +kernel
theorem dX3_goesOn_43 : decode cX3_goesOn 43 = .ok (.iload_n 1, 1) := by decide +kernel
theorem dX3_goesOn_44 : decode cX3_goesOn 44 = .ok (.invokevirtual 53, 3) := by decide +kernel
theorem dX3_goesOn_47 : decode cX3_goesOn 47 = .ok (.ireturn, 1) := by decide +kernel
theorem dX3_digit_0 : decode cX3_digit 0 = .ok (.aload_n 0, 1) := by decide +kernel
theorem dX3_digit_1 : decode cX3_digit 1 = .ok (.getfield 34, 3) := by decide +kernel
theorem dX3_digit_4 : decode cX3_digit 4 = .ok (.ifCond .eq 20, 3) := by decide +kernel
theorem dX3_digit_7 : decode cX3_digit 7 = .ok (.aload_n 0, 1) := by decide +kernel
theorem dX3_digit_8 : decode cX3_digit 8 = .ok (.iload_n 1, 1) := by decide +kernel
theorem dX3_digit_9 : decode cX3_digit 9 = .ok (.invokevirtual 56, 3) := by decide +kernel
theorem dX3_digit_12 : decode cX3_digit 12 = .ok (.aload_n 0, 1) := by decide +kernel
theorem dX3_digit_13 : decode cX3_digit 13 = .ok (.iconst 0, 1) := by decide +kernel
theorem dX3_digit_14 : decode cX3_digit 14 = .ok (.putfield 34, 3) := by decide +kernel
theorem dX3_digit_17 : decode cX3_digit 17 = .ok (.aload_n 0, 1) := by decide +kernel
theorem dX3_digit_18 : decode cX3_digit 18 = .ok (.iconst 1, 1) := by decide +kernel
theorem dX3_digit_19 : decode cX3_digit 19 = .ok (.putfield 31, 3) := by decide +kernel
theorem dX3_digit_22 : decode cX3_digit 22 = .ok (.iconst 1, 1) := by decide +kernel
theorem dX3_digit_23 : decode cX3_digit 23 = .ok (.ireturn, 1) := by decide +kernel
theorem dX3_digit_24 : decode cX3_digit 24 = .ok (.aload_n 0, 1) := by decide +kernel
theorem dX3_digit_25 : decode cX3_digit 25 = .ok (.getfield 31, 3) := by decide +kernel
theorem dX3_digit_28 : decode cX3_digit 28 = .ok (.ifCond .eq 18, 3) := by decide +kernel
theorem dX3_digit_31 : decode cX3_digit 31 = .ok (.aload_n 0, 1) := by decide +kernel
theorem dX3_digit_32 : decode cX3_digit 32 = .ok (.getfield 31, 3) := by decide +kernel
theorem dX3_digit_35 : decode cX3_digit 35 = .ok (.iconst 4, 1) := by decide +kernel
theorem dX3_digit_36 : decode cX3_digit 36 = .ok (.if_icmp .ge 10, 3) := by decide +kernel
theorem dX3_digit_39 : decode cX3_digit 39 = .ok (.aload_n 0, 1) := by decide +kernel
theorem dX3_digit_40 : decode cX3_digit 40 = .ok (.getfield 18, 3) := by decide +kernel
theorem dX3_digit_43 : decode cX3_digit 43 = .ok (.ifCond .ne 5, 3) := by decide +kernel
theorem dX3_digit_46 : decode cX3_digit 46 = .ok (.iconst 0, 1) := by decide +kernel
theorem dX3_digit_47 : decode cX3_digit 47 = .ok (.ireturn, 1) := by decide +kernel
theorem dX3_digit_48 : decode cX3_digit 48 = .ok (.aload_n 0, 1) := by decide +kernel
theorem dX3_digit_49 : decode cX3_digit 49 = .ok (.getfield 9, 3) := by decide +kernel
theorem dX3_digit_52 : decode cX3_digit 52 = .ok (.aload_n 0, 1) := by decide +kernel
theorem dX3_digit_53 : decode cX3_digit 53 = .ok (.getfield 18, 3) := by decide +kernel
theorem dX3_digit_56 : decode cX3_digit 56 = .ok (.iconst 1, 1) := by decide +kernel
theorem dX3_digit_57 : decode cX3_digit 57 = .ok (.isub, 1) := by decide +kernel
theorem dX3_digit_58 : decode cX3_digit 58 = .ok (.aload_n 0, 1) := by decide +kernel
theorem dX3_digit_59 : decode cX3_digit 59 = .ok (.getfield 9, 3) := by decide +kernel
theorem dX3_digit_62 : decode cX3_digit 62 = .ok (.aload_n 0, 1) := by decide +kernel
theorem dX3_digit_63 : decode cX3_digit 63 = .ok (.getfield 18, 3) := by decide +kernel
theorem dX3_digit_66 : decode cX3_digit 66 = .ok (.iconst 1, 1) := by decide +kernel
theorem dX3_digit_67 : decode cX3_digit 67 = .ok (.isub, 1) := by decide +kernel
theorem dX3_digit_68 : decode cX3_digit 68 = .ok (.iaload, 1) := by decide +kernel
theorem dX3_digit_69 : decode cX3_digit 69 = .ok (.bipush 10, 2) := by decide +kernel
theorem dX3_digit_71 : decode cX3_digit 71 = .ok (.imul, 1) := by decide +kernel
theorem dX3_digit_72 : decode cX3_digit 72 = .ok (.iload_n 1, 1) := by decide +kernel
theorem dX3_digit_73 : decode cX3_digit 73 = .ok (.iadd, 1) := by decide +kernel
theorem dX3_digit_74 : decode cX3_digit 74 = .ok (.iastore, 1) := by decide +kernel
theorem dX3_digit_75 : decode cX3_digit 75 = .ok (.aload_n 0, 1) := by decide +kernel
theorem dX3_digit_76 : decode cX3_digit 76 = .ok (.dup, 1) := by decide +kernel
theorem dX3_digit_77 : decode cX3_digit 77 = .ok (.getfield 31, 3) := by decide +kernel
theorem dX3_digit_80 : decode cX3_digit 80 = .ok (.iconst 1, 1) := by decide +kernel
theorem dX3_digit_81 : decode cX3_digit 81 = .ok (.iadd, 1) := by decide +kernel
theorem dX3_digit_82 : decode cX3_digit 82 = .ok (.putfield 31, 3) := by decide +kernel
theorem dX3_digit_85 : decode cX3_digit 85 = .ok (.iconst 1, 1) := by decide +kernel
theorem dX3_digit_86 : decode cX3_digit 86 = .ok (.ireturn, 1) := by decide +kernel
theorem dX3_opens_0 : decode cX3_opens 0 = .ok (.iload_n 1, 1) := by decide +kernel
theorem dX3_opens_1 : decode cX3_opens 1 = .ok (.bipush 33, 2) := by decide +kernel
theorem dX3_opens_3 : decode cX3_opens 3 = .ok (.if_icmp .eq 9, 3) := by decide +kernel
theorem dX3_opens_6 : decode cX3_opens 6 = .ok (.iload_n 1, 1) := by decide +kernel
theorem dX3_opens_7 : decode cX3_opens 7 = .ok (.bipush 40, 2) := by decide +kernel
theorem dX3_opens_9 : decode cX3_opens 9 = .ok (.if_icmp .ne 50, 3) := by decide +kernel
theorem dX3_opens_12 : decode cX3_opens 12 = .ok (.aload_n 0, 1) := by decide +kernel
theorem dX3_opens_13 : decode cX3_opens 13 = .ok (.getfield 25, 3) := by decide +kernel
theorem dX3_opens_16 : decode cX3_opens 16 = .ok (.iconst 5, 1) := by decide +kernel
theorem dX3_opens_17 : decode cX3_opens 17 = .ok (.if_icmp .lt 5, 3) := by decide +kernel
theorem dX3_opens_20 : decode cX3_opens 20 = .ok (.iconst 0, 1) := by decide +kernel
theorem dX3_opens_21 : decode cX3_opens 21 = .ok (.ireturn, 1) := by decide +kernel
theorem dX3_opens_22 : decode cX3_opens 22 = .ok (.aload_n 0, 1) := by decide +kernel
theorem dX3_opens_23 : decode cX3_opens 23 = .ok (.dup, 1) := by decide +kernel
theorem dX3_opens_24 : decode cX3_opens 24 = .ok (.getfield 25, 3) := by decide +kernel
theorem dX3_opens_27 : decode cX3_opens 27 = .ok (.iconst 1, 1) := by decide +kernel
theorem dX3_opens_28 : decode cX3_opens 28 = .ok (.iadd, 1) := by decide +kernel
theorem dX3_opens_29 : decode cX3_opens 29 = .ok (.putfield 25, 3) := by decide +kernel
theorem dX3_opens_32 : decode cX3_opens 32 = .ok (.aload_n 0, 1) := by decide +kernel
theorem dX3_opens_33 : decode cX3_opens 33 = .ok (.dup, 1) := by decide +kernel
theorem dX3_opens_34 : decode cX3_opens 34 = .ok (.getfield 28, 3) := by decide +kernel
theorem dX3_opens_37 : decode cX3_opens 37 = .ok (.iload_n 1, 1) := by decide +kernel
theorem dX3_opens_38 : decode cX3_opens 38 = .ok (.bipush 40, 2) := by decide +kernel
theorem dX3_opens_40 : decode cX3_opens 40 = .ok (.if_icmp .ne 7, 3) := by decide +kernel
theorem dX3_opens_43 : decode cX3_opens 43 = .ok (.iconst 1, 1) := by decide +kernel
theorem dX3_opens_44 : decode cX3_opens 44 = .ok (.goto 4, 3) := by decide +kernel
theorem dX3_opens_47 : decode cX3_opens 47 = .ok (.iconst 0, 1) := by decide +kernel
theorem dX3_opens_48 : decode cX3_opens 48 = .ok (.iadd, 1) := by decide +kernel
theorem dX3_opens_49 : decode cX3_opens 49 = .ok (.putfield 28, 3) := by decide +kernel
theorem dX3_opens_52 : decode cX3_opens 52 = .ok (.aload_n 0, 1) := by decide +kernel
theorem dX3_opens_53 : decode cX3_opens 53 = .ok (.iload_n 1, 1) := by decide +kernel
theorem dX3_opens_54 : decode cX3_opens 54 = .ok (.invokevirtual 59, 3) := by decide +kernel
theorem dX3_opens_57 : decode cX3_opens 57 = .ok (.iconst 1, 1) := by decide +kernel
theorem dX3_opens_58 : decode cX3_opens 58 = .ok (.ireturn, 1) := by decide +kernel
theorem dX3_opens_59 : decode cX3_opens 59 = .ok (.iload_n 2, 1) := by decide +kernel
theorem dX3_opens_60 : decode cX3_opens 60 = .ok (.ifCond .ne 8, 3) := by decide +kernel
theorem dX3_opens_63 : decode cX3_opens 63 = .ok (.ldc 62, 2) := by decide +kernel
theorem dX3_opens_65 : decode cX3_opens 65 = .ok (.goto 5, 3) := by decide +kernel
theorem dX3_opens_68 : decode cX3_opens 68 = .ok (.ldc 64, 2) := by decide +kernel
theorem dX3_opens_70 : decode cX3_opens 70 = .ok (.iload_n 1, 1) := by decide +kernel
theorem dX3_opens_71 : decode cX3_opens 71 = .ok (.i2c, 1) := by decide +kernel
theorem dX3_opens_72 : decode cX3_opens 72 = .ok (.invokevirtual 66, 3) := by decide +kernel
theorem dX3_opens_75 : decode cX3_opens 75 = .ok (.istore_n 3, 1) := by decide +kernel
theorem dX3_opens_76 : decode cX3_opens 76 = .ok (.iload_n 3, 1) := by decide +kernel
theorem dX3_opens_77 : decode cX3_opens 77 = .ok (.ifCond .ge 5, 3) := by decide +kernel
theorem dX3_opens_80 : decode cX3_opens 80 = .ok (.iconst 0, 1) := by decide +kernel
theorem dX3_opens_81 : decode cX3_opens 81 = .ok (.ireturn, 1) := by decide +kernel
theorem dX3_opens_82 : decode cX3_opens 82 = .ok (.aload_n 0, 1) := by decide +kernel
theorem dX3_opens_83 : decode cX3_opens 83 = .ok (.sipush 10000, 3) := by decide +kernel
theorem dX3_opens_86 : decode cX3_opens 86 = .ok (.iload_n 3, 1) := by decide +kernel
theorem dX3_opens_87 : decode cX3_opens 87 = .ok (.iadd, 1) := by decide +kernel
theorem dX3_opens_88 : decode cX3_opens 88 = .ok (.invokevirtual 56, 3) := by decide +kernel
theorem dX3_opens_91 : decode cX3_opens 91 = .ok (.aload_n 0, 1) := by decide +kernel
theorem dX3_opens_92 : decode cX3_opens 92 = .ok (.iconst 0, 1) := by decide +kernel
theorem dX3_opens_93 : decode cX3_opens 93 = .ok (.putfield 34, 3) := by decide +kernel
theorem dX3_opens_96 : decode cX3_opens 96 = .ok (.iconst 1, 1) := by decide +kernel
theorem dX3_opens_97 : decode cX3_opens 97 = .ok (.ireturn, 1) := by decide +kernel
theorem dX3_follows_0 : decode cX3_follows 0 = .ok (.iload_n 1, 1) := by decide +kernel
theorem dX3_follows_1 : decode cX3_follows 1 = .ok (.bipush 41, 2) := by decide +kernel
theorem dX3_follows_3 : decode cX3_follows 3 = .ok (.if_icmp .ne 8, 3) := by decide +kernel
theorem dX3_follows_6 : decode cX3_follows 6 = .ok (.aload_n 0, 1) := by decide +kernel
theorem dX3_follows_7 : decode cX3_follows 7 = .ok (.invokevirtual 74, 3) := by decide +kernel
theorem dX3_follows_10 : decode cX3_follows 10 = .ok (.ireturn, 1) := by decide +kernel
theorem dX3_follows_11 : decode cX3_follows 11 = .ok (.iload_n 1, 1) := by decide +kernel
theorem dX3_follows_12 : decode cX3_follows 12 = .ok (.invokestatic 78, 3) := by decide +kernel
theorem dX3_follows_15 : decode cX3_follows 15 = .ok (.istore_n 2, 1) := by decide +kernel
theorem dX3_follows_16 : decode cX3_follows 16 = .ok (.iload_n 2, 1) := by decide +kernel
theorem dX3_follows_17 : decode cX3_follows 17 = .ok (.ifCond .ne 5, 3) := by decide +kernel
theorem dX3_follows_20 : decode cX3_follows 20 = .ok (.iconst 0, 1) := by decide +kernel
theorem dX3_follows_21 : decode cX3_follows 21 = .ok (.ireturn, 1) := by decide +kernel
theorem dX3_follows_22 : decode cX3_follows 22 = .ok (.aload_n 0, 1) := by decide +kernel
theorem dX3_follows_23 : decode cX3_follows 23 = .ok (.iload_n 2, 1) := by decide +kernel
theorem dX3_follows_24 : decode cX3_follows 24 = .ok (.iconst 3, 1) := by decide +kernel
theorem dX3_follows_25 : decode cX3_follows 25 = .ok (.if_icmp .ne 9, 3) := by decide +kernel
theorem dX3_follows_28 : decode cX3_follows 28 = .ok (.iload_n 2, 1) := by decide +kernel
theorem dX3_follows_29 : decode cX3_follows 29 = .ok (.iconst 1, 1) := by decide +kernel
theorem dX3_follows_30 : decode cX3_follows 30 = .ok (.iadd, 1) := by decide +kernel
theorem dX3_follows_31 : decode cX3_follows 31 = .ok (.goto 4, 3) := by decide +kernel
theorem dX3_follows_34 : decode cX3_follows 34 = .ok (.iload_n 2, 1) := by decide +kernel
theorem dX3_follows_35 : decode cX3_follows 35 = .ok (.invokevirtual 42, 3) := by decide +kernel
theorem dX3_follows_38 : decode cX3_follows 38 = .ok (.iload_n 2, 1) := by decide +kernel
theorem dX3_follows_39 : decode cX3_follows 39 = .ok (.iconst 3, 1) := by decide +kernel
theorem dX3_follows_40 : decode cX3_follows 40 = .ok (.if_icmp .ne 30, 3) := by decide +kernel
theorem dX3_follows_43 : decode cX3_follows 43 = .ok (.aload_n 0, 1) := by decide +kernel
theorem dX3_follows_44 : decode cX3_follows 44 = .ok (.getfield 22, 3) := by decide +kernel
theorem dX3_follows_47 : decode cX3_follows 47 = .ok (.ifCond .le 23, 3) := by decide +kernel
theorem dX3_follows_50 : decode cX3_follows 50 = .ok (.aload_n 0, 1) := by decide +kernel
theorem dX3_follows_51 : decode cX3_follows 51 = .ok (.getfield 15, 3) := by decide +kernel
theorem dX3_follows_54 : decode cX3_follows 54 = .ok (.aload_n 0, 1) := by decide +kernel
theorem dX3_follows_55 : decode cX3_follows 55 = .ok (.getfield 22, 3) := by decide +kernel
theorem dX3_follows_58 : decode cX3_follows 58 = .ok (.iconst 1, 1) := by decide +kernel
theorem dX3_follows_59 : decode cX3_follows 59 = .ok (.isub, 1) := by decide +kernel
theorem dX3_follows_60 : decode cX3_follows 60 = .ok (.iaload, 1) := by decide +kernel
theorem dX3_follows_61 : decode cX3_follows 61 = .ok (.invokestatic 78, 3) := by decide +kernel
theorem dX3_follows_64 : decode cX3_follows 64 = .ok (.iconst 3, 1) := by decide +kernel
theorem dX3_follows_65 : decode cX3_follows 65 = .ok (.if_icmp .ne 5, 3) := by decide +kernel
theorem dX3_follows_68 : decode cX3_follows 68 = .ok (.iconst 0, 1) := by decide +kernel
theorem dX3_follows_69 : decode cX3_follows 69 = .ok (.ireturn, 1) := by decide +kernel
theorem dX3_follows_70 : decode cX3_follows 70 = .ok (.aload_n 0, 1) := by decide +kernel
theorem dX3_follows_71 : decode cX3_follows 71 = .ok (.iload_n 1, 1) := by decide +kernel
theorem dX3_follows_72 : decode cX3_follows 72 = .ok (.invokevirtual 59, 3) := by decide +kernel
theorem dX3_follows_75 : decode cX3_follows 75 = .ok (.aload_n 0, 1) := by decide +kernel
theorem dX3_follows_76 : decode cX3_follows 76 = .ok (.iconst 1, 1) := by decide +kernel
theorem dX3_follows_77 : decode cX3_follows 77 = .ok (.putfield 34, 3) := by decide +kernel
theorem dX3_follows_80 : decode cX3_follows 80 = .ok (.iconst 1, 1) := by decide +kernel
theorem dX3_follows_81 : decode cX3_follows 81 = .ok (.ireturn, 1) := by decide +kernel
theorem dX3_closes_0 : decode cX3_closes 0 = .ok (.aload_n 0, 1) := by decide +kernel
theorem dX3_closes_1 : decode cX3_closes 1 = .ok (.getfield 28, 3) := by decide +kernel
theorem dX3_closes_4 : decode cX3_closes 4 = .ok (.ifCond .ne 5, 3) := by decide +kernel
theorem dX3_closes_7 : decode cX3_closes 7 = .ok (.iconst 0, 1) := by decide +kernel
theorem dX3_closes_8 : decode cX3_closes 8 = .ok (.ireturn, 1) := by decide +kernel
theorem dX3_closes_9 : decode cX3_closes 9 = .ok (.aload_n 0, 1) := by decide +kernel
theorem dX3_closes_10 : decode cX3_closes 10 = .ok (.iconst 1, 1) := by decide +kernel
theorem dX3_closes_11 : decode cX3_closes 11 = .ok (.invokevirtual 42, 3) := by decide +kernel
theorem dX3_closes_14 : decode cX3_closes 14 = .ok (.aload_n 0, 1) := by decide +kernel
theorem dX3_closes_15 : decode cX3_closes 15 = .ok (.getfield 22, 3) := by decide +kernel
theorem dX3_closes_18 : decode cX3_closes 18 = .ok (.ifCond .le 13, 3) := by decide +kernel
theorem dX3_closes_21 : decode cX3_closes 21 = .ok (.aload_n 0, 1) := by decide +kernel
theorem dX3_closes_22 : decode cX3_closes 22 = .ok (.dup, 1) := by decide +kernel
theorem dX3_closes_23 : decode cX3_closes 23 = .ok (.getfield 22, 3) := by decide +kernel
theorem dX3_closes_26 : decode cX3_closes 26 = .ok (.iconst 1, 1) := by decide +kernel
theorem dX3_closes_27 : decode cX3_closes 27 = .ok (.isub, 1) := by decide +kernel
theorem dX3_closes_28 : decode cX3_closes 28 = .ok (.putfield 22, 3) := by decide +kernel
theorem dX3_closes_31 : decode cX3_closes 31 = .ok (.aload_n 0, 1) := by decide +kernel
theorem dX3_closes_32 : decode cX3_closes 32 = .ok (.dup, 1) := by decide +kernel
theorem dX3_closes_33 : decode cX3_closes 33 = .ok (.getfield 28, 3) := by decide +kernel
theorem dX3_closes_36 : decode cX3_closes 36 = .ok (.iconst 1, 1) := by decide +kernel
theorem dX3_closes_37 : decode cX3_closes 37 = .ok (.isub, 1) := by decide +kernel
theorem dX3_closes_38 : decode cX3_closes 38 = .ok (.putfield 28, 3) := by decide +kernel
theorem dX3_closes_41 : decode cX3_closes 41 = .ok (.aload_n 0, 1) := by decide +kernel
theorem dX3_closes_42 : decode cX3_closes 42 = .ok (.dup, 1) := by decide +kernel
theorem dX3_closes_43 : decode cX3_closes 43 = .ok (.getfield 25, 3) := by decide +kernel
theorem dX3_closes_46 : decode cX3_closes 46 = .ok (.iconst 1, 1) := by decide +kernel
theorem dX3_closes_47 : decode cX3_closes 47 = .ok (.isub, 1) := by decide +kernel
theorem dX3_closes_48 : decode cX3_closes 48 = .ok (.putfield 25, 3) := by decide +kernel
theorem dX3_closes_51 : decode cX3_closes 51 = .ok (.iconst 1, 1) := by decide +kernel
theorem dX3_closes_52 : decode cX3_closes 52 = .ok (.ireturn, 1) := by decide +kernel
theorem dX3_writeSigns_0 : decode cX3_writeSigns 0 = .ok (.iconst 0, 1) := by decide +kernel
theorem dX3_writeSigns_1 : decode cX3_writeSigns 1 = .ok (.istore_n 2, 1) := by decide +kernel
theorem dX3_writeSigns_2 : decode cX3_writeSigns 2 = .ok (.iload_n 2, 1) := by decide +kernel
theorem dX3_writeSigns_3 : decode cX3_writeSigns 3 = .ok (.bipush 60, 2) := by decide +kernel
theorem dX3_writeSigns_5 : decode cX3_writeSigns 5 = .ok (.if_icmp .ge 79, 3) := by decide +kernel
theorem dX3_writeSigns_8 : decode cX3_writeSigns 8 = .ok (.aload_n 0, 1) := by decide +kernel
theorem dX3_writeSigns_9 : decode cX3_writeSigns 9 = .ok (.getfield 22, 3) := by decide +kernel
theorem dX3_writeSigns_12 : decode cX3_writeSigns 12 = .ok (.ifCond .le 72, 3) := by decide +kernel
theorem dX3_writeSigns_15 : decode cX3_writeSigns 15 = .ok (.aload_n 0, 1) := by decide +kernel
theorem dX3_writeSigns_16 : decode cX3_writeSigns 16 = .ok (.getfield 15, 3) := by decide +kernel
theorem dX3_writeSigns_19 : decode cX3_writeSigns 19 = .ok (.aload_n 0, 1) := by decide +kernel
theorem dX3_writeSigns_20 : decode cX3_writeSigns 20 = .ok (.getfield 22, 3) := by decide +kernel
theorem dX3_writeSigns_23 : decode cX3_writeSigns 23 = .ok (.iconst 1, 1) := by decide +kernel
theorem dX3_writeSigns_24 : decode cX3_writeSigns 24 = .ok (.isub, 1) := by decide +kernel
theorem dX3_writeSigns_25 : decode cX3_writeSigns 25 = .ok (.iaload, 1) := by decide +kernel
theorem dX3_writeSigns_26 : decode cX3_writeSigns 26 = .ok (.istore_n 3, 1) := by decide +kernel
theorem dX3_writeSigns_27 : decode cX3_writeSigns 27 = .ok (.iload_n 3, 1) := by decide +kernel
theorem dX3_writeSigns_28 : decode cX3_writeSigns 28 = .ok (.bipush 33, 2) := by decide +kernel
theorem dX3_writeSigns_30 : decode cX3_writeSigns 30 = .ok (.if_icmp .eq 12, 3) := by decide +kernel
theorem dX3_writeSigns_33 : decode cX3_writeSigns 33 = .ok (.iload_n 3, 1) := by decide +kernel
theorem dX3_writeSigns_34 : decode cX3_writeSigns 34 = .ok (.invokestatic 78, 3) := by decide +kernel
theorem dX3_writeSigns_37 : decode cX3_writeSigns 37 = .ok (.iload_n 1, 1) := by decide +kernel
theorem dX3_writeSigns_38 : decode cX3_writeSigns 38 = .ok (.if_icmp .ge 4, 3) := by decide +kernel
theorem dX3_writeSigns_41 : decode cX3_writeSigns 41 = .ok (.return_, 1) := by decide +kernel
theorem dX3_writeSigns_42 : decode cX3_writeSigns 42 = .ok (.aload_n 0, 1) := by decide +kernel
theorem dX3_writeSigns_43 : decode cX3_writeSigns 43 = .ok (.dup, 1) := by decide +kernel
theorem dX3_writeSigns_44 : decode cX3_writeSigns 44 = .ok (.getfield 25, 3) := by decide +kernel
theorem dX3_writeSigns_47 : decode cX3_writeSigns 47 = .ok (.iload_n 3, 1) := by decide +kernel
theorem dX3_writeSigns_48 : decode cX3_writeSigns 48 = .ok (.bipush 33, 2) := by decide +kernel
theorem dX3_writeSigns_50 : decode cX3_writeSigns 50 = .ok (.if_icmp .ne 7, 3) := by decide +kernel
theorem dX3_writeSigns_53 : decode cX3_writeSigns 53 = .ok (.iconst 1, 1) := by decide +kernel
theorem dX3_writeSigns_54 : decode cX3_writeSigns 54 = .ok (.goto 4, 3) := by decide +kernel
theorem dX3_writeSigns_57 : decode cX3_writeSigns 57 = .ok (.iconst 0, 1) := by decide +kernel
theorem dX3_writeSigns_58 : decode cX3_writeSigns 58 = .ok (.isub, 1) := by decide +kernel
theorem dX3_writeSigns_59 : decode cX3_writeSigns 59 = .ok (.putfield 25, 3) := by decide +kernel
theorem dX3_writeSigns_62 : decode cX3_writeSigns 62 = .ok (.aload_n 0, 1) := by decide +kernel
theorem dX3_writeSigns_63 : decode cX3_writeSigns 63 = .ok (.dup, 1) := by decide +kernel
theorem dX3_writeSigns_64 : decode cX3_writeSigns 64 = .ok (.getfield 22, 3) := by decide +kernel
theorem dX3_writeSigns_67 : decode cX3_writeSigns 67 = .ok (.iconst 1, 1) := by decide +kernel
theorem dX3_writeSigns_68 : decode cX3_writeSigns 68 = .ok (.isub, 1) := by decide +kernel
theorem dX3_writeSigns_69 : decode cX3_writeSigns 69 = .ok (.putfield 22, 3) := by decide +kernel
theorem dX3_writeSigns_72 : decode cX3_writeSigns 72 = .ok (.aload_n 0, 1) := by decide +kernel
theorem dX3_writeSigns_73 : decode cX3_writeSigns 73 = .ok (.iload_n 3, 1) := by decide +kernel
theorem dX3_writeSigns_74 : decode cX3_writeSigns 74 = .ok (.ineg, 1) := by decide +kernel
theorem dX3_writeSigns_75 : decode cX3_writeSigns 75 = .ok (.invokevirtual 56, 3) := by decide +kernel
theorem dX3_writeSigns_78 : decode cX3_writeSigns 78 = .ok (.iinc 2 1, 3) := by decide +kernel
theorem dX3_writeSigns_81 : decode cX3_writeSigns 81 = .ok (.goto (-79), 3) := by decide +kernel
theorem dX3_writeSigns_84 : decode cX3_writeSigns 84 = .ok (.return_, 1) := by decide +kernel
theorem dX3_write_0 : decode cX3_write 0 = .ok (.aload_n 0, 1) := by decide +kernel
theorem dX3_write_1 : decode cX3_write 1 = .ok (.getfield 18, 3) := by decide +kernel
theorem dX3_write_4 : decode cX3_write 4 = .ok (.bipush 60, 2) := by decide +kernel
theorem dX3_write_6 : decode cX3_write 6 = .ok (.if_icmp .ge 23, 3) := by decide +kernel
theorem dX3_write_9 : decode cX3_write 9 = .ok (.aload_n 0, 1) := by decide +kernel
theorem dX3_write_10 : decode cX3_write 10 = .ok (.getfield 9, 3) := by decide +kernel
theorem dX3_write_13 : decode cX3_write 13 = .ok (.aload_n 0, 1) := by decide +kernel
theorem dX3_write_14 : decode cX3_write 14 = .ok (.getfield 18, 3) := by decide +kernel
theorem dX3_write_17 : decode cX3_write 17 = .ok (.iload_n 1, 1) := by decide +kernel
theorem dX3_write_18 : decode cX3_write 18 = .ok (.iastore, 1) := by decide +kernel
theorem dX3_write_19 : decode cX3_write 19 = .ok (.aload_n 0, 1) := by decide +kernel
theorem dX3_write_20 : decode cX3_write 20 = .ok (.dup, 1) := by decide +kernel
theorem dX3_write_21 : decode cX3_write 21 = .ok (.getfield 18, 3) := by decide +kernel
theorem dX3_write_24 : decode cX3_write 24 = .ok (.iconst 1, 1) := by decide +kernel
theorem dX3_write_25 : decode cX3_write 25 = .ok (.iadd, 1) := by decide +kernel
theorem dX3_write_26 : decode cX3_write 26 = .ok (.putfield 18, 3) := by decide +kernel
theorem dX3_write_29 : decode cX3_write 29 = .ok (.return_, 1) := by decide +kernel
theorem dX3_hold_0 : decode cX3_hold 0 = .ok (.aload_n 0, 1) := by decide +kernel
theorem dX3_hold_1 : decode cX3_hold 1 = .ok (.getfield 22, 3) := by decide +kernel
theorem dX3_hold_4 : decode cX3_hold 4 = .ok (.bipush 60, 2) := by decide +kernel
theorem dX3_hold_6 : decode cX3_hold 6 = .ok (.if_icmp .ge 23, 3) := by decide +kernel
theorem dX3_hold_9 : decode cX3_hold 9 = .ok (.aload_n 0, 1) := by decide +kernel
theorem dX3_hold_10 : decode cX3_hold 10 = .ok (.getfield 15, 3) := by decide +kernel
theorem dX3_hold_13 : decode cX3_hold 13 = .ok (.aload_n 0, 1) := by decide +kernel
theorem dX3_hold_14 : decode cX3_hold 14 = .ok (.getfield 22, 3) := by decide +kernel
theorem dX3_hold_17 : decode cX3_hold 17 = .ok (.iload_n 1, 1) := by decide +kernel
theorem dX3_hold_18 : decode cX3_hold 18 = .ok (.iastore, 1) := by decide +kernel
theorem dX3_hold_19 : decode cX3_hold 19 = .ok (.aload_n 0, 1) := by decide +kernel
theorem dX3_hold_20 : decode cX3_hold 20 = .ok (.dup, 1) := by decide +kernel
theorem dX3_hold_21 : decode cX3_hold 21 = .ok (.getfield 22, 3) := by decide +kernel
theorem dX3_hold_24 : decode cX3_hold 24 = .ok (.iconst 1, 1) := by decide +kernel
theorem dX3_hold_25 : decode cX3_hold 25 = .ok (.iadd, 1) := by decide +kernel
theorem dX3_hold_26 : decode cX3_hold 26 = .ok (.putfield 22, 3) := by decide +kernel
theorem dX3_hold_29 : decode cX3_hold 29 = .ok (.return_, 1) := by decide +kernel
theorem dX3_rankOf_0 : decode cX3_rankOf 0 = .ok (.iload_n 0, 1) := by decide +kernel
theorem dX3_rankOf_1 : decode cX3_rankOf 1 = .ok (.lookupswitch 101 #[(37, 99), (38, 93), (42, 99), (43, 97), (45, 97), (47, 99), (60, 95), (61, 95), (62, 95), (124, 91)], 91) := by decide +kernel
theorem dX3_rankOf_92 : decode cX3_rankOf 92 = .ok (.iconst 1, 1) := by decide +kernel
theorem dX3_rankOf_93 : decode cX3_rankOf 93 = .ok (.ireturn, 1) := by decide +kernel
theorem dX3_rankOf_94 : decode cX3_rankOf 94 = .ok (.iconst 2, 1) := by decide +kernel
theorem dX3_rankOf_95 : decode cX3_rankOf 95 = .ok (.ireturn, 1) := by decide +kernel
theorem dX3_rankOf_96 : decode cX3_rankOf 96 = .ok (.iconst 3, 1) := by decide +kernel
theorem dX3_rankOf_97 : decode cX3_rankOf 97 = .ok (.ireturn, 1) := by decide +kernel
theorem dX3_rankOf_98 : decode cX3_rankOf 98 = .ok (.iconst 4, 1) := by decide +kernel
theorem dX3_rankOf_99 : decode cX3_rankOf 99 = .ok (.ireturn, 1) := by decide +kernel
theorem dX3_rankOf_100 : decode cX3_rankOf 100 = .ok (.iconst 5, 1) := by decide +kernel
theorem dX3_rankOf_101 : decode cX3_rankOf 101 = .ok (.ireturn, 1) := by decide +kernel
theorem dX3_rankOf_102 : decode cX3_rankOf 102 = .ok (.iconst 0, 1) := by decide +kernel
theorem dX3_rankOf_103 : decode cX3_rankOf 103 = .ok (.ireturn, 1) := by decide +kernel
theorem dX4_init_0 : decode cX4_init 0 = .ok (.aload_n 0, 1) := by decide +kernel
theorem dX4_init_1 : decode cX4_init 1 = .ok (.invokespecial 3, 3) := by decide +kernel
theorem dX4_init_4 : decode cX4_init 4 = .ok (.aload_n 0, 1) := by decide +kernel
theorem dX4_init_5 : decode cX4_init 5 = .ok (.iconst 4, 1) := by decide +kernel
theorem dX4_init_6 : decode cX4_init 6 = .ok (.bipush 24, 2) := by decide +kernel
theorem dX4_init_8 : decode cX4_init 8 = .ok (.multianewarray 11 2, 4) := by decide +kernel
theorem dX4_init_12 : decode cX4_init 12 = .ok (.putfield 13, 3) := by decide +kernel
theorem dX4_init_15 : decode cX4_init 15 = .ok (.aload_n 0, 1) := by decide +kernel
theorem dX4_init_16 : decode cX4_init 16 = .ok (.iconst 4, 1) := by decide +kernel
theorem dX4_init_17 : decode cX4_init 17 = .ok (.newarray .int, 2) := by decide +kernel
theorem dX4_init_19 : decode cX4_init 19 = .ok (.putfield 16, 3) := by decide +kernel
theorem dX4_init_22 : decode cX4_init 22 = .ok (.aload_n 0, 1) := by decide +kernel
theorem dX4_init_23 : decode cX4_init 23 = .ok (.iconst 4, 1) := by decide +kernel
theorem dX4_init_24 : decode cX4_init 24 = .ok (.newarray .int, 2) := by decide +kernel
theorem dX4_init_26 : decode cX4_init 26 = .ok (.putfield 20, 3) := by decide +kernel
theorem dX4_init_29 : decode cX4_init 29 = .ok (.return_, 1) := by decide +kernel
theorem dX4_isMissing_0 : decode cX4_isMissing 0 = .ok (.aload_n 0, 1) := by decide +kernel
theorem dX4_isMissing_1 : decode cX4_isMissing 1 = .ok (.getfield 16, 3) := by decide +kernel
theorem dX4_isMissing_4 : decode cX4_isMissing 4 = .ok (.iload_n 1, 1) := by decide +kernel
theorem dX4_isMissing_5 : decode cX4_isMissing 5 = .ok (.iaload, 1) := by decide +kernel
theorem dX4_isMissing_6 : decode cX4_isMissing 6 = .ok (.ifCond .ne 7, 3) := by decide +kernel
theorem dX4_isMissing_9 : decode cX4_isMissing 9 = .ok (.iconst 1, 1) := by decide +kernel
theorem dX4_isMissing_10 : decode cX4_isMissing 10 = .ok (.goto 4, 3) := by decide +kernel
theorem dX4_isMissing_13 : decode cX4_isMissing 13 = .ok (.iconst 0, 1) := by decide +kernel
theorem dX4_isMissing_14 : decode cX4_isMissing 14 = .ok (.ireturn, 1) := by decide +kernel
theorem dX4_begin_0 : decode cX4_begin 0 = .ok (.iconst 0, 1) := by decide +kernel
theorem dX4_begin_1 : decode cX4_begin 1 = .ok (.istore 4, 2) := by decide +kernel
theorem dX4_begin_3 : decode cX4_begin 3 = .ok (.iload 4, 2) := by decide +kernel
theorem dX4_begin_5 : decode cX4_begin 5 = .ok (.bipush 24, 2) := by decide +kernel
theorem dX4_begin_7 : decode cX4_begin 7 = .ok (.if_icmp .ge 19, 3) := by decide +kernel
theorem dX4_begin_10 : decode cX4_begin 10 = .ok (.aload_n 0, 1) := by decide +kernel
theorem dX4_begin_11 : decode cX4_begin 11 = .ok (.getfield 13, 3) := by decide +kernel
theorem dX4_begin_14 : decode cX4_begin 14 = .ok (.iload_n 1, 1) := by decide +kernel
theorem dX4_begin_15 : decode cX4_begin 15 = .ok (.aaload, 1) := by decide +kernel
theorem dX4_begin_16 : decode cX4_begin 16 = .ok (.iload 4, 2) := by decide +kernel
theorem dX4_begin_18 : decode cX4_begin 18 = .ok (.iconst 0, 1) := by decide +kernel
theorem dX4_begin_19 : decode cX4_begin 19 = .ok (.iastore, 1) := by decide +kernel
theorem dX4_begin_20 : decode cX4_begin 20 = .ok (.iinc 4 1, 3) := by decide +kernel
theorem dX4_begin_23 : decode cX4_begin 23 = .ok (.goto (-20), 3) := by decide +kernel
theorem dX4_begin_26 : decode cX4_begin 26 = .ok (.aload_n 0, 1) := by decide +kernel
theorem dX4_begin_27 : decode cX4_begin 27 = .ok (.getfield 16, 3) := by decide +kernel
theorem dX4_begin_30 : decode cX4_begin 30 = .ok (.iload_n 1, 1) := by decide +kernel
theorem dX4_begin_31 : decode cX4_begin 31 = .ok (.iload_n 2, 1) := by decide +kernel
theorem dX4_begin_32 : decode cX4_begin 32 = .ok (.iastore, 1) := by decide +kernel
theorem dX4_begin_33 : decode cX4_begin 33 = .ok (.aload_n 0, 1) := by decide +kernel
theorem dX4_begin_34 : decode cX4_begin 34 = .ok (.getfield 20, 3) := by decide +kernel
theorem dX4_begin_37 : decode cX4_begin 37 = .ok (.iload_n 1, 1) := by decide +kernel
theorem dX4_begin_38 : decode cX4_begin 38 = .ok (.iload_n 3, 1) := by decide +kernel
theorem dX4_begin_39 : decode cX4_begin 39 = .ok (.iastore, 1) := by decide +kernel
theorem dX4_begin_40 : decode cX4_begin 40 = .ok (.return_, 1) := by decide +kernel
theorem dX4_lowest_0 : decode cX4_lowest 0 = .ok (.aload_n 0, 1) := by decide +kernel
theorem dX4_lowest_1 : decode cX4_lowest 1 = .ok (.getfield 16, 3) := by decide +kernel
theorem dX4_lowest_4 : decode cX4_lowest 4 = .ok (.iload_n 1, 1) := by decide +kernel
theorem dX4_lowest_5 : decode cX4_lowest 5 = .ok (.iaload, 1) := by decide +kernel
theorem dX4_lowest_6 : decode cX4_lowest 6 = .ok (.lookupswitch 32 #[(8, 26), (16, 29)], 26) := by decide +kernel
theorem dX4_lowest_32 : decode cX4_lowest 32 = .ok (.iload_n 2, 1) := by decide +kernel
theorem dX4_lowest_33 : decode cX4_lowest 33 = .ok (.i2b, 1) := by decide +kernel
theorem dX4_lowest_34 : decode cX4_lowest 34 = .ok (.ireturn, 1) := by decide +kernel
theorem dX4_lowest_35 : decode cX4_lowest 35 = .ok (.iload_n 2, 1) := by decide +kernel
theorem dX4_lowest_36 : decode cX4_lowest 36 = .ok (.i2s, 1) := by decide +kernel
theorem dX4_lowest_37 : decode cX4_lowest 37 = .ok (.ireturn, 1) := by decide +kernel
theorem dX4_lowest_38 : decode cX4_lowest 38 = .ok (.iload_n 2, 1) := by decide +kernel
theorem dX4_lowest_39 : decode cX4_lowest 39 = .ok (.ireturn, 1) := by decide +kernel
theorem dX4_stand_0 : decode cX4_stand 0 = .ok (.iload_n 2, 1) := by decide +kernel
theorem dX4_stand_1 : decode cX4_stand 1 = .ok (.ifCond .lt 33, 3) := by decide +kernel
theorem dX4_stand_4 : decode cX4_stand 4 = .ok (.iload_n 3, 1) := by decide +kernel
theorem dX4_stand_5 : decode cX4_stand 5 = .ok (.ifCond .lt 29, 3) := by decide +kernel
theorem dX4_stand_8 : decode cX4_stand 8 = .ok (.iload_n 3, 1) := by decide +kernel
theorem dX4_stand_9 : decode cX4_stand 9 = .ok (.aload_n 0, 1) := by decide +kernel
theorem dX4_stand_10 : decode cX4_stand 10 = .ok (.getfield 20, 3) := by decide +kernel
theorem dX4_stand_13 : decode cX4_stand 13 = .ok (.iload_n 1, 1) := by decide +kernel
theorem dX4_stand_14 : decode cX4_stand 14 = .ok (.iaload, 1) := by decide +kernel
theorem dX4_stand_15 : decode cX4_stand 15 = .ok (.if_icmp .gt 19, 3) := by decide +kernel
theorem dX4_stand_18 : decode cX4_stand 18 = .ok (.iload_n 2, 1) := by decide +kernel
theorem dX4_stand_19 : decode cX4_stand 19 = .ok (.aload_n 0, 1) := by decide +kernel
theorem dX4_stand_20 : decode cX4_stand 20 = .ok (.getfield 20, 3) := by decide +kernel
theorem dX4_stand_23 : decode cX4_stand 23 = .ok (.iload_n 1, 1) := by decide +kernel
theorem dX4_stand_24 : decode cX4_stand 24 = .ok (.iaload, 1) := by decide +kernel
theorem dX4_stand_25 : decode cX4_stand 25 = .ok (.iload_n 3, 1) := by decide +kernel
theorem dX4_stand_26 : decode cX4_stand 26 = .ok (.isub, 1) := by decide +kernel
theorem dX4_stand_27 : decode cX4_stand 27 = .ok (.if_icmp .gt 7, 3) := by decide +kernel
theorem dX4_stand_30 : decode cX4_stand 30 = .ok (.iconst 1, 1) := by decide +kernel
theorem dX4_stand_31 : decode cX4_stand 31 = .ok (.goto 4, 3) := by decide +kernel
theorem dX4_stand_34 : decode cX4_stand 34 = .ok (.iconst 0, 1) := by decide +kernel
theorem dX4_stand_35 : decode cX4_stand 35 = .ok (.ireturn, 1) := by decide +kernel
theorem dX5_init_0 : decode cX5_init 0 = .ok (.aload_n 0, 1) := by decide +kernel
theorem dX5_init_1 : decode cX5_init 1 = .ok (.invokespecial 3, 3) := by decide +kernel
theorem dX5_init_4 : decode cX5_init 4 = .ok (.aload_n 0, 1) := by decide +kernel
theorem dX5_init_5 : decode cX5_init 5 = .ok (.bipush 30, 2) := by decide +kernel
theorem dX5_init_7 : decode cX5_init 7 = .ok (.newarray .int, 2) := by decide +kernel
theorem dX5_init_9 : decode cX5_init 9 = .ok (.putfield 9, 3) := by decide +kernel
theorem dX5_init_12 : decode cX5_init 12 = .ok (.return_, 1) := by decide +kernel
theorem dX5_answer_0 : decode cX5_answer 0 = .ok (.aload_n 0, 1) := by decide +kernel
theorem dX5_answer_1 : decode cX5_answer 1 = .ok (.iload_n 1, 1) := by decide +kernel
theorem dX5_answer_2 : decode cX5_answer 2 = .ok (.putfield 15, 3) := by decide +kernel
theorem dX5_answer_5 : decode cX5_answer 5 = .ok (.aload_n 0, 1) := by decide +kernel
theorem dX5_answer_6 : decode cX5_answer 6 = .ok (.iload_n 2, 1) := by decide +kernel
theorem dX5_answer_7 : decode cX5_answer 7 = .ok (.putfield 19, 3) := by decide +kernel
theorem dX5_answer_10 : decode cX5_answer 10 = .ok (.aload_n 0, 1) := by decide +kernel
theorem dX5_answer_11 : decode cX5_answer 11 = .ok (.iload_n 3, 1) := by decide +kernel
theorem dX5_answer_12 : decode cX5_answer 12 = .ok (.putfield 22, 3) := by decide +kernel
theorem dX5_answer_15 : decode cX5_answer 15 = .ok (.aload_n 0, 1) := by decide +kernel
theorem dX5_answer_16 : decode cX5_answer 16 = .ok (.iconst 0, 1) := by decide +kernel
theorem dX5_answer_17 : decode cX5_answer 17 = .ok (.putfield 25, 3) := by decide +kernel
theorem dX5_answer_20 : decode cX5_answer 20 = .ok (.aload_n 0, 1) := by decide +kernel
theorem dX5_answer_21 : decode cX5_answer 21 = .ok (.iconst 0, 1) := by decide +kernel
theorem dX5_answer_22 : decode cX5_answer 22 = .ok (.putfield 28, 3) := by decide +kernel
theorem dX5_answer_25 : decode cX5_answer 25 = .ok (.aload_n 0, 1) := by decide +kernel
theorem dX5_answer_26 : decode cX5_answer 26 = .ok (.aload_n 0, 1) := by decide +kernel
theorem dX5_answer_27 : decode cX5_answer 27 = .ok (.getfield 15, 3) := by decide +kernel
theorem dX5_answer_30 : decode cX5_answer 30 = .ok (.iload 4, 2) := by decide +kernel
theorem dX5_answer_32 : decode cX5_answer 32 = .ok (.iload 5, 2) := by decide +kernel
theorem dX5_answer_34 : decode cX5_answer 34 = .ok (.iconst 0, 1) := by decide +kernel
theorem dX5_answer_35 : decode cX5_answer 35 = .ok (.invokevirtual 32, 3) := by decide +kernel
theorem dX5_answer_38 : decode cX5_answer 38 = .ok (.ireturn, 1) := by decide +kernel
theorem dX5_speak_0 : decode cX5_speak 0 = .ok (.iload 4, 2) := by decide +kernel
theorem dX5_speak_2 : decode cX5_speak 2 = .ok (.bipush 40, 2) := by decide +kernel
theorem dX5_speak_4 : decode cX5_speak 4 = .ok (.if_icmp .gt 12, 3) := by decide +kernel
theorem dX5_speak_7 : decode cX5_speak 7 = .ok (.iload_n 2, 1) := by decide +kernel
theorem dX5_speak_8 : decode cX5_speak 8 = .ok (.ifCond .lt 8, 3) := by decide +kernel
theorem dX5_speak_11 : decode cX5_speak 11 = .ok (.iload_n 2, 1) := by decide +kernel
theorem dX5_speak_12 : decode cX5_speak 12 = .ok (.iconst 3, 1) := by decide +kernel
theorem dX5_speak_13 : decode cX5_speak 13 = .ok (.if_icmp .le 5, 3) := by decide +kernel
theorem dX5_speak_16 : decode cX5_speak 16 = .ok (.iconst 0, 1) := by decide +kernel
theorem dX5_speak_17 : decode cX5_speak 17 = .ok (.ireturn, 1) := by decide +kernel
theorem dX5_speak_18 : decode cX5_speak 18 = .ok (.iload_n 1, 1) := by decide +kernel
theorem dX5_speak_19 : decode cX5_speak 19 = .ok (.istore 5, 2) := by decide +kernel
theorem dX5_speak_21 : decode cX5_speak 21 = .ok (.iconst 0, 1) := by decide +kernel
theorem dX5_speak_22 : decode cX5_speak 22 = .ok (.istore 6, 2) := by decide +kernel
theorem dX5_speak_24 : decode cX5_speak 24 = .ok (.iload 6, 2) := by decide +kernel
theorem dX5_speak_26 : decode cX5_speak 26 = .ok (.bipush 7, 2) := by decide +kernel
theorem dX5_speak_28 : decode cX5_speak 28 = .ok (.if_icmp .ge 30, 3) := by decide +kernel
theorem dX5_speak_31 : decode cX5_speak 31 = .ok (.getstatic 36, 3) := by decide +kernel
theorem dX5_speak_34 : decode cX5_speak 34 = .ok (.iconst 4, 1) := by decide +kernel
theorem dX5_speak_35 : decode cX5_speak 35 = .ok (.iload 5, 2) := by decide +kernel
theorem dX5_speak_37 : decode cX5_speak 37 = .ok (.imul, 1) := by decide +kernel
theorem dX5_speak_38 : decode cX5_speak 38 = .ok (.iload_n 2, 1) := by decide +kernel
theorem dX5_speak_39 : decode cX5_speak 39 = .ok (.iadd, 1) := by decide +kernel
theorem dX5_speak_40 : decode cX5_speak 40 = .ok (.iaload, 1) := by decide +kernel
theorem dX5_speak_41 : decode cX5_speak 41 = .ok (.ifCond .ne 17, 3) := by decide +kernel
theorem dX5_speak_44 : decode cX5_speak 44 = .ok (.getstatic 39, 3) := by decide +kernel
theorem dX5_speak_47 : decode cX5_speak 47 = .ok (.iload 5, 2) := by decide +kernel
theorem dX5_speak_49 : decode cX5_speak 49 = .ok (.iaload, 1) := by decide +kernel
theorem dX5_speak_50 : decode cX5_speak 50 = .ok (.istore 5, 2) := by decide +kernel
theorem dX5_speak_52 : decode cX5_speak 52 = .ok (.iinc 6 1, 3) := by decide +kernel
theorem dX5_speak_55 : decode cX5_speak 55 = .ok (.goto (-31), 3) := by decide +kernel
theorem dX5_speak_58 : decode cX5_speak 58 = .ok (.getstatic 36, 3) := by decide +kernel
theorem dX5_speak_61 : decode cX5_speak 61 = .ok (.iconst 4, 1) := by decide +kernel
theorem dX5_speak_62 : decode cX5_speak 62 = .ok (.iload 5, 2) := by decide +kernel
theorem dX5_speak_64 : decode cX5_speak 64 = .ok (.imul, 1) := by decide +kernel
theorem dX5_speak_65 : decode cX5_speak 65 = .ok (.iload_n 2, 1) := by decide +kernel
theorem dX5_speak_66 : decode cX5_speak 66 = .ok (.iadd, 1) := by decide +kernel
theorem dX5_speak_67 : decode cX5_speak 67 = .ok (.iaload, 1) := by decide +kernel
theorem dX5_speak_68 : decode cX5_speak 68 = .ok (.istore 6, 2) := by decide +kernel
theorem dX5_speak_70 : decode cX5_speak 70 = .ok (.aload_n 0, 1) := by decide +kernel
theorem dX5_speak_71 : decode cX5_speak 71 = .ok (.getfield 25, 3) := by decide +kernel
theorem dX5_speak_74 : decode cX5_speak 74 = .ok (.bipush 30, 2) := by decide +kernel
theorem dX5_speak_76 : decode cX5_speak 76 = .ok (.if_icmp .ge 24, 3) := by decide +kernel
theorem dX5_speak_79 : decode cX5_speak 79 = .ok (.aload_n 0, 1) := by decide +kernel
theorem dX5_speak_80 : decode cX5_speak 80 = .ok (.getfield 9, 3) := by decide +kernel
theorem dX5_speak_83 : decode cX5_speak 83 = .ok (.aload_n 0, 1) := by decide +kernel
theorem dX5_speak_84 : decode cX5_speak 84 = .ok (.getfield 25, 3) := by decide +kernel
theorem dX5_speak_87 : decode cX5_speak 87 = .ok (.iload 6, 2) := by decide +kernel
theorem dX5_speak_89 : decode cX5_speak 89 = .ok (.iastore, 1) := by decide +kernel
theorem dX5_speak_90 : decode cX5_speak 90 = .ok (.aload_n 0, 1) := by decide +kernel
theorem dX5_speak_91 : decode cX5_speak 91 = .ok (.dup, 1) := by decide +kernel
theorem dX5_speak_92 : decode cX5_speak 92 = .ok (.getfield 25, 3) := by decide +kernel
theorem dX5_speak_95 : decode cX5_speak 95 = .ok (.iconst 1, 1) := by decide +kernel
theorem dX5_speak_96 : decode cX5_speak 96 = .ok (.iadd, 1) := by decide +kernel
theorem dX5_speak_97 : decode cX5_speak 97 = .ok (.putfield 25, 3) := by decide +kernel
theorem dX5_speak_100 : decode cX5_speak 100 = .ok (.iload 6, 2) := by decide +kernel
theorem dX5_speak_102 : decode cX5_speak 102 = .ok (.bipush 20, 2) := by decide +kernel
theorem dX5_speak_104 : decode cX5_speak 104 = .ok (.if_icmp .ge 15, 3) := by decide +kernel
theorem dX5_speak_107 : decode cX5_speak 107 = .ok (.aload_n 0, 1) := by decide +kernel
theorem dX5_speak_108 : decode cX5_speak 108 = .ok (.iload 6, 2) := by decide +kernel
theorem dX5_speak_110 : decode cX5_speak 110 = .ok (.iload_n 3, 1) := by decide +kernel
theorem dX5_speak_111 : decode cX5_speak 111 = .ok (.iload 4, 2) := by decide +kernel
theorem dX5_speak_113 : decode cX5_speak 113 = .ok (.invokevirtual 42, 3) := by decide +kernel
theorem dX5_speak_116 : decode cX5_speak 116 = .ok (.goto 18, 3) := by decide +kernel
theorem dX5_speak_119 : decode cX5_speak 119 = .ok (.aload_n 0, 1) := by decide +kernel
theorem dX5_speak_120 : decode cX5_speak 120 = .ok (.iload 6, 2) := by decide +kernel
theorem dX5_speak_122 : decode cX5_speak 122 = .ok (.getstatic 39, 3) := by decide +kernel
theorem dX5_speak_125 : decode cX5_speak 125 = .ok (.iload 5, 2) := by decide +kernel
theorem dX5_speak_127 : decode cX5_speak 127 = .ok (.iaload, 1) := by decide +kernel
theorem dX5_speak_128 : decode cX5_speak 128 = .ok (.iload_n 3, 1) := by decide +kernel
theorem dX5_speak_129 : decode cX5_speak 129 = .ok (.iload 4, 2) := by decide +kernel
theorem dX5_speak_131 : decode cX5_speak 131 = .ok (.invokevirtual 46, 3) := by decide +kernel
theorem dX5_speak_134 : decode cX5_speak 134 = .ok (.ireturn, 1) := by decide +kernel
theorem dX5_ofWheel_0 : decode cX5_ofWheel 0 = .ok (.iload_n 1, 1) := by decide +kernel
theorem dX5_ofWheel_1 : decode cX5_ofWheel 1 = .ok (.tableswitch 69 10 12 #[27, 34, 50], 27) := by decide +kernel
theorem dX5_ofWheel_28 : decode cX5_ofWheel 28 = .ok (.iload_n 2, 1) := by decide +kernel
theorem dX5_ofWheel_29 : decode cX5_ofWheel 29 = .ok (.aload_n 0, 1) := by decide +kernel
theorem dX5_ofWheel_30 : decode cX5_ofWheel 30 = .ok (.getfield 19, 3) := by decide +kernel
theorem dX5_ofWheel_33 : decode cX5_ofWheel 33 = .ok (.iadd, 1) := by decide +kernel
theorem dX5_ofWheel_34 : decode cX5_ofWheel 34 = .ok (.ireturn, 1) := by decide +kernel
theorem dX5_ofWheel_35 : decode cX5_ofWheel 35 = .ok (.aload_n 0, 1) := by decide +kernel
theorem dX5_ofWheel_36 : decode cX5_ofWheel 36 = .ok (.aload_n 0, 1) := by decide +kernel
theorem dX5_ofWheel_37 : decode cX5_ofWheel 37 = .ok (.getfield 15, 3) := by decide +kernel
theorem dX5_ofWheel_40 : decode cX5_ofWheel 40 = .ok (.iconst 0, 1) := by decide +kernel
theorem dX5_ofWheel_41 : decode cX5_ofWheel 41 = .ok (.iload_n 2, 1) := by decide +kernel
theorem dX5_ofWheel_42 : decode cX5_ofWheel 42 = .ok (.iload_n 3, 1) := by decide +kernel
theorem dX5_ofWheel_43 : decode cX5_ofWheel 43 = .ok (.iconst 1, 1) := by decide +kernel
theorem dX5_ofWheel_44 : decode cX5_ofWheel 44 = .ok (.iadd, 1) := by decide +kernel
theorem dX5_ofWheel_45 : decode cX5_ofWheel 45 = .ok (.invokevirtual 32, 3) := by decide +kernel
theorem dX5_ofWheel_48 : decode cX5_ofWheel 48 = .ok (.iconst 2, 1) := by decide +kernel
theorem dX5_ofWheel_49 : decode cX5_ofWheel 49 = .ok (.imul, 1) := by decide +kernel
theorem dX5_ofWheel_50 : decode cX5_ofWheel 50 = .ok (.ireturn, 1) := by decide +kernel
theorem dX5_ofWheel_51 : decode cX5_ofWheel 51 = .ok (.aload_n 0, 1) := by decide +kernel
theorem dX5_ofWheel_52 : decode cX5_ofWheel 52 = .ok (.aload_n 0, 1) := by decide +kernel
theorem dX5_ofWheel_53 : decode cX5_ofWheel 53 = .ok (.getfield 15, 3) := by decide +kernel
theorem dX5_ofWheel_56 : decode cX5_ofWheel 56 = .ok (.iconst 1, 1) := by decide +kernel
theorem dX5_ofWheel_57 : decode cX5_ofWheel 57 = .ok (.iload_n 2, 1) := by decide +kernel
theorem dX5_ofWheel_58 : decode cX5_ofWheel 58 = .ok (.iload_n 3, 1) := by decide +kernel
theorem dX5_ofWheel_59 : decode cX5_ofWheel 59 = .ok (.iconst 1, 1) := by decide +kernel
theorem dX5_ofWheel_60 : decode cX5_ofWheel 60 = .ok (.iadd, 1) := by decide +kernel
theorem dX5_ofWheel_61 : decode cX5_ofWheel 61 = .ok (.invokevirtual 32, 3) := by decide +kernel
theorem dX5_ofWheel_64 : decode cX5_ofWheel 64 = .ok (.aload_n 0, 1) := by decide +kernel
theorem dX5_ofWheel_65 : decode cX5_ofWheel 65 = .ok (.getfield 22, 3) := by decide +kernel
theorem dX5_ofWheel_68 : decode cX5_ofWheel 68 = .ok (.isub, 1) := by decide +kernel
theorem dX5_ofWheel_69 : decode cX5_ofWheel 69 = .ok (.ireturn, 1) := by decide +kernel
theorem dX5_ofWheel_70 : decode cX5_ofWheel 70 = .ok (.aload_n 0, 1) := by decide +kernel
theorem dX5_ofWheel_71 : decode cX5_ofWheel 71 = .ok (.iload_n 2, 1) := by decide +kernel
theorem dX5_ofWheel_72 : decode cX5_ofWheel 72 = .ok (.aload_n 0, 1) := by decide +kernel
theorem dX5_ofWheel_73 : decode cX5_ofWheel 73 = .ok (.getfield 22, 3) := by decide +kernel
theorem dX5_ofWheel_76 : decode cX5_ofWheel 76 = .ok (.aload_n 0, 1) := by decide +kernel
theorem dX5_ofWheel_77 : decode cX5_ofWheel 77 = .ok (.getfield 19, 3) := by decide +kernel
theorem dX5_ofWheel_80 : decode cX5_ofWheel 80 = .ok (.isub, 1) := by decide +kernel
theorem dX5_ofWheel_81 : decode cX5_ofWheel 81 = .ok (.invokevirtual 49, 3) := by decide +kernel
theorem dX5_ofWheel_84 : decode cX5_ofWheel 84 = .ok (.ireturn, 1) := by decide +kernel
theorem dX5_divided_0 : decode cX5_divided 0 = .ok (.iload_n 2, 1) := by decide +kernel
theorem dX5_divided_1 : decode cX5_divided 1 = .ok (.ifCond .ne 10, 3) := by decide +kernel
theorem dX5_divided_4 : decode cX5_divided 4 = .ok (.aload_n 0, 1) := by decide +kernel
theorem dX5_divided_5 : decode cX5_divided 5 = .ok (.iconst 1, 1) := by decide +kernel
theorem dX5_divided_6 : decode cX5_divided 6 = .ok (.putfield 28, 3) := by decide +kernel
theorem dX5_divided_9 : decode cX5_divided 9 = .ok (.iconst 0, 1) := by decide +kernel
theorem dX5_divided_10 : decode cX5_divided 10 = .ok (.ireturn, 1) := by decide +kernel
theorem dX5_divided_11 : decode cX5_divided 11 = .ok (.iload_n 1, 1) := by decide +kernel
theorem dX5_divided_12 : decode cX5_divided 12 = .ok (.iload_n 2, 1) := by decide +kernel
theorem dX5_divided_13 : decode cX5_divided 13 = .ok (.idiv, 1) := by decide +kernel
theorem dX5_divided_14 : decode cX5_divided 14 = .ok (.ireturn, 1) := by decide +kernel
theorem dX5_ofOthers_0 : decode cX5_ofOthers 0 = .ok (.iload 4, 2) := by decide +kernel
theorem dX5_ofOthers_2 : decode cX5_ofOthers 2 = .ok (.iconst 1, 1) := by decide +kernel
theorem dX5_ofOthers_3 : decode cX5_ofOthers 3 = .ok (.iadd, 1) := by decide +kernel
theorem dX5_ofOthers_4 : decode cX5_ofOthers 4 = .ok (.istore 5, 2) := by decide +kernel
theorem dX5_ofOthers_6 : decode cX5_ofOthers 6 = .ok (.iload_n 1, 1) := by decide +kernel
theorem dX5_ofOthers_7 : decode cX5_ofOthers 7 = .ok (.lookupswitch 159 #[(20, 73), (21, 85), (30, 94), (40, 106), (50, 118), (51, 130), (60, 145), (70, 157)], 73) := by decide +kernel
theorem dX5_ofOthers_80 : decode cX5_ofOthers 80 = .ok (.aload_n 0, 1) := by decide +kernel
theorem dX5_ofOthers_81 : decode cX5_ofOthers 81 = .ok (.iload_n 2, 1) := by decide +kernel
theorem dX5_ofOthers_82 : decode cX5_ofOthers 82 = .ok (.iconst 0, 1) := by decide +kernel
theorem dX5_ofOthers_83 : decode cX5_ofOthers 83 = .ok (.iload_n 3, 1) := by decide +kernel
theorem dX5_ofOthers_84 : decode cX5_ofOthers 84 = .ok (.iload 5, 2) := by decide +kernel
theorem dX5_ofOthers_86 : decode cX5_ofOthers 86 = .ok (.invokevirtual 32, 3) := by decide +kernel
theorem dX5_ofOthers_89 : decode cX5_ofOthers 89 = .ok (.iconst 4, 1) := by decide +kernel
theorem dX5_ofOthers_90 : decode cX5_ofOthers 90 = .ok (.isub, 1) := by decide +kernel
theorem dX5_ofOthers_91 : decode cX5_ofOthers 91 = .ok (.ireturn, 1) := by decide +kernel
theorem dX5_ofOthers_92 : decode cX5_ofOthers 92 = .ok (.aload_n 0, 1) := by decide +kernel
theorem dX5_ofOthers_93 : decode cX5_ofOthers 93 = .ok (.iload_n 2, 1) := by decide +kernel
theorem dX5_ofOthers_94 : decode cX5_ofOthers 94 = .ok (.iload_n 3, 1) := by decide +kernel
theorem dX5_ofOthers_95 : decode cX5_ofOthers 95 = .ok (.iload 5, 2) := by decide +kernel
theorem dX5_ofOthers_97 : decode cX5_ofOthers 97 = .ok (.invokevirtual 53, 3) := by decide +kernel
theorem dX5_ofOthers_100 : decode cX5_ofOthers 100 = .ok (.ireturn, 1) := by decide +kernel
theorem dX5_ofOthers_101 : decode cX5_ofOthers 101 = .ok (.iconst 0, 1) := by decide +kernel
theorem dX5_ofOthers_102 : decode cX5_ofOthers 102 = .ok (.aload_n 0, 1) := by decide +kernel
theorem dX5_ofOthers_103 : decode cX5_ofOthers 103 = .ok (.iload_n 2, 1) := by decide +kernel
theorem dX5_ofOthers_104 : decode cX5_ofOthers 104 = .ok (.iconst 1, 1) := by decide +kernel
theorem dX5_ofOthers_105 : decode cX5_ofOthers 105 = .ok (.iload_n 3, 1) := by decide +kernel
theorem dX5_ofOthers_106 : decode cX5_ofOthers 106 = .ok (.iload 5, 2) := by decide +kernel
theorem dX5_ofOthers_108 : decode cX5_ofOthers 108 = .ok (.invokevirtual 32, 3) := by decide +kernel
theorem dX5_ofOthers_111 : decode cX5_ofOthers 111 = .ok (.isub, 1) := by decide +kernel
theorem dX5_ofOthers_112 : decode cX5_ofOthers 112 = .ok (.ireturn, 1) := by decide +kernel
theorem dX5_ofOthers_113 : decode cX5_ofOthers 113 = .ok (.aload_n 0, 1) := by decide +kernel
theorem dX5_ofOthers_114 : decode cX5_ofOthers 114 = .ok (.iload_n 2, 1) := by decide +kernel
theorem dX5_ofOthers_115 : decode cX5_ofOthers 115 = .ok (.iconst 2, 1) := by decide +kernel
theorem dX5_ofOthers_116 : decode cX5_ofOthers 116 = .ok (.iload_n 3, 1) := by decide +kernel
theorem dX5_ofOthers_117 : decode cX5_ofOthers 117 = .ok (.iconst 2, 1) := by decide +kernel
theorem dX5_ofOthers_118 : decode cX5_ofOthers 118 = .ok (.idiv, 1) := by decide +kernel
theorem dX5_ofOthers_119 : decode cX5_ofOthers 119 = .ok (.iload 5, 2) := by decide +kernel
theorem dX5_ofOthers_121 : decode cX5_ofOthers 121 = .ok (.invokevirtual 32, 3) := by decide +kernel
theorem dX5_ofOthers_124 : decode cX5_ofOthers 124 = .ok (.ireturn, 1) := by decide +kernel
theorem dX5_ofOthers_125 : decode cX5_ofOthers 125 = .ok (.aload_n 0, 1) := by decide +kernel
theorem dX5_ofOthers_126 : decode cX5_ofOthers 126 = .ok (.iload_n 2, 1) := by decide +kernel
theorem dX5_ofOthers_127 : decode cX5_ofOthers 127 = .ok (.iconst 0, 1) := by decide +kernel
theorem dX5_ofOthers_128 : decode cX5_ofOthers 128 = .ok (.iload_n 3, 1) := by decide +kernel
theorem dX5_ofOthers_129 : decode cX5_ofOthers 129 = .ok (.iload 5, 2) := by decide +kernel
theorem dX5_ofOthers_131 : decode cX5_ofOthers 131 = .ok (.invokevirtual 32, 3) := by decide +kernel
theorem dX5_ofOthers_134 : decode cX5_ofOthers 134 = .ok (.iconst 3, 1) := by decide +kernel
theorem dX5_ofOthers_135 : decode cX5_ofOthers 135 = .ok (.imul, 1) := by decide +kernel
theorem dX5_ofOthers_136 : decode cX5_ofOthers 136 = .ok (.ireturn, 1) := by decide +kernel
theorem dX5_ofOthers_137 : decode cX5_ofOthers 137 = .ok (.aload_n 0, 1) := by decide +kernel
theorem dX5_ofOthers_138 : decode cX5_ofOthers 138 = .ok (.iload_n 2, 1) := by decide +kernel
theorem dX5_ofOthers_139 : decode cX5_ofOthers 139 = .ok (.iconst 2, 1) := by decide +kernel
theorem dX5_ofOthers_140 : decode cX5_ofOthers 140 = .ok (.iload_n 3, 1) := by decide +kernel
theorem dX5_ofOthers_141 : decode cX5_ofOthers 141 = .ok (.iload 5, 2) := by decide +kernel
theorem dX5_ofOthers_143 : decode cX5_ofOthers 143 = .ok (.invokevirtual 32, 3) := by decide +kernel
theorem dX5_ofOthers_146 : decode cX5_ofOthers 146 = .ok (.aload_n 0, 1) := by decide +kernel
theorem dX5_ofOthers_147 : decode cX5_ofOthers 147 = .ok (.getfield 19, 3) := by decide +kernel
theorem dX5_ofOthers_150 : decode cX5_ofOthers 150 = .ok (.ixor, 1) := by decide +kernel
theorem dX5_ofOthers_151 : decode cX5_ofOthers 151 = .ok (.ireturn, 1) := by decide +kernel
theorem dX5_ofOthers_152 : decode cX5_ofOthers 152 = .ok (.aload_n 0, 1) := by decide +kernel
theorem dX5_ofOthers_153 : decode cX5_ofOthers 153 = .ok (.iload_n 2, 1) := by decide +kernel
theorem dX5_ofOthers_154 : decode cX5_ofOthers 154 = .ok (.iconst 1, 1) := by decide +kernel
theorem dX5_ofOthers_155 : decode cX5_ofOthers 155 = .ok (.iload_n 3, 1) := by decide +kernel
theorem dX5_ofOthers_156 : decode cX5_ofOthers 156 = .ok (.iconst 1, 1) := by decide +kernel
theorem dX5_ofOthers_157 : decode cX5_ofOthers 157 = .ok (.iadd, 1) := by decide +kernel
theorem dX5_ofOthers_158 : decode cX5_ofOthers 158 = .ok (.iload 5, 2) := by decide +kernel
theorem dX5_ofOthers_160 : decode cX5_ofOthers 160 = .ok (.invokevirtual 32, 3) := by decide +kernel
theorem dX5_ofOthers_163 : decode cX5_ofOthers 163 = .ok (.ireturn, 1) := by decide +kernel
theorem dX5_ofOthers_164 : decode cX5_ofOthers 164 = .ok (.iconst 2, 1) := by decide +kernel
theorem dX5_ofOthers_165 : decode cX5_ofOthers 165 = .ok (.ireturn, 1) := by decide +kernel
theorem dX5_ofOthers_166 : decode cX5_ofOthers 166 = .ok (.aload_n 0, 1) := by decide +kernel
theorem dX5_ofOthers_167 : decode cX5_ofOthers 167 = .ok (.iload_n 2, 1) := by decide +kernel
theorem dX5_ofOthers_168 : decode cX5_ofOthers 168 = .ok (.iconst 1, 1) := by decide +kernel
theorem dX5_ofOthers_169 : decode cX5_ofOthers 169 = .ok (.iload_n 3, 1) := by decide +kernel
theorem dX5_ofOthers_170 : decode cX5_ofOthers 170 = .ok (.iload 5, 2) := by decide +kernel
theorem dX5_ofOthers_172 : decode cX5_ofOthers 172 = .ok (.invokevirtual 32, 3) := by decide +kernel
theorem dX5_ofOthers_175 : decode cX5_ofOthers 175 = .ok (.aload_n 0, 1) := by decide +kernel
theorem dX5_ofOthers_176 : decode cX5_ofOthers 176 = .ok (.getfield 22, 3) := by decide +kernel
theorem dX5_ofOthers_179 : decode cX5_ofOthers 179 = .ok (.iadd, 1) := by decide +kernel
theorem dX5_ofOthers_180 : decode cX5_ofOthers 180 = .ok (.ireturn, 1) := by decide +kernel
theorem dX5_partsOfSlow_0 : decode cX5_partsOfSlow 0 = .ok (.aload_n 0, 1) := by decide +kernel
theorem dX5_partsOfSlow_1 : decode cX5_partsOfSlow 1 = .ok (.iload_n 1, 1) := by decide +kernel
theorem dX5_partsOfSlow_2 : decode cX5_partsOfSlow 2 = .ok (.iconst 3, 1) := by decide +kernel
theorem dX5_partsOfSlow_3 : decode cX5_partsOfSlow 3 = .ok (.iload_n 2, 1) := by decide +kernel
theorem dX5_partsOfSlow_4 : decode cX5_partsOfSlow 4 = .ok (.iload_n 3, 1) := by decide +kernel
theorem dX5_partsOfSlow_5 : decode cX5_partsOfSlow 5 = .ok (.invokevirtual 32, 3) := by decide +kernel
theorem dX5_partsOfSlow_8 : decode cX5_partsOfSlow 8 = .ok (.istore 4, 2) := by decide +kernel
theorem dX5_partsOfSlow_10 : decode cX5_partsOfSlow 10 = .ok (.aload_n 0, 1) := by decide +kernel
theorem dX5_partsOfSlow_11 : decode cX5_partsOfSlow 11 = .ok (.getfield 28, 3) := by decide +kernel
theorem dX5_partsOfSlow_14 : decode cX5_partsOfSlow 14 = .ok (.ifCond .eq 5, 3) := by decide +kernel
theorem dX5_partsOfSlow_17 : decode cX5_partsOfSlow 17 = .ok (.iconst 0, 1) := by decide +kernel
theorem dX5_partsOfSlow_18 : decode cX5_partsOfSlow 18 = .ok (.ireturn, 1) := by decide +kernel
theorem dX5_partsOfSlow_19 : decode cX5_partsOfSlow 19 = .ok (.iload 4, 2) := by decide +kernel
theorem dX5_partsOfSlow_21 : decode cX5_partsOfSlow 21 = .ok (.aload_n 0, 1) := by decide +kernel
theorem dX5_partsOfSlow_22 : decode cX5_partsOfSlow 22 = .ok (.aload_n 0, 1) := by decide +kernel
theorem dX5_partsOfSlow_23 : decode cX5_partsOfSlow 23 = .ok (.getfield 15, 3) := by decide +kernel
theorem dX5_partsOfSlow_26 : decode cX5_partsOfSlow 26 = .ok (.iconst 1, 1) := by decide +kernel
theorem dX5_partsOfSlow_27 : decode cX5_partsOfSlow 27 = .ok (.iconst 1, 1) := by decide +kernel
theorem dX5_partsOfSlow_28 : decode cX5_partsOfSlow 28 = .ok (.iload_n 3, 1) := by decide +kernel
theorem dX5_partsOfSlow_29 : decode cX5_partsOfSlow 29 = .ok (.invokevirtual 32, 3) := by decide +kernel
theorem dX5_partsOfSlow_32 : decode cX5_partsOfSlow 32 = .ok (.iadd, 1) := by decide +kernel
theorem dX5_partsOfSlow_33 : decode cX5_partsOfSlow 33 = .ok (.ireturn, 1) := by decide +kernel
theorem dX6_init_0 : decode cX6_init 0 = .ok (.aload_n 0, 1) := by decide +kernel
theorem dX6_init_1 : decode cX6_init 1 = .ok (.invokespecial 1, 3) := by decide +kernel
theorem dX6_init_4 : decode cX6_init 4 = .ok (.return_, 1) := by decide +kernel
theorem dX6_part_0 : decode cX6_part 0 = .ok (.iload_n 1, 1) := by decide +kernel
theorem dX6_part_1 : decode cX6_part 1 = .ok (.tableswitch 69 0 5 #[39, 44, 49, 54, 59, 64], 39) := by decide +kernel
theorem dX6_part_40 : decode cX6_part 40 = .ok (.aload_n 0, 1) := by decide +kernel
theorem dX6_part_41 : decode cX6_part 41 = .ok (.getfield 7, 3) := by decide +kernel
theorem dX6_part_44 : decode cX6_part 44 = .ok (.ireturn, 1) := by decide +kernel
theorem dX6_part_45 : decode cX6_part 45 = .ok (.aload_n 0, 1) := by decide +kernel
theorem dX6_part_46 : decode cX6_part 46 = .ok (.getfield 13, 3) := by decide +kernel
theorem dX6_part_49 : decode cX6_part 49 = .ok (.ireturn, 1) := by decide +kernel
theorem dX6_part_50 : decode cX6_part 50 = .ok (.aload_n 0, 1) := by decide +kernel
theorem dX6_part_51 : decode cX6_part 51 = .ok (.getfield 16, 3) := by decide +kernel
theorem dX6_part_54 : decode cX6_part 54 = .ok (.ireturn, 1) := by decide +kernel
theorem dX6_part_55 : decode cX6_part 55 = .ok (.aload_n 0, 1) := by decide +kernel
theorem dX6_part_56 : decode cX6_part 56 = .ok (.getfield 19, 3) := by decide +kernel
theorem dX6_part_59 : decode cX6_part 59 = .ok (.ireturn, 1) := by decide +kernel
theorem dX6_part_60 : decode cX6_part 60 = .ok (.aload_n 0, 1) := by decide +kernel
theorem dX6_part_61 : decode cX6_part 61 = .ok (.getfield 22, 3) := by decide +kernel
theorem dX6_part_64 : decode cX6_part 64 = .ok (.ireturn, 1) := by decide +kernel
theorem dX6_part_65 : decode cX6_part 65 = .ok (.aload_n 0, 1) := by decide +kernel
theorem dX6_part_66 : decode cX6_part 66 = .ok (.getfield 25, 3) := by decide +kernel
theorem dX6_part_69 : decode cX6_part 69 = .ok (.ireturn, 1) := by decide +kernel
theorem dX6_part_70 : decode cX6_part 70 = .ok (.aload_n 0, 1) := by decide +kernel
theorem dX6_part_71 : decode cX6_part 71 = .ok (.getfield 28, 3) := by decide +kernel
theorem dX6_part_74 : decode cX6_part 74 = .ok (.ireturn, 1) := by decide +kernel
theorem dX6_change_0 : decode cX6_change 0 = .ok (.iload_n 1, 1) := by decide +kernel
theorem dX6_change_1 : decode cX6_change 1 = .ok (.tableswitch 87 0 5 #[39, 47, 55, 63, 71, 79], 39) := by decide +kernel
theorem dX6_change_40 : decode cX6_change 40 = .ok (.aload_n 0, 1) := by decide +kernel
theorem dX6_change_41 : decode cX6_change 41 = .ok (.iload_n 2, 1) := by decide +kernel
theorem dX6_change_42 : decode cX6_change 42 = .ok (.putfield 7, 3) := by decide +kernel
theorem dX6_change_45 : decode cX6_change 45 = .ok (.goto 48, 3) := by decide +kernel
theorem dX6_change_48 : decode cX6_change 48 = .ok (.aload_n 0, 1) := by decide +kernel
theorem dX6_change_49 : decode cX6_change 49 = .ok (.iload_n 2, 1) := by decide +kernel
theorem dX6_change_50 : decode cX6_change 50 = .ok (.putfield 13, 3) := by decide +kernel
theorem dX6_change_53 : decode cX6_change 53 = .ok (.goto 40, 3) := by decide +kernel
theorem dX6_change_56 : decode cX6_change 56 = .ok (.aload_n 0, 1) := by decide +kernel
theorem dX6_change_57 : decode cX6_change 57 = .ok (.iload_n 2, 1) := by decide +kernel
theorem dX6_change_58 : decode cX6_change 58 = .ok (.putfield 16, 3) := by decide +kernel
theorem dX6_change_61 : decode cX6_change 61 = .ok (.goto 32, 3) := by decide +kernel
theorem dX6_change_64 : decode cX6_change 64 = .ok (.aload_n 0, 1) := by decide +kernel
theorem dX6_change_65 : decode cX6_change 65 = .ok (.iload_n 2, 1) := by decide +kernel
theorem dX6_change_66 : decode cX6_change 66 = .ok (.putfield 19, 3) := by decide +kernel
theorem dX6_change_69 : decode cX6_change 69 = .ok (.goto 24, 3) := by decide +kernel
theorem dX6_change_72 : decode cX6_change 72 = .ok (.aload_n 0, 1) := by decide +kernel
theorem dX6_change_73 : decode cX6_change 73 = .ok (.iload_n 2, 1) := by decide +kernel
theorem dX6_change_74 : decode cX6_change 74 = .ok (.putfield 22, 3) := by decide +kernel
theorem dX6_change_77 : decode cX6_change 77 = .ok (.goto 16, 3) := by decide +kernel
theorem dX6_change_80 : decode cX6_change 80 = .ok (.aload_n 0, 1) := by decide +kernel
theorem dX6_change_81 : decode cX6_change 81 = .ok (.iload_n 2, 1) := by decide +kernel
theorem dX6_change_82 : decode cX6_change 82 = .ok (.putfield 25, 3) := by decide +kernel
theorem dX6_change_85 : decode cX6_change 85 = .ok (.goto 8, 3) := by decide +kernel
theorem dX6_change_88 : decode cX6_change 88 = .ok (.aload_n 0, 1) := by decide +kernel
theorem dX6_change_89 : decode cX6_change 89 = .ok (.iload_n 2, 1) := by decide +kernel
theorem dX6_change_90 : decode cX6_change 90 = .ok (.putfield 28, 3) := by decide +kernel
theorem dX6_change_93 : decode cX6_change 93 = .ok (.return_, 1) := by decide +kernel
theorem dX6_copyFrom_0 : decode cX6_copyFrom 0 = .ok (.aload_n 0, 1) := by decide +kernel
theorem dX6_copyFrom_1 : decode cX6_copyFrom 1 = .ok (.aload_n 1, 1) := by decide +kernel
theorem dX6_copyFrom_2 : decode cX6_copyFrom 2 = .ok (.getfield 7, 3) := by decide +kernel
theorem dX6_copyFrom_5 : decode cX6_copyFrom 5 = .ok (.putfield 7, 3) := by decide +kernel
theorem dX6_copyFrom_8 : decode cX6_copyFrom 8 = .ok (.aload_n 0, 1) := by decide +kernel
theorem dX6_copyFrom_9 : decode cX6_copyFrom 9 = .ok (.aload_n 1, 1) := by decide +kernel
theorem dX6_copyFrom_10 : decode cX6_copyFrom 10 = .ok (.getfield 13, 3) := by decide +kernel
theorem dX6_copyFrom_13 : decode cX6_copyFrom 13 = .ok (.putfield 13, 3) := by decide +kernel
theorem dX6_copyFrom_16 : decode cX6_copyFrom 16 = .ok (.aload_n 0, 1) := by decide +kernel
theorem dX6_copyFrom_17 : decode cX6_copyFrom 17 = .ok (.aload_n 1, 1) := by decide +kernel
theorem dX6_copyFrom_18 : decode cX6_copyFrom 18 = .ok (.getfield 16, 3) := by decide +kernel
theorem dX6_copyFrom_21 : decode cX6_copyFrom 21 = .ok (.putfield 16, 3) := by decide +kernel
theorem dX6_copyFrom_24 : decode cX6_copyFrom 24 = .ok (.aload_n 0, 1) := by decide +kernel
theorem dX6_copyFrom_25 : decode cX6_copyFrom 25 = .ok (.aload_n 1, 1) := by decide +kernel
theorem dX6_copyFrom_26 : decode cX6_copyFrom 26 = .ok (.getfield 19, 3) := by decide +kernel
theorem dX6_copyFrom_29 : decode cX6_copyFrom 29 = .ok (.putfield 19, 3) := by decide +kernel
theorem dX6_copyFrom_32 : decode cX6_copyFrom 32 = .ok (.aload_n 0, 1) := by decide +kernel
theorem dX6_copyFrom_33 : decode cX6_copyFrom 33 = .ok (.aload_n 1, 1) := by decide +kernel
theorem dX6_copyFrom_34 : decode cX6_copyFrom 34 = .ok (.getfield 22, 3) := by decide +kernel
theorem dX6_copyFrom_37 : decode cX6_copyFrom 37 = .ok (.putfield 22, 3) := by decide +kernel
theorem dX6_copyFrom_40 : decode cX6_copyFrom 40 = .ok (.aload_n 0, 1) := by decide +kernel
theorem dX6_copyFrom_41 : decode cX6_copyFrom 41 = .ok (.aload_n 1, 1) := by decide +kernel
theorem dX6_copyFrom_42 : decode cX6_copyFrom 42 = .ok (.getfield 25, 3) := by decide +kernel
theorem dX6_copyFrom_45 : decode cX6_copyFrom 45 = .ok (.putfield 25, 3) := by decide +kernel
theorem dX6_copyFrom_48 : decode cX6_copyFrom 48 = .ok (.aload_n 0, 1) := by decide +kernel
theorem dX6_copyFrom_49 : decode cX6_copyFrom 49 = .ok (.aload_n 1, 1) := by decide +kernel
theorem dX6_copyFrom_50 : decode cX6_copyFrom 50 = .ok (.getfield 28, 3) := by decide +kernel
theorem dX6_copyFrom_53 : decode cX6_copyFrom 53 = .ok (.putfield 28, 3) := by decide +kernel
theorem dX6_copyFrom_56 : decode cX6_copyFrom 56 = .ok (.return_, 1) := by decide +kernel
theorem dX7_init_0 : decode cX7_init 0 = .ok (.aload_n 0, 1) := by decide +kernel
theorem dX7_init_1 : decode cX7_init 1 = .ok (.invokespecial 1, 3) := by decide +kernel
theorem dX7_init_4 : decode cX7_init 4 = .ok (.aload_n 0, 1) := by decide +kernel
theorem dX7_init_5 : decode cX7_init 5 = .ok (.new 7, 3) := by decide +kernel
theorem dX7_init_8 : decode cX7_init 8 = .ok (.dup, 1) := by decide +kernel
theorem dX7_init_9 : decode cX7_init 9 = .ok (.invokespecial 9, 3) := by decide +kernel
theorem dX7_init_12 : decode cX7_init 12 = .ok (.putfield 10, 3) := by decide +kernel
theorem dX7_init_15 : decode cX7_init 15 = .ok (.aload_n 0, 1) := by decide +kernel
theorem dX7_init_16 : decode cX7_init 16 = .ok (.new 7, 3) := by decide +kernel
theorem dX7_init_19 : decode cX7_init 19 = .ok (.dup, 1) := by decide +kernel
theorem dX7_init_20 : decode cX7_init 20 = .ok (.invokespecial 9, 3) := by decide +kernel
theorem dX7_init_23 : decode cX7_init 23 = .ok (.putfield 16, 3) := by decide +kernel
theorem dX7_init_26 : decode cX7_init 26 = .ok (.aload_n 0, 1) := by decide +kernel
theorem dX7_init_27 : decode cX7_init 27 = .ok (.new 7, 3) := by decide +kernel
theorem dX7_init_30 : decode cX7_init 30 = .ok (.dup, 1) := by decide +kernel
theorem dX7_init_31 : decode cX7_init 31 = .ok (.invokespecial 9, 3) := by decide +kernel
theorem dX7_init_34 : decode cX7_init 34 = .ok (.putfield 19, 3) := by decide +kernel
theorem dX7_init_37 : decode cX7_init 37 = .ok (.aload_n 0, 1) := by decide +kernel
theorem dX7_init_38 : decode cX7_init 38 = .ok (.new 22, 3) := by decide +kernel
theorem dX7_init_41 : decode cX7_init 41 = .ok (.dup, 1) := by decide +kernel
theorem dX7_init_42 : decode cX7_init 42 = .ok (.invokespecial 24, 3) := by decide +kernel
theorem dX7_init_45 : decode cX7_init 45 = .ok (.putfield 25, 3) := by decide +kernel
theorem dX7_init_48 : decode cX7_init 48 = .ok (.aload_n 0, 1) := by decide +kernel
theorem dX7_init_49 : decode cX7_init 49 = .ok (.new 22, 3) := by decide +kernel
theorem dX7_init_52 : decode cX7_init 52 = .ok (.dup, 1) := by decide +kernel
theorem dX7_init_53 : decode cX7_init 53 = .ok (.invokespecial 24, 3) := by decide +kernel
theorem dX7_init_56 : decode cX7_init 56 = .ok (.putfield 29, 3) := by decide +kernel
theorem dX7_init_59 : decode cX7_init 59 = .ok (.aload_n 0, 1) := by decide +kernel
theorem dX7_init_60 : decode cX7_init 60 = .ok (.new 32, 3) := by decide +kernel
theorem dX7_init_63 : decode cX7_init 63 = .ok (.dup, 1) := by decide +kernel
theorem dX7_init_64 : decode cX7_init 64 = .ok (.invokespecial 34, 3) := by decide +kernel
theorem dX7_init_67 : decode cX7_init 67 = .ok (.putfield 35, 3) := by decide +kernel
theorem dX7_init_70 : decode cX7_init 70 = .ok (.aload_n 0, 1) := by decide +kernel
theorem dX7_init_71 : decode cX7_init 71 = .ok (.new 39, 3) := by decide +kernel
theorem dX7_init_74 : decode cX7_init 74 = .ok (.dup, 1) := by decide +kernel
theorem dX7_init_75 : decode cX7_init 75 = .ok (.invokespecial 41, 3) := by decide +kernel
theorem dX7_init_78 : decode cX7_init 78 = .ok (.putfield 42, 3) := by decide +kernel
theorem dX7_init_81 : decode cX7_init 81 = .ok (.aload_n 0, 1) := by decide +kernel
theorem dX7_init_82 : decode cX7_init 82 = .ok (.new 46, 3) := by decide +kernel
theorem dX7_init_85 : decode cX7_init 85 = .ok (.dup, 1) := by decide +kernel
theorem dX7_init_86 : decode cX7_init 86 = .ok (.invokespecial 48, 3) := by decide +kernel
theorem dX7_init_89 : decode cX7_init 89 = .ok (.putfield 49, 3) := by decide +kernel
theorem dX7_init_92 : decode cX7_init 92 = .ok (.aload_n 0, 1) := by decide +kernel
theorem dX7_init_93 : decode cX7_init 93 = .ok (.bipush 7, 2) := by decide +kernel
theorem dX7_init_95 : decode cX7_init 95 = .ok (.newarray .int, 2) := by decide +kernel
theorem dX7_init_97 : decode cX7_init 97 = .ok (.putfield 53, 3) := by decide +kernel
theorem dX7_init_100 : decode cX7_init 100 = .ok (.return_, 1) := by decide +kernel
theorem dX7_force_0 : decode cX7_force 0 = .ok (.iload_n 1, 1) := by decide +kernel
theorem dX7_force_1 : decode cX7_force 1 = .ok (.iconst 0, 1) := by decide +kernel
theorem dX7_force_2 : decode cX7_force 2 = .ok (.bipush 23, 2) := by decide +kernel
theorem dX7_force_4 : decode cX7_force 4 = .ok (.invokestatic 57, 3) := by decide +kernel
theorem dX7_force_7 : decode cX7_force 7 = .ok (.ifCond .ne 13, 3) := by decide +kernel
theorem dX7_force_10 : decode cX7_force 10 = .ok (.iload_n 2, 1) := by decide +kernel
theorem dX7_force_11 : decode cX7_force 11 = .ok (.iconst 0, 1) := by decide +kernel
theorem dX7_force_12 : decode cX7_force 12 = .ok (.bipush 99, 2) := by decide +kernel
theorem dX7_force_14 : decode cX7_force 14 = .ok (.invokestatic 57, 3) := by decide +kernel
theorem dX7_force_17 : decode cX7_force 17 = .ok (.ifCond .eq 9, 3) := by decide +kernel
theorem dX7_force_20 : decode cX7_force 20 = .ok (.aload_n 0, 1) := by decide +kernel
theorem dX7_force_21 : decode cX7_force 21 = .ok (.iconst 1, 1) := by decide +kernel
theorem dX7_force_22 : decode cX7_force 22 = .ok (.invokevirtual 61, 3) := by decide +kernel
theorem dX7_force_25 : decode cX7_force 25 = .ok (.ireturn, 1) := by decide +kernel
theorem dX7_force_26 : decode cX7_force 26 = .ok (.aload_n 0, 1) := by decide +kernel
theorem dX7_force_27 : decode cX7_force 27 = .ok (.getfield 10, 3) := by decide +kernel
theorem dX7_force_30 : decode cX7_force 30 = .ok (.getfield 65, 3) := by decide +kernel
theorem dX7_force_33 : decode cX7_force 33 = .ok (.iload_n 1, 1) := by decide +kernel
theorem dX7_force_34 : decode cX7_force 34 = .ok (.iaload, 1) := by decide +kernel
theorem dX7_force_35 : decode cX7_force 35 = .ok (.istore_n 3, 1) := by decide +kernel
theorem dX7_force_36 : decode cX7_force 36 = .ok (.aload_n 0, 1) := by decide +kernel
theorem dX7_force_37 : decode cX7_force 37 = .ok (.getfield 10, 3) := by decide +kernel
theorem dX7_force_40 : decode cX7_force 40 = .ok (.getfield 65, 3) := by decide +kernel
theorem dX7_force_43 : decode cX7_force 43 = .ok (.iload_n 1, 1) := by decide +kernel
theorem dX7_force_44 : decode cX7_force 44 = .ok (.iload_n 2, 1) := by decide +kernel
theorem dX7_force_45 : decode cX7_force 45 = .ok (.iastore, 1) := by decide +kernel
theorem dX7_force_46 : decode cX7_force 46 = .ok (.iload_n 3, 1) := by decide +kernel
theorem dX7_force_47 : decode cX7_force 47 = .ok (.ireturn, 1) := by decide +kernel
theorem dX7_weed_0 : decode cX7_weed 0 = .ok (.iload_n 1, 1) := by decide +kernel
theorem dX7_weed_1 : decode cX7_weed 1 = .ok (.iconst 0, 1) := by decide +kernel
theorem dX7_weed_2 : decode cX7_weed 2 = .ok (.bipush 11, 2) := by decide +kernel
theorem dX7_weed_4 : decode cX7_weed 4 = .ok (.invokestatic 57, 3) := by decide +kernel
theorem dX7_weed_7 : decode cX7_weed 7 = .ok (.ifCond .ne 13, 3) := by decide +kernel
theorem dX7_weed_10 : decode cX7_weed 10 = .ok (.iload_n 2, 1) := by decide +kernel
theorem dX7_weed_11 : decode cX7_weed 11 = .ok (.iconst 0, 1) := by decide +kernel
theorem dX7_weed_12 : decode cX7_weed 12 = .ok (.bipush 9, 2) := by decide +kernel
theorem dX7_weed_14 : decode cX7_weed 14 = .ok (.invokestatic 57, 3) := by decide +kernel
theorem dX7_weed_17 : decode cX7_weed 17 = .ok (.ifCond .eq 9, 3) := by decide +kernel
theorem dX7_weed_20 : decode cX7_weed 20 = .ok (.aload_n 0, 1) := by decide +kernel
theorem dX7_weed_21 : decode cX7_weed 21 = .ok (.iconst 1, 1) := by decide +kernel
theorem dX7_weed_22 : decode cX7_weed 22 = .ok (.invokevirtual 61, 3) := by decide +kernel
theorem dX7_weed_25 : decode cX7_weed 25 = .ok (.ireturn, 1) := by decide +kernel
theorem dX7_weed_26 : decode cX7_weed 26 = .ok (.aload_n 0, 1) := by decide +kernel
theorem dX7_weed_27 : decode cX7_weed 27 = .ok (.getfield 10, 3) := by decide +kernel
theorem dX7_weed_30 : decode cX7_weed 30 = .ok (.getfield 68, 3) := by decide +kernel
theorem dX7_weed_33 : decode cX7_weed 33 = .ok (.iload_n 1, 1) := by decide +kernel
theorem dX7_weed_34 : decode cX7_weed 34 = .ok (.iaload, 1) := by decide +kernel
theorem dX7_weed_35 : decode cX7_weed 35 = .ok (.istore_n 3, 1) := by decide +kernel
theorem dX7_weed_36 : decode cX7_weed 36 = .ok (.aload_n 0, 1) := by decide +kernel
theorem dX7_weed_37 : decode cX7_weed 37 = .ok (.getfield 10, 3) := by decide +kernel
theorem dX7_weed_40 : decode cX7_weed 40 = .ok (.getfield 68, 3) := by decide +kernel
theorem dX7_weed_43 : decode cX7_weed 43 = .ok (.iload_n 1, 1) := by decide +kernel
theorem dX7_weed_44 : decode cX7_weed 44 = .ok (.iload_n 2, 1) := by decide +kernel
theorem dX7_weed_45 : decode cX7_weed 45 = .ok (.iastore, 1) := by decide +kernel
theorem dX7_weed_46 : decode cX7_weed 46 = .ok (.iload_n 3, 1) := by decide +kernel
theorem dX7_weed_47 : decode cX7_weed 47 = .ok (.ireturn, 1) := by decide +kernel
theorem dX7_frost_0 : decode cX7_frost 0 = .ok (.iload_n 1, 1) := by decide +kernel
theorem dX7_frost_1 : decode cX7_frost 1 = .ok (.iconst 0, 1) := by decide +kernel
theorem dX7_frost_2 : decode cX7_frost 2 = .ok (.bipush 9, 2) := by decide +kernel
theorem dX7_frost_4 : decode cX7_frost 4 = .ok (.invokestatic 57, 3) := by decide +kernel
theorem dX7_frost_7 : decode cX7_frost 7 = .ok (.ifCond .eq 9, 3) := by decide +kernel
theorem dX7_frost_10 : decode cX7_frost 10 = .ok (.aload_n 0, 1) := by decide +kernel
theorem dX7_frost_11 : decode cX7_frost 11 = .ok (.iconst 1, 1) := by decide +kernel
theorem dX7_frost_12 : decode cX7_frost 12 = .ok (.invokevirtual 61, 3) := by decide +kernel
theorem dX7_frost_15 : decode cX7_frost 15 = .ok (.ireturn, 1) := by decide +kernel
theorem dX7_frost_16 : decode cX7_frost 16 = .ok (.aload_n 0, 1) := by decide +kernel
theorem dX7_frost_17 : decode cX7_frost 17 = .ok (.getfield 10, 3) := by decide +kernel
theorem dX7_frost_20 : decode cX7_frost 20 = .ok (.getfield 71, 3) := by decide +kernel
theorem dX7_frost_23 : decode cX7_frost 23 = .ok (.istore_n 2, 1) := by decide +kernel
theorem dX7_frost_24 : decode cX7_frost 24 = .ok (.aload_n 0, 1) := by decide +kernel
theorem dX7_frost_25 : decode cX7_frost 25 = .ok (.getfield 10, 3) := by decide +kernel
theorem dX7_frost_28 : decode cX7_frost 28 = .ok (.iload_n 1, 1) := by decide +kernel
theorem dX7_frost_29 : decode cX7_frost 29 = .ok (.putfield 71, 3) := by decide +kernel
theorem dX7_frost_32 : decode cX7_frost 32 = .ok (.iload_n 2, 1) := by decide +kernel
theorem dX7_frost_33 : decode cX7_frost 33 = .ok (.ireturn, 1) := by decide +kernel
theorem dX7_owe_0 : decode cX7_owe 0 = .ok (.iload_n 1, 1) := by decide +kernel
theorem dX7_owe_1 : decode cX7_owe 1 = .ok (.iconst 0, 1) := by decide +kernel
theorem dX7_owe_2 : decode cX7_owe 2 = .ok (.iconst 4, 1) := by decide +kernel
theorem dX7_owe_3 : decode cX7_owe 3 = .ok (.invokestatic 57, 3) := by decide +kernel
theorem dX7_owe_6 : decode cX7_owe 6 = .ok (.ifCond .ne 13, 3) := by decide +kernel
theorem dX7_owe_9 : decode cX7_owe 9 = .ok (.iload_n 2, 1) := by decide +kernel
theorem dX7_owe_10 : decode cX7_owe 10 = .ok (.iconst 0, 1) := by decide +kernel
theorem dX7_owe_11 : decode cX7_owe 11 = .ok (.ldc 75, 2) := by decide +kernel
theorem dX7_owe_13 : decode cX7_owe 13 = .ok (.invokestatic 57, 3) := by decide +kernel
theorem dX7_owe_16 : decode cX7_owe 16 = .ok (.ifCond .eq 9, 3) := by decide +kernel
theorem dX7_owe_19 : decode cX7_owe 19 = .ok (.aload_n 0, 1) := by decide +kernel
theorem dX7_owe_20 : decode cX7_owe 20 = .ok (.iconst 1, 1) := by decide +kernel
theorem dX7_owe_21 : decode cX7_owe 21 = .ok (.invokevirtual 61, 3) := by decide +kernel
theorem dX7_owe_24 : decode cX7_owe 24 = .ok (.ireturn, 1) := by decide +kernel
theorem dX7_owe_25 : decode cX7_owe 25 = .ok (.aload_n 0, 1) := by decide +kernel
theorem dX7_owe_26 : decode cX7_owe 26 = .ok (.getfield 10, 3) := by decide +kernel
theorem dX7_owe_29 : decode cX7_owe 29 = .ok (.getfield 76, 3) := by decide +kernel
theorem dX7_owe_32 : decode cX7_owe 32 = .ok (.iload_n 1, 1) := by decide +kernel
theorem dX7_owe_33 : decode cX7_owe 33 = .ok (.iaload, 1) := by decide +kernel
theorem dX7_owe_34 : decode cX7_owe 34 = .ok (.istore_n 3, 1) := by decide +kernel
theorem dX7_owe_35 : decode cX7_owe 35 = .ok (.aload_n 0, 1) := by decide +kernel
theorem dX7_owe_36 : decode cX7_owe 36 = .ok (.getfield 10, 3) := by decide +kernel
theorem dX7_owe_39 : decode cX7_owe 39 = .ok (.getfield 76, 3) := by decide +kernel
theorem dX7_owe_42 : decode cX7_owe 42 = .ok (.iload_n 1, 1) := by decide +kernel
theorem dX7_owe_43 : decode cX7_owe 43 = .ok (.iload_n 2, 1) := by decide +kernel
theorem dX7_owe_44 : decode cX7_owe 44 = .ok (.iastore, 1) := by decide +kernel
theorem dX7_owe_45 : decode cX7_owe 45 = .ok (.iload_n 3, 1) := by decide +kernel
theorem dX7_owe_46 : decode cX7_owe 46 = .ok (.ireturn, 1) := by decide +kernel
theorem dX7_familyIs_0 : decode cX7_familyIs 0 = .ok (.iload_n 1, 1) := by decide +kernel
theorem dX7_familyIs_1 : decode cX7_familyIs 1 = .ok (.iconst 0, 1) := by decide +kernel
theorem dX7_familyIs_2 : decode cX7_familyIs 2 = .ok (.iconst 4, 1) := by decide +kernel
theorem dX7_familyIs_3 : decode cX7_familyIs 3 = .ok (.invokestatic 57, 3) := by decide +kernel
theorem dX7_familyIs_6 : decode cX7_familyIs 6 = .ok (.ifCond .ne 12, 3) := by decide +kernel
theorem dX7_familyIs_9 : decode cX7_familyIs 9 = .ok (.iload_n 2, 1) := by decide +kernel
theorem dX7_familyIs_10 : decode cX7_familyIs 10 = .ok (.iconst 0, 1) := by decide +kernel
theorem dX7_familyIs_11 : decode cX7_familyIs 11 = .ok (.iconst 3, 1) := by decide +kernel
theorem dX7_familyIs_12 : decode cX7_familyIs 12 = .ok (.invokestatic 57, 3) := by decide +kernel
theorem dX7_familyIs_15 : decode cX7_familyIs 15 = .ok (.ifCond .eq 9, 3) := by decide +kernel
theorem dX7_familyIs_18 : decode cX7_familyIs 18 = .ok (.aload_n 0, 1) := by decide +kernel
theorem dX7_familyIs_19 : decode cX7_familyIs 19 = .ok (.iconst 1, 1) := by decide +kernel
theorem dX7_familyIs_20 : decode cX7_familyIs 20 = .ok (.invokevirtual 61, 3) := by decide +kernel
theorem dX7_familyIs_23 : decode cX7_familyIs 23 = .ok (.ireturn, 1) := by decide +kernel
theorem dX7_familyIs_24 : decode cX7_familyIs 24 = .ok (.aload_n 0, 1) := by decide +kernel
theorem dX7_familyIs_25 : decode cX7_familyIs 25 = .ok (.getfield 10, 3) := by decide +kernel
theorem dX7_familyIs_28 : decode cX7_familyIs 28 = .ok (.iload_n 1, 1) := by decide +kernel
theorem dX7_familyIs_29 : decode cX7_familyIs 29 = .ok (.iload_n 2, 1) := by decide +kernel
theorem dX7_familyIs_30 : decode cX7_familyIs 30 = .ok (.invokevirtual 79, 3) := by decide +kernel
theorem dX7_familyIs_33 : decode cX7_familyIs 33 = .ok (.ireturn, 1) := by decide +kernel
theorem dX7_wheel_0 : decode cX7_wheel 0 = .ok (.iload_n 1, 1) := by decide +kernel
theorem dX7_wheel_1 : decode cX7_wheel 1 = .ok (.iconst 0, 1) := by decide +kernel
theorem dX7_wheel_2 : decode cX7_wheel 2 = .ok (.bipush 69, 2) := by decide +kernel
theorem dX7_wheel_4 : decode cX7_wheel 4 = .ok (.invokestatic 57, 3) := by decide +kernel
theorem dX7_wheel_7 : decode cX7_wheel 7 = .ok (.ifCond .ne 25, 3) := by decide +kernel
theorem dX7_wheel_10 : decode cX7_wheel 10 = .ok (.iload_n 2, 1) := by decide +kernel
theorem dX7_wheel_11 : decode cX7_wheel 11 = .ok (.iconst 0, 1) := by decide +kernel
theorem dX7_wheel_12 : decode cX7_wheel 12 = .ok (.bipush 119, 2) := by decide +kernel
theorem dX7_wheel_14 : decode cX7_wheel 14 = .ok (.invokestatic 57, 3) := by decide +kernel
theorem dX7_wheel_17 : decode cX7_wheel 17 = .ok (.ifCond .ne 15, 3) := by decide +kernel
theorem dX7_wheel_20 : decode cX7_wheel 20 = .ok (.iload_n 2, 1) := by decide +kernel
theorem dX7_wheel_21 : decode cX7_wheel 21 = .ok (.bipush 10, 2) := by decide +kernel
theorem dX7_wheel_23 : decode cX7_wheel 23 = .ok (.irem, 1) := by decide +kernel
theorem dX7_wheel_24 : decode cX7_wheel 24 = .ok (.iconst 0, 1) := by decide +kernel
theorem dX7_wheel_25 : decode cX7_wheel 25 = .ok (.iconst 4, 1) := by decide +kernel
theorem dX7_wheel_26 : decode cX7_wheel 26 = .ok (.invokestatic 57, 3) := by decide +kernel
theorem dX7_wheel_29 : decode cX7_wheel 29 = .ok (.ifCond .eq 9, 3) := by decide +kernel
theorem dX7_wheel_32 : decode cX7_wheel 32 = .ok (.aload_n 0, 1) := by decide +kernel
theorem dX7_wheel_33 : decode cX7_wheel 33 = .ok (.iconst 1, 1) := by decide +kernel
theorem dX7_wheel_34 : decode cX7_wheel 34 = .ok (.invokevirtual 61, 3) := by decide +kernel
theorem dX7_wheel_37 : decode cX7_wheel 37 = .ok (.ireturn, 1) := by decide +kernel
theorem dX7_wheel_38 : decode cX7_wheel 38 = .ok (.aload_n 0, 1) := by decide +kernel
theorem dX7_wheel_39 : decode cX7_wheel 39 = .ok (.getfield 10, 3) := by decide +kernel
theorem dX7_wheel_42 : decode cX7_wheel 42 = .ok (.getfield 83, 3) := by decide +kernel
theorem dX7_wheel_45 : decode cX7_wheel 45 = .ok (.bipush 8, 2) := by decide +kernel
theorem dX7_wheel_47 : decode cX7_wheel 47 = .ok (.if_icmp .lt 9, 3) := by decide +kernel
theorem dX7_wheel_50 : decode cX7_wheel 50 = .ok (.aload_n 0, 1) := by decide +kernel
theorem dX7_wheel_51 : decode cX7_wheel 51 = .ok (.iconst 4, 1) := by decide +kernel
theorem dX7_wheel_52 : decode cX7_wheel 52 = .ok (.invokevirtual 61, 3) := by decide +kernel
theorem dX7_wheel_55 : decode cX7_wheel 55 = .ok (.ireturn, 1) := by decide +kernel
theorem dX7_wheel_56 : decode cX7_wheel 56 = .ok (.aload_n 0, 1) := by decide +kernel
theorem dX7_wheel_57 : decode cX7_wheel 57 = .ok (.getfield 10, 3) := by decide +kernel
theorem dX7_wheel_60 : decode cX7_wheel 60 = .ok (.iload_n 1, 1) := by decide +kernel
theorem dX7_wheel_61 : decode cX7_wheel 61 = .ok (.iload_n 2, 1) := by decide +kernel
theorem dX7_wheel_62 : decode cX7_wheel 62 = .ok (.bipush 10, 2) := by decide +kernel
theorem dX7_wheel_64 : decode cX7_wheel 64 = .ok (.idiv, 1) := by decide +kernel
theorem dX7_wheel_65 : decode cX7_wheel 65 = .ok (.iload_n 2, 1) := by decide +kernel
theorem dX7_wheel_66 : decode cX7_wheel 66 = .ok (.bipush 10, 2) := by decide +kernel
theorem dX7_wheel_68 : decode cX7_wheel 68 = .ok (.irem, 1) := by decide +kernel
theorem dX7_wheel_69 : decode cX7_wheel 69 = .ok (.invokevirtual 86, 3) := by decide +kernel
theorem dX7_wheel_72 : decode cX7_wheel 72 = .ok (.aload_n 0, 1) := by decide +kernel
theorem dX7_wheel_73 : decode cX7_wheel 73 = .ok (.getfield 10, 3) := by decide +kernel
theorem dX7_wheel_76 : decode cX7_wheel 76 = .ok (.getfield 83, 3) := by decide +kernel
theorem dX7_wheel_79 : decode cX7_wheel 79 = .ok (.iconst 1, 1) := by decide +kernel
theorem dX7_wheel_80 : decode cX7_wheel 80 = .ok (.isub, 1) := by decide +kernel
theorem dX7_wheel_81 : decode cX7_wheel 81 = .ok (.ireturn, 1) := by decide +kernel
theorem dX7_wheelIs_0 : decode cX7_wheelIs 0 = .ok (.aload_n 0, 1) := by decide +kernel
theorem dX7_wheelIs_1 : decode cX7_wheelIs 1 = .ok (.iload_n 1, 1) := by decide +kernel
theorem dX7_wheelIs_2 : decode cX7_wheelIs 2 = .ok (.invokevirtual 90, 3) := by decide +kernel
theorem dX7_wheelIs_5 : decode cX7_wheelIs 5 = .ok (.ifCond .ne 13, 3) := by decide +kernel
theorem dX7_wheelIs_8 : decode cX7_wheelIs 8 = .ok (.iload_n 2, 1) := by decide +kernel
theorem dX7_wheelIs_9 : decode cX7_wheelIs 9 = .ok (.iconst 0, 1) := by decide +kernel
theorem dX7_wheelIs_10 : decode cX7_wheelIs 10 = .ok (.bipush 9, 2) := by decide +kernel
theorem dX7_wheelIs_12 : decode cX7_wheelIs 12 = .ok (.invokestatic 57, 3) := by decide +kernel
theorem dX7_wheelIs_15 : decode cX7_wheelIs 15 = .ok (.ifCond .eq 9, 3) := by decide +kernel
theorem dX7_wheelIs_18 : decode cX7_wheelIs 18 = .ok (.aload_n 0, 1) := by decide +kernel
theorem dX7_wheelIs_19 : decode cX7_wheelIs 19 = .ok (.iconst 1, 1) := by decide +kernel
theorem dX7_wheelIs_20 : decode cX7_wheelIs 20 = .ok (.invokevirtual 61, 3) := by decide +kernel
theorem dX7_wheelIs_23 : decode cX7_wheelIs 23 = .ok (.ireturn, 1) := by decide +kernel
theorem dX7_wheelIs_24 : decode cX7_wheelIs 24 = .ok (.aload_n 0, 1) := by decide +kernel
theorem dX7_wheelIs_25 : decode cX7_wheelIs 25 = .ok (.getfield 10, 3) := by decide +kernel
theorem dX7_wheelIs_28 : decode cX7_wheelIs 28 = .ok (.iload_n 1, 1) := by decide +kernel
theorem dX7_wheelIs_29 : decode cX7_wheelIs 29 = .ok (.iload_n 2, 1) := by decide +kernel
theorem dX7_wheelIs_30 : decode cX7_wheelIs 30 = .ok (.invokevirtual 94, 3) := by decide +kernel
theorem dX7_wheelIs_33 : decode cX7_wheelIs 33 = .ok (.ireturn, 1) := by decide +kernel
theorem dX7_as_0 : decode cX7_as 0 = .ok (.aload_n 0, 1) := by decide +kernel
theorem dX7_as_1 : decode cX7_as 1 = .ok (.iload_n 1, 1) := by decide +kernel
theorem dX7_as_2 : decode cX7_as 2 = .ok (.invokevirtual 90, 3) := by decide +kernel
theorem dX7_as_5 : decode cX7_as 5 = .ok (.ifCond .ne 13, 3) := by decide +kernel
theorem dX7_as_8 : decode cX7_as 8 = .ok (.iload_n 2, 1) := by decide +kernel
theorem dX7_as_9 : decode cX7_as 9 = .ok (.iconst 0, 1) := by decide +kernel
theorem dX7_as_10 : decode cX7_as 10 = .ok (.bipush 6, 2) := by decide +kernel
theorem dX7_as_12 : decode cX7_as 12 = .ok (.invokestatic 57, 3) := by decide +kernel
theorem dX7_as_15 : decode cX7_as 15 = .ok (.ifCond .eq 9, 3) := by decide +kernel
theorem dX7_as_18 : decode cX7_as 18 = .ok (.aload_n 0, 1) := by decide +kernel
theorem dX7_as_19 : decode cX7_as 19 = .ok (.iconst 1, 1) := by decide +kernel
theorem dX7_as_20 : decode cX7_as 20 = .ok (.invokevirtual 61, 3) := by decide +kernel
theorem dX7_as_23 : decode cX7_as 23 = .ok (.ireturn, 1) := by decide +kernel
theorem dX7_as_24 : decode cX7_as 24 = .ok (.aload_n 0, 1) := by decide +kernel
theorem dX7_as_25 : decode cX7_as 25 = .ok (.getfield 10, 3) := by decide +kernel
theorem dX7_as_28 : decode cX7_as 28 = .ok (.getfield 97, 3) := by decide +kernel
theorem dX7_as_31 : decode cX7_as 31 = .ok (.iload_n 1, 1) := by decide +kernel
theorem dX7_as_32 : decode cX7_as 32 = .ok (.aaload, 1) := by decide +kernel
theorem dX7_as_33 : decode cX7_as 33 = .ok (.astore_n 3, 1) := by decide +kernel
theorem dX7_as_34 : decode cX7_as 34 = .ok (.aload_n 3, 1) := by decide +kernel
theorem dX7_as_35 : decode cX7_as 35 = .ok (.getfield 101, 3) := by decide +kernel
theorem dX7_as_38 : decode cX7_as 38 = .ok (.iload_n 2, 1) := by decide +kernel
theorem dX7_as_39 : decode cX7_as 39 = .ok (.invokestatic 106, 3) := by decide +kernel
theorem dX7_as_42 : decode cX7_as 42 = .ok (.ifCond .ne 9, 3) := by decide +kernel
theorem dX7_as_45 : decode cX7_as 45 = .ok (.aload_n 0, 1) := by decide +kernel
theorem dX7_as_46 : decode cX7_as 46 = .ok (.iconst 5, 1) := by decide +kernel
theorem dX7_as_47 : decode cX7_as 47 = .ok (.invokevirtual 61, 3) := by decide +kernel
theorem dX7_as_50 : decode cX7_as 50 = .ok (.ireturn, 1) := by decide +kernel
theorem dX7_as_51 : decode cX7_as 51 = .ok (.aload_n 3, 1) := by decide +kernel
theorem dX7_as_52 : decode cX7_as 52 = .ok (.getfield 110, 3) := by decide +kernel
theorem dX7_as_55 : decode cX7_as 55 = .ok (.ireturn, 1) := by decide +kernel
theorem dX7_set_0 : decode cX7_set 0 = .ok (.aload_n 0, 1) := by decide +kernel
theorem dX7_set_1 : decode cX7_set 1 = .ok (.iload_n 1, 1) := by decide +kernel
theorem dX7_set_2 : decode cX7_set 2 = .ok (.invokevirtual 90, 3) := by decide +kernel
theorem dX7_set_5 : decode cX7_set 5 = .ok (.ifCond .ne 30, 3) := by decide +kernel
theorem dX7_set_8 : decode cX7_set 8 = .ok (.iload_n 2, 1) := by decide +kernel
theorem dX7_set_9 : decode cX7_set 9 = .ok (.iconst 0, 1) := by decide +kernel
theorem dX7_set_10 : decode cX7_set 10 = .ok (.getstatic 113, 3) := by decide +kernel
theorem dX7_set_13 : decode cX7_set 13 = .ok (.arraylength, 1) := by decide +kernel
theorem dX7_set_14 : decode cX7_set 14 = .ok (.iconst 1, 1) := by decide +kernel
theorem dX7_set_15 : decode cX7_set 15 = .ok (.isub, 1) := by decide +kernel
theorem dX7_set_16 : decode cX7_set 16 = .ok (.invokestatic 57, 3) := by decide +kernel
theorem dX7_set_19 : decode cX7_set 19 = .ok (.ifCond .ne 16, 3) := by decide +kernel
theorem dX7_set_22 : decode cX7_set 22 = .ok (.iload_n 3, 1) := by decide +kernel
theorem dX7_set_23 : decode cX7_set 23 = .ok (.iconst 0, 1) := by decide +kernel
theorem dX7_set_24 : decode cX7_set 24 = .ok (.getstatic 113, 3) := by decide +kernel
theorem dX7_set_27 : decode cX7_set 27 = .ok (.iload_n 2, 1) := by decide +kernel
theorem dX7_set_28 : decode cX7_set 28 = .ok (.iaload, 1) := by decide +kernel
theorem dX7_set_29 : decode cX7_set 29 = .ok (.invokestatic 57, 3) := by decide +kernel
theorem dX7_set_32 : decode cX7_set 32 = .ok (.ifCond .eq 9, 3) := by decide +kernel
theorem dX7_set_35 : decode cX7_set 35 = .ok (.aload_n 0, 1) := by decide +kernel
theorem dX7_set_36 : decode cX7_set 36 = .ok (.iconst 1, 1) := by decide +kernel
theorem dX7_set_37 : decode cX7_set 37 = .ok (.invokevirtual 61, 3) := by decide +kernel
theorem dX7_set_40 : decode cX7_set 40 = .ok (.ireturn, 1) := by decide +kernel
theorem dX7_set_41 : decode cX7_set 41 = .ok (.aload_n 0, 1) := by decide +kernel
theorem dX7_set_42 : decode cX7_set 42 = .ok (.getfield 10, 3) := by decide +kernel
theorem dX7_set_45 : decode cX7_set 45 = .ok (.getfield 97, 3) := by decide +kernel
theorem dX7_set_48 : decode cX7_set 48 = .ok (.iload_n 1, 1) := by decide +kernel
theorem dX7_set_49 : decode cX7_set 49 = .ok (.aaload, 1) := by decide +kernel
theorem dX7_set_50 : decode cX7_set 50 = .ok (.astore 4, 2) := by decide +kernel
theorem dX7_set_52 : decode cX7_set 52 = .ok (.aload 4, 2) := by decide +kernel
theorem dX7_set_54 : decode cX7_set 54 = .ok (.iload_n 2, 1) := by decide +kernel
theorem dX7_set_55 : decode cX7_set 55 = .ok (.invokevirtual 116, 3) := by decide +kernel
theorem dX7_set_58 : decode cX7_set 58 = .ok (.istore 5, 2) := by decide +kernel
theorem dX7_set_60 : decode cX7_set 60 = .ok (.aload 4, 2) := by decide +kernel
theorem dX7_set_62 : decode cX7_set 62 = .ok (.iload_n 2, 1) := by decide +kernel
theorem dX7_set_63 : decode cX7_set 63 = .ok (.iload_n 3, 1) := by decide +kernel
theorem dX7_set_64 : decode cX7_set 64 = .ok (.invokevirtual 119, 3) := by decide +kernel
theorem dX7_set_67 : decode cX7_set 67 = .ok (.iload 5, 2) := by decide +kernel
theorem dX7_set_69 : decode cX7_set 69 = .ok (.ireturn, 1) := by decide +kernel
theorem dX7_flows_0 : decode cX7_flows 0 = .ok (.iload_n 1, 1) := by decide +kernel
theorem dX7_flows_1 : decode cX7_flows 1 = .ok (.iconst 0, 1) := by decide +kernel
theorem dX7_flows_2 : decode cX7_flows 2 = .ok (.bipush 11, 2) := by decide +kernel
theorem dX7_flows_4 : decode cX7_flows 4 = .ok (.invokestatic 57, 3) := by decide +kernel
theorem dX7_flows_7 : decode cX7_flows 7 = .ok (.ifCond .eq 9, 3) := by decide +kernel
theorem dX7_flows_10 : decode cX7_flows 10 = .ok (.aload_n 0, 1) := by decide +kernel
theorem dX7_flows_11 : decode cX7_flows 11 = .ok (.iconst 1, 1) := by decide +kernel
theorem dX7_flows_12 : decode cX7_flows 12 = .ok (.invokevirtual 61, 3) := by decide +kernel
theorem dX7_flows_15 : decode cX7_flows 15 = .ok (.ireturn, 1) := by decide +kernel
theorem dX7_flows_16 : decode cX7_flows 16 = .ok (.aload_n 0, 1) := by decide +kernel
theorem dX7_flows_17 : decode cX7_flows 17 = .ok (.getfield 10, 3) := by decide +kernel
theorem dX7_flows_20 : decode cX7_flows 20 = .ok (.invokevirtual 123, 3) := by decide +kernel
theorem dX7_flows_23 : decode cX7_flows 23 = .ok (.aload_n 0, 1) := by decide +kernel
theorem dX7_flows_24 : decode cX7_flows 24 = .ok (.getfield 10, 3) := by decide +kernel
theorem dX7_flows_27 : decode cX7_flows 27 = .ok (.getfield 126, 3) := by decide +kernel
theorem dX7_flows_30 : decode cX7_flows 30 = .ok (.iload_n 1, 1) := by decide +kernel
theorem dX7_flows_31 : decode cX7_flows 31 = .ok (.iaload, 1) := by decide +kernel
theorem dX7_flows_32 : decode cX7_flows 32 = .ok (.ireturn, 1) := by decide +kernel
theorem dX7_feed_0 : decode cX7_feed 0 = .ok (.iload_n 3, 1) := by decide +kernel
theorem dX7_feed_1 : decode cX7_feed 1 = .ok (.iconst 1, 1) := by decide +kernel
theorem dX7_feed_2 : decode cX7_feed 2 = .ok (.bipush 8, 2) := by decide +kernel
theorem dX7_feed_4 : decode cX7_feed 4 = .ok (.invokestatic 57, 3) := by decide +kernel
theorem dX7_feed_7 : decode cX7_feed 7 = .ok (.ifCond .eq 9, 3) := by decide +kernel
theorem dX7_feed_10 : decode cX7_feed 10 = .ok (.aload_n 0, 1) := by decide +kernel
theorem dX7_feed_11 : decode cX7_feed 11 = .ok (.iconst 1, 1) := by decide +kernel
theorem dX7_feed_12 : decode cX7_feed 12 = .ok (.invokevirtual 61, 3) := by decide +kernel
theorem dX7_feed_15 : decode cX7_feed 15 = .ok (.ireturn, 1) := by decide +kernel
theorem dX7_feed_16 : decode cX7_feed 16 = .ok (.aload_n 0, 1) := by decide +kernel
theorem dX7_feed_17 : decode cX7_feed 17 = .ok (.getfield 25, 3) := by decide +kernel
theorem dX7_feed_20 : decode cX7_feed 20 = .ok (.getfield 129, 3) := by decide +kernel
theorem dX7_feed_23 : decode cX7_feed 23 = .ok (.iload_n 3, 1) := by decide +kernel
theorem dX7_feed_24 : decode cX7_feed 24 = .ok (.iadd, 1) := by decide +kernel
theorem dX7_feed_25 : decode cX7_feed 25 = .ok (.bipush 60, 2) := by decide +kernel
theorem dX7_feed_27 : decode cX7_feed 27 = .ok (.if_icmp .le 9, 3) := by decide +kernel
theorem dX7_feed_30 : decode cX7_feed 30 = .ok (.aload_n 0, 1) := by decide +kernel
theorem dX7_feed_31 : decode cX7_feed 31 = .ok (.iconst 4, 1) := by decide +kernel
theorem dX7_feed_32 : decode cX7_feed 32 = .ok (.invokevirtual 61, 3) := by decide +kernel
theorem dX7_feed_35 : decode cX7_feed 35 = .ok (.ireturn, 1) := by decide +kernel
theorem dX7_feed_36 : decode cX7_feed 36 = .ok (.aload_n 0, 1) := by decide +kernel
theorem dX7_feed_37 : decode cX7_feed 37 = .ok (.getfield 25, 3) := by decide +kernel
theorem dX7_feed_40 : decode cX7_feed 40 = .ok (.lload_n 1, 1) := by decide +kernel
theorem dX7_feed_41 : decode cX7_feed 41 = .ok (.iload_n 3, 1) := by decide +kernel
theorem dX7_feed_42 : decode cX7_feed 42 = .ok (.invokevirtual 132, 3) := by decide +kernel
theorem dX7_feed_45 : decode cX7_feed 45 = .ok (.aload_n 0, 1) := by decide +kernel
theorem dX7_feed_46 : decode cX7_feed 46 = .ok (.getfield 25, 3) := by decide +kernel
theorem dX7_feed_49 : decode cX7_feed 49 = .ok (.getfield 129, 3) := by decide +kernel
theorem dX7_feed_52 : decode cX7_feed 52 = .ok (.ireturn, 1) := by decide +kernel
theorem dX7_text_0 : decode cX7_text 0 = .ok (.iload_n 1, 1) := by decide +kernel
theorem dX7_text_1 : decode cX7_text 1 = .ok (.iconst 0, 1) := by decide +kernel
theorem dX7_text_2 : decode cX7_text 2 = .ok (.iconst 1, 1) := by decide +kernel
theorem dX7_text_3 : decode cX7_text 3 = .ok (.invokestatic 57, 3) := by decide +kernel
theorem dX7_text_6 : decode cX7_text 6 = .ok (.ifCond .eq 9, 3) := by decide +kernel
theorem dX7_text_9 : decode cX7_text 9 = .ok (.aload_n 0, 1) := by decide +kernel
theorem dX7_text_10 : decode cX7_text 10 = .ok (.iconst 1, 1) := by decide +kernel
theorem dX7_text_11 : decode cX7_text 11 = .ok (.invokevirtual 61, 3) := by decide +kernel
theorem dX7_text_14 : decode cX7_text 14 = .ok (.ireturn, 1) := by decide +kernel
theorem dX7_text_15 : decode cX7_text 15 = .ok (.aload_n 0, 1) := by decide +kernel
theorem dX7_text_16 : decode cX7_text 16 = .ok (.getfield 35, 3) := by decide +kernel
theorem dX7_text_19 : decode cX7_text 19 = .ok (.aload_n 0, 1) := by decide +kernel
theorem dX7_text_20 : decode cX7_text 20 = .ok (.getfield 25, 3) := by decide +kernel
theorem dX7_text_23 : decode cX7_text 23 = .ok (.getfield 136, 3) := by decide +kernel
theorem dX7_text_26 : decode cX7_text 26 = .ok (.aload_n 0, 1) := by decide +kernel
theorem dX7_text_27 : decode cX7_text 27 = .ok (.getfield 25, 3) := by decide +kernel
theorem dX7_text_30 : decode cX7_text 30 = .ok (.getfield 129, 3) := by decide +kernel
theorem dX7_text_33 : decode cX7_text 33 = .ok (.iload_n 1, 1) := by decide +kernel
theorem dX7_text_34 : decode cX7_text 34 = .ok (.invokevirtual 140, 3) := by decide +kernel
theorem dX7_text_37 : decode cX7_text 37 = .ok (.istore_n 2, 1) := by decide +kernel
theorem dX7_text_38 : decode cX7_text 38 = .ok (.aload_n 0, 1) := by decide +kernel
theorem dX7_text_39 : decode cX7_text 39 = .ok (.getfield 25, 3) := by decide +kernel
theorem dX7_text_42 : decode cX7_text 42 = .ok (.iconst 0, 1) := by decide +kernel
theorem dX7_text_43 : decode cX7_text 43 = .ok (.putfield 129, 3) := by decide +kernel
theorem dX7_text_46 : decode cX7_text 46 = .ok (.iload_n 2, 1) := by decide +kernel
theorem dX7_text_47 : decode cX7_text 47 = .ok (.ifCond .lt 8, 3) := by decide +kernel
theorem dX7_text_50 : decode cX7_text 50 = .ok (.bipush (-10), 2) := by decide +kernel
theorem dX7_text_52 : decode cX7_text 52 = .ok (.iload_n 2, 1) := by decide +kernel
theorem dX7_text_53 : decode cX7_text 53 = .ok (.isub, 1) := by decide +kernel
theorem dX7_text_54 : decode cX7_text 54 = .ok (.ireturn, 1) := by decide +kernel
theorem dX7_text_55 : decode cX7_text 55 = .ok (.aload_n 0, 1) := by decide +kernel
theorem dX7_text_56 : decode cX7_text 56 = .ok (.getfield 10, 3) := by decide +kernel
theorem dX7_text_59 : decode cX7_text 59 = .ok (.iload_n 1, 1) := by decide +kernel
theorem dX7_text_60 : decode cX7_text 60 = .ok (.invokevirtual 144, 3) := by decide +kernel
theorem dX7_text_63 : decode cX7_text 63 = .ok (.aload_n 0, 1) := by decide +kernel
theorem dX7_text_64 : decode cX7_text 64 = .ok (.getfield 35, 3) := by decide +kernel
theorem dX7_text_67 : decode cX7_text 67 = .ok (.getfield 148, 3) := by decide +kernel
theorem dX7_text_70 : decode cX7_text 70 = .ok (.aload_n 0, 1) := by decide +kernel
theorem dX7_text_71 : decode cX7_text 71 = .ok (.getfield 35, 3) := by decide +kernel
theorem dX7_text_74 : decode cX7_text 74 = .ok (.getfield 151, 3) := by decide +kernel
theorem dX7_text_77 : decode cX7_text 77 = .ok (.invokevirtual 152, 3) := by decide +kernel
theorem dX7_text_80 : decode cX7_text 80 = .ok (.iconst 1, 1) := by decide +kernel
theorem dX7_text_81 : decode cX7_text 81 = .ok (.ireturn, 1) := by decide +kernel
theorem dX7_untell_0 : decode cX7_untell 0 = .ok (.iload_n 1, 1) := by decide +kernel
theorem dX7_untell_1 : decode cX7_untell 1 = .ok (.iconst 0, 1) := by decide +kernel
theorem dX7_untell_2 : decode cX7_untell 2 = .ok (.iconst 1, 1) := by decide +kernel
theorem dX7_untell_3 : decode cX7_untell 3 = .ok (.invokestatic 57, 3) := by decide +kernel
theorem dX7_untell_6 : decode cX7_untell 6 = .ok (.ifCond .eq 9, 3) := by decide +kernel
theorem dX7_untell_9 : decode cX7_untell 9 = .ok (.aload_n 0, 1) := by decide +kernel
theorem dX7_untell_10 : decode cX7_untell 10 = .ok (.iconst 1, 1) := by decide +kernel
theorem dX7_untell_11 : decode cX7_untell 11 = .ok (.invokevirtual 61, 3) := by decide +kernel
theorem dX7_untell_14 : decode cX7_untell 14 = .ok (.ireturn, 1) := by decide +kernel
theorem dX7_untell_15 : decode cX7_untell 15 = .ok (.aload_n 0, 1) := by decide +kernel
theorem dX7_untell_16 : decode cX7_untell 16 = .ok (.getfield 10, 3) := by decide +kernel
theorem dX7_untell_19 : decode cX7_untell 19 = .ok (.iload_n 1, 1) := by decide +kernel
theorem dX7_untell_20 : decode cX7_untell 20 = .ok (.invokevirtual 144, 3) := by decide +kernel
theorem dX7_untell_23 : decode cX7_untell 23 = .ok (.astore_n 2, 1) := by decide +kernel
theorem dX7_untell_24 : decode cX7_untell 24 = .ok (.aload_n 2, 1) := by decide +kernel
theorem dX7_untell_25 : decode cX7_untell 25 = .ok (.getfield 158, 3) := by decide +kernel
theorem dX7_untell_28 : decode cX7_untell 28 = .ok (.ifCond .le 7, 3) := by decide +kernel
theorem dX7_untell_31 : decode cX7_untell 31 = .ok (.iconst 1, 1) := by decide +kernel
theorem dX7_untell_32 : decode cX7_untell 32 = .ok (.goto 4, 3) := by decide +kernel
theorem dX7_untell_35 : decode cX7_untell 35 = .ok (.iconst 0, 1) := by decide +kernel
theorem dX7_untell_36 : decode cX7_untell 36 = .ok (.istore_n 3, 1) := by decide +kernel
theorem dX7_untell_37 : decode cX7_untell 37 = .ok (.aload_n 2, 1) := by decide +kernel
theorem dX7_untell_38 : decode cX7_untell 38 = .ok (.iconst 0, 1) := by decide +kernel
theorem dX7_untell_39 : decode cX7_untell 39 = .ok (.putfield 158, 3) := by decide +kernel
theorem dX7_untell_42 : decode cX7_untell 42 = .ok (.iload_n 3, 1) := by decide +kernel
theorem dX7_untell_43 : decode cX7_untell 43 = .ok (.ireturn, 1) := by decide +kernel
theorem dX7_hours_0 : decode cX7_hours 0 = .ok (.iload_n 1, 1) := by decide +kernel
theorem dX7_hours_1 : decode cX7_hours 1 = .ok (.iconst 1, 1) := by decide +kernel
theorem dX7_hours_2 : decode cX7_hours 2 = .ok (.sipush 240, 3) := by decide +kernel
theorem dX7_hours_5 : decode cX7_hours 5 = .ok (.invokestatic 57, 3) := by decide +kernel
theorem dX7_hours_8 : decode cX7_hours 8 = .ok (.ifCond .eq 9, 3) := by decide +kernel
theorem dX7_hours_11 : decode cX7_hours 11 = .ok (.aload_n 0, 1) := by decide +kernel
theorem dX7_hours_12 : decode cX7_hours 12 = .ok (.iconst 1, 1) := by decide +kernel
theorem dX7_hours_13 : decode cX7_hours 13 = .ok (.invokevirtual 61, 3) := by decide +kernel
theorem dX7_hours_16 : decode cX7_hours 16 = .ok (.ireturn, 1) := by decide +kernel
theorem dX7_hours_17 : decode cX7_hours 17 = .ok (.aload_n 0, 1) := by decide +kernel
theorem dX7_hours_18 : decode cX7_hours 18 = .ok (.getfield 10, 3) := by decide +kernel
theorem dX7_hours_21 : decode cX7_hours 21 = .ok (.getfield 159, 3) := by decide +kernel
theorem dX7_hours_24 : decode cX7_hours 24 = .ok (.iload_n 1, 1) := by decide +kernel
theorem dX7_hours_25 : decode cX7_hours 25 = .ok (.iadd, 1) := by decide +kernel
theorem dX7_hours_26 : decode cX7_hours 26 = .ok (.sipush 9999, 3) := by decide +kernel
theorem dX7_hours_29 : decode cX7_hours 29 = .ok (.if_icmp .le 9, 3) := by decide +kernel
theorem dX7_hours_32 : decode cX7_hours 32 = .ok (.aload_n 0, 1) := by decide +kernel
theorem dX7_hours_33 : decode cX7_hours 33 = .ok (.iconst 3, 1) := by decide +kernel
theorem dX7_hours_34 : decode cX7_hours 34 = .ok (.invokevirtual 61, 3) := by decide +kernel
theorem dX7_hours_37 : decode cX7_hours 37 = .ok (.ireturn, 1) := by decide +kernel
theorem dX7_hours_38 : decode cX7_hours 38 = .ok (.aload_n 0, 1) := by decide +kernel
theorem dX7_hours_39 : decode cX7_hours 39 = .ok (.getfield 10, 3) := by decide +kernel
theorem dX7_hours_42 : decode cX7_hours 42 = .ok (.iload_n 1, 1) := by decide +kernel
theorem dX7_hours_43 : decode cX7_hours 43 = .ok (.invokevirtual 162, 3) := by decide +kernel
theorem dX7_hours_46 : decode cX7_hours 46 = .ok (.pop, 1) := by decide +kernel
theorem dX7_hours_47 : decode cX7_hours 47 = .ok (.aload_n 0, 1) := by decide +kernel
theorem dX7_hours_48 : decode cX7_hours 48 = .ok (.getfield 10, 3) := by decide +kernel
theorem dX7_hours_51 : decode cX7_hours 51 = .ok (.invokevirtual 165, 3) := by decide +kernel
theorem dX7_hours_54 : decode cX7_hours 54 = .ok (.ireturn, 1) := by decide +kernel
theorem dX7_draws_0 : decode cX7_draws 0 = .ok (.iload_n 1, 1) := by decide +kernel
theorem dX7_draws_1 : decode cX7_draws 1 = .ok (.iconst 1, 1) := by decide +kernel
theorem dX7_draws_2 : decode cX7_draws 2 = .ok (.bipush 60, 2) := by decide +kernel
theorem dX7_draws_4 : decode cX7_draws 4 = .ok (.invokestatic 57, 3) := by decide +kernel
theorem dX7_draws_7 : decode cX7_draws 7 = .ok (.ifCond .eq 9, 3) := by decide +kernel
theorem dX7_draws_10 : decode cX7_draws 10 = .ok (.aload_n 0, 1) := by decide +kernel
theorem dX7_draws_11 : decode cX7_draws 11 = .ok (.iconst 1, 1) := by decide +kernel
theorem dX7_draws_12 : decode cX7_draws 12 = .ok (.invokevirtual 61, 3) := by decide +kernel
theorem dX7_draws_15 : decode cX7_draws 15 = .ok (.ireturn, 1) := by decide +kernel
theorem dX7_draws_16 : decode cX7_draws 16 = .ok (.aload_n 0, 1) := by decide +kernel
theorem dX7_draws_17 : decode cX7_draws 17 = .ok (.getfield 10, 3) := by decide +kernel
theorem dX7_draws_20 : decode cX7_draws 20 = .ok (.getfield 159, 3) := by decide +kernel
theorem dX7_draws_23 : decode cX7_draws 23 = .ok (.iload_n 1, 1) := by decide +kernel
theorem dX7_draws_24 : decode cX7_draws 24 = .ok (.iadd, 1) := by decide +kernel
theorem dX7_draws_25 : decode cX7_draws 25 = .ok (.sipush 9999, 3) := by decide +kernel
theorem dX7_draws_28 : decode cX7_draws 28 = .ok (.if_icmp .le 9, 3) := by decide +kernel
theorem dX7_draws_31 : decode cX7_draws 31 = .ok (.aload_n 0, 1) := by decide +kernel
theorem dX7_draws_32 : decode cX7_draws 32 = .ok (.iconst 3, 1) := by decide +kernel
theorem dX7_draws_33 : decode cX7_draws 33 = .ok (.invokevirtual 61, 3) := by decide +kernel
theorem dX7_draws_36 : decode cX7_draws 36 = .ok (.ireturn, 1) := by decide +kernel
theorem dX7_draws_37 : decode cX7_draws 37 = .ok (.iconst 0, 1) := by decide +kernel
theorem dX7_draws_38 : decode cX7_draws 38 = .ok (.istore_n 2, 1) := by decide +kernel
theorem dX7_draws_39 : decode cX7_draws 39 = .ok (.iconst 0, 1) := by decide +kernel
theorem dX7_draws_40 : decode cX7_draws 40 = .ok (.istore_n 3, 1) := by decide +kernel
theorem dX7_draws_41 : decode cX7_draws 41 = .ok (.iload_n 3, 1) := by decide +kernel
theorem dX7_draws_42 : decode cX7_draws 42 = .ok (.iload_n 1, 1) := by decide +kernel
theorem dX7_draws_43 : decode cX7_draws 43 = .ok (.if_icmp .ge 27, 3) := by decide +kernel
theorem dX7_draws_46 : decode cX7_draws 46 = .ok (.iload_n 2, 1) := by decide +kernel
theorem dX7_draws_47 : decode cX7_draws 47 = .ok (.aload_n 0, 1) := by decide +kernel
theorem dX7_draws_48 : decode cX7_draws 48 = .ok (.getfield 10, 3) := by decide +kernel
theorem dX7_draws_51 : decode cX7_draws 51 = .ok (.invokevirtual 169, 3) := by decide +kernel
theorem dX7_draws_54 : decode cX7_draws 54 = .ok (.iadd, 1) := by decide +kernel
theorem dX7_draws_55 : decode cX7_draws 55 = .ok (.istore_n 2, 1) := by decide +kernel
theorem dX7_draws_56 : decode cX7_draws 56 = .ok (.aload_n 0, 1) := by decide +kernel
theorem dX7_draws_57 : decode cX7_draws 57 = .ok (.getfield 10, 3) := by decide +kernel
theorem dX7_draws_60 : decode cX7_draws 60 = .ok (.invokevirtual 172, 3) := by decide +kernel
theorem dX7_draws_63 : decode cX7_draws 63 = .ok (.pop, 1) := by decide +kernel
theorem dX7_draws_64 : decode cX7_draws 64 = .ok (.iinc 3 1, 3) := by decide +kernel
theorem dX7_draws_67 : decode cX7_draws 67 = .ok (.goto (-26), 3) := by decide +kernel
theorem dX7_draws_70 : decode cX7_draws 70 = .ok (.iload_n 2, 1) := by decide +kernel
theorem dX7_draws_71 : decode cX7_draws 71 = .ok (.ireturn, 1) := by decide +kernel
theorem dX7_seed_0 : decode cX7_seed 0 = .ok (.aload_n 0, 1) := by decide +kernel
theorem dX7_seed_1 : decode cX7_seed 1 = .ok (.getfield 10, 3) := by decide +kernel
theorem dX7_seed_4 : decode cX7_seed 4 = .ok (.getfield 175, 3) := by decide +kernel
theorem dX7_seed_7 : decode cX7_seed 7 = .ok (.istore_n 2, 1) := by decide +kernel
theorem dX7_seed_8 : decode cX7_seed 8 = .ok (.aload_n 0, 1) := by decide +kernel
theorem dX7_seed_9 : decode cX7_seed 9 = .ok (.getfield 10, 3) := by decide +kernel
theorem dX7_seed_12 : decode cX7_seed 12 = .ok (.iload_n 1, 1) := by decide +kernel
theorem dX7_seed_13 : decode cX7_seed 13 = .ok (.putfield 175, 3) := by decide +kernel
theorem dX7_seed_16 : decode cX7_seed 16 = .ok (.iload_n 2, 1) := by decide +kernel
theorem dX7_seed_17 : decode cX7_seed 17 = .ok (.ireturn, 1) := by decide +kernel
theorem dX7_sell_0 : decode cX7_sell 0 = .ok (.iload_n 1, 1) := by decide +kernel
theorem dX7_sell_1 : decode cX7_sell 1 = .ok (.iconst 0, 1) := by decide +kernel
theorem dX7_sell_2 : decode cX7_sell 2 = .ok (.iconst 4, 1) := by decide +kernel
theorem dX7_sell_3 : decode cX7_sell 3 = .ok (.invokestatic 57, 3) := by decide +kernel
theorem dX7_sell_6 : decode cX7_sell 6 = .ok (.ifCond .ne 28, 3) := by decide +kernel
theorem dX7_sell_9 : decode cX7_sell 9 = .ok (.iload_n 2, 1) := by decide +kernel
theorem dX7_sell_10 : decode cX7_sell 10 = .ok (.iconst 0, 1) := by decide +kernel
theorem dX7_sell_11 : decode cX7_sell 11 = .ok (.iconst 4, 1) := by decide +kernel
theorem dX7_sell_12 : decode cX7_sell 12 = .ok (.invokestatic 57, 3) := by decide +kernel
theorem dX7_sell_15 : decode cX7_sell 15 = .ok (.ifCond .ne 19, 3) := by decide +kernel
theorem dX7_sell_18 : decode cX7_sell 18 = .ok (.iload_n 1, 1) := by decide +kernel
theorem dX7_sell_19 : decode cX7_sell 19 = .ok (.iload_n 2, 1) := by decide +kernel
theorem dX7_sell_20 : decode cX7_sell 20 = .ok (.if_icmp .eq 14, 3) := by decide +kernel
theorem dX7_sell_23 : decode cX7_sell 23 = .ok (.iload_n 3, 1) := by decide +kernel
theorem dX7_sell_24 : decode cX7_sell 24 = .ok (.iconst 1, 1) := by decide +kernel
theorem dX7_sell_25 : decode cX7_sell 25 = .ok (.sipush 9999, 3) := by decide +kernel
theorem dX7_sell_28 : decode cX7_sell 28 = .ok (.invokestatic 57, 3) := by decide +kernel
theorem dX7_sell_31 : decode cX7_sell 31 = .ok (.ifCond .eq 9, 3) := by decide +kernel
theorem dX7_sell_34 : decode cX7_sell 34 = .ok (.aload_n 0, 1) := by decide +kernel
theorem dX7_sell_35 : decode cX7_sell 35 = .ok (.iconst 1, 1) := by decide +kernel
theorem dX7_sell_36 : decode cX7_sell 36 = .ok (.invokevirtual 61, 3) := by decide +kernel
theorem dX7_sell_39 : decode cX7_sell 39 = .ok (.ireturn, 1) := by decide +kernel
theorem dX7_sell_40 : decode cX7_sell 40 = .ok (.aload_n 0, 1) := by decide +kernel
theorem dX7_sell_41 : decode cX7_sell 41 = .ok (.getfield 10, 3) := by decide +kernel
theorem dX7_sell_44 : decode cX7_sell 44 = .ok (.getfield 178, 3) := by decide +kernel
theorem dX7_sell_47 : decode cX7_sell 47 = .ok (.iload_n 1, 1) := by decide +kernel
theorem dX7_sell_48 : decode cX7_sell 48 = .ok (.iaload, 1) := by decide +kernel
theorem dX7_sell_49 : decode cX7_sell 49 = .ok (.iload_n 3, 1) := by decide +kernel
theorem dX7_sell_50 : decode cX7_sell 50 = .ok (.if_icmp .ge 9, 3) := by decide +kernel
theorem dX7_sell_53 : decode cX7_sell 53 = .ok (.aload_n 0, 1) := by decide +kernel
theorem dX7_sell_54 : decode cX7_sell 54 = .ok (.iconst 3, 1) := by decide +kernel
theorem dX7_sell_55 : decode cX7_sell 55 = .ok (.invokevirtual 61, 3) := by decide +kernel
theorem dX7_sell_58 : decode cX7_sell 58 = .ok (.ireturn, 1) := by decide +kernel
theorem dX7_sell_59 : decode cX7_sell 59 = .ok (.aload_n 0, 1) := by decide +kernel
theorem dX7_sell_60 : decode cX7_sell 60 = .ok (.getfield 10, 3) := by decide +kernel
theorem dX7_sell_63 : decode cX7_sell 63 = .ok (.getfield 178, 3) := by decide +kernel
theorem dX7_sell_66 : decode cX7_sell 66 = .ok (.iload_n 1, 1) := by decide +kernel
theorem dX7_sell_67 : decode cX7_sell 67 = .ok (.dup2, 1) := by decide +kernel
theorem dX7_sell_68 : decode cX7_sell 68 = .ok (.iaload, 1) := by decide +kernel
theorem dX7_sell_69 : decode cX7_sell 69 = .ok (.iload_n 3, 1) := by decide +kernel
theorem dX7_sell_70 : decode cX7_sell 70 = .ok (.isub, 1) := by decide +kernel
theorem dX7_sell_71 : decode cX7_sell 71 = .ok (.iastore, 1) := by decide +kernel
theorem dX7_sell_72 : decode cX7_sell 72 = .ok (.aload_n 0, 1) := by decide +kernel
theorem dX7_sell_73 : decode cX7_sell 73 = .ok (.getfield 10, 3) := by decide +kernel
theorem dX7_sell_76 : decode cX7_sell 76 = .ok (.getfield 178, 3) := by decide +kernel
theorem dX7_sell_79 : decode cX7_sell 79 = .ok (.iload_n 2, 1) := by decide +kernel
theorem dX7_sell_80 : decode cX7_sell 80 = .ok (.aload_n 0, 1) := by decide +kernel
theorem dX7_sell_81 : decode cX7_sell 81 = .ok (.getfield 10, 3) := by decide +kernel
theorem dX7_sell_84 : decode cX7_sell 84 = .ok (.getfield 178, 3) := by decide +kernel
theorem dX7_sell_87 : decode cX7_sell 87 = .ok (.iload_n 2, 1) := by decide +kernel
theorem dX7_sell_88 : decode cX7_sell 88 = .ok (.iaload, 1) := by decide +kernel
theorem dX7_sell_89 : decode cX7_sell 89 = .ok (.iload_n 3, 1) := by decide +kernel
theorem dX7_sell_90 : decode cX7_sell 90 = .ok (.iadd, 1) := by decide +kernel
theorem dX7_sell_91 : decode cX7_sell 91 = .ok (.ldc 181, 2) := by decide +kernel
theorem dX7_sell_93 : decode cX7_sell 93 = .ok (.invokestatic 182, 3) := by decide +kernel
theorem dX7_sell_96 : decode cX7_sell 96 = .ok (.iastore, 1) := by decide +kernel
theorem dX7_sell_97 : decode cX7_sell 97 = .ok (.aload_n 0, 1) := by decide +kernel
theorem dX7_sell_98 : decode cX7_sell 98 = .ok (.getfield 10, 3) := by decide +kernel
theorem dX7_sell_101 : decode cX7_sell 101 = .ok (.getfield 178, 3) := by decide +kernel
theorem dX7_sell_104 : decode cX7_sell 104 = .ok (.iload_n 2, 1) := by decide +kernel
theorem dX7_sell_105 : decode cX7_sell 105 = .ok (.iaload, 1) := by decide +kernel
theorem dX7_sell_106 : decode cX7_sell 106 = .ok (.ireturn, 1) := by decide +kernel
theorem dX7_fair_0 : decode cX7_fair 0 = .ok (.iload_n 1, 1) := by decide +kernel
theorem dX7_fair_1 : decode cX7_fair 1 = .ok (.iconst 0, 1) := by decide +kernel
theorem dX7_fair_2 : decode cX7_fair 2 = .ok (.iconst 4, 1) := by decide +kernel
theorem dX7_fair_3 : decode cX7_fair 3 = .ok (.invokestatic 57, 3) := by decide +kernel
theorem dX7_fair_6 : decode cX7_fair 6 = .ok (.ifCond .ne 17, 3) := by decide +kernel
theorem dX7_fair_9 : decode cX7_fair 9 = .ok (.iload_n 2, 1) := by decide +kernel
theorem dX7_fair_10 : decode cX7_fair 10 = .ok (.iconst 0, 1) := by decide +kernel
theorem dX7_fair_11 : decode cX7_fair 11 = .ok (.iconst 4, 1) := by decide +kernel
theorem dX7_fair_12 : decode cX7_fair 12 = .ok (.invokestatic 57, 3) := by decide +kernel
theorem dX7_fair_15 : decode cX7_fair 15 = .ok (.ifCond .ne 8, 3) := by decide +kernel
theorem dX7_fair_18 : decode cX7_fair 18 = .ok (.iload_n 1, 1) := by decide +kernel
theorem dX7_fair_19 : decode cX7_fair 19 = .ok (.iload_n 2, 1) := by decide +kernel
theorem dX7_fair_20 : decode cX7_fair 20 = .ok (.if_icmp .ne 9, 3) := by decide +kernel
theorem dX7_fair_23 : decode cX7_fair 23 = .ok (.aload_n 0, 1) := by decide +kernel
theorem dX7_fair_24 : decode cX7_fair 24 = .ok (.iconst 1, 1) := by decide +kernel
theorem dX7_fair_25 : decode cX7_fair 25 = .ok (.invokevirtual 61, 3) := by decide +kernel
theorem dX7_fair_28 : decode cX7_fair 28 = .ok (.ireturn, 1) := by decide +kernel
theorem dX7_fair_29 : decode cX7_fair 29 = .ok (.aload_n 0, 1) := by decide +kernel
theorem dX7_fair_30 : decode cX7_fair 30 = .ok (.getfield 10, 3) := by decide +kernel
theorem dX7_fair_33 : decode cX7_fair 33 = .ok (.getfield 178, 3) := by decide +kernel
theorem dX7_fair_36 : decode cX7_fair 36 = .ok (.iload_n 1, 1) := by decide +kernel
theorem dX7_fair_37 : decode cX7_fair 37 = .ok (.iaload, 1) := by decide +kernel
theorem dX7_fair_38 : decode cX7_fair 38 = .ok (.aload_n 0, 1) := by decide +kernel
theorem dX7_fair_39 : decode cX7_fair 39 = .ok (.getfield 10, 3) := by decide +kernel
theorem dX7_fair_42 : decode cX7_fair 42 = .ok (.getfield 76, 3) := by decide +kernel
theorem dX7_fair_45 : decode cX7_fair 45 = .ok (.iload_n 1, 1) := by decide +kernel
theorem dX7_fair_46 : decode cX7_fair 46 = .ok (.iaload, 1) := by decide +kernel
theorem dX7_fair_47 : decode cX7_fair 47 = .ok (.isub, 1) := by decide +kernel
theorem dX7_fair_48 : decode cX7_fair 48 = .ok (.istore_n 3, 1) := by decide +kernel
theorem dX7_fair_49 : decode cX7_fair 49 = .ok (.aload_n 0, 1) := by decide +kernel
theorem dX7_fair_50 : decode cX7_fair 50 = .ok (.getfield 10, 3) := by decide +kernel
theorem dX7_fair_53 : decode cX7_fair 53 = .ok (.getfield 178, 3) := by decide +kernel
theorem dX7_fair_56 : decode cX7_fair 56 = .ok (.iload_n 2, 1) := by decide +kernel
theorem dX7_fair_57 : decode cX7_fair 57 = .ok (.iaload, 1) := by decide +kernel
theorem dX7_fair_58 : decode cX7_fair 58 = .ok (.aload_n 0, 1) := by decide +kernel
theorem dX7_fair_59 : decode cX7_fair 59 = .ok (.getfield 10, 3) := by decide +kernel
theorem dX7_fair_62 : decode cX7_fair 62 = .ok (.getfield 76, 3) := by decide +kernel
theorem dX7_fair_65 : decode cX7_fair 65 = .ok (.iload_n 2, 1) := by decide +kernel
theorem dX7_fair_66 : decode cX7_fair 66 = .ok (.iaload, 1) := by decide +kernel
theorem dX7_fair_67 : decode cX7_fair 67 = .ok (.isub, 1) := by decide +kernel
theorem dX7_fair_68 : decode cX7_fair 68 = .ok (.istore 4, 2) := by decide +kernel
theorem dX7_fair_70 : decode cX7_fair 70 = .ok (.iload_n 3, 1) := by decide +kernel
theorem dX7_fair_71 : decode cX7_fair 71 = .ok (.iload 4, 2) := by decide +kernel
theorem dX7_fair_73 : decode cX7_fair 73 = .ok (.isub, 1) := by decide +kernel
theorem dX7_fair_74 : decode cX7_fair 74 = .ok (.iconst 2, 1) := by decide +kernel
theorem dX7_fair_75 : decode cX7_fair 75 = .ok (.idiv, 1) := by decide +kernel
theorem dX7_fair_76 : decode cX7_fair 76 = .ok (.ireturn, 1) := by decide +kernel
theorem dX7_then_0 : decode cX7_then 0 = .ok (.iload_n 1, 1) := by decide +kernel
end
