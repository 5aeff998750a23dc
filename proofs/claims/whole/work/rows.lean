section
-- ===== PART A: goes FIRST, ahead of the names: the tables' words, and 'selects' of the private methods out of them =====
/-- a private method of a class that the tables say can be made, by its rows of tables_1 -/
def lw_okq (q : MethodName × Nat) : Prop := (q.1.cls ≠ "java/lang/invoke/MethodHandle" ∧ q.1.cls ≠ "java/lang/invoke/VarHandle") ∧ Cond.instantiable q.1.cls q.2 ∈ tables_1 ∧ Cond.privateMethod q.1 ∈ tables_1 ∧ Cond.instanceMethod q.1 ∈ tables_1
theorem lw_p0 : lw_okq (⟨"WheelBrook", "error", "(I)I"⟩, 10) := ⟨⟨by decide +kernel, by decide +kernel⟩, List.mem_of_getElem? (i := 18) (by decide +kernel), List.mem_of_getElem? (i := 300) (by decide +kernel), List.mem_of_getElem? (i := 301) (by decide +kernel)⟩
theorem lw_p1 : lw_okq (⟨"WheelBrook$Brook", "wheelsFor", "(I)I"⟩, 15) := ⟨⟨by decide +kernel, by decide +kernel⟩, List.mem_of_getElem? (i := 26) (by decide +kernel), List.mem_of_getElem? (i := 330) (by decide +kernel), List.mem_of_getElem? (i := 331) (by decide +kernel)⟩
theorem lw_p2 : lw_okq (⟨"WheelBrook", "noWheel", "(I)Z"⟩, 10) := ⟨⟨by decide +kernel, by decide +kernel⟩, List.mem_of_getElem? (i := 18) (by decide +kernel), List.mem_of_getElem? (i := 346) (by decide +kernel), List.mem_of_getElem? (i := 347) (by decide +kernel)⟩
theorem lw_p3 : lw_okq (⟨"WheelBrook$Brook", "wants", "(LWheelBrook$Wheel;I)I"⟩, 15) := ⟨⟨by decide +kernel, by decide +kernel⟩, List.mem_of_getElem? (i := 26) (by decide +kernel), List.mem_of_getElem? (i := 369) (by decide +kernel), List.mem_of_getElem? (i := 370) (by decide +kernel)⟩
theorem lw_p4 : lw_okq (⟨"WheelBrook$Brook", "toldTakes", "(LWheelBrook$Wheel;I)I"⟩, 15) := ⟨⟨by decide +kernel, by decide +kernel⟩, List.mem_of_getElem? (i := 26) (by decide +kernel), List.mem_of_getElem? (i := 380) (by decide +kernel), List.mem_of_getElem? (i := 381) (by decide +kernel)⟩
theorem lw_p5 : lw_okq (⟨"WheelBrook$Brook", "turnsBy", "(LWheelBrook$Wheel;I)I"⟩, 15) := ⟨⟨by decide +kernel, by decide +kernel⟩, List.mem_of_getElem? (i := 26) (by decide +kernel), List.mem_of_getElem? (i := 394) (by decide +kernel), List.mem_of_getElem? (i := 395) (by decide +kernel)⟩
theorem lw_p6 : lw_okq (⟨"WheelBrook$Brook", "toldTurns", "(LWheelBrook$Wheel;I)I"⟩, 15) := ⟨⟨by decide +kernel, by decide +kernel⟩, List.mem_of_getElem? (i := 26) (by decide +kernel), List.mem_of_getElem? (i := 398) (by decide +kernel), List.mem_of_getElem? (i := 399) (by decide +kernel)⟩
theorem lw_p7 : lw_okq (⟨"WheelBrook$Reader", "goesOn", "(II)Z"⟩, 8) := ⟨⟨by decide +kernel, by decide +kernel⟩, List.mem_of_getElem? (i := 180) (by decide +kernel), List.mem_of_getElem? (i := 446) (by decide +kernel), List.mem_of_getElem? (i := 447) (by decide +kernel)⟩
theorem lw_p8 : lw_okq (⟨"WheelBrook$Reader", "digit", "(I)Z"⟩, 8) := ⟨⟨by decide +kernel, by decide +kernel⟩, List.mem_of_getElem? (i := 180) (by decide +kernel), List.mem_of_getElem? (i := 450) (by decide +kernel), List.mem_of_getElem? (i := 451) (by decide +kernel)⟩
theorem lw_p9 : lw_okq (⟨"WheelBrook$Reader", "write", "(I)V"⟩, 8) := ⟨⟨by decide +kernel, by decide +kernel⟩, List.mem_of_getElem? (i := 180) (by decide +kernel), List.mem_of_getElem? (i := 454) (by decide +kernel), List.mem_of_getElem? (i := 455) (by decide +kernel)⟩
theorem lw_p10 : lw_okq (⟨"WheelBrook$Reader", "opens", "(II)Z"⟩, 8) := ⟨⟨by decide +kernel, by decide +kernel⟩, List.mem_of_getElem? (i := 180) (by decide +kernel), List.mem_of_getElem? (i := 458) (by decide +kernel), List.mem_of_getElem? (i := 459) (by decide +kernel)⟩
theorem lw_p11 : lw_okq (⟨"WheelBrook$Reader", "hold", "(I)V"⟩, 8) := ⟨⟨by decide +kernel, by decide +kernel⟩, List.mem_of_getElem? (i := 180) (by decide +kernel), List.mem_of_getElem? (i := 462) (by decide +kernel), List.mem_of_getElem? (i := 463) (by decide +kernel)⟩
theorem lw_p12 : lw_okq (⟨"WheelBrook$Reader", "follows", "(I)Z"⟩, 8) := ⟨⟨by decide +kernel, by decide +kernel⟩, List.mem_of_getElem? (i := 180) (by decide +kernel), List.mem_of_getElem? (i := 550) (by decide +kernel), List.mem_of_getElem? (i := 551) (by decide +kernel)⟩
theorem lw_p13 : lw_okq (⟨"WheelBrook$Reader", "closes", "()Z"⟩, 8) := ⟨⟨by decide +kernel, by decide +kernel⟩, List.mem_of_getElem? (i := 180) (by decide +kernel), List.mem_of_getElem? (i := 554) (by decide +kernel), List.mem_of_getElem? (i := 555) (by decide +kernel)⟩
theorem lw_p14 : lw_okq (⟨"WheelBrook$Reader", "writeSigns", "(I)V"⟩, 8) := ⟨⟨by decide +kernel, by decide +kernel⟩, List.mem_of_getElem? (i := 180) (by decide +kernel), List.mem_of_getElem? (i := 558) (by decide +kernel), List.mem_of_getElem? (i := 559) (by decide +kernel)⟩
theorem lw_p15 : lw_okq (⟨"WheelBrook$Brook", "turnMore", "(LWheelBrook$Wheel;I)V"⟩, 15) := ⟨⟨by decide +kernel, by decide +kernel⟩, List.mem_of_getElem? (i := 26) (by decide +kernel), List.mem_of_getElem? (i := 592) (by decide +kernel), List.mem_of_getElem? (i := 593) (by decide +kernel)⟩
def lw_privs_1 : List (MethodName × Nat) := [(⟨"WheelBrook", "error", "(I)I"⟩, 10), (⟨"WheelBrook$Brook", "wheelsFor", "(I)I"⟩, 15), (⟨"WheelBrook", "noWheel", "(I)Z"⟩, 10), (⟨"WheelBrook$Brook", "wants", "(LWheelBrook$Wheel;I)I"⟩, 15), (⟨"WheelBrook$Brook", "toldTakes", "(LWheelBrook$Wheel;I)I"⟩, 15), (⟨"WheelBrook$Brook", "turnsBy", "(LWheelBrook$Wheel;I)I"⟩, 15), (⟨"WheelBrook$Brook", "toldTurns", "(LWheelBrook$Wheel;I)I"⟩, 15), (⟨"WheelBrook$Reader", "goesOn", "(II)Z"⟩, 8), (⟨"WheelBrook$Reader", "digit", "(I)Z"⟩, 8), (⟨"WheelBrook$Reader", "write", "(I)V"⟩, 8), (⟨"WheelBrook$Reader", "opens", "(II)Z"⟩, 8), (⟨"WheelBrook$Reader", "hold", "(I)V"⟩, 8), (⟨"WheelBrook$Reader", "follows", "(I)Z"⟩, 8), (⟨"WheelBrook$Reader", "closes", "()Z"⟩, 8), (⟨"WheelBrook$Reader", "writeSigns", "(I)V"⟩, 8), (⟨"WheelBrook$Brook", "turnMore", "(LWheelBrook$Wheel;I)V"⟩, 15)]
theorem lw_r1 : ∀ q ∈ lw_privs_1, lw_okq q := List.forall_mem_cons.mpr ⟨lw_p0, List.forall_mem_cons.mpr ⟨lw_p1, List.forall_mem_cons.mpr ⟨lw_p2, List.forall_mem_cons.mpr ⟨lw_p3, List.forall_mem_cons.mpr ⟨lw_p4, List.forall_mem_cons.mpr ⟨lw_p5, List.forall_mem_cons.mpr ⟨lw_p6, List.forall_mem_cons.mpr ⟨lw_p7, List.forall_mem_cons.mpr ⟨lw_p8, List.forall_mem_cons.mpr ⟨lw_p9, List.forall_mem_cons.mpr ⟨lw_p10, List.forall_mem_cons.mpr ⟨lw_p11, List.forall_mem_cons.mpr ⟨lw_p12, List.forall_mem_cons.mpr ⟨lw_p13, List.forall_mem_cons.mpr ⟨lw_p14, List.forall_mem_cons.mpr ⟨lw_p15, fun _ h => absurd h List.not_mem_nil⟩⟩⟩⟩⟩⟩⟩⟩⟩⟩⟩⟩⟩⟩⟩⟩
theorem lw_p16 : lw_okq (⟨"WheelBrook$Brook", "flood", "()V"⟩, 15) := ⟨⟨by decide +kernel, by decide +kernel⟩, List.mem_of_getElem? (i := 26) (by decide +kernel), List.mem_of_getElem? (i := 610) (by decide +kernel), List.mem_of_getElem? (i := 611) (by decide +kernel)⟩
theorem lw_p17 : lw_okq (⟨"WheelBrook$Speaker", "speak", "(IIII)I"⟩, 6) := ⟨⟨by decide +kernel, by decide +kernel⟩, List.mem_of_getElem? (i := 213) (by decide +kernel), List.mem_of_getElem? (i := 692) (by decide +kernel), List.mem_of_getElem? (i := 693) (by decide +kernel)⟩
theorem lw_p18 : lw_okq (⟨"WheelBrook$Speaker", "ofWheel", "(III)I"⟩, 6) := ⟨⟨by decide +kernel, by decide +kernel⟩, List.mem_of_getElem? (i := 213) (by decide +kernel), List.mem_of_getElem? (i := 699) (by decide +kernel), List.mem_of_getElem? (i := 700) (by decide +kernel)⟩
theorem lw_p19 : lw_okq (⟨"WheelBrook$Speaker", "divided", "(II)I"⟩, 6) := ⟨⟨by decide +kernel, by decide +kernel⟩, List.mem_of_getElem? (i := 213) (by decide +kernel), List.mem_of_getElem? (i := 703) (by decide +kernel), List.mem_of_getElem? (i := 704) (by decide +kernel)⟩
theorem lw_p20 : lw_okq (⟨"WheelBrook$Speaker", "ofOthers", "(IIII)I"⟩, 6) := ⟨⟨by decide +kernel, by decide +kernel⟩, List.mem_of_getElem? (i := 213) (by decide +kernel), List.mem_of_getElem? (i := 707) (by decide +kernel), List.mem_of_getElem? (i := 708) (by decide +kernel)⟩
theorem lw_p21 : lw_okq (⟨"WheelBrook$Speaker", "partsOfSlow", "(III)I"⟩, 6) := ⟨⟨by decide +kernel, by decide +kernel⟩, List.mem_of_getElem? (i := 213) (by decide +kernel), List.mem_of_getElem? (i := 711) (by decide +kernel), List.mem_of_getElem? (i := 712) (by decide +kernel)⟩
theorem lw_p22 : lw_okq (⟨"WheelBrookModel", "change", "(II)I"⟩, 27) := ⟨⟨by decide +kernel, by decide +kernel⟩, List.mem_of_getElem? (i := 789) (by decide +kernel), List.mem_of_getElem? (i := 884) (by decide +kernel), List.mem_of_getElem? (i := 885) (by decide +kernel)⟩
theorem lw_p23 : lw_okq (⟨"WheelBrookModel", "error", "(I)I"⟩, 27) := ⟨⟨by decide +kernel, by decide +kernel⟩, List.mem_of_getElem? (i := 789) (by decide +kernel), List.mem_of_getElem? (i := 888) (by decide +kernel), List.mem_of_getElem? (i := 889) (by decide +kernel)⟩
theorem lw_p24 : lw_okq (⟨"WheelBrookModel", "toldFamily", "(II)I"⟩, 27) := ⟨⟨by decide +kernel, by decide +kernel⟩, List.mem_of_getElem? (i := 789) (by decide +kernel), List.mem_of_getElem? (i := 916) (by decide +kernel), List.mem_of_getElem? (i := 917) (by decide +kernel)⟩
theorem lw_p25 : lw_okq (⟨"WheelBrookModel", "owed", "(I)I"⟩, 27) := ⟨⟨by decide +kernel, by decide +kernel⟩, List.mem_of_getElem? (i := 789) (by decide +kernel), List.mem_of_getElem? (i := 920) (by decide +kernel), List.mem_of_getElem? (i := 921) (by decide +kernel)⟩
theorem lw_p26 : lw_okq (⟨"WheelBrookModel", "prayed", "(I)I"⟩, 27) := ⟨⟨by decide +kernel, by decide +kernel⟩, List.mem_of_getElem? (i := 789) (by decide +kernel), List.mem_of_getElem? (i := 924) (by decide +kernel), List.mem_of_getElem? (i := 925) (by decide +kernel)⟩
theorem lw_p27 : lw_okq (⟨"WheelBrookModel", "isPaid", "(I)Z"⟩, 27) := ⟨⟨by decide +kernel, by decide +kernel⟩, List.mem_of_getElem? (i := 789) (by decide +kernel), List.mem_of_getElem? (i := 928) (by decide +kernel), List.mem_of_getElem? (i := 929) (by decide +kernel)⟩
theorem lw_p28 : lw_okq (⟨"WheelBrookModel", "its", "(II)I"⟩, 27) := ⟨⟨by decide +kernel, by decide +kernel⟩, List.mem_of_getElem? (i := 789) (by decide +kernel), List.mem_of_getElem? (i := 932) (by decide +kernel), List.mem_of_getElem? (i := 933) (by decide +kernel)⟩
theorem lw_p29 : lw_okq (⟨"WheelBrookModel", "adds", "(II)I"⟩, 27) := ⟨⟨by decide +kernel, by decide +kernel⟩, List.mem_of_getElem? (i := 789) (by decide +kernel), List.mem_of_getElem? (i := 940) (by decide +kernel), List.mem_of_getElem? (i := 941) (by decide +kernel)⟩
theorem lw_p30 : lw_okq (⟨"WheelBrookModel", "lays1", "(III)V"⟩, 27) := ⟨⟨by decide +kernel, by decide +kernel⟩, List.mem_of_getElem? (i := 789) (by decide +kernel), List.mem_of_getElem? (i := 944) (by decide +kernel), List.mem_of_getElem? (i := 945) (by decide +kernel)⟩
theorem lw_p31 : lw_okq (⟨"WheelBrookModel", "isWheel", "(I)Z"⟩, 27) := ⟨⟨by decide +kernel, by decide +kernel⟩, List.mem_of_getElem? (i := 789) (by decide +kernel), List.mem_of_getElem? (i := 952) (by decide +kernel), List.mem_of_getElem? (i := 953) (by decide +kernel)⟩
def lw_privs_2 : List (MethodName × Nat) := [(⟨"WheelBrook$Brook", "flood", "()V"⟩, 15), (⟨"WheelBrook$Speaker", "speak", "(IIII)I"⟩, 6), (⟨"WheelBrook$Speaker", "ofWheel", "(III)I"⟩, 6), (⟨"WheelBrook$Speaker", "divided", "(II)I"⟩, 6), (⟨"WheelBrook$Speaker", "ofOthers", "(IIII)I"⟩, 6), (⟨"WheelBrook$Speaker", "partsOfSlow", "(III)I"⟩, 6), (⟨"WheelBrookModel", "change", "(II)I"⟩, 27), (⟨"WheelBrookModel", "error", "(I)I"⟩, 27), (⟨"WheelBrookModel", "toldFamily", "(II)I"⟩, 27), (⟨"WheelBrookModel", "owed", "(I)I"⟩, 27), (⟨"WheelBrookModel", "prayed", "(I)I"⟩, 27), (⟨"WheelBrookModel", "isPaid", "(I)Z"⟩, 27), (⟨"WheelBrookModel", "its", "(II)I"⟩, 27), (⟨"WheelBrookModel", "adds", "(II)I"⟩, 27), (⟨"WheelBrookModel", "lays1", "(III)V"⟩, 27), (⟨"WheelBrookModel", "isWheel", "(I)Z"⟩, 27)]
theorem lw_r2 : ∀ q ∈ lw_privs_2, lw_okq q := List.forall_mem_cons.mpr ⟨lw_p16, List.forall_mem_cons.mpr ⟨lw_p17, List.forall_mem_cons.mpr ⟨lw_p18, List.forall_mem_cons.mpr ⟨lw_p19, List.forall_mem_cons.mpr ⟨lw_p20, List.forall_mem_cons.mpr ⟨lw_p21, List.forall_mem_cons.mpr ⟨lw_p22, List.forall_mem_cons.mpr ⟨lw_p23, List.forall_mem_cons.mpr ⟨lw_p24, List.forall_mem_cons.mpr ⟨lw_p25, List.forall_mem_cons.mpr ⟨lw_p26, List.forall_mem_cons.mpr ⟨lw_p27, List.forall_mem_cons.mpr ⟨lw_p28, List.forall_mem_cons.mpr ⟨lw_p29, List.forall_mem_cons.mpr ⟨lw_p30, List.forall_mem_cons.mpr ⟨lw_p31, fun _ h => absurd h List.not_mem_nil⟩⟩⟩⟩⟩⟩⟩⟩⟩⟩⟩⟩⟩⟩⟩⟩
theorem lw_p32 : lw_okq (⟨"WheelBrookModel", "toldWheel", "(II)I"⟩, 27) := ⟨⟨by decide +kernel, by decide +kernel⟩, List.mem_of_getElem? (i := 789) (by decide +kernel), List.mem_of_getElem? (i := 956) (by decide +kernel), List.mem_of_getElem? (i := 957) (by decide +kernel)⟩
theorem lw_p33 : lw_okq (⟨"WheelBrookModel", "flow", "()V"⟩, 27) := ⟨⟨by decide +kernel, by decide +kernel⟩, List.mem_of_getElem? (i := 789) (by decide +kernel), List.mem_of_getElem? (i := 960) (by decide +kernel), List.mem_of_getElem? (i := 961) (by decide +kernel)⟩
theorem lw_p34 : lw_okq (⟨"WheelBrookModel", "hourOfDay", "()I"⟩, 27) := ⟨⟨by decide +kernel, by decide +kernel⟩, List.mem_of_getElem? (i := 789) (by decide +kernel), List.mem_of_getElem? (i := 964) (by decide +kernel), List.mem_of_getElem? (i := 965) (by decide +kernel)⟩
theorem lw_p35 : lw_okq (⟨"WheelBrookModel", "wants", "(II)I"⟩, 27) := ⟨⟨by decide +kernel, by decide +kernel⟩, List.mem_of_getElem? (i := 789) (by decide +kernel), List.mem_of_getElem? (i := 968) (by decide +kernel), List.mem_of_getElem? (i := 969) (by decide +kernel)⟩
theorem lw_p36 : lw_okq (⟨"WheelBrookModel", "takesTold", "(II)I"⟩, 27) := ⟨⟨by decide +kernel, by decide +kernel⟩, List.mem_of_getElem? (i := 789) (by decide +kernel), List.mem_of_getElem? (i := 972) (by decide +kernel), List.mem_of_getElem? (i := 973) (by decide +kernel)⟩
theorem lw_p37 : lw_okq (⟨"WheelBrookModel", "hasText", "(I)Z"⟩, 27) := ⟨⟨by decide +kernel, by decide +kernel⟩, List.mem_of_getElem? (i := 789) (by decide +kernel), List.mem_of_getElem? (i := 976) (by decide +kernel), List.mem_of_getElem? (i := 977) (by decide +kernel)⟩
theorem lw_p38 : lw_okq (⟨"WheelBrookModel", "worked", "(I)I"⟩, 27) := ⟨⟨by decide +kernel, by decide +kernel⟩, List.mem_of_getElem? (i := 789) (by decide +kernel), List.mem_of_getElem? (i := 980) (by decide +kernel), List.mem_of_getElem? (i := 981) (by decide +kernel)⟩
theorem lw_p39 : lw_okq (⟨"WheelBrookModel", "turns", "(II)I"⟩, 27) := ⟨⟨by decide +kernel, by decide +kernel⟩, List.mem_of_getElem? (i := 789) (by decide +kernel), List.mem_of_getElem? (i := 990) (by decide +kernel), List.mem_of_getElem? (i := 991) (by decide +kernel)⟩
theorem lw_p40 : lw_okq (⟨"WheelBrookModel", "turnsTold", "(II)I"⟩, 27) := ⟨⟨by decide +kernel, by decide +kernel⟩, List.mem_of_getElem? (i := 789) (by decide +kernel), List.mem_of_getElem? (i := 994) (by decide +kernel), List.mem_of_getElem? (i := 995) (by decide +kernel)⟩
theorem lw_p41 : lw_okq (⟨"WheelBrookModel", "shows", "(II)I"⟩, 27) := ⟨⟨by decide +kernel, by decide +kernel⟩, List.mem_of_getElem? (i := 789) (by decide +kernel), List.mem_of_getElem? (i := 998) (by decide +kernel), List.mem_of_getElem? (i := 999) (by decide +kernel)⟩
theorem lw_p42 : lw_okq (⟨"WheelBrookModel", "showsBy", "(III)I"⟩, 27) := ⟨⟨by decide +kernel, by decide +kernel⟩, List.mem_of_getElem? (i := 789) (by decide +kernel), List.mem_of_getElem? (i := 1002) (by decide +kernel), List.mem_of_getElem? (i := 1003) (by decide +kernel)⟩
theorem lw_p43 : lw_okq (⟨"WheelBrookModel", "whole", "()Z"⟩, 27) := ⟨⟨by decide +kernel, by decide +kernel⟩, List.mem_of_getElem? (i := 789) (by decide +kernel), List.mem_of_getElem? (i := 1030) (by decide +kernel), List.mem_of_getElem? (i := 1031) (by decide +kernel)⟩
theorem lw_p44 : lw_okq (⟨"WheelBrookModel", "both", "()Z"⟩, 27) := ⟨⟨by decide +kernel, by decide +kernel⟩, List.mem_of_getElem? (i := 789) (by decide +kernel), List.mem_of_getElem? (i := 1034) (by decide +kernel), List.mem_of_getElem? (i := 1035) (by decide +kernel)⟩
theorem lw_p45 : lw_okq (⟨"WheelBrookModel", "compared", "()Z"⟩, 27) := ⟨⟨by decide +kernel, by decide +kernel⟩, List.mem_of_getElem? (i := 789) (by decide +kernel), List.mem_of_getElem? (i := 1038) (by decide +kernel), List.mem_of_getElem? (i := 1039) (by decide +kernel)⟩
theorem lw_p46 : lw_okq (⟨"WheelBrookModel", "sum", "()Z"⟩, 27) := ⟨⟨by decide +kernel, by decide +kernel⟩, List.mem_of_getElem? (i := 789) (by decide +kernel), List.mem_of_getElem? (i := 1042) (by decide +kernel), List.mem_of_getElem? (i := 1043) (by decide +kernel)⟩
theorem lw_p47 : lw_okq (⟨"WheelBrookModel", "product", "()Z"⟩, 27) := ⟨⟨by decide +kernel, by decide +kernel⟩, List.mem_of_getElem? (i := 789) (by decide +kernel), List.mem_of_getElem? (i := 1046) (by decide +kernel), List.mem_of_getElem? (i := 1047) (by decide +kernel)⟩
def lw_privs_3 : List (MethodName × Nat) := [(⟨"WheelBrookModel", "toldWheel", "(II)I"⟩, 27), (⟨"WheelBrookModel", "flow", "()V"⟩, 27), (⟨"WheelBrookModel", "hourOfDay", "()I"⟩, 27), (⟨"WheelBrookModel", "wants", "(II)I"⟩, 27), (⟨"WheelBrookModel", "takesTold", "(II)I"⟩, 27), (⟨"WheelBrookModel", "hasText", "(I)Z"⟩, 27), (⟨"WheelBrookModel", "worked", "(I)I"⟩, 27), (⟨"WheelBrookModel", "turns", "(II)I"⟩, 27), (⟨"WheelBrookModel", "turnsTold", "(II)I"⟩, 27), (⟨"WheelBrookModel", "shows", "(II)I"⟩, 27), (⟨"WheelBrookModel", "showsBy", "(III)I"⟩, 27), (⟨"WheelBrookModel", "whole", "()Z"⟩, 27), (⟨"WheelBrookModel", "both", "()Z"⟩, 27), (⟨"WheelBrookModel", "compared", "()Z"⟩, 27), (⟨"WheelBrookModel", "sum", "()Z"⟩, 27), (⟨"WheelBrookModel", "product", "()Z"⟩, 27)]
theorem lw_r3 : ∀ q ∈ lw_privs_3, lw_okq q := List.forall_mem_cons.mpr ⟨lw_p32, List.forall_mem_cons.mpr ⟨lw_p33, List.forall_mem_cons.mpr ⟨lw_p34, List.forall_mem_cons.mpr ⟨lw_p35, List.forall_mem_cons.mpr ⟨lw_p36, List.forall_mem_cons.mpr ⟨lw_p37, List.forall_mem_cons.mpr ⟨lw_p38, List.forall_mem_cons.mpr ⟨lw_p39, List.forall_mem_cons.mpr ⟨lw_p40, List.forall_mem_cons.mpr ⟨lw_p41, List.forall_mem_cons.mpr ⟨lw_p42, List.forall_mem_cons.mpr ⟨lw_p43, List.forall_mem_cons.mpr ⟨lw_p44, List.forall_mem_cons.mpr ⟨lw_p45, List.forall_mem_cons.mpr ⟨lw_p46, List.forall_mem_cons.mpr ⟨lw_p47, fun _ h => absurd h List.not_mem_nil⟩⟩⟩⟩⟩⟩⟩⟩⟩⟩⟩⟩⟩⟩⟩⟩
theorem lw_p48 : lw_okq (⟨"WheelBrookModel", "one", "()Z"⟩, 27) := ⟨⟨by decide +kernel, by decide +kernel⟩, List.mem_of_getElem? (i := 789) (by decide +kernel), List.mem_of_getElem? (i := 1050) (by decide +kernel), List.mem_of_getElem? (i := 1051) (by decide +kernel)⟩
theorem lw_p49 : lw_okq (⟨"WheelBrookModel", "look", "()I"⟩, 27) := ⟨⟨by decide +kernel, by decide +kernel⟩, List.mem_of_getElem? (i := 789) (by decide +kernel), List.mem_of_getElem? (i := 1054) (by decide +kernel), List.mem_of_getElem? (i := 1055) (by decide +kernel)⟩
theorem lw_p50 : lw_okq (⟨"WheelBrookModel", "isName", "(I)Z"⟩, 27) := ⟨⟨by decide +kernel, by decide +kernel⟩, List.mem_of_getElem? (i := 789) (by decide +kernel), List.mem_of_getElem? (i := 1058) (by decide +kernel), List.mem_of_getElem? (i := 1059) (by decide +kernel)⟩
theorem lw_p51 : lw_okq (⟨"WheelBrookModel", "step1", "(II)V"⟩, 27) := ⟨⟨by decide +kernel, by decide +kernel⟩, List.mem_of_getElem? (i := 789) (by decide +kernel), List.mem_of_getElem? (i := 1062) (by decide +kernel), List.mem_of_getElem? (i := 1063) (by decide +kernel)⟩
theorem lw_p52 : lw_okq (⟨"WheelBrookModel", "opens", "()Z"⟩, 27) := ⟨⟨by decide +kernel, by decide +kernel⟩, List.mem_of_getElem? (i := 789) (by decide +kernel), List.mem_of_getElem? (i := 1066) (by decide +kernel), List.mem_of_getElem? (i := 1067) (by decide +kernel)⟩
theorem lw_p53 : lw_okq (⟨"WheelBrookModel", "go", "(I)V"⟩, 27) := ⟨⟨by decide +kernel, by decide +kernel⟩, List.mem_of_getElem? (i := 789) (by decide +kernel), List.mem_of_getElem? (i := 1082) (by decide +kernel), List.mem_of_getElem? (i := 1083) (by decide +kernel)⟩
theorem lw_p54 : lw_okq (⟨"WheelBrookModel", "hour", "()V"⟩, 27) := ⟨⟨by decide +kernel, by decide +kernel⟩, List.mem_of_getElem? (i := 789) (by decide +kernel), List.mem_of_getElem? (i := 1086) (by decide +kernel), List.mem_of_getElem? (i := 1087) (by decide +kernel)⟩
theorem lw_p55 : lw_okq (⟨"WheelBrookModel", "turn1", "(II)V"⟩, 27) := ⟨⟨by decide +kernel, by decide +kernel⟩, List.mem_of_getElem? (i := 789) (by decide +kernel), List.mem_of_getElem? (i := 1090) (by decide +kernel), List.mem_of_getElem? (i := 1091) (by decide +kernel)⟩
theorem lw_p56 : lw_okq (⟨"WheelBrookModel", "prays", "(II)V"⟩, 27) := ⟨⟨by decide +kernel, by decide +kernel⟩, List.mem_of_getElem? (i := 789) (by decide +kernel), List.mem_of_getElem? (i := 1094) (by decide +kernel), List.mem_of_getElem? (i := 1095) (by decide +kernel)⟩
theorem lw_p57 : lw_okq (⟨"WheelBrookModel", "allPrayed", "()I"⟩, 27) := ⟨⟨by decide +kernel, by decide +kernel⟩, List.mem_of_getElem? (i := 789) (by decide +kernel), List.mem_of_getElem? (i := 1098) (by decide +kernel), List.mem_of_getElem? (i := 1099) (by decide +kernel)⟩
theorem lw_p58 : lw_okq (⟨"WheelBrookModel", "draw", "()I"⟩, 27) := ⟨⟨by decide +kernel, by decide +kernel⟩, List.mem_of_getElem? (i := 789) (by decide +kernel), List.mem_of_getElem? (i := 1106) (by decide +kernel), List.mem_of_getElem? (i := 1107) (by decide +kernel)⟩
theorem lw_p59 : lw_okq (⟨"WheelBrookModel", "opens", "(I)V"⟩, 27) := ⟨⟨by decide +kernel, by decide +kernel⟩, List.mem_of_getElem? (i := 789) (by decide +kernel), List.mem_of_getElem? (i := 1145) (by decide +kernel), List.mem_of_getElem? (i := 1146) (by decide +kernel)⟩
theorem lw_p60 : lw_okq (⟨"WheelBrookModel", "areAllPaid", "()Z"⟩, 27) := ⟨⟨by decide +kernel, by decide +kernel⟩, List.mem_of_getElem? (i := 789) (by decide +kernel), List.mem_of_getElem? (i := 1149) (by decide +kernel), List.mem_of_getElem? (i := 1150) (by decide +kernel)⟩
theorem lw_p61 : lw_okq (⟨"WheelBrookModel", "isTold", "(II)Z"⟩, 27) := ⟨⟨by decide +kernel, by decide +kernel⟩, List.mem_of_getElem? (i := 789) (by decide +kernel), List.mem_of_getElem? (i := 1157) (by decide +kernel), List.mem_of_getElem? (i := 1158) (by decide +kernel)⟩
theorem lw_p62 : lw_okq (⟨"WheelBrookModel", "findTurns", "(II)V"⟩, 27) := ⟨⟨by decide +kernel, by decide +kernel⟩, List.mem_of_getElem? (i := 789) (by decide +kernel), List.mem_of_getElem? (i := 1161) (by decide +kernel), List.mem_of_getElem? (i := 1162) (by decide +kernel)⟩
theorem lw_p63 : lw_okq (⟨"WheelBrookModel", "kindNow", "()I"⟩, 27) := ⟨⟨by decide +kernel, by decide +kernel⟩, List.mem_of_getElem? (i := 789) (by decide +kernel), List.mem_of_getElem? (i := 1181) (by decide +kernel), List.mem_of_getElem? (i := 1182) (by decide +kernel)⟩
def lw_privs_4 : List (MethodName × Nat) := [(⟨"WheelBrookModel", "one", "()Z"⟩, 27), (⟨"WheelBrookModel", "look", "()I"⟩, 27), (⟨"WheelBrookModel", "isName", "(I)Z"⟩, 27), (⟨"WheelBrookModel", "step1", "(II)V"⟩, 27), (⟨"WheelBrookModel", "opens", "()Z"⟩, 27), (⟨"WheelBrookModel", "go", "(I)V"⟩, 27), (⟨"WheelBrookModel", "hour", "()V"⟩, 27), (⟨"WheelBrookModel", "turn1", "(II)V"⟩, 27), (⟨"WheelBrookModel", "prays", "(II)V"⟩, 27), (⟨"WheelBrookModel", "allPrayed", "()I"⟩, 27), (⟨"WheelBrookModel", "draw", "()I"⟩, 27), (⟨"WheelBrookModel", "opens", "(I)V"⟩, 27), (⟨"WheelBrookModel", "areAllPaid", "()Z"⟩, 27), (⟨"WheelBrookModel", "isTold", "(II)Z"⟩, 27), (⟨"WheelBrookModel", "findTurns", "(II)V"⟩, 27), (⟨"WheelBrookModel", "kindNow", "()I"⟩, 27)]
theorem lw_r4 : ∀ q ∈ lw_privs_4, lw_okq q := List.forall_mem_cons.mpr ⟨lw_p48, List.forall_mem_cons.mpr ⟨lw_p49, List.forall_mem_cons.mpr ⟨lw_p50, List.forall_mem_cons.mpr ⟨lw_p51, List.forall_mem_cons.mpr ⟨lw_p52, List.forall_mem_cons.mpr ⟨lw_p53, List.forall_mem_cons.mpr ⟨lw_p54, List.forall_mem_cons.mpr ⟨lw_p55, List.forall_mem_cons.mpr ⟨lw_p56, List.forall_mem_cons.mpr ⟨lw_p57, List.forall_mem_cons.mpr ⟨lw_p58, List.forall_mem_cons.mpr ⟨lw_p59, List.forall_mem_cons.mpr ⟨lw_p60, List.forall_mem_cons.mpr ⟨lw_p61, List.forall_mem_cons.mpr ⟨lw_p62, List.forall_mem_cons.mpr ⟨lw_p63, fun _ h => absurd h List.not_mem_nil⟩⟩⟩⟩⟩⟩⟩⟩⟩⟩⟩⟩⟩⟩⟩⟩
theorem lw_p64 : lw_okq (⟨"WheelBrookModel", "flowsAs", "(II)I"⟩, 27) := ⟨⟨by decide +kernel, by decide +kernel⟩, List.mem_of_getElem? (i := 789) (by decide +kernel), List.mem_of_getElem? (i := 1185) (by decide +kernel), List.mem_of_getElem? (i := 1186) (by decide +kernel)⟩
theorem lw_p65 : lw_okq (⟨"WheelBrookModel", "begins", "(I)V"⟩, 27) := ⟨⟨by decide +kernel, by decide +kernel⟩, List.mem_of_getElem? (i := 789) (by decide +kernel), List.mem_of_getElem? (i := 1189) (by decide +kernel), List.mem_of_getElem? (i := 1190) (by decide +kernel)⟩
theorem lw_p66 : lw_okq (⟨"WheelBrookModel", "turnsAs", "(II)I"⟩, 27) := ⟨⟨by decide +kernel, by decide +kernel⟩, List.mem_of_getElem? (i := 789) (by decide +kernel), List.mem_of_getElem? (i := 1196) (by decide +kernel), List.mem_of_getElem? (i := 1197) (by decide +kernel)⟩
theorem lw_p67 : lw_okq (⟨"WheelBrookModel", "mNow", "()I"⟩, 27) := ⟨⟨by decide +kernel, by decide +kernel⟩, List.mem_of_getElem? (i := 789) (by decide +kernel), List.mem_of_getElem? (i := 1200) (by decide +kernel), List.mem_of_getElem? (i := 1201) (by decide +kernel)⟩
theorem lw_p68 : lw_okq (⟨"WheelBrookModel", "praysAs", "(II)I"⟩, 27) := ⟨⟨by decide +kernel, by decide +kernel⟩, List.mem_of_getElem? (i := 789) (by decide +kernel), List.mem_of_getElem? (i := 1204) (by decide +kernel), List.mem_of_getElem? (i := 1205) (by decide +kernel)⟩
theorem lw_p69 : lw_okq (⟨"WheelBrookModel", "partsAs", "(II)I"⟩, 27) := ⟨⟨by decide +kernel, by decide +kernel⟩, List.mem_of_getElem? (i := 789) (by decide +kernel), List.mem_of_getElem? (i := 1208) (by decide +kernel), List.mem_of_getElem? (i := 1209) (by decide +kernel)⟩
theorem lw_p70 : lw_okq (⟨"WheelBrookModel", "lacks", "(I)I"⟩, 27) := ⟨⟨by decide +kernel, by decide +kernel⟩, List.mem_of_getElem? (i := 789) (by decide +kernel), List.mem_of_getElem? (i := 1235) (by decide +kernel), List.mem_of_getElem? (i := 1236) (by decide +kernel)⟩
def lw_privs_5 : List (MethodName × Nat) := [(⟨"WheelBrookModel", "flowsAs", "(II)I"⟩, 27), (⟨"WheelBrookModel", "begins", "(I)V"⟩, 27), (⟨"WheelBrookModel", "turnsAs", "(II)I"⟩, 27), (⟨"WheelBrookModel", "mNow", "()I"⟩, 27), (⟨"WheelBrookModel", "praysAs", "(II)I"⟩, 27), (⟨"WheelBrookModel", "partsAs", "(II)I"⟩, 27), (⟨"WheelBrookModel", "lacks", "(I)I"⟩, 27)]
theorem lw_r5 : ∀ q ∈ lw_privs_5, lw_okq q := List.forall_mem_cons.mpr ⟨lw_p64, List.forall_mem_cons.mpr ⟨lw_p65, List.forall_mem_cons.mpr ⟨lw_p66, List.forall_mem_cons.mpr ⟨lw_p67, List.forall_mem_cons.mpr ⟨lw_p68, List.forall_mem_cons.mpr ⟨lw_p69, List.forall_mem_cons.mpr ⟨lw_p70, fun _ h => absurd h List.not_mem_nil⟩⟩⟩⟩⟩⟩⟩
def lw_privs : List (MethodName × Nat) := lw_privs_1 ++ (lw_privs_2 ++ (lw_privs_3 ++ (lw_privs_4 ++ (lw_privs_5))))
def lw_tbl : List Cond := k2_sels lw_privs ++ tables_1
theorem lw_privs_ok : ∀ q ∈ lw_privs, lw_okq q := by
  show ∀ q ∈ lw_privs_1 ++ (lw_privs_2 ++ (lw_privs_3 ++ (lw_privs_4 ++ (lw_privs_5)))), lw_okq q
  exact List.forall_mem_append.mpr ⟨lw_r1, List.forall_mem_append.mpr ⟨lw_r2, List.forall_mem_append.mpr ⟨lw_r3, List.forall_mem_append.mpr ⟨lw_r4, lw_r5⟩⟩⟩⟩
-- ===== end of PART A; then your names; then what follows =====
end
section
def zAOA (t : FieldType) (U : State) : Prop := (Cond.arrayOver (.array t)).before #[] U = true
theorem zAOA.of {t : FieldType} {A : Array Value} {U : State} (h : (Cond.arrayOver (.array t)).before A U = true) : zAOA t U := h
theorem zAOA.use {t : FieldType} {A : Array Value} {U : State} (h : zAOA t U) : (Cond.arrayOver (.array t)).before A U = true := h
theorem zAOA.moved {t : FieldType} {u U : State} (hvm : u.vm.Alike U.vm) (h : zAOA t u) : zAOA t U := by
  have h2 : (Cond.arrayOver (.array t)).before #[] (u.setVm U.vm) = true := by rw [Cond.arrayOver_setVmC hvm (.array t)]; exact h
  exact h2
/-! ===== BEGIN words of one list among another's, by their places ===== -/
theorem goodIn_r {big : List Cond} (ws : List Cond) (ps : List Nat) (hp : ws = ps.filterMap (fun i => big[i]?)) (h : ws.all goodWord = true) : GoodIn big ws := by
  intro w hw
  have h1 := List.all_eq_true.mp h w hw
  rw [hp] at hw
  obtain ⟨i, -, hi⟩ := List.mem_filterMap.mp hw
  have hm : w ∈ big := by first | exact List.mem_of_getElem? hi | exact List.getElem?_mem hi
  exact ⟨hm, good_of_word h1⟩
theorem goodIn_app {big a b : List Cond} (ha : GoodIn big a) (hb : GoodIn big b) : GoodIn big (a ++ b) := fun w h => (List.mem_append.mp h).elim (ha w) (hb w)
theorem goodIn_ca {big a b : List Cond} {c : Cond} (ha : GoodIn big (c :: a)) (hb : GoodIn big b) : GoodIn big (c :: (a ++ b)) := fun w h => (List.mem_cons.mp h).elim (fun e => ha w (List.mem_cons.mpr (Or.inl e))) (fun h => (List.mem_append.mp h).elim (fun h => ha w (List.mem_cons.mpr (Or.inr h))) (hb w))
theorem goodIn_sub {big ws : List Cond} (hm : ∀ w ∈ ws, w ∈ big) (h : ws.all goodWord = true) : GoodIn big ws := fun w hw => ⟨hm w hw, good_of_word (List.all_eq_true.mp h w hw)⟩
/-! ===== END ===== -/

/-! ===== BEGIN new T[n][m]: the outer array a place, the inner ones among the pooled ===== -/
/-- f, but v at every address of l -/
def vr_up {α : Type} (f : Nat → α) (l : List Nat) (v : α) : Nat → α := fun a => if a ∈ l then v else f a
theorem vr_up_in {α : Type} {f : Nat → α} {l : List Nat} {v : α} {a : Nat} (h : a ∈ l) : vr_up f l v a = v := if_pos h
theorem vr_up_ne {α : Type} {f : Nat → α} {l : List Nat} {v : α} {a : Nat} (h : a ∉ l) : vr_up f l v a = f a := if_neg h
theorem vr_rows {L l : List Nat} {f : Nat → va_E} {e : va_E} (h : ∀ a, a ∈ l → a ∉ L) : va_pl L f ++ l.map (fun a => (a, e)) = va_pl (L ++ l) (vr_up f l e) := by
  unfold va_pl
  rw [List.map_append]
  congr 1
  · apply List.map_congr_left
    intro a ha
    rw [vr_up_ne (fun q => h a q ha)]
  · apply List.map_congr_left
    intro a ha
    rw [vr_up_in ha]
theorem vr_lay {X rows : va_W} {x : Nat × va_E} {pl : va_W} {D : va_G} {cl : List vw_C} {H : Heap} (hP : va_P D cl (((X ++ pl) ++ [x]) ++ rows) H) : va_P D cl ((X ++ [x]) ++ (pl ++ rows)) H := by
  rw [List.append_assoc (X ++ pl)] at hP
  have h := va_P.swap hP
  rw [← List.append_assoc X] at h
  have h2 := va_P.swap h
  rw [List.append_assoc (X ++ [x])] at h2
  exact h2
theorem vr_layD {X rows : va_W} {x : Nat × va_E} {pl : va_W} {A : Nat → Prop} (hD : va_D A (((X ++ pl) ++ [x]) ++ rows)) : va_D A ((X ++ [x]) ++ (pl ++ rows)) := by
  rw [List.append_assoc (X ++ pl)] at hD
  have h := va_D.swap hD
  rw [← List.append_assoc X] at h
  have h2 := va_D.swap h
  rw [List.append_assoc (X ++ [x])] at h2
  exact h2
theorem vr_outer (c : ClassId) (N h0 : Nat) : ∀ i : Nat, Jvm.Free.Multi.outerC c N h0 i = arrV c N (fun j => va_rf (if j < i then some (h0 + 1 + j) else none))
  | 0 => by
    show ({ cls := c, slots := Array.replicate N .null, vm := .none } : Cell) = _
    rw [arrV_new]
    refine congrArg (arrV c N) (funext fun j => ?_)
    simp [va_rf]
  | i + 1 => by
    show (Jvm.Free.Multi.outerC c N h0 i).setSlot i (.ref (h0 + 1 + i)) = _
    rw [vr_outer c N h0 i, arrV_store]
    refine congrArg (arrV c N) (funext fun j => ?_)
    by_cases e : j = i
    · subst e
      simp [updV, va_rf]
    · by_cases h : j < i
      · simp [updV, e, h, Nat.lt_succ_of_lt h]
      · simp [updV, e, h, show ¬ j < i + 1 by omega]
section VGM
variable {p : Program} {l : Launch} {e : Env} {R : Room} {s : State} {m : MethodId} {args : Array Value} {below : List Frame} {meth : Method} {c : Code} {H : Heap} {locs : List Loc} {cells slots : Nat} {Q : State → Prop}
variable {cc : ByteArray} {pc : Nat} {ls : Array Slot} {rest : List Value} {D : va_G} {cl : List vw_C} {A : Nat → Prop} {a : Nat} {tys : List (ClassId × FieldType)} {ws : va_W} {H0 : Heap}
theorem va_mna {X : va_W} {L : List Nat} {f : Nat → va_E} {cc : ByteArray} (hexec : p.tables.exec = Jvm.exec) (hb : c.code = cc) {own : String} {index : Nat} {ty : FieldType} {cy : ClassId} (hown : s.vm.findClass own = some m.cls) (hclink : (Cond.classLink own index ("[" ++ (FieldType.array ty).toString)).before args s = true) (hover : zAOA ty s) (harr : (Cond.arrayClass ty).before args s = true) (hcy : s.vm.findClass (FieldType.array ty).toString = some cy)
    (hK : va_K D cl tys s) (hP : va_P D cl (X ++ va_pl L f) H) (hD : va_D A (X ++ va_pl L f)) (hS : va_S A H0 H locs) (hA : ∀ q, H0.size ≤ q → A q) {n k : Int32} {N' K' : Nat} {z : vp_A} (hn : ¬ n < 0) (hk : ¬ k < 0) (hN : n.toNatClampNeg = N') (hM : k.toNatClampNeg = K')
    (hb1 : N' * 4 ≤ 536870912) (hb2 : K' * componentBytes ty ≤ 536870912) (hb3 : K' ≤ 536870912) (hdf : fits ty (defaultValue ty) = true) (hdd : (defaultValue ty).isDefault = true) (hcells : cells + (1 + N') ≤ R.cells) (hslots : slots + (N' + N' * K') ≤ R.slots) (hz : ∀ c : ClassId, Jvm.Free.Multi.innerC c K' (defaultValue ty) = vp_cell c z) (hdg : decode cc pc = .ok (.multianewarray index 2, 4))
    (kk : ∀ (q : Nat) (r : Nat → Nat) (cA : ClassId) (H1 : Heap), (∀ i j : Nat, i < N' → j < N' → r i = r j → i = j) → (∀ i : Nat, i < N' → r i ∉ L) → va_K D cl (tys ++ [(cA, .array ty)]) s →
      va_P D cl ((X ++ [(q, .inl (cA, N', .inr (.inr (.inr (.inr (fun i => if i < N' then some (r i) else none))))))]) ++ va_pl (L ++ (List.range N').map r) (vr_up f ((List.range N').map r) (.inl (cy, z)))) H1 → va_D A ((X ++ [(q, .inl (cA, N', .inr (.inr (.inr (.inr (fun i => if i < N' then some (r i) else none))))))]) ++ va_pl (L ++ (List.range N').map r) (vr_up f ((List.range N').map r) (.inl (cy, z)))) → va_S A H0 H1 locs →
      W p l e R s m args below meth c H1 locs (cells + 1 + N') (slots + N' + N' * K') Q (F0 m (pc + 4) ls (.ref q :: rest))) : W p l e R s m args below meth c H locs cells slots Q (F0 m pc ls (.int k :: .int n :: rest)) := by
  subst hN
  subst hM
  intro T hT Xs
  obtain ⟨vm₁, cA, comp, -, fA, fC, hO, -, X', step⟩ := Xs.multianewarray2F hexec hown hclink (zAOA.use hover) harr (g := F0 m pc ls (.int k :: .int n :: rest)) rfl (by rw [hb]; exact hdg) rfl hn hk hb1 hb2 hb3 hdf hdd hcells hslots
  have ec : some cy = some comp := hcy.symm.trans fC
  cases ec
  generalize hF : Jvm.Free.Multi.fill (T.setVm vm₁) cA cy n.toNatClampNeg k.toNatClampNeg (defaultValue ty) n.toNatClampNeg = F at X' step
  have hTh : (T.setVm vm₁).heap = H := hT
  obtain ⟨f1, f2, -, -⟩ := Jvm.Free.Multi.fill_facts (T.setVm vm₁) cA cy n.toNatClampNeg k.toNatClampNeg (defaultValue ty) n.toNatClampNeg
  rw [hF, hTh] at f1 f2
  have hold : ∀ x : Nat, x < H.size → F.heap[x]? = H[x]? := fun x hx => by
    have := Jvm.Free.Multi.fill_old (T.setVm vm₁) cA cy n.toNatClampNeg k.toNatClampNeg (defaultValue ty) (a := x) (by rw [hTh]; exact hx) n.toNatClampNeg
    rw [hF, hTh] at this
    exact this
  have hrow : ∀ j : Nat, j < n.toNatClampNeg → F.heap[H.size + 1 + j]? = some (vp_cell cy z) := fun j hj => by
    have := Jvm.Free.Multi.fill_inner (T.setVm vm₁) cA cy n.toNatClampNeg k.toNatClampNeg (defaultValue ty) n.toNatClampNeg j hj
    rw [hF, hTh, hz] at this
    exact this
  have hout : Jvm.Free.Multi.outerC cA n.toNatClampNeg H.size n.toNatClampNeg = vp_cell cA (n.toNatClampNeg, .inr (.inr (.inr (.inr (fun i => if i < n.toNatClampNeg then some (H.size + 1 + i) else none))))) := by
    rw [vp_cell_q]
    exact vr_outer cA n.toNatClampNeg H.size n.toNatClampNeg
  rw [hout] at f2
  have hlt : ∀ a, a ∈ L → a < H.size := fun a ha => by
    obtain ⟨k9, hk9⟩ := va_pl_get (X := X) (f := f) ha
    exact (hP k9 _ hk9).lt
  have hnl : ∀ i : Nat, i < n.toNatClampNeg → H.size + 1 + i ∉ L := fun i _ h => by
    have := hlt _ h
    omega
  have hnm : ∀ a, a ∈ (List.range n.toNatClampNeg).map (fun i => H.size + 1 + i) → a ∉ L := fun a ha h => by
    obtain ⟨i, -, rfl⟩ := List.mem_map.mp ha
    have := hlt _ h
    omega
  have hP0 : va_P D cl (X ++ va_pl L f) F.heap := hP.kept (fun k9 x hx => hold x.1 ((hP k9 x hx).lt))
  have hP1 : va_P D cl ((X ++ va_pl L f) ++ [(H.size, .inl (cA, n.toNatClampNeg, .inr (.inr (.inr (.inr (fun i => if i < n.toNatClampNeg then some (H.size + 1 + i) else none))))))]) F.heap := hP0.app (fun k9 x hx => by
    have h0 : k9 < 1 := (List.getElem?_eq_some_iff.mp hx).1
    rw [show k9 = 0 by omega] at hx
    cases hx
    exact f2)
  have hP2 : va_P D cl (((X ++ va_pl L f) ++ [(H.size, .inl (cA, n.toNatClampNeg, .inr (.inr (.inr (.inr (fun i => if i < n.toNatClampNeg then some (H.size + 1 + i) else none))))))]) ++ ((List.range n.toNatClampNeg).map (fun i => H.size + 1 + i)).map (fun a => (a, .inl (cy, z)))) F.heap := hP1.app (fun k9 x hx => by
    obtain ⟨a, ha, rfl⟩ := List.mem_map.mp (List.mem_of_getElem? hx)
    obtain ⟨i, hi, rfl⟩ := List.mem_map.mp ha
    exact hrow i (List.mem_range.mp hi))
  have hD2 : va_D A (((X ++ va_pl L f) ++ [(H.size, .inl (cA, n.toNatClampNeg, .inr (.inr (.inr (.inr (fun i => if i < n.toNatClampNeg then some (H.size + 1 + i) else none))))))]) ++ ((List.range n.toNatClampNeg).map (fun i => H.size + 1 + i)).map (fun a => (a, .inl (cy, z)))) := by
    have hD1 := hD.push (e := .inl (cA, n.toNatClampNeg, .inr (.inr (.inr (.inr (fun i => if i < n.toNatClampNeg then some (H.size + 1 + i) else none)))))) hP rfl (hA _ hS.1)
    generalize hW1 : (X ++ va_pl L f) ++ [(H.size, .inl (cA, n.toNatClampNeg, .inr (.inr (.inr (.inr (fun i => if i < n.toNatClampNeg then some (H.size + 1 + i) else none))))))] = W1 at hD1 hP1 ⊢
    have hle : ∀ (k9 : Nat) (x : Nat × va_E), W1[k9]? = some x → x.1 ≤ H.size := fun k9 x hx => by
      rw [← hW1] at hx
      by_cases hl : k9 < (X ++ va_pl L f).length
      · rw [List.getElem?_append_left hl] at hx
        exact Nat.le_of_lt ((hP k9 x hx).lt)
      · rw [List.getElem?_append_right (by omega)] at hx
        have h0 : k9 - (X ++ va_pl L f).length < 1 := (List.getElem?_eq_some_iff.mp hx).1
        rw [show k9 - (X ++ va_pl L f).length = 0 by omega] at hx
        cases hx
        exact Nat.le_refl _
    have hr : ∀ (k9 : Nat) (x : Nat × va_E), (((List.range n.toNatClampNeg).map (fun i => H.size + 1 + i)).map (fun a => ((a, .inl (cy, z)) : Nat × va_E)))[k9]? = some x → x.1 = H.size + 1 + k9 := fun k9 x hx => by
      rw [List.getElem?_map, List.getElem?_map] at hx
      by_cases h9 : k9 < n.toNatClampNeg
      · rw [List.getElem?_range h9] at hx
        cases hx
        rfl
      · have hn0 : (List.range n.toNatClampNeg)[k9]? = none := List.getElem?_eq_none (by rw [List.length_range]; omega)
        rw [hn0] at hx
        cases hx
    refine ⟨fun i j x y hi hj hxy => ?_, fun k9 x hx => ?_⟩
    · by_cases h1 : i < W1.length <;> by_cases h2 : j < W1.length
      · rw [List.getElem?_append_left h1] at hi
        rw [List.getElem?_append_left h2] at hj
        exact hD1.1 i j x y hi hj hxy
      · rw [List.getElem?_append_left h1] at hi
        rw [List.getElem?_append_right (by omega)] at hj
        have := hle _ _ hi
        have := hr _ _ hj
        omega
      · rw [List.getElem?_append_right (by omega)] at hi
        rw [List.getElem?_append_left h2] at hj
        have := hle _ _ hj
        have := hr _ _ hi
        omega
      · rw [List.getElem?_append_right (by omega)] at hi hj
        have := hr _ _ hi
        have := hr _ _ hj
        omega
    · by_cases h1 : k9 < W1.length
      · rw [List.getElem?_append_left h1] at hx
        exact hD1.2 k9 x hx
      · rw [List.getElem?_append_right (by omega)] at hx
        have := hr _ _ hx
        exact hA _ (by have := hS.1; omega)
  have hAr : ArrOfT s cA (.array ty) := fun N9 z9 => by
    obtain ⟨-, k9, hk9, cm9, hkk9⟩ := (hO 0 0 0).1
    exact ⟨(fun q hq => by cases hq), k9, hk9, cm9, hkk9⟩
  have hK2 : va_K D cl (tys ++ [(cA, .array ty)]) s := ⟨hK.1, fun k9 x hx => by
    by_cases hl : k9 < tys.length
    · rw [List.getElem?_append_left hl] at hx
      exact hK.2 k9 x hx
    · rw [List.getElem?_append_right (by omega)] at hx
      have h0 : k9 - tys.length < 1 := (List.getElem?_eq_some_iff.mp hx).1
      rw [show k9 - tys.length = 0 by omega] at hx
      cases hx
      exact ⟨hAr, fA⟩⟩
  obtain ⟨t, a1, b1⟩ := kk H.size (fun i => H.size + 1 + i) cA F.heap (fun i j _ _ h => by have h9 : H.size + 1 + i = H.size + 1 + j := h; omega) hnl hK2 (by rw [← vr_rows hnm]; exact vr_lay hP2) (by rw [← vr_rows hnm]; exact vr_layD hD2) ⟨by rw [f1]; have := hS.1; omega, fun x h1 h2 => (hold x (Nat.lt_of_lt_of_le h1 hS.1)).trans (hS.2.1 x h1 h2), hS.2.2⟩ F rfl X'
  refine ⟨t, step t ?_, b1⟩
  have e : T.heap.size = H.size := by rw [hT]
  rw [e]
  exact a1
end VGM
/-! ===== END ===== -/
end
section
/-! ===== BEGIN printed: names, fields, word lists, decode rows ===== -/
def RX0 : String := "WheelBrook$Brook"
def TX0 : u_T := fun k => match k with
  | 0 => ("WheelBrook$Brook", "dayForce", "[I", true)
  | 1 => ("WheelBrook$Brook", "weeds", "[I", true)
  | 2 => ("WheelBrook$Brook", "owed", "[I", true)
  | 3 => ("WheelBrook$Brook", "prayed", "[I", true)
  | 4 => ("WheelBrook$Brook", "wheels", "[LWheelBrook$Wheel;", true)
  | 5 => ("WheelBrook$Brook", "takes", "LWheelBrook$Law;", true)
  | 6 => ("WheelBrook$Brook", "turns", "LWheelBrook$Law;", true)
  | 7 => ("WheelBrook$Brook", "names", "[I", true)
  | 8 => ("WheelBrook$Brook", "flow", "[I", true)
  | 9 => ("WheelBrook$Brook", "size", "I", false)
  | 10 => ("WheelBrook$Brook", "hour", "I", false)
  | 11 => ("WheelBrook$Brook", "cold", "I", false)
  | 12 => ("WheelBrook$Brook", "z", "I", false)
  | 13 => ("WheelBrook$Brook", "gone", "I", false)
  | _ => ("WheelBrook$Brook", "lost", "I", false)
def tyX0 : Nat → FieldType := fun k => match k with
  | 0 => .array .int
  | 1 => .array .int
  | 2 => .array .int
  | 3 => .array .int
  | 4 => .array (.object "WheelBrook$Wheel")
  | 5 => .object "WheelBrook$Law"
  | 6 => .object "WheelBrook$Law"
  | 7 => .array .int
  | 8 => .array .int
  | 9 => .int
  | 10 => .int
  | 11 => .int
  | 12 => .int
  | 13 => .int
  | _ => .int
abbrev wsX00 : List Cond := u_ws RX0 TX0 15
theorem nmX0 : ∀ a, a < 15 → ∀ b, b < 15 → a ≠ b → (TX0 a).2.1 ≠ (TX0 b).2.1 := by decide +kernel
theorem tyX0_ok : ∀ k, k < 15 → parseFieldDescriptor (TX0 k).2.2.1 = some (tyX0 k) := by decide +kernel
abbrev cX0_init : ByteArray := prog_2_method_1_code
def yX0_init : MethodName := ⟨RX0, "<init>", "()V"⟩
abbrev cX0_copyFrom : ByteArray := prog_2_method_2_code
def yX0_copyFrom : MethodName := ⟨RX0, "copyFrom", "(LWheelBrook$Brook;)V"⟩
abbrev cX0_law : ByteArray := prog_2_method_3_code
def yX0_law : MethodName := ⟨RX0, "law", "(I)LWheelBrook$Law;"⟩
abbrev cX0_addWheel : ByteArray := prog_2_method_4_code
def yX0_addWheel : MethodName := ⟨RX0, "addWheel", "(III)V"⟩
abbrev cX0_openOnly : ByteArray := prog_2_method_5_code
def yX0_openOnly : MethodName := ⟨RX0, "openOnly", "(I)V"⟩
abbrev cX0_forceNow : ByteArray := prog_2_method_6_code
def yX0_forceNow : MethodName := ⟨RX0, "forceNow", "()I"⟩
abbrev cX0_letFlow : ByteArray := prog_2_method_7_code
def yX0_letFlow : MethodName := ⟨RX0, "letFlow", "()V"⟩
abbrev cX0_wants : ByteArray := prog_2_method_8_code
def yX0_wants : MethodName := ⟨RX0, "wants", "(LWheelBrook$Wheel;I)I"⟩
abbrev cX0_toldTakes : ByteArray := prog_2_method_9_code
def yX0_toldTakes : MethodName := ⟨RX0, "toldTakes", "(LWheelBrook$Wheel;I)I"⟩
abbrev cX0_turnsBy : ByteArray := prog_2_method_10_code
def yX0_turnsBy : MethodName := ⟨RX0, "turnsBy", "(LWheelBrook$Wheel;I)I"⟩
abbrev cX0_toldTurns : ByteArray := prog_2_method_11_code
def yX0_toldTurns : MethodName := ⟨RX0, "toldTurns", "(LWheelBrook$Wheel;I)I"⟩
abbrev cX0_showsBy : ByteArray := prog_2_method_12_code
def yX0_showsBy : MethodName := ⟨RX0, "showsBy", "(LWheelBrook$Wheel;II)I"⟩
abbrev cX0_passHour : ByteArray := prog_2_method_13_code
def yX0_passHour : MethodName := ⟨RX0, "passHour", "()I"⟩
abbrev cX0_passHours : ByteArray := prog_2_method_14_code
def yX0_passHours : MethodName := ⟨RX0, "passHours", "(I)I"⟩
abbrev cX0_turnsIn : ByteArray := prog_2_method_15_code
def yX0_turnsIn : MethodName := ⟨RX0, "turnsIn", "(III)I"⟩
abbrev cX0_turnMore : ByteArray := prog_2_method_16_code
def yX0_turnMore : MethodName := ⟨RX0, "turnMore", "(LWheelBrook$Wheel;I)V"⟩
abbrev cX0_drawWeather : ByteArray := prog_2_method_17_code
def yX0_drawWeather : MethodName := ⟨RX0, "drawWeather", "()I"⟩
abbrev cX0_flood : ByteArray := prog_2_method_18_code
def yX0_flood : MethodName := ⟨RX0, "flood", "()V"⟩
abbrev cX0_isPaid : ByteArray := prog_2_method_19_code
def yX0_isPaid : MethodName := ⟨RX0, "isPaid", "(I)Z"⟩
abbrev cX0_allArePaid : ByteArray := prog_2_method_20_code
def yX0_allArePaid : MethodName := ⟨RX0, "allArePaid", "()Z"⟩
abbrev cX0_prayedOfAll : ByteArray := prog_2_method_21_code
def yX0_prayedOfAll : MethodName := ⟨RX0, "prayedOfAll", "()I"⟩
abbrev cX0_familyPart : ByteArray := prog_2_method_22_code
def yX0_familyPart : MethodName := ⟨RX0, "familyPart", "(II)I"⟩
abbrev cX0_wheelsFor : ByteArray := prog_2_method_23_code
def yX0_wheelsFor : MethodName := ⟨RX0, "wheelsFor", "(I)I"⟩
abbrev cX0_wheelPart : ByteArray := prog_2_method_24_code
def yX0_wheelPart : MethodName := ⟨RX0, "wheelPart", "(II)I"⟩
def RX1 : String := "WheelBrook$Desk"
def TX1 : u_T := fun k => match k with
  | 0 => ("WheelBrook$Desk", "tape", "[B", true)
  | 1 => ("WheelBrook$Desk", "numbers", "[I", true)
  | 2 => ("WheelBrook$Desk", "taped", "I", false)
  | _ => ("WheelBrook$Desk", "waiting", "I", false)
def tyX1 : Nat → FieldType := fun k => match k with
  | 0 => .array .byte
  | 1 => .array .int
  | 2 => .int
  | _ => .int
abbrev wsX10 : List Cond := u_ws RX1 TX1 4
theorem nmX1 : ∀ a, a < 4 → ∀ b, b < 4 → a ≠ b → (TX1 a).2.1 ≠ (TX1 b).2.1 := by decide +kernel
theorem tyX1_ok : ∀ k, k < 4 → parseFieldDescriptor (TX1 k).2.2.1 = some (tyX1 k) := by decide +kernel
abbrev cX1_init : ByteArray := prog_3_method_1_code
def yX1_init : MethodName := ⟨RX1, "<init>", "()V"⟩
abbrev cX1_addBytes : ByteArray := prog_3_method_2_code
def yX1_addBytes : MethodName := ⟨RX1, "addBytes", "(JI)V"⟩
abbrev cX1_copyFrom : ByteArray := prog_3_method_3_code
def yX1_copyFrom : MethodName := ⟨RX1, "copyFrom", "(LWheelBrook$Desk;)V"⟩
def RX2 : String := "WheelBrook$Law"
def TX2 : u_T := fun k => match k with
  | 0 => ("WheelBrook$Law", "code", "[I", true)
  | 1 => ("WheelBrook$Law", "stack", "[I", true)
  | _ => ("WheelBrook$Law", "size", "I", false)
def tyX2 : Nat → FieldType := fun k => match k with
  | 0 => .array .int
  | 1 => .array .int
  | _ => .int
abbrev wsX20 : List Cond := u_ws RX2 TX2 3
theorem nmX2 : ∀ a, a < 3 → ∀ b, b < 3 → a ≠ b → (TX2 a).2.1 ≠ (TX2 b).2.1 := by decide +kernel
theorem tyX2_ok : ∀ k, k < 3 → parseFieldDescriptor (TX2 k).2.2.1 = some (tyX2 k) := by decide +kernel
abbrev cX2_init : ByteArray := prog_4_method_1_code
def yX2_init : MethodName := ⟨RX2, "<init>", "()V"⟩
abbrev cX2_learn : ByteArray := prog_4_method_2_code
def yX2_learn : MethodName := ⟨RX2, "learn", "([II)V"⟩
abbrev cX2_value : ByteArray := prog_4_method_3_code
def yX2_value : MethodName := ⟨RX2, "value", "([I)I"⟩
abbrev cX2_nameOf : ByteArray := prog_4_method_4_code
def yX2_nameOf : MethodName := ⟨RX2, "nameOf", "([II)I"⟩
abbrev cX2_joined : ByteArray := prog_4_method_5_code
def yX2_joined : MethodName := ⟨RX2, "joined", "(III)I"⟩
def RX3 : String := "WheelBrook$Reader"
def TX3 : u_T := fun k => match k with
  | 0 => ("WheelBrook$Reader", "code", "[I", true)
  | 1 => ("WheelBrook$Reader", "signs", "[I", true)
  | 2 => ("WheelBrook$Reader", "size", "I", false)
  | 3 => ("WheelBrook$Reader", "waiting", "I", false)
  | 4 => ("WheelBrook$Reader", "open", "I", false)
  | 5 => ("WheelBrook$Reader", "brackets", "I", false)
  | 6 => ("WheelBrook$Reader", "digits", "I", false)
  | _ => ("WheelBrook$Reader", "wanting", "Z", false)
def tyX3 : Nat → FieldType := fun k => match k with
  | 0 => .array .int
  | 1 => .array .int
  | 2 => .int
  | 3 => .int
  | 4 => .int
  | 5 => .int
  | 6 => .int
  | _ => .boolean
abbrev wsX30 : List Cond := u_ws RX3 TX3 8
theorem nmX3 : ∀ a, a < 8 → ∀ b, b < 8 → a ≠ b → (TX3 a).2.1 ≠ (TX3 b).2.1 := by decide +kernel
theorem tyX3_ok : ∀ k, k < 8 → parseFieldDescriptor (TX3 k).2.2.1 = some (tyX3 k) := by decide +kernel
abbrev cX3_init : ByteArray := prog_5_method_1_code
def yX3_init : MethodName := ⟨RX3, "<init>", "()V"⟩
abbrev cX3_read : ByteArray := prog_5_method_2_code
def yX3_read : MethodName := ⟨RX3, "read", "([BII)I"⟩
abbrev cX3_goesOn : ByteArray := prog_5_method_3_code
def yX3_goesOn : MethodName := ⟨RX3, "goesOn", "(II)Z"⟩
abbrev cX3_digit : ByteArray := prog_5_method_4_code
def yX3_digit : MethodName := ⟨RX3, "digit", "(I)Z"⟩
abbrev cX3_opens : ByteArray := prog_5_method_5_code
def yX3_opens : MethodName := ⟨RX3, "opens", "(II)Z"⟩
abbrev cX3_follows : ByteArray := prog_5_method_6_code
def yX3_follows : MethodName := ⟨RX3, "follows", "(I)Z"⟩
abbrev cX3_closes : ByteArray := prog_5_method_7_code
def yX3_closes : MethodName := ⟨RX3, "closes", "()Z"⟩
abbrev cX3_writeSigns : ByteArray := prog_5_method_8_code
def yX3_writeSigns : MethodName := ⟨RX3, "writeSigns", "(I)V"⟩
abbrev cX3_write : ByteArray := prog_5_method_9_code
def yX3_write : MethodName := ⟨RX3, "write", "(I)V"⟩
abbrev cX3_hold : ByteArray := prog_5_method_10_code
def yX3_hold : MethodName := ⟨RX3, "hold", "(I)V"⟩
abbrev cX3_rankOf : ByteArray := prog_5_method_11_code
def yX3_rankOf : MethodName := ⟨RX3, "rankOf", "(I)I"⟩
def RX4 : String := "WheelBrook$Sheets"
def TX4 : u_T := fun k => match k with
  | 0 => ("WheelBrook$Sheets", "rows", "[[I", true)
  | 1 => ("WheelBrook$Sheets", "widths", "[I", true)
  | _ => ("WheelBrook$Sheets", "sizes", "[I", true)
def tyX4 : Nat → FieldType := fun k => match k with
  | 0 => .array (.array .int)
  | 1 => .array .int
  | _ => .array .int
abbrev wsX40 : List Cond := u_ws RX4 TX4 3
theorem nmX4 : ∀ a, a < 3 → ∀ b, b < 3 → a ≠ b → (TX4 a).2.1 ≠ (TX4 b).2.1 := by decide +kernel
theorem tyX4_ok : ∀ k, k < 3 → parseFieldDescriptor (TX4 k).2.2.1 = some (tyX4 k) := by decide +kernel
abbrev cX4_init : ByteArray := prog_6_method_1_code
def yX4_init : MethodName := ⟨RX4, "<init>", "()V"⟩
abbrev cX4_isMissing : ByteArray := prog_6_method_2_code
def yX4_isMissing : MethodName := ⟨RX4, "isMissing", "(I)Z"⟩
abbrev cX4_begin : ByteArray := prog_6_method_3_code
def yX4_begin : MethodName := ⟨RX4, "begin", "(III)V"⟩
abbrev cX4_lowest : ByteArray := prog_6_method_4_code
def yX4_lowest : MethodName := ⟨RX4, "lowest", "(II)I"⟩
abbrev cX4_stand : ByteArray := prog_6_method_5_code
def yX4_stand : MethodName := ⟨RX4, "stand", "(III)Z"⟩
def RX5 : String := "WheelBrook$Speaker"
def TX5 : u_T := fun k => match k with
  | 0 => ("WheelBrook$Speaker", "trace", "[I", true)
  | 1 => ("WheelBrook$Speaker", "traced", "I", false)
  | 2 => ("WheelBrook$Speaker", "parted", "Z", false)
  | 3 => ("WheelBrook$Speaker", "kind", "I", false)
  | 4 => ("WheelBrook$Speaker", "number", "I", false)
  | _ => ("WheelBrook$Speaker", "m", "I", false)
def tyX5 : Nat → FieldType := fun k => match k with
  | 0 => .array .int
  | 1 => .int
  | 2 => .boolean
  | 3 => .int
  | 4 => .int
  | _ => .int
abbrev wsX50 : List Cond := u_ws RX5 TX5 6
theorem nmX5 : ∀ a, a < 6 → ∀ b, b < 6 → a ≠ b → (TX5 a).2.1 ≠ (TX5 b).2.1 := by decide +kernel
theorem tyX5_ok : ∀ k, k < 6 → parseFieldDescriptor (TX5 k).2.2.1 = some (tyX5 k) := by decide +kernel
abbrev cX5_init : ByteArray := prog_7_method_1_code
def yX5_init : MethodName := ⟨RX5, "<init>", "()V"⟩
abbrev cX5_answer : ByteArray := prog_7_method_2_code
def yX5_answer : MethodName := ⟨RX5, "answer", "(IIIII)I"⟩
abbrev cX5_speak : ByteArray := prog_7_method_3_code
def yX5_speak : MethodName := ⟨RX5, "speak", "(IIII)I"⟩
abbrev cX5_ofWheel : ByteArray := prog_7_method_4_code
def yX5_ofWheel : MethodName := ⟨RX5, "ofWheel", "(III)I"⟩
abbrev cX5_divided : ByteArray := prog_7_method_5_code
def yX5_divided : MethodName := ⟨RX5, "divided", "(II)I"⟩
abbrev cX5_ofOthers : ByteArray := prog_7_method_6_code
def yX5_ofOthers : MethodName := ⟨RX5, "ofOthers", "(IIII)I"⟩
abbrev cX5_partsOfSlow : ByteArray := prog_7_method_7_code
def yX5_partsOfSlow : MethodName := ⟨RX5, "partsOfSlow", "(III)I"⟩
def RX6 : String := "WheelBrook$Wheel"
def TX6 : u_T := fun k => match k with
  | 0 => ("WheelBrook$Wheel", "kind", "I", false)
  | 1 => ("WheelBrook$Wheel", "m", "I", false)
  | 2 => ("WheelBrook$Wheel", "place", "I", false)
  | 3 => ("WheelBrook$Wheel", "family", "I", false)
  | 4 => ("WheelBrook$Wheel", "open", "I", false)
  | 5 => ("WheelBrook$Wheel", "counter", "I", false)
  | 6 => ("WheelBrook$Wheel", "turned", "I", false)
  | 7 => ("WheelBrook$Wheel", "took", "I", false)
  | _ => ("WheelBrook$Wheel", "turns", "I", false)
def tyX6 : Nat → FieldType := fun k => match k with
  | 0 => .int
  | 1 => .int
  | 2 => .int
  | 3 => .int
  | 4 => .int
  | 5 => .int
  | 6 => .int
  | 7 => .int
  | _ => .int
abbrev wsX60 : List Cond := u_ws RX6 TX6 9
theorem nmX6 : ∀ a, a < 9 → ∀ b, b < 9 → a ≠ b → (TX6 a).2.1 ≠ (TX6 b).2.1 := by decide +kernel
theorem tyX6_ok : ∀ k, k < 9 → parseFieldDescriptor (TX6 k).2.2.1 = some (tyX6 k) := by decide +kernel
abbrev cX6_init : ByteArray := prog_8_method_1_code
def yX6_init : MethodName := ⟨RX6, "<init>", "()V"⟩
abbrev cX6_part : ByteArray := prog_8_method_2_code
def yX6_part : MethodName := ⟨RX6, "part", "(I)I"⟩
abbrev cX6_change : ByteArray := prog_8_method_3_code
def yX6_change : MethodName := ⟨RX6, "change", "(II)V"⟩
abbrev cX6_copyFrom : ByteArray := prog_8_method_4_code
def yX6_copyFrom : MethodName := ⟨RX6, "copyFrom", "(LWheelBrook$Wheel;)V"⟩
def RX7 : String := "WheelBrook"
def TX7 : u_T := fun k => match k with
  | 0 => ("WheelBrook", "now", "LWheelBrook$Brook;", true)
  | 1 => ("WheelBrook", "kept", "LWheelBrook$Brook;", true)
  | 2 => ("WheelBrook", "trial", "LWheelBrook$Brook;", true)
  | 3 => ("WheelBrook", "desk", "LWheelBrook$Desk;", true)
  | 4 => ("WheelBrook", "keptDesk", "LWheelBrook$Desk;", true)
  | 5 => ("WheelBrook", "reader", "LWheelBrook$Reader;", true)
  | 6 => ("WheelBrook", "speaker", "LWheelBrook$Speaker;", true)
  | 7 => ("WheelBrook", "sheets", "LWheelBrook$Sheets;", true)
  | 8 => ("WheelBrook", "errors", "[I", true)
  | _ => ("WheelBrook", "images", "I", false)
def tyX7 : Nat → FieldType := fun k => match k with
  | 0 => .object "WheelBrook$Brook"
  | 1 => .object "WheelBrook$Brook"
  | 2 => .object "WheelBrook$Brook"
  | 3 => .object "WheelBrook$Desk"
  | 4 => .object "WheelBrook$Desk"
  | 5 => .object "WheelBrook$Reader"
  | 6 => .object "WheelBrook$Speaker"
  | 7 => .object "WheelBrook$Sheets"
  | 8 => .array .int
  | _ => .int
abbrev wsX70 : List Cond := u_ws RX7 TX7 10
theorem nmX7 : ∀ a, a < 10 → ∀ b, b < 10 → a ≠ b → (TX7 a).2.1 ≠ (TX7 b).2.1 := by decide +kernel
theorem tyX7_ok : ∀ k, k < 10 → parseFieldDescriptor (TX7 k).2.2.1 = some (tyX7 k) := by decide +kernel
abbrev cX7_init : ByteArray := prog_1_method_1_code
def yX7_init : MethodName := ⟨RX7, "<init>", "()V"⟩
abbrev cX7_force : ByteArray := prog_1_method_2_code
def yX7_force : MethodName := ⟨RX7, "force", "(II)I"⟩
abbrev cX7_weed : ByteArray := prog_1_method_3_code
def yX7_weed : MethodName := ⟨RX7, "weed", "(II)I"⟩
abbrev cX7_frost : ByteArray := prog_1_method_4_code
def yX7_frost : MethodName := ⟨RX7, "frost", "(I)I"⟩
abbrev cX7_owe : ByteArray := prog_1_method_5_code
def yX7_owe : MethodName := ⟨RX7, "owe", "(II)I"⟩
abbrev cX7_familyIs : ByteArray := prog_1_method_6_code
def yX7_familyIs : MethodName := ⟨RX7, "familyIs", "(II)I"⟩
abbrev cX7_wheel : ByteArray := prog_1_method_7_code
def yX7_wheel : MethodName := ⟨RX7, "wheel", "(II)I"⟩
abbrev cX7_wheelIs : ByteArray := prog_1_method_8_code
def yX7_wheelIs : MethodName := ⟨RX7, "wheelIs", "(II)I"⟩
abbrev cX7_as : ByteArray := prog_1_method_9_code
def yX7_as : MethodName := ⟨RX7, "as", "(II)I"⟩
abbrev cX7_set : ByteArray := prog_1_method_10_code
def yX7_set : MethodName := ⟨RX7, "set", "(III)I"⟩
abbrev cX7_flows : ByteArray := prog_1_method_11_code
def yX7_flows : MethodName := ⟨RX7, "flows", "(I)I"⟩
abbrev cX7_feed : ByteArray := prog_1_method_12_code
def yX7_feed : MethodName := ⟨RX7, "feed", "(JI)I"⟩
abbrev cX7_text : ByteArray := prog_1_method_13_code
def yX7_text : MethodName := ⟨RX7, "text", "(I)I"⟩
abbrev cX7_untell : ByteArray := prog_1_method_14_code
def yX7_untell : MethodName := ⟨RX7, "untell", "(I)I"⟩
abbrev cX7_hours : ByteArray := prog_1_method_15_code
def yX7_hours : MethodName := ⟨RX7, "hours", "(I)I"⟩
abbrev cX7_draws : ByteArray := prog_1_method_16_code
def yX7_draws : MethodName := ⟨RX7, "draws", "(I)I"⟩
abbrev cX7_seed : ByteArray := prog_1_method_17_code
def yX7_seed : MethodName := ⟨RX7, "seed", "(I)I"⟩
abbrev cX7_sell : ByteArray := prog_1_method_18_code
def yX7_sell : MethodName := ⟨RX7, "sell", "(III)I"⟩
abbrev cX7_fair : ByteArray := prog_1_method_19_code
def yX7_fair : MethodName := ⟨RX7, "fair", "(II)I"⟩
abbrev cX7_then : ByteArray := prog_1_method_20_code
def yX7_then : MethodName := ⟨RX7, "then", "(III)I"⟩
abbrev cX7_thenFamily : ByteArray := prog_1_method_21_code
def yX7_thenFamily : MethodName := ⟨RX7, "thenFamily", "(III)I"⟩
abbrev cX7_when : ByteArray := prog_1_method_22_code
def yX7_when : MethodName := ⟨RX7, "when", "(II)I"⟩
abbrev cX7_sluices : ByteArray := prog_1_method_23_code
def yX7_sluices : MethodName := ⟨RX7, "sluices", "(II)I"⟩
abbrev cX7_fewer : ByteArray := prog_1_method_24_code
def yX7_fewer : MethodName := ⟨RX7, "fewer", "(III)I"⟩
abbrev cX7_bestPlace : ByteArray := prog_1_method_25_code
def yX7_bestPlace : MethodName := ⟨RX7, "bestPlace", "(II)I"⟩
abbrev cX7_who : ByteArray := prog_1_method_26_code
def yX7_who : MethodName := ⟨RX7, "who", "(II)I"⟩
abbrev cX7_slipped : ByteArray := prog_1_method_27_code
def yX7_slipped : MethodName := ⟨RX7, "slipped", "()I"⟩
abbrev cX7_voice : ByteArray := prog_1_method_28_code
def yX7_voice : MethodName := ⟨RX7, "voice", "(III)I"⟩
abbrev cX7_body : ByteArray := prog_1_method_29_code
def yX7_body : MethodName := ⟨RX7, "body", "(I)I"⟩
abbrev cX7_sheet : ByteArray := prog_1_method_30_code
def yX7_sheet : MethodName := ⟨RX7, "sheet", "(III)I"⟩
abbrev cX7_put : ByteArray := prog_1_method_31_code
def yX7_put : MethodName := ⟨RX7, "put", "(III)I"⟩
abbrev cX7_move : ByteArray := prog_1_method_32_code
def yX7_move : MethodName := ⟨RX7, "move", "(IIIII)I"⟩
abbrev cX7_forces : ByteArray := prog_1_method_33_code
def yX7_forces : MethodName := ⟨RX7, "forces", "(I)I"⟩
abbrev cX7_judge : ByteArray := prog_1_method_34_code
def yX7_judge : MethodName := ⟨RX7, "judge", "(I)I"⟩
abbrev cX7_image : ByteArray := prog_1_method_35_code
def yX7_image : MethodName := ⟨RX7, "image", "()I"⟩
abbrev cX7_restore : ByteArray := prog_1_method_36_code
def yX7_restore : MethodName := ⟨RX7, "restore", "()I"⟩
abbrev cX7_tell : ByteArray := prog_1_method_37_code
def yX7_tell : MethodName := ⟨RX7, "tell", "(I)I"⟩
abbrev cX7_check : ByteArray := prog_1_method_38_code
def yX7_check : MethodName := ⟨RX7, "check", "(I)I"⟩
abbrev cX7_count : ByteArray := prog_1_method_39_code
def yX7_count : MethodName := ⟨RX7, "count", "(I)I"⟩
abbrev cX7_told : ByteArray := prog_1_method_40_code
def yX7_told : MethodName := ⟨RX7, "told", "(I)I"⟩
abbrev cX7_error : ByteArray := prog_1_method_41_code
def yX7_error : MethodName := ⟨RX7, "error", "(I)I"⟩
abbrev cX7_noWheel : ByteArray := prog_1_method_42_code
def yX7_noWheel : MethodName := ⟨RX7, "noWheel", "(I)Z"⟩
abbrev cX7_noSheet : ByteArray := prog_1_method_43_code
def yX7_noSheet : MethodName := ⟨RX7, "noSheet", "(I)Z"⟩
abbrev cX7_outside : ByteArray := prog_1_method_44_code
def yX7_outside : MethodName := ⟨RX7, "outside", "(III)Z"⟩
abbrev cX7_held : ByteArray := prog_1_method_45_code
def yX7_held : MethodName := ⟨RX7, "held", "(III)I"⟩
abbrev cX7_isUnder : ByteArray := prog_1_method_46_code
def yX7_isUnder : MethodName := ⟨RX7, "isUnder", "(II)Z"⟩
def RX8 : String := "WheelBrookModel"
def TX8 : u_T := fun k => match k with
  | 0 => ("WheelBrookModel", "s", "[I", true)
  | 1 => ("WheelBrookModel", "kept", "[I", true)
  | 2 => ("WheelBrookModel", "put", "[I", true)
  | 3 => ("WheelBrookModel", "images", "I", false)
  | 4 => ("WheelBrookModel", "errors", "[I", true)
  | 5 => ("WheelBrookModel", "at", "I", false)
  | 6 => ("WheelBrookModel", "open", "I", false)
  | 7 => ("WheelBrookModel", "steps", "I", false)
  | 8 => ("WheelBrookModel", "use", "I", false)
  | 9 => ("WheelBrookModel", "step", "[I", true)
  | 10 => ("WheelBrookModel", "named", "[I", true)
  | 11 => ("WheelBrookModel", "pile", "[I", true)
  | 12 => ("WheelBrookModel", "flowing", "[I", true)
  | 13 => ("WheelBrookModel", "took", "[I", true)
  | 14 => ("WheelBrookModel", "lost", "I", false)
  | 15 => ("WheelBrookModel", "taken", "I", false)
  | 16 => ("WheelBrookModel", "turned", "[I", true)
  | 17 => ("WheelBrookModel", "others", "I", false)
  | 18 => ("WheelBrookModel", "own", "I", false)
  | 19 => ("WheelBrookModel", "trace", "[I", true)
  | 20 => ("WheelBrookModel", "traced", "I", false)
  | 21 => ("WheelBrookModel", "speaks", "I", false)
  | 22 => ("WheelBrookModel", "isParted", "Z", false)
  | 23 => ("WheelBrookModel", "bits", "[I", true)
  | 24 => ("WheelBrookModel", "sizes", "[I", true)
  | 25 => ("WheelBrookModel", "number", "[I", true)
  | _ => ("WheelBrookModel", "aside", "[I", true)
def tyX8 : Nat → FieldType := fun k => match k with
  | 0 => .array .int
  | 1 => .array .int
  | 2 => .array .int
  | 3 => .int
  | 4 => .array .int
  | 5 => .int
  | 6 => .int
  | 7 => .int
  | 8 => .int
  | 9 => .array .int
  | 10 => .array .int
  | 11 => .array .int
  | 12 => .array .int
  | 13 => .array .int
  | 14 => .int
  | 15 => .int
  | 16 => .array .int
  | 17 => .int
  | 18 => .int
  | 19 => .array .int
  | 20 => .int
  | 21 => .int
  | 22 => .boolean
  | 23 => .array .int
  | 24 => .array .int
  | 25 => .array .int
  | _ => .array .int
abbrev wsX80 : List Cond := u_ws RX8 TX8 27
theorem nmX8 : ∀ a, a < 27 → ∀ b, b < 27 → a ≠ b → (TX8 a).2.1 ≠ (TX8 b).2.1 := by decide +kernel
theorem tyX8_ok : ∀ k, k < 27 → parseFieldDescriptor (TX8 k).2.2.1 = some (tyX8 k) := by decide +kernel
abbrev cX8_init : ByteArray := prog_10_method_1_code
def yX8_init : MethodName := ⟨RX8, "<init>", "()V"⟩
abbrev cX8_error : ByteArray := prog_10_method_2_code
def yX8_error : MethodName := ⟨RX8, "error", "(I)I"⟩
abbrev cX8_in : ByteArray := prog_10_method_3_code
def yX8_in : MethodName := ⟨RX8, "in", "(III)Z"⟩
abbrev cX8_held : ByteArray := prog_10_method_4_code
def yX8_held : MethodName := ⟨RX8, "held", "(III)I"⟩
abbrev cX8_carry : ByteArray := prog_10_method_5_code
def yX8_carry : MethodName := ⟨RX8, "carry", "([I[I)V"⟩
abbrev cX8_isWheel : ByteArray := prog_10_method_6_code
def yX8_isWheel : MethodName := ⟨RX8, "isWheel", "(I)Z"⟩
abbrev cX8_isFamily : ByteArray := prog_10_method_7_code
def yX8_isFamily : MethodName := ⟨RX8, "isFamily", "(I)Z"⟩
abbrev cX8_isPlace : ByteArray := prog_10_method_8_code
def yX8_isPlace : MethodName := ⟨RX8, "isPlace", "(I)Z"⟩
abbrev cX8_its : ByteArray := prog_10_method_9_code
def yX8_its : MethodName := ⟨RX8, "its", "(II)I"⟩
abbrev cX8_lays1 : ByteArray := prog_10_method_10_code
def yX8_lays1 : MethodName := ⟨RX8, "lays1", "(III)V"⟩
abbrev cX8_owed : ByteArray := prog_10_method_11_code
def yX8_owed : MethodName := ⟨RX8, "owed", "(I)I"⟩
abbrev cX8_prayed : ByteArray := prog_10_method_12_code
def yX8_prayed : MethodName := ⟨RX8, "prayed", "(I)I"⟩
abbrev cX8_prays : ByteArray := prog_10_method_13_code
def yX8_prays : MethodName := ⟨RX8, "prays", "(II)V"⟩
abbrev cX8_isPaid : ByteArray := prog_10_method_14_code
def yX8_isPaid : MethodName := ⟨RX8, "isPaid", "(I)Z"⟩
abbrev cX8_hourOfDay : ByteArray := prog_10_method_15_code
def yX8_hourOfDay : MethodName := ⟨RX8, "hourOfDay", "()I"⟩
abbrev cX8_change : ByteArray := prog_10_method_16_code
def yX8_change : MethodName := ⟨RX8, "change", "(II)I"⟩
abbrev cX8_force : ByteArray := prog_10_method_17_code
def yX8_force : MethodName := ⟨RX8, "force", "(II)I"⟩
abbrev cX8_weed : ByteArray := prog_10_method_18_code
def yX8_weed : MethodName := ⟨RX8, "weed", "(II)I"⟩
abbrev cX8_frost : ByteArray := prog_10_method_19_code
def yX8_frost : MethodName := ⟨RX8, "frost", "(I)I"⟩
abbrev cX8_owe : ByteArray := prog_10_method_20_code
def yX8_owe : MethodName := ⟨RX8, "owe", "(II)I"⟩
abbrev cX8_toldFamily : ByteArray := prog_10_method_21_code
def yX8_toldFamily : MethodName := ⟨RX8, "toldFamily", "(II)I"⟩
abbrev cX8_familyIs : ByteArray := prog_10_method_22_code
def yX8_familyIs : MethodName := ⟨RX8, "familyIs", "(II)I"⟩
abbrev cX8_adds : ByteArray := prog_10_method_23_code
def yX8_adds : MethodName := ⟨RX8, "adds", "(II)I"⟩
abbrev cX8_wheel : ByteArray := prog_10_method_24_code
def yX8_wheel : MethodName := ⟨RX8, "wheel", "(II)I"⟩
abbrev cX8_toldWheel : ByteArray := prog_10_method_25_code
def yX8_toldWheel : MethodName := ⟨RX8, "toldWheel", "(II)I"⟩
abbrev cX8_wheelIs : ByteArray := prog_10_method_26_code
def yX8_wheelIs : MethodName := ⟨RX8, "wheelIs", "(II)I"⟩
abbrev cX8_isUnder : ByteArray := prog_10_method_27_code
def yX8_isUnder : MethodName := ⟨RX8, "isUnder", "(II)Z"⟩
abbrev cX8_as : ByteArray := prog_10_method_28_code
def yX8_as : MethodName := ⟨RX8, "as", "(II)I"⟩
abbrev cX8_most : ByteArray := prog_10_method_29_code
def yX8_most : MethodName := ⟨RX8, "most", "(I)I"⟩
abbrev cX8_set : ByteArray := prog_10_method_30_code
def yX8_set : MethodName := ⟨RX8, "set", "(III)I"⟩
abbrev cX8_feed : ByteArray := prog_10_method_31_code
def yX8_feed : MethodName := ⟨RX8, "feed", "(JI)I"⟩
abbrev cX8_look : ByteArray := prog_10_method_32_code
def yX8_look : MethodName := ⟨RX8, "look", "()I"⟩
abbrev cX8_isName : ByteArray := prog_10_method_33_code
def yX8_isName : MethodName := ⟨RX8, "isName", "(I)Z"⟩
abbrev cX8_step1 : ByteArray := prog_10_method_34_code
def yX8_step1 : MethodName := ⟨RX8, "step1", "(II)V"⟩
abbrev cX8_whole : ByteArray := prog_10_method_35_code
def yX8_whole : MethodName := ⟨RX8, "whole", "()Z"⟩
abbrev cX8_both : ByteArray := prog_10_method_36_code
def yX8_both : MethodName := ⟨RX8, "both", "()Z"⟩
abbrev cX8_compared : ByteArray := prog_10_method_37_code
def yX8_compared : MethodName := ⟨RX8, "compared", "()Z"⟩
abbrev cX8_sum : ByteArray := prog_10_method_38_code
def yX8_sum : MethodName := ⟨RX8, "sum", "()Z"⟩
abbrev cX8_product : ByteArray := prog_10_method_39_code
def yX8_product : MethodName := ⟨RX8, "product", "()Z"⟩
abbrev cX8_opens : ByteArray := prog_10_method_40_code
def yX8_opens : MethodName := ⟨RX8, "opens", "()Z"⟩
abbrev cX8_one : ByteArray := prog_10_method_41_code
def yX8_one : MethodName := ⟨RX8, "one", "()Z"⟩
abbrev cX8_hasText : ByteArray := prog_10_method_42_code
def yX8_hasText : MethodName := ⟨RX8, "hasText", "(I)Z"⟩
abbrev cX8_text : ByteArray := prog_10_method_43_code
def yX8_text : MethodName := ⟨RX8, "text", "(I)I"⟩
abbrev cX8_untell : ByteArray := prog_10_method_44_code
def yX8_untell : MethodName := ⟨RX8, "untell", "(I)I"⟩
abbrev cX8_joined : ByteArray := prog_10_method_45_code
def yX8_joined : MethodName := ⟨RX8, "joined", "(III)I"⟩
abbrev cX8_worked : ByteArray := prog_10_method_46_code
def yX8_worked : MethodName := ⟨RX8, "worked", "(I)I"⟩
abbrev cX8_takesTold : ByteArray := prog_10_method_47_code
def yX8_takesTold : MethodName := ⟨RX8, "takesTold", "(II)I"⟩
abbrev cX8_wants : ByteArray := prog_10_method_48_code
def yX8_wants : MethodName := ⟨RX8, "wants", "(II)I"⟩
abbrev cX8_turnsTold : ByteArray := prog_10_method_49_code
def yX8_turnsTold : MethodName := ⟨RX8, "turnsTold", "(II)I"⟩
abbrev cX8_turns : ByteArray := prog_10_method_50_code
def yX8_turns : MethodName := ⟨RX8, "turns", "(II)I"⟩
abbrev cX8_shows : ByteArray := prog_10_method_51_code
def yX8_shows : MethodName := ⟨RX8, "shows", "(II)I"⟩
abbrev cX8_showsBy : ByteArray := prog_10_method_52_code
def yX8_showsBy : MethodName := ⟨RX8, "showsBy", "(III)I"⟩
abbrev cX8_flow : ByteArray := prog_10_method_53_code
def yX8_flow : MethodName := ⟨RX8, "flow", "()V"⟩
abbrev cX8_flows : ByteArray := prog_10_method_54_code
def yX8_flows : MethodName := ⟨RX8, "flows", "(I)I"⟩
abbrev cX8_turn1 : ByteArray := prog_10_method_55_code
def yX8_turn1 : MethodName := ⟨RX8, "turn1", "(II)V"⟩
abbrev cX8_hour : ByteArray := prog_10_method_56_code
def yX8_hour : MethodName := ⟨RX8, "hour", "()V"⟩
abbrev cX8_go : ByteArray := prog_10_method_57_code
def yX8_go : MethodName := ⟨RX8, "go", "(I)V"⟩
abbrev cX8_allPrayed : ByteArray := prog_10_method_58_code
def yX8_allPrayed : MethodName := ⟨RX8, "allPrayed", "()I"⟩
abbrev cX8_hours : ByteArray := prog_10_method_59_code
def yX8_hours : MethodName := ⟨RX8, "hours", "(I)I"⟩
abbrev cX8_draw : ByteArray := prog_10_method_60_code
def yX8_draw : MethodName := ⟨RX8, "draw", "()I"⟩
abbrev cX8_draws : ByteArray := prog_10_method_61_code
def yX8_draws : MethodName := ⟨RX8, "draws", "(I)I"⟩
abbrev cX8_seed : ByteArray := prog_10_method_62_code
def yX8_seed : MethodName := ⟨RX8, "seed", "(I)I"⟩
abbrev cX8_sell : ByteArray := prog_10_method_63_code
def yX8_sell : MethodName := ⟨RX8, "sell", "(III)I"⟩
abbrev cX8_fair : ByteArray := prog_10_method_64_code
def yX8_fair : MethodName := ⟨RX8, "fair", "(II)I"⟩
abbrev cX8_isAhead : ByteArray := prog_10_method_65_code
def yX8_isAhead : MethodName := ⟨RX8, "isAhead", "(I)Z"⟩
abbrev cX8_then : ByteArray := prog_10_method_66_code
def yX8_then : MethodName := ⟨RX8, "then", "(III)I"⟩
abbrev cX8_thenFamily : ByteArray := prog_10_method_67_code
def yX8_thenFamily : MethodName := ⟨RX8, "thenFamily", "(III)I"⟩
abbrev cX8_when : ByteArray := prog_10_method_68_code
def yX8_when : MethodName := ⟨RX8, "when", "(II)I"⟩
abbrev cX8_opens_ : ByteArray := prog_10_method_69_code
def yX8_opens_ : MethodName := ⟨RX8, "opens", "(I)V"⟩
abbrev cX8_areAllPaid : ByteArray := prog_10_method_70_code
def yX8_areAllPaid : MethodName := ⟨RX8, "areAllPaid", "()Z"⟩
abbrev cX8_sluices : ByteArray := prog_10_method_71_code
def yX8_sluices : MethodName := ⟨RX8, "sluices", "(II)I"⟩
abbrev cX8_findTurns : ByteArray := prog_10_method_72_code
def yX8_findTurns : MethodName := ⟨RX8, "findTurns", "(II)V"⟩
abbrev cX8_isTold : ByteArray := prog_10_method_73_code
def yX8_isTold : MethodName := ⟨RX8, "isTold", "(II)Z"⟩
abbrev cX8_fewer : ByteArray := prog_10_method_74_code
def yX8_fewer : MethodName := ⟨RX8, "fewer", "(III)I"⟩
abbrev cX8_bestPlace : ByteArray := prog_10_method_75_code
def yX8_bestPlace : MethodName := ⟨RX8, "bestPlace", "(II)I"⟩
abbrev cX8_who : ByteArray := prog_10_method_76_code
def yX8_who : MethodName := ⟨RX8, "who", "(II)I"⟩
abbrev cX8_slipped : ByteArray := prog_10_method_77_code
def yX8_slipped : MethodName := ⟨RX8, "slipped", "()I"⟩
abbrev cX8_begins : ByteArray := prog_10_method_78_code
def yX8_begins : MethodName := ⟨RX8, "begins", "(I)V"⟩
abbrev cX8_above : ByteArray := prog_10_method_79_code
def yX8_above : MethodName := ⟨RX8, "above", "(I)I"⟩
abbrev cX8_kindNow : ByteArray := prog_10_method_80_code
def yX8_kindNow : MethodName := ⟨RX8, "kindNow", "()I"⟩
abbrev cX8_mNow : ByteArray := prog_10_method_81_code
def yX8_mNow : MethodName := ⟨RX8, "mNow", "()I"⟩
abbrev cX8_flowsAs : ByteArray := prog_10_method_82_code
def yX8_flowsAs : MethodName := ⟨RX8, "flowsAs", "(II)I"⟩
abbrev cX8_turnsAs : ByteArray := prog_10_method_83_code
def yX8_turnsAs : MethodName := ⟨RX8, "turnsAs", "(II)I"⟩
abbrev cX8_praysAs : ByteArray := prog_10_method_84_code
def yX8_praysAs : MethodName := ⟨RX8, "praysAs", "(II)I"⟩
abbrev cX8_partsAs : ByteArray := prog_10_method_85_code
def yX8_partsAs : MethodName := ⟨RX8, "partsAs", "(II)I"⟩
abbrev cX8_voice : ByteArray := prog_10_method_86_code
def yX8_voice : MethodName := ⟨RX8, "voice", "(III)I"⟩
abbrev cX8_body : ByteArray := prog_10_method_87_code
def yX8_body : MethodName := ⟨RX8, "body", "(I)I"⟩
abbrev cX8_isSheet : ByteArray := prog_10_method_88_code
def yX8_isSheet : MethodName := ⟨RX8, "isSheet", "(I)Z"⟩
abbrev cX8_sheet : ByteArray := prog_10_method_89_code
def yX8_sheet : MethodName := ⟨RX8, "sheet", "(III)I"⟩
abbrev cX8_put : ByteArray := prog_10_method_90_code
def yX8_put : MethodName := ⟨RX8, "put", "(III)I"⟩
abbrev cX8_move : ByteArray := prog_10_method_91_code
def yX8_move : MethodName := ⟨RX8, "move", "(IIIII)I"⟩
abbrev cX8_lacks : ByteArray := prog_10_method_92_code
def yX8_lacks : MethodName := ⟨RX8, "lacks", "(I)I"⟩
abbrev cX8_forces : ByteArray := prog_10_method_93_code
def yX8_forces : MethodName := ⟨RX8, "forces", "(I)I"⟩
abbrev cX8_judge : ByteArray := prog_10_method_94_code
def yX8_judge : MethodName := ⟨RX8, "judge", "(I)I"⟩
abbrev cX8_image : ByteArray := prog_10_method_95_code
def yX8_image : MethodName := ⟨RX8, "image", "()I"⟩
abbrev cX8_restore : ByteArray := prog_10_method_96_code
def yX8_restore : MethodName := ⟨RX8, "restore", "()I"⟩
abbrev cX8_tell : ByteArray := prog_10_method_97_code
def yX8_tell : MethodName := ⟨RX8, "tell", "(I)I"⟩
abbrev cX8_check : ByteArray := prog_10_method_98_code
def yX8_check : MethodName := ⟨RX8, "check", "(I)I"⟩
abbrev cX8_count : ByteArray := prog_10_method_99_code
def yX8_count : MethodName := ⟨RX8, "count", "(I)I"⟩
abbrev cX8_told : ByteArray := prog_10_method_100_code
def yX8_told : MethodName := ⟨RX8, "told", "(I)I"⟩
def RJ11 : String := "java/lang/Character"
def TJ11 : u_T := fun k => match k with
  | _ => ("", "", "", false)
def tyJ11 : Nat → FieldType := fun k => match k with
  | _ => .int
abbrev wsJ110 : List Cond := u_ws RJ11 TJ11 0
theorem nmJ11 : ∀ a, a < 0 → ∀ b, b < 0 → a ≠ b → (TJ11 a).2.1 ≠ (TJ11 b).2.1 := by decide +kernel
theorem tyJ11_ok : ∀ k, k < 0 → parseFieldDescriptor (TJ11 k).2.2.1 = some (tyJ11 k) := by decide +kernel
abbrev cJ11_isValidCodePoint_9a6ad : ByteArray := prog_11_method_11_code
def yJ11_isValidCodePoint_9a6ad : MethodName := ⟨RJ11, "isValidCodePoint", "(I)Z"⟩
abbrev cJ11_highSurrogate_5068e : ByteArray := prog_11_method_28_code
def yJ11_highSurrogate_5068e : MethodName := ⟨RJ11, "highSurrogate", "(I)C"⟩
abbrev cJ11_lowSurrogate_5068e : ByteArray := prog_11_method_29_code
def yJ11_lowSurrogate_5068e : MethodName := ⟨RJ11, "lowSurrogate", "(I)C"⟩
def RJ9 : String := "java/lang/Math"
def TJ9 : u_T := fun k => match k with
  | _ => ("", "", "", false)
def tyJ9 : Nat → FieldType := fun k => match k with
  | _ => .int
abbrev wsJ90 : List Cond := u_ws RJ9 TJ9 0
theorem nmJ9 : ∀ a, a < 0 → ∀ b, b < 0 → a ≠ b → (TJ9 a).2.1 ≠ (TJ9 b).2.1 := by decide +kernel
theorem tyJ9_ok : ∀ k, k < 0 → parseFieldDescriptor (TJ9 k).2.2.1 = some (tyJ9 k) := by decide +kernel
abbrev cJ9_max_7cf53 : ByteArray := prog_12_method_65_code
def yJ9_max_7cf53 : MethodName := ⟨RJ9, "max", "(II)I"⟩
abbrev cJ9_min_7cf53 : ByteArray := prog_12_method_69_code
def yJ9_min_7cf53 : MethodName := ⟨RJ9, "min", "(II)I"⟩
def RJ0 : String := "java/lang/String"
def TJ0 : u_T := fun k => match k with
  | _ => ("", "", "", false)
def tyJ0 : Nat → FieldType := fun k => match k with
  | _ => .int
abbrev wsJ00 : List Cond := u_ws RJ0 TJ0 0
theorem nmJ0 : ∀ a, a < 0 → ∀ b, b < 0 → a ≠ b → (TJ0 a).2.1 ≠ (TJ0 b).2.1 := by decide +kernel
theorem tyJ0_ok : ∀ k, k < 0 → parseFieldDescriptor (TJ0 k).2.2.1 = some (tyJ0 k) := by decide +kernel
abbrev cJ0_length_8abf5 : ByteArray := prog_13_method_54_code
def yJ0_length_8abf5 : MethodName := ⟨RJ0, "length", "()I"⟩
abbrev cJ0_indexOf_0f7a4 : ByteArray := prog_13_method_79_code
def yJ0_indexOf_0f7a4 : MethodName := ⟨RJ0, "indexOf", "(I)I"⟩
abbrev cJ0_indexOf_7cf53 : ByteArray := prog_13_method_80_code
def yJ0_indexOf_7cf53 : MethodName := ⟨RJ0, "indexOf", "(II)I"⟩
abbrev cJ0_coder_7d493 : ByteArray := prog_13_method_152_code
def yJ0_coder_7d493 : MethodName := ⟨RJ0, "coder", "()B"⟩
abbrev cJ0_isLatin1_aae02 : ByteArray := prog_13_method_154_code
def yJ0_isLatin1_aae02 : MethodName := ⟨RJ0, "isLatin1", "()Z"⟩
abbrev cJ0_checkBoundsBeginEnd_23922 : ByteArray := prog_13_method_158_code
def yJ0_checkBoundsBeginEnd_23922 : MethodName := ⟨RJ0, "checkBoundsBeginEnd", "(III)V"⟩
def RJ1 : String := "java/lang/StringLatin1"
def TJ1 : u_T := fun k => match k with
  | _ => ("", "", "", false)
def tyJ1 : Nat → FieldType := fun k => match k with
  | _ => .int
abbrev wsJ10 : List Cond := u_ws RJ1 TJ1 0
theorem nmJ1 : ∀ a, a < 0 → ∀ b, b < 0 → a ≠ b → (TJ1 a).2.1 ≠ (TJ1 b).2.1 := by decide +kernel
theorem tyJ1_ok : ∀ k, k < 0 → parseFieldDescriptor (TJ1 k).2.2.1 = some (tyJ1 k) := by decide +kernel
abbrev cJ1_canEncode_9a6ad : ByteArray := prog_14_method_4_code
def yJ1_canEncode_9a6ad : MethodName := ⟨RJ1, "canEncode", "(I)Z"⟩
abbrev cJ1_indexOf_4cfef : ByteArray := prog_14_method_22_code
def yJ1_indexOf_4cfef : MethodName := ⟨RJ1, "indexOf", "([BIII)I"⟩
abbrev cJ1_indexOfChar_4cfef : ByteArray := prog_14_method_23_code
def yJ1_indexOfChar_4cfef : MethodName := ⟨RJ1, "indexOfChar", "([BIII)I"⟩
def RJ2 : String := "java/lang/StringUTF16"
def TJ2 : u_T := fun k => match k with
  | _ => ("", "", "", false)
def tyJ2 : Nat → FieldType := fun k => match k with
  | _ => .int
abbrev wsJ20 : List Cond := u_ws RJ2 TJ2 0
theorem nmJ2 : ∀ a, a < 0 → ∀ b, b < 0 → a ≠ b → (TJ2 a).2.1 ≠ (TJ2 b).2.1 := by decide +kernel
theorem tyJ2_ok : ∀ k, k < 0 → parseFieldDescriptor (TJ2 k).2.2.1 = some (tyJ2 k) := by decide +kernel
abbrev cJ2_getChar_3b067 : ByteArray := prog_15_method_5_code
def yJ2_getChar_3b067 : MethodName := ⟨RJ2, "getChar", "([BI)C"⟩
abbrev cJ2_length_9d52b : ByteArray := prog_15_method_6_code
def yJ2_length_9d52b : MethodName := ⟨RJ2, "length", "([B)I"⟩
abbrev cJ2_indexOf_4cfef : ByteArray := prog_15_method_40_code
def yJ2_indexOf_4cfef : MethodName := ⟨RJ2, "indexOf", "([BIII)I"⟩
abbrev cJ2_indexOfChar_4cfef : ByteArray := prog_15_method_47_code
def yJ2_indexOfChar_4cfef : MethodName := ⟨RJ2, "indexOfChar", "([BIII)I"⟩
abbrev cJ2_indexOfCharUnsafe_4cfef : ByteArray := prog_15_method_48_code
def yJ2_indexOfCharUnsafe_4cfef : MethodName := ⟨RJ2, "indexOfCharUnsafe", "([BIII)I"⟩
abbrev cJ2_indexOfSupplementary_4cfef : ByteArray := prog_15_method_49_code
def yJ2_indexOfSupplementary_4cfef : MethodName := ⟨RJ2, "indexOfSupplementary", "([BIII)I"⟩
abbrev cJ2_checkBoundsBeginEnd_d044e : ByteArray := prog_15_method_93_code
def yJ2_checkBoundsBeginEnd_d044e : MethodName := ⟨RJ2, "checkBoundsBeginEnd", "(II[B)V"⟩
def RJ10 : String := "java/lang/System"
def TJ10 : u_T := fun k => match k with
  | _ => ("", "", "", false)
def tyJ10 : Nat → FieldType := fun k => match k with
  | _ => .int
abbrev wsJ100 : List Cond := u_ws RJ10 TJ10 0
theorem nmJ10 : ∀ a, a < 0 → ∀ b, b < 0 → a ≠ b → (TJ10 a).2.1 ≠ (TJ10 b).2.1 := by decide +kernel
theorem tyJ10_ok : ∀ k, k < 0 → parseFieldDescriptor (TJ10 k).2.2.1 = some (tyJ10 k) := by decide +kernel
def RJ3 : String := "jdk/internal/util/Preconditions"
def TJ3 : u_T := fun k => match k with
  | _ => ("", "", "", false)
def tyJ3 : Nat → FieldType := fun k => match k with
  | _ => .int
abbrev wsJ30 : List Cond := u_ws RJ3 TJ3 0
theorem nmJ3 : ∀ a, a < 0 → ∀ b, b < 0 → a ≠ b → (TJ3 a).2.1 ≠ (TJ3 b).2.1 := by decide +kernel
theorem tyJ3_ok : ∀ k, k < 0 → parseFieldDescriptor (TJ3 k).2.2.1 = some (tyJ3 k) := by decide +kernel
abbrev cJ3_checkFromToIndex_8c36e : ByteArray := prog_17_method_12_code
def yJ3_checkFromToIndex_8c36e : MethodName := ⟨RJ3, "checkFromToIndex", "(IIILjava/util/function/BiFunction;)I"⟩
def RL : String := "WheelBrookLaw"
abbrev cL_law : ByteArray := code
def yL_law : MethodName := ⟨RL, "law", "([I)Z"⟩
end
section
def wsL_law_r1 : List Cond := [Cond.classLink RL 7 RX7, Cond.instantiable RX7 10, Cond.initialized RX7, Cond.classLink RL 10 RX8, Cond.instantiable RX8 27, Cond.initialized RX8, Cond.constantLong RL 56 (4294967295), Cond.methodLink RL 9 yX7_init, Cond.instanceMethod yX7_init, Cond.code yX7_init cX7_init 1 none, Cond.methodLink RX7 1 objectInit, Cond.instanceMethod objectInit, Cond.code objectInit ⟨#[0xb1]⟩ 1 none, Cond.classLink RX7 7 RX0, Cond.instantiable RX0 15, Cond.initialized RX0, Cond.fieldLink RX7 10 "WheelBrook" "now" "LWheelBrook$Brook;", Cond.fieldLink RX7 16 "WheelBrook" "kept" "LWheelBrook$Brook;", Cond.fieldLink RX7 19 "WheelBrook" "trial" "LWheelBrook$Brook;", Cond.classLink RX7 22 RX1, Cond.instantiable RX1 4, Cond.initialized RX1, Cond.fieldLink RX7 25 "WheelBrook" "desk" "LWheelBrook$Desk;", Cond.fieldLink RX7 29 "WheelBrook" "keptDesk" "LWheelBrook$Desk;"]
def wsL_law_r2 : List Cond := [Cond.classLink RX7 32 RX3, Cond.instantiable RX3 8, Cond.initialized RX3, Cond.fieldLink RX7 35 "WheelBrook" "reader" "LWheelBrook$Reader;", Cond.classLink RX7 39 RX5, Cond.instantiable RX5 6, Cond.initialized RX5, Cond.fieldLink RX7 42 "WheelBrook" "speaker" "LWheelBrook$Speaker;", Cond.classLink RX7 46 RX4, Cond.instantiable RX4 3, Cond.initialized RX4, Cond.fieldLink RX7 49 "WheelBrook" "sheets" "LWheelBrook$Sheets;", Cond.arrayClass .int, Cond.fieldLink RX7 53 "WheelBrook" "errors" "[I", Cond.methodLink RX7 9 yX0_init, Cond.instanceMethod yX0_init, Cond.code yX0_init cX0_init 2 none, Cond.methodLink RX0 3 objectInit, Cond.fieldLink RX0 9 "WheelBrook$Brook" "dayForce" "[I", Cond.fieldLink RX0 15 "WheelBrook$Brook" "weeds" "[I", Cond.fieldLink RX0 18 "WheelBrook$Brook" "owed" "[I", Cond.fieldLink RX0 21 "WheelBrook$Brook" "prayed" "[I", Cond.classLink RX0 24 RX6, Cond.fieldLink RX0 26 "WheelBrook$Brook" "wheels" "[LWheelBrook$Wheel;"]
def wsL_law_r3 : List Cond := [Cond.classLink RX0 30 RX2, Cond.instantiable RX2 3, Cond.initialized RX2, Cond.fieldLink RX0 33 "WheelBrook$Brook" "takes" "LWheelBrook$Law;", Cond.fieldLink RX0 37 "WheelBrook$Brook" "turns" "LWheelBrook$Law;", Cond.fieldLink RX0 40 "WheelBrook$Brook" "names" "[I", Cond.fieldLink RX0 43 "WheelBrook$Brook" "flow" "[I", Cond.fieldLink RX0 46 "WheelBrook$Brook" "z" "I", Cond.instantiable RX6 9, Cond.initialized RX6, Cond.instanceMethod yX2_init, Cond.code yX2_init cX2_init 1 none, Cond.methodLink RX2 3 objectInit, Cond.fieldLink RX2 9 "WheelBrook$Law" "code" "[I", Cond.fieldLink RX2 15 "WheelBrook$Law" "stack" "[I", Cond.instanceMethod yX6_init, Cond.code yX6_init cX6_init 1 none, Cond.methodLink RX6 1 objectInit, Cond.instanceMethod yX1_init, Cond.code yX1_init cX1_init 1 none, Cond.methodLink RX1 3 objectInit, Cond.arrayClass .byte, Cond.fieldLink RX1 9 "WheelBrook$Desk" "tape" "[B", Cond.fieldLink RX1 15 "WheelBrook$Desk" "numbers" "[I"]
def wsL_law_r4 : List Cond := [Cond.instanceMethod yX3_init, Cond.code yX3_init cX3_init 1 none, Cond.methodLink RX3 3 objectInit, Cond.fieldLink RX3 9 "WheelBrook$Reader" "code" "[I", Cond.fieldLink RX3 15 "WheelBrook$Reader" "signs" "[I", Cond.instanceMethod yX5_init, Cond.code yX5_init cX5_init 1 none, Cond.methodLink RX5 3 objectInit, Cond.fieldLink RX5 9 "WheelBrook$Speaker" "trace" "[I", Cond.instanceMethod yX4_init, Cond.code yX4_init cX4_init 1 none, Cond.methodLink RX4 3 objectInit, Cond.classLink RX4 11 "[[I", Cond.fieldLink RX4 13 "WheelBrook$Sheets" "rows" "[[I", Cond.fieldLink RX4 16 "WheelBrook$Sheets" "widths" "[I", Cond.fieldLink RX4 20 "WheelBrook$Sheets" "sizes" "[I", Cond.methodLink RL 12 yX8_init, Cond.instanceMethod yX8_init, Cond.code yX8_init cX8_init 2 none, Cond.methodLink RX8 1 objectInit, Cond.fieldLink RX8 7 "WheelBrookModel" "s" "[I", Cond.fieldLink RX8 13 "WheelBrookModel" "kept" "[I", Cond.fieldLink RX8 16 "WheelBrookModel" "put" "[I", Cond.fieldLink RX8 19 "WheelBrookModel" "errors" "[I"]
def wsL_law_r5 : List Cond := [Cond.fieldLink RX8 22 "WheelBrookModel" "step" "[I", Cond.fieldLink RX8 25 "WheelBrookModel" "named" "[I", Cond.fieldLink RX8 28 "WheelBrookModel" "pile" "[I", Cond.fieldLink RX8 31 "WheelBrookModel" "flowing" "[I", Cond.fieldLink RX8 34 "WheelBrookModel" "took" "[I", Cond.fieldLink RX8 37 "WheelBrookModel" "turned" "[I", Cond.fieldLink RX8 40 "WheelBrookModel" "trace" "[I", Cond.fieldLink RX8 43 "WheelBrookModel" "bits" "[I", Cond.fieldLink RX8 46 "WheelBrookModel" "sizes" "[I", Cond.fieldLink RX8 49 "WheelBrookModel" "number" "[I", Cond.fieldLink RX8 52 "WheelBrookModel" "aside" "[I", Cond.methodLink RL 13 yX7_force, Cond.instanceMethod yX7_force, Cond.selects RX7 yX7_force yX7_force, Cond.code yX7_force cX7_force 4 (some .int), Cond.fieldLink RX7 65 "WheelBrook$Brook" "dayForce" "[I", Cond.methodLink RX7 57 yX7_outside, Cond.static yX7_outside, Cond.code yX7_outside cX7_outside 3 (some .boolean), Cond.methodLink RX7 61 yX7_error, Cond.instanceMethod yX7_error, Cond.selects RX7 yX7_error yX7_error, Cond.code yX7_error cX7_error 2 (some .int), Cond.constant RX7 278 (-1000000000)]
def wsL_law_r6 : List Cond := [Cond.methodLink RL 17 yX8_force, Cond.instanceMethod yX8_force, Cond.selects RX8 yX8_force yX8_force, Cond.code yX8_force cX8_force 3 (some .int), Cond.methodLink RX8 56 yX8_in, Cond.static yX8_in, Cond.code yX8_in cX8_in 3 (some .boolean), Cond.methodLink RX8 72 yX8_change, Cond.instanceMethod yX8_change, Cond.selects RX8 yX8_change yX8_change, Cond.code yX8_change cX8_change 4 (some .int), Cond.methodLink RX8 76 yX8_error, Cond.instanceMethod yX8_error, Cond.selects RX8 yX8_error yX8_error, Cond.code yX8_error cX8_error 2 (some .int), Cond.constant RX8 55 (-1000000000), Cond.methodLink RL 18 yX7_weed, Cond.instanceMethod yX7_weed, Cond.selects RX7 yX7_weed yX7_weed, Cond.code yX7_weed cX7_weed 4 (some .int), Cond.fieldLink RX7 68 "WheelBrook$Brook" "weeds" "[I", Cond.methodLink RL 21 yX8_weed, Cond.instanceMethod yX8_weed, Cond.selects RX8 yX8_weed yX8_weed]
def wsL_law_r7 : List Cond := [Cond.code yX8_weed cX8_weed 3 (some .int), Cond.methodLink RX8 79 yX8_isPlace, Cond.static yX8_isPlace, Cond.code yX8_isPlace cX8_isPlace 1 (some .boolean), Cond.methodLink RL 22 yX7_frost, Cond.instanceMethod yX7_frost, Cond.selects RX7 yX7_frost yX7_frost, Cond.code yX7_frost cX7_frost 3 (some .int), Cond.fieldLink RX7 71 "WheelBrook$Brook" "cold" "I", Cond.methodLink RL 26 yX8_frost, Cond.instanceMethod yX8_frost, Cond.selects RX8 yX8_frost yX8_frost, Cond.code yX8_frost cX8_frost 2 (some .int), Cond.methodLink RL 27 yX7_owe, Cond.instanceMethod yX7_owe, Cond.selects RX7 yX7_owe yX7_owe, Cond.code yX7_owe cX7_owe 4 (some .int), Cond.constant RX7 75 (99999), Cond.fieldLink RX7 76 "WheelBrook$Brook" "owed" "[I", Cond.methodLink RL 30 yX8_owe, Cond.instanceMethod yX8_owe, Cond.selects RX8 yX8_owe yX8_owe, Cond.code yX8_owe cX8_owe 3 (some .int), Cond.constant RX8 86 (99999)]
def wsL_law_r8 : List Cond := [Cond.methodLink RX8 83 yX8_isFamily, Cond.static yX8_isFamily, Cond.code yX8_isFamily cX8_isFamily 1 (some .boolean), Cond.methodLink RL 31 yX7_familyIs, Cond.instanceMethod yX7_familyIs, Cond.selects RX7 yX7_familyIs yX7_familyIs, Cond.code yX7_familyIs cX7_familyIs 3 (some .int), Cond.methodLink RX7 79 yX0_familyPart, Cond.instanceMethod yX0_familyPart, Cond.selects RX0 yX0_familyPart yX0_familyPart, Cond.code yX0_familyPart cX0_familyPart 3 (some .int), Cond.methodLink RX0 163 yX0_isPaid, Cond.instanceMethod yX0_isPaid, Cond.selects RX0 yX0_isPaid yX0_isPaid, Cond.code yX0_isPaid cX0_isPaid 2 (some .boolean), Cond.methodLink RX0 167 yX0_wheelsFor, Cond.instanceMethod yX0_wheelsFor, Cond.selects RX0 yX0_wheelsFor yX0_wheelsFor, Cond.code yX0_wheelsFor cX0_wheelsFor 4 (some .int), Cond.fieldLink RX0 57 "WheelBrook$Brook" "size" "I", Cond.fieldLink RX0 87 "WheelBrook$Wheel" "family" "I", Cond.methodLink RL 34 yX8_familyIs, Cond.instanceMethod yX8_familyIs, Cond.selects RX8 yX8_familyIs yX8_familyIs]
def wsL_law_r9 : List Cond := [Cond.code yX8_familyIs cX8_familyIs 3 (some .int), Cond.methodLink RX8 93 yX8_toldFamily, Cond.instanceMethod yX8_toldFamily, Cond.selects RX8 yX8_toldFamily yX8_toldFamily, Cond.code yX8_toldFamily cX8_toldFamily 5 (some .int), Cond.methodLink RX8 69 yX8_owed, Cond.instanceMethod yX8_owed, Cond.selects RX8 yX8_owed yX8_owed, Cond.code yX8_owed cX8_owed 2 (some .int), Cond.methodLink RX8 65 yX8_prayed, Cond.instanceMethod yX8_prayed, Cond.selects RX8 yX8_prayed yX8_prayed, Cond.code yX8_prayed cX8_prayed 2 (some .int), Cond.methodLink RX8 87 yX8_isPaid, Cond.instanceMethod yX8_isPaid, Cond.selects RX8 yX8_isPaid yX8_isPaid, Cond.code yX8_isPaid cX8_isPaid 2 (some .boolean), Cond.methodLink RX8 90 yX8_its, Cond.instanceMethod yX8_its, Cond.selects RX8 yX8_its yX8_its, Cond.code yX8_its cX8_its 3 (some .int), Cond.methodLink RL 35 yX7_wheel, Cond.instanceMethod yX7_wheel, Cond.selects RX7 yX7_wheel yX7_wheel]
def wsL_law_r10 : List Cond := [Cond.code yX7_wheel cX7_wheel 3 (some .int), Cond.fieldLink RX7 83 "WheelBrook$Brook" "size" "I", Cond.methodLink RX7 86 yX0_addWheel, Cond.instanceMethod yX0_addWheel, Cond.selects RX0 yX0_addWheel yX0_addWheel, Cond.code yX0_addWheel cX0_addWheel 5 none, Cond.fieldLink RX0 78 "WheelBrook$Wheel" "kind" "I", Cond.fieldLink RX0 81 "WheelBrook$Wheel" "m" "I", Cond.fieldLink RX0 84 "WheelBrook$Wheel" "place" "I", Cond.fieldLink RX0 90 "WheelBrook$Wheel" "open" "I", Cond.fieldLink RX0 93 "WheelBrook$Wheel" "counter" "I", Cond.fieldLink RX0 96 "WheelBrook$Wheel" "turned" "I", Cond.methodLink RL 38 yX8_wheel, Cond.instanceMethod yX8_wheel, Cond.selects RX8 yX8_wheel yX8_wheel, Cond.code yX8_wheel cX8_wheel 3 (some .int), Cond.methodLink RX8 100 yX8_adds, Cond.instanceMethod yX8_adds, Cond.selects RX8 yX8_adds yX8_adds, Cond.code yX8_adds cX8_adds 4 (some .int), Cond.methodLink RX8 96 yX8_lays1, Cond.instanceMethod yX8_lays1, Cond.selects RX8 yX8_lays1 yX8_lays1, Cond.code yX8_lays1 cX8_lays1 4 none]
def wsL_law_r11 : List Cond := [Cond.methodLink RL 39 yX7_wheelIs, Cond.instanceMethod yX7_wheelIs, Cond.selects RX7 yX7_wheelIs yX7_wheelIs, Cond.code yX7_wheelIs cX7_wheelIs 3 (some .int), Cond.methodLink RX7 90 yX7_noWheel, Cond.instanceMethod yX7_noWheel, Cond.selects RX7 yX7_noWheel yX7_noWheel, Cond.code yX7_noWheel cX7_noWheel 2 (some .boolean), Cond.methodLink RX7 94 yX0_wheelPart, Cond.instanceMethod yX0_wheelPart, Cond.selects RX0 yX0_wheelPart yX0_wheelPart, Cond.code yX0_wheelPart cX0_wheelPart 5 (some .int), Cond.fieldLink RX0 116 "WheelBrook$Wheel" "took" "I", Cond.methodLink RX0 171 yX6_part, Cond.instanceMethod yX6_part, Cond.selects RX6 yX6_part yX6_part, Cond.code yX6_part cX6_part 2 (some .int), Cond.fieldLink RX6 7 "WheelBrook$Wheel" "kind" "I", Cond.fieldLink RX6 13 "WheelBrook$Wheel" "m" "I", Cond.fieldLink RX6 16 "WheelBrook$Wheel" "place" "I", Cond.fieldLink RX6 19 "WheelBrook$Wheel" "family" "I", Cond.fieldLink RX6 22 "WheelBrook$Wheel" "open" "I", Cond.fieldLink RX6 25 "WheelBrook$Wheel" "counter" "I", Cond.fieldLink RX6 28 "WheelBrook$Wheel" "turned" "I"]
def wsL_law_r12 : List Cond := [Cond.methodLink RX0 136 yX0_letFlow, Cond.instanceMethod yX0_letFlow, Cond.selects RX0 yX0_letFlow yX0_letFlow, Cond.code yX0_letFlow cX0_letFlow 6 none, Cond.fieldLink RX0 103 "WheelBrook$Brook" "lost" "I", Cond.methodLink RX0 106 Lib.Math.min.name, Cond.static Lib.Math.min.name, Cond.initialized "java/lang/Math", Cond.code Lib.Math.min.name Lib.Math.min.code 2 (some .int), Cond.fieldLink RX0 119 "WheelBrook$Brook" "gone" "I", Cond.methodLink RX0 99 yX0_forceNow, Cond.instanceMethod yX0_forceNow, Cond.selects RX0 yX0_forceNow yX0_forceNow, Cond.code yX0_forceNow cX0_forceNow 1 (some .int), Cond.fieldLink RX0 72 "WheelBrook$Brook" "hour" "I", Cond.methodLink RX0 112 yX0_wants, Cond.instanceMethod yX0_wants, Cond.selects RX0 yX0_wants yX0_wants, Cond.code yX0_wants cX0_wants 3 (some .int), Cond.fieldLink RX0 75 "WheelBrook$Brook" "cold" "I", Cond.static yX7_held, Cond.code yX7_held cX7_held 3 (some .int), Cond.methodLink RX7 182 Lib.Math.min.name, Cond.methodLink RX7 279 Lib.Math.max.name]
def wsL_law_r13 : List Cond := [Cond.static Lib.Math.max.name, Cond.code Lib.Math.max.name Lib.Math.max.code 2 (some .int), Cond.methodLink RX0 126 yX0_toldTakes, Cond.instanceMethod yX0_toldTakes, Cond.selects RX0 yX0_toldTakes yX0_toldTakes, Cond.code yX0_toldTakes cX0_toldTakes 3 (some .int), Cond.fieldLink RX0 67 "WheelBrook$Law" "size" "I", Cond.methodLink RX0 129 yX2_value, Cond.instanceMethod yX2_value, Cond.selects RX2 yX2_value yX2_value, Cond.code yX2_value cX2_value 5 (some .int), Cond.fieldLink RX2 24 "WheelBrook$Law" "size" "I", Cond.methodLink RX2 28 yX2_nameOf, Cond.static yX2_nameOf, Cond.code yX2_nameOf cX2_nameOf 2 (some .int), Cond.methodLink RX2 32 yX2_joined, Cond.static yX2_joined, Cond.code yX2_joined cX2_joined 3 (some .int), Cond.methodLink RX0 139 yX0_turnsBy, Cond.instanceMethod yX0_turnsBy, Cond.selects RX0 yX0_turnsBy yX0_turnsBy, Cond.code yX0_turnsBy cX0_turnsBy 3 (some .int), Cond.methodLink RX0 133 yX0_toldTurns, Cond.instanceMethod yX0_toldTurns]
def wsL_law_r14 : List Cond := [Cond.selects RX0 yX0_toldTurns yX0_toldTurns, Cond.code yX0_toldTurns cX0_toldTurns 3 (some .int), Cond.methodLink RX0 148 yX0_showsBy, Cond.static yX0_showsBy, Cond.code yX0_showsBy cX0_showsBy 3 (some .int), Cond.methodLink RL 42 yX8_wheelIs, Cond.instanceMethod yX8_wheelIs, Cond.selects RX8 yX8_wheelIs yX8_wheelIs, Cond.code yX8_wheelIs cX8_wheelIs 3 (some .int), Cond.methodLink RX8 112 yX8_isWheel, Cond.instanceMethod yX8_isWheel, Cond.selects RX8 yX8_isWheel yX8_isWheel, Cond.code yX8_isWheel cX8_isWheel 2 (some .boolean), Cond.methodLink RX8 115 yX8_toldWheel, Cond.instanceMethod yX8_toldWheel, Cond.selects RX8 yX8_toldWheel yX8_toldWheel, Cond.code yX8_toldWheel cX8_toldWheel 3 (some .int), Cond.methodLink RX8 103 yX8_flow, Cond.instanceMethod yX8_flow, Cond.selects RX8 yX8_flow yX8_flow, Cond.code yX8_flow cX8_flow 5 none, Cond.fieldLink RX8 194 "WheelBrookModel" "lost" "I", Cond.fieldLink RX8 197 "WheelBrookModel" "taken" "I", Cond.methodLink RX8 179 yX8_hourOfDay]
def wsL_law_r15 : List Cond := [Cond.instanceMethod yX8_hourOfDay, Cond.selects RX8 yX8_hourOfDay yX8_hourOfDay, Cond.code yX8_hourOfDay cX8_hourOfDay 1 (some .int), Cond.methodLink RX8 200 yX8_wants, Cond.instanceMethod yX8_wants, Cond.selects RX8 yX8_wants yX8_wants, Cond.code yX8_wants cX8_wants 5 (some .int), Cond.methodLink RX8 185 yX8_takesTold, Cond.instanceMethod yX8_takesTold, Cond.selects RX8 yX8_takesTold yX8_takesTold, Cond.code yX8_takesTold cX8_takesTold 3 (some .int), Cond.methodLink RX8 173 yX8_hasText, Cond.instanceMethod yX8_hasText, Cond.selects RX8 yX8_hasText yX8_hasText, Cond.code yX8_hasText cX8_hasText 2 (some .boolean), Cond.methodLink RX8 182 yX8_worked, Cond.instanceMethod yX8_worked, Cond.selects RX8 yX8_worked yX8_worked, Cond.code yX8_worked cX8_worked 7 (some .int), Cond.methodLink RX8 176 yX8_joined, Cond.static yX8_joined, Cond.code yX8_joined cX8_joined 3 (some .int), Cond.methodLink RX8 61 yX8_held, Cond.static yX8_held]
def wsL_law_r16 : List Cond := [Cond.code yX8_held cX8_held 3 (some .int), Cond.methodLink RX8 106 yX8_turns, Cond.instanceMethod yX8_turns, Cond.selects RX8 yX8_turns yX8_turns, Cond.code yX8_turns cX8_turns 4 (some .int), Cond.methodLink RX8 188 yX8_turnsTold, Cond.instanceMethod yX8_turnsTold, Cond.selects RX8 yX8_turnsTold yX8_turnsTold, Cond.code yX8_turnsTold cX8_turnsTold 3 (some .int), Cond.methodLink RX8 109 yX8_shows, Cond.instanceMethod yX8_shows, Cond.selects RX8 yX8_shows yX8_shows, Cond.code yX8_shows cX8_shows 3 (some .int), Cond.methodLink RX8 191 yX8_showsBy, Cond.instanceMethod yX8_showsBy, Cond.selects RX8 yX8_showsBy yX8_showsBy, Cond.code yX8_showsBy cX8_showsBy 4 (some .int), Cond.methodLink RL 43 yX7_as, Cond.instanceMethod yX7_as, Cond.selects RX7 yX7_as yX7_as, Cond.code yX7_as cX7_as 4 (some .int), Cond.fieldLink RX7 97 "WheelBrook$Brook" "wheels" "[LWheelBrook$Wheel;", Cond.fieldLink RX7 101 "WheelBrook$Wheel" "kind" "I", Cond.fieldLink RX7 110 "WheelBrook$Wheel" "counter" "I"]
def wsL_law_r17 : List Cond := [Cond.methodLink RX7 106 yX7_isUnder, Cond.static yX7_isUnder, Cond.code yX7_isUnder cX7_isUnder 4 (some .boolean), Cond.fieldLink RX7 282 "WheelBrook" "ABOVE" "[I", Cond.methodLink RL 46 yX8_as, Cond.instanceMethod yX8_as, Cond.selects RX8 yX8_as yX8_as, Cond.code yX8_as cX8_as 3 (some .int), Cond.methodLink RX8 118 yX8_isUnder, Cond.static yX8_isUnder, Cond.code yX8_isUnder cX8_isUnder 2 (some .boolean), Cond.methodLink RL 47 yX7_set, Cond.instanceMethod yX7_set, Cond.selects RX7 yX7_set yX7_set, Cond.code yX7_set cX7_set 6 (some .int), Cond.fieldLink RX7 113 "WheelBrook" "MOST_SET" "[I", Cond.methodLink RX7 116 yX6_part, Cond.methodLink RX7 119 yX6_change, Cond.instanceMethod yX6_change, Cond.selects RX6 yX6_change yX6_change, Cond.code yX6_change cX6_change 3 none, Cond.methodLink RL 51 yX8_set, Cond.instanceMethod yX8_set, Cond.selects RX8 yX8_set yX8_set]
def wsL_law_r18 : List Cond := [Cond.code yX8_set cX8_set 4 (some .int), Cond.methodLink RX8 122 yX8_most, Cond.static yX8_most, Cond.code yX8_most cX8_most 1 (some .int), Cond.constant RX8 60 (999999), Cond.methodLink RL 52 yX7_flows, Cond.instanceMethod yX7_flows, Cond.selects RX7 yX7_flows yX7_flows, Cond.code yX7_flows cX7_flows 2 (some .int), Cond.fieldLink RX7 126 "WheelBrook$Brook" "flow" "[I", Cond.methodLink RX7 123 yX0_letFlow, Cond.methodLink RL 55 yX8_flows, Cond.instanceMethod yX8_flows, Cond.selects RX8 yX8_flows yX8_flows, Cond.code yX8_flows cX8_flows 2 (some .int), Cond.methodLink RL 58 yX7_feed, Cond.instanceMethod yX7_feed, Cond.selects RX7 yX7_feed yX7_feed, Cond.code yX7_feed cX7_feed 4 (some .int), Cond.fieldLink RX7 129 "WheelBrook$Desk" "taped" "I", Cond.methodLink RX7 132 yX1_addBytes, Cond.instanceMethod yX1_addBytes, Cond.selects RX1 yX1_addBytes yX1_addBytes, Cond.code yX1_addBytes cX1_addBytes 5 none]
def wsL_law_r19 : List Cond := [Cond.fieldLink RX1 19 "WheelBrook$Desk" "taped" "I", Cond.methodLink RL 62 yX8_feed, Cond.instanceMethod yX8_feed, Cond.selects RX8 yX8_feed yX8_feed, Cond.code yX8_feed cX8_feed 5 (some .int), Cond.constantLong RX8 125 (255), Cond.methodLink RL 63 yX7_text, Cond.instanceMethod yX7_text, Cond.selects RX7 yX7_text yX7_text, Cond.code yX7_text cX7_text 3 (some .int), Cond.fieldLink RX7 136 "WheelBrook$Desk" "tape" "[B", Cond.fieldLink RX7 148 "WheelBrook$Reader" "code" "[I", Cond.fieldLink RX7 151 "WheelBrook$Reader" "size" "I", Cond.methodLink RX7 140 yX3_read, Cond.instanceMethod yX3_read, Cond.selects RX3 yX3_read yX3_read, Cond.code yX3_read cX3_read 5 (some .int), Cond.fieldLink RX3 18 "WheelBrook$Reader" "size" "I", Cond.fieldLink RX3 22 "WheelBrook$Reader" "waiting" "I", Cond.fieldLink RX3 25 "WheelBrook$Reader" "open" "I", Cond.fieldLink RX3 28 "WheelBrook$Reader" "brackets" "I", Cond.fieldLink RX3 31 "WheelBrook$Reader" "digits" "I", Cond.fieldLink RX3 34 "WheelBrook$Reader" "wanting" "Z", Cond.methodLink RX3 38 yX3_goesOn]
def wsL_law_r20 : List Cond := [Cond.instanceMethod yX3_goesOn, Cond.selects RX3 yX3_goesOn yX3_goesOn, Cond.code yX3_goesOn cX3_goesOn 3 (some .boolean), Cond.methodLink RX3 46 yX3_digit, Cond.instanceMethod yX3_digit, Cond.selects RX3 yX3_digit yX3_digit, Cond.code yX3_digit cX3_digit 2 (some .boolean), Cond.methodLink RX3 56 yX3_write, Cond.instanceMethod yX3_write, Cond.selects RX3 yX3_write yX3_write, Cond.code yX3_write cX3_write 2 none, Cond.methodLink RX3 50 yX3_opens, Cond.instanceMethod yX3_opens, Cond.selects RX3 yX3_opens yX3_opens, Cond.code yX3_opens cX3_opens 4 (some .boolean), Cond.methodLink RX3 59 yX3_hold, Cond.instanceMethod yX3_hold, Cond.selects RX3 yX3_hold yX3_hold, Cond.code yX3_hold cX3_hold 2 none, Cond.methodLink RX3 66 yJ0_indexOf_0f7a4, Cond.instanceMethod yJ0_indexOf_0f7a4, Cond.selects RJ0 yJ0_indexOf_0f7a4 yJ0_indexOf_0f7a4, Cond.initialized RJ0, Cond.code yJ0_indexOf_0f7a4 cJ0_indexOf_0f7a4 2 (some .int)]
def wsL_law_r21 : List Cond := [Cond.methodLink RJ0 633 yJ0_indexOf_7cf53, Cond.instanceMethod yJ0_indexOf_7cf53, Cond.selects RJ0 yJ0_indexOf_7cf53 yJ0_indexOf_7cf53, Cond.code yJ0_indexOf_7cf53 cJ0_indexOf_7cf53 3 (some .int), Cond.fieldLink RJ0 9 "java/lang/String" "value" "[B", Cond.methodLink RJ0 492 yJ0_isLatin1_aae02, Cond.instanceMethod yJ0_isLatin1_aae02, Cond.selects RJ0 yJ0_isLatin1_aae02 yJ0_isLatin1_aae02, Cond.code yJ0_isLatin1_aae02 cJ0_isLatin1_aae02 1 (some .boolean), Cond.fieldLink RJ0 38 "java/lang/String" "COMPACT_STRINGS" "Z", Cond.fieldLink RJ0 15 "java/lang/String" "coder" "B", Cond.methodLink RJ0 505 yJ0_length_8abf5, Cond.instanceMethod yJ0_length_8abf5, Cond.selects RJ0 yJ0_length_8abf5 yJ0_length_8abf5, Cond.code yJ0_length_8abf5 cJ0_length_8abf5 1 (some .int), Cond.methodLink RJ0 335 yJ0_coder_7d493, Cond.instanceMethod yJ0_coder_7d493, Cond.selects RJ0 yJ0_coder_7d493 yJ0_coder_7d493, Cond.code yJ0_coder_7d493 cJ0_coder_7d493 1 (some .byte), Cond.methodLink RJ0 637 yJ1_indexOf_4cfef, Cond.static yJ1_indexOf_4cfef, Cond.initialized RJ1, Cond.code yJ1_indexOf_4cfef cJ1_indexOf_4cfef 4 (some .int), Cond.methodLink RJ1 92 Lib.Math.max.name]
def wsL_law_r22 : List Cond := [Cond.methodLink RJ1 38 Lib.Math.min.name, Cond.methodLink RJ1 88 yJ1_canEncode_9a6ad, Cond.static yJ1_canEncode_9a6ad, Cond.code yJ1_canEncode_9a6ad cJ1_canEncode_9a6ad 1 (some .boolean), Cond.methodLink RJ1 95 yJ1_indexOfChar_4cfef, Cond.static yJ1_indexOfChar_4cfef, Cond.code yJ1_indexOfChar_4cfef cJ1_indexOfChar_4cfef 6 (some .int), Cond.methodLink RJ0 640 yJ2_indexOf_4cfef, Cond.static yJ2_indexOf_4cfef, Cond.initialized RJ2, Cond.code yJ2_indexOf_4cfef cJ2_indexOf_4cfef 4 (some .int), Cond.methodLink RJ2 224 Lib.Math.max.name, Cond.methodLink RJ2 183 Lib.Math.min.name, Cond.constant RJ2 227 (65536), Cond.methodLink RJ2 228 yJ2_indexOfChar_4cfef, Cond.static yJ2_indexOfChar_4cfef, Cond.code yJ2_indexOfChar_4cfef cJ2_indexOfChar_4cfef 4 (some .int), Cond.methodLink RJ2 96 yJ2_checkBoundsBeginEnd_d044e, Cond.static yJ2_checkBoundsBeginEnd_d044e, Cond.code yJ2_checkBoundsBeginEnd_d044e cJ2_checkBoundsBeginEnd_d044e 3 none, Cond.methodLink RJ2 48 yJ2_length_9d52b, Cond.static yJ2_length_9d52b, Cond.code yJ2_length_9d52b cJ2_length_9d52b 1 (some .int), Cond.methodLink RJ2 241 yJ0_checkBoundsBeginEnd_23922]
def wsL_law_r23 : List Cond := [Cond.static yJ0_checkBoundsBeginEnd_23922, Cond.code yJ0_checkBoundsBeginEnd_23922 cJ0_checkBoundsBeginEnd_23922 3 none, Cond.fieldLink RJ0 1053 "jdk/internal/util/Preconditions" "SIOOBE_FORMATTER" "Ljava/util/function/BiFunction;", Cond.methodLink RJ0 1062 yJ3_checkFromToIndex_8c36e, Cond.static yJ3_checkFromToIndex_8c36e, Cond.initialized RJ3, Cond.code yJ3_checkFromToIndex_8c36e cJ3_checkFromToIndex_8c36e 4 (some .int), Cond.methodLink RJ2 244 yJ2_indexOfCharUnsafe_4cfef, Cond.static yJ2_indexOfCharUnsafe_4cfef, Cond.code yJ2_indexOfCharUnsafe_4cfef cJ2_indexOfCharUnsafe_4cfef 5 (some .int), Cond.methodLink RJ2 71 yJ2_getChar_3b067, Cond.static yJ2_getChar_3b067, Cond.code yJ2_getChar_3b067 cJ2_getChar_3b067 2 (some .char), Cond.fieldLink RJ2 44 "java/lang/StringUTF16" "$assertionsDisabled" "Z", Cond.fieldLink RJ2 59 "java/lang/StringUTF16" "HI_BYTE_SHIFT" "I", Cond.fieldLink RJ2 63 "java/lang/StringUTF16" "LO_BYTE_SHIFT" "I", Cond.methodLink RJ2 232 yJ2_indexOfSupplementary_4cfef, Cond.static yJ2_indexOfSupplementary_4cfef, Cond.code yJ2_indexOfSupplementary_4cfef cJ2_indexOfSupplementary_4cfef 7 (some .int), Cond.methodLink RJ2 164 yJ11_isValidCodePoint_9a6ad, Cond.static yJ11_isValidCodePoint_9a6ad, Cond.initialized RJ11, Cond.code yJ11_isValidCodePoint_9a6ad cJ11_isValidCodePoint_9a6ad 2 (some .boolean), Cond.methodLink RJ2 157 yJ11_highSurrogate_5068e]
def wsL_law_r24 : List Cond := [Cond.static yJ11_highSurrogate_5068e, Cond.code yJ11_highSurrogate_5068e cJ11_highSurrogate_5068e 1 (some .char), Cond.constant RJ11 110 (55232), Cond.methodLink RJ2 161 yJ11_lowSurrogate_5068e, Cond.static yJ11_lowSurrogate_5068e, Cond.code yJ11_lowSurrogate_5068e cJ11_lowSurrogate_5068e 1 (some .char), Cond.constant RJ11 76 (56320), Cond.methodLink RX3 53 yX3_follows, Cond.instanceMethod yX3_follows, Cond.selects RX3 yX3_follows yX3_follows, Cond.code yX3_follows cX3_follows 3 (some .boolean), Cond.methodLink RX3 74 yX3_closes, Cond.instanceMethod yX3_closes, Cond.selects RX3 yX3_closes yX3_closes, Cond.code yX3_closes cX3_closes 1 (some .boolean), Cond.methodLink RX3 42 yX3_writeSigns, Cond.instanceMethod yX3_writeSigns, Cond.selects RX3 yX3_writeSigns yX3_writeSigns, Cond.code yX3_writeSigns cX3_writeSigns 4 none, Cond.methodLink RX3 78 yX3_rankOf, Cond.static yX3_rankOf, Cond.code yX3_rankOf cX3_rankOf 1 (some .int), Cond.methodLink RX7 144 yX0_law, Cond.instanceMethod yX0_law]
def wsL_law_r25 : List Cond := [Cond.selects RX0 yX0_law yX0_law, Cond.code yX0_law cX0_law 2 (some (.object "WheelBrook$Law")), Cond.methodLink RX7 152 yX2_learn, Cond.instanceMethod yX2_learn, Cond.selects RX2 yX2_learn yX2_learn, Cond.code yX2_learn cX2_learn 3 none, Cond.methodLink RX2 18 arraycopyName, Cond.native arraycopyName, Cond.static arraycopyName, Cond.initialized "java/lang/System", Cond.methodLink RL 66 yX8_text, Cond.instanceMethod yX8_text, Cond.selects RX8 yX8_text yX8_text, Cond.code yX8_text cX8_text 5 (some .int), Cond.fieldLink RX8 131 "WheelBrookModel" "use" "I", Cond.fieldLink RX8 127 "WheelBrookModel" "at" "I", Cond.fieldLink RX8 161 "WheelBrookModel" "open" "I", Cond.fieldLink RX8 134 "WheelBrookModel" "steps" "I", Cond.methodLink RX8 170 yX8_whole, Cond.instanceMethod yX8_whole, Cond.selects RX8 yX8_whole yX8_whole, Cond.code yX8_whole cX8_whole 1 (some .boolean), Cond.methodLink RX8 137 yX8_both, Cond.instanceMethod yX8_both]
def wsL_law_r26 : List Cond := [Cond.selects RX8 yX8_both yX8_both, Cond.methodLink RX8 141 yX8_look, Cond.instanceMethod yX8_look, Cond.selects RX8 yX8_look yX8_look, Cond.code yX8_look cX8_look 1 (some .int), Cond.methodLink RX8 145 yX8_step1, Cond.instanceMethod yX8_step1, Cond.selects RX8 yX8_step1 yX8_step1, Cond.code yX8_step1 cX8_step1 3 none, Cond.code yX8_both cX8_both 1 (some .boolean), Cond.methodLink RX8 149 yX8_compared, Cond.instanceMethod yX8_compared, Cond.selects RX8 yX8_compared yX8_compared, Cond.code yX8_compared cX8_compared 2 (some .boolean), Cond.methodLink RX8 152 yX8_sum, Cond.instanceMethod yX8_sum, Cond.selects RX8 yX8_sum yX8_sum, Cond.code yX8_one cX8_one 4 (some .boolean), Cond.methodLink RX8 164 yX8_isName, Cond.instanceMethod yX8_isName, Cond.selects RX8 yX8_isName yX8_isName, Cond.code yX8_isName cX8_isName 2 (some .boolean), Cond.methodLink RX8 167 yX8_opens, Cond.instanceMethod yX8_opens]
def wsL_law_r27 : List Cond := [Cond.selects RX8 yX8_opens yX8_opens, Cond.code yX8_opens cX8_opens 1 (some .boolean), Cond.methodLink RX8 158 yX8_one, Cond.instanceMethod yX8_one, Cond.selects RX8 yX8_one yX8_one, Cond.code yX8_product cX8_product 2 (some .boolean), Cond.code yX8_sum cX8_sum 2 (some .boolean), Cond.methodLink RX8 155 yX8_product, Cond.instanceMethod yX8_product, Cond.selects RX8 yX8_product yX8_product, Cond.methodLink RL 67 yX7_untell, Cond.instanceMethod yX7_untell, Cond.selects RX7 yX7_untell yX7_untell, Cond.code yX7_untell cX7_untell 4 (some .int), Cond.fieldLink RX7 158 "WheelBrook$Law" "size" "I", Cond.methodLink RL 70 yX8_untell, Cond.instanceMethod yX8_untell, Cond.selects RX8 yX8_untell yX8_untell, Cond.code yX8_untell cX8_untell 3 (some .int), Cond.methodLink RL 71 yX7_hours, Cond.instanceMethod yX7_hours, Cond.selects RX7 yX7_hours yX7_hours, Cond.code yX7_hours cX7_hours 2 (some .int), Cond.fieldLink RX7 159 "WheelBrook$Brook" "hour" "I"]
def wsL_law_r28 : List Cond := [Cond.methodLink RX7 162 yX0_passHours, Cond.instanceMethod yX0_passHours, Cond.selects RX0 yX0_passHours yX0_passHours, Cond.code yX0_passHours cX0_passHours 4 (some .int), Cond.methodLink RX0 153 yX0_passHour, Cond.instanceMethod yX0_passHour, Cond.selects RX0 yX0_passHour yX0_passHour, Cond.code yX0_passHour cX0_passHour 4 (some .int), Cond.fieldLink RX0 142 "WheelBrook$Wheel" "turns" "I", Cond.constant RX0 152 (999999), Cond.methodLink RX0 144 yX0_turnMore, Cond.instanceMethod yX0_turnMore, Cond.selects RX0 yX0_turnMore yX0_turnMore, Cond.code yX0_turnMore cX0_turnMore 3 none, Cond.methodLink RX7 165 yX0_prayedOfAll, Cond.instanceMethod yX0_prayedOfAll, Cond.selects RX0 yX0_prayedOfAll yX0_prayedOfAll, Cond.code yX0_prayedOfAll cX0_prayedOfAll 3 (some .int), Cond.methodLink RL 74 yX8_hours, Cond.instanceMethod yX8_hours, Cond.selects RX8 yX8_hours yX8_hours, Cond.code yX8_hours cX8_hours 2 (some .int), Cond.methodLink RX8 212 yX8_go, Cond.instanceMethod yX8_go]
def wsL_law_r29 : List Cond := [Cond.selects RX8 yX8_go yX8_go, Cond.code yX8_go cX8_go 3 none, Cond.methodLink RX8 209 yX8_hour, Cond.instanceMethod yX8_hour, Cond.selects RX8 yX8_hour yX8_hour, Cond.code yX8_hour cX8_hour 3 none, Cond.methodLink RX8 206 yX8_turn1, Cond.instanceMethod yX8_turn1, Cond.selects RX8 yX8_turn1 yX8_turn1, Cond.code yX8_turn1 cX8_turn1 3 none, Cond.methodLink RX8 203 yX8_prays, Cond.instanceMethod yX8_prays, Cond.selects RX8 yX8_prays yX8_prays, Cond.code yX8_prays cX8_prays 3 none, Cond.methodLink RX8 216 yX8_allPrayed, Cond.instanceMethod yX8_allPrayed, Cond.selects RX8 yX8_allPrayed yX8_allPrayed, Cond.code yX8_allPrayed cX8_allPrayed 3 (some .int), Cond.methodLink RL 75 yX7_draws, Cond.instanceMethod yX7_draws, Cond.selects RX7 yX7_draws yX7_draws, Cond.code yX7_draws cX7_draws 4 (some .int), Cond.methodLink RX7 169 yX0_drawWeather, Cond.instanceMethod yX0_drawWeather]
def wsL_law_r30 : List Cond := [Cond.selects RX0 yX0_drawWeather yX0_drawWeather, Cond.code yX0_drawWeather cX0_drawWeather 2 (some .int), Cond.constant RX0 156 (1103515245), Cond.methodLink RX0 160 Lib.Math.max.name, Cond.methodLink RX0 157 yX0_flood, Cond.instanceMethod yX0_flood, Cond.selects RX0 yX0_flood yX0_flood, Cond.code yX0_flood cX0_flood 2 none, Cond.methodLink RX7 172 yX0_passHour, Cond.methodLink RL 78 yX8_draws, Cond.instanceMethod yX8_draws, Cond.selects RX8 yX8_draws yX8_draws, Cond.code yX8_draws cX8_draws 6 (some .int), Cond.methodLink RX8 220 yX8_draw, Cond.instanceMethod yX8_draw, Cond.selects RX8 yX8_draw yX8_draw, Cond.code yX8_draw cX8_draw 1 (some .int), Cond.constant RX8 219 (1103515245), Cond.methodLink RL 79 yX7_seed, Cond.instanceMethod yX7_seed, Cond.selects RX7 yX7_seed yX7_seed, Cond.code yX7_seed cX7_seed 3 (some .int), Cond.fieldLink RX7 175 "WheelBrook$Brook" "z" "I", Cond.methodLink RL 82 yX8_seed]
def wsL_law_r31 : List Cond := [Cond.instanceMethod yX8_seed, Cond.selects RX8 yX8_seed yX8_seed, Cond.code yX8_seed cX8_seed 2 (some .int), Cond.methodLink RL 83 yX7_sell, Cond.instanceMethod yX7_sell, Cond.selects RX7 yX7_sell yX7_sell, Cond.code yX7_sell cX7_sell 4 (some .int), Cond.fieldLink RX7 178 "WheelBrook$Brook" "prayed" "[I", Cond.constant RX7 181 (999999), Cond.methodLink RL 86 yX8_sell, Cond.instanceMethod yX8_sell, Cond.selects RX8 yX8_sell yX8_sell, Cond.code yX8_sell cX8_sell 4 (some .int), Cond.methodLink RL 87 yX7_fair, Cond.instanceMethod yX7_fair, Cond.selects RX7 yX7_fair yX7_fair, Cond.code yX7_fair cX7_fair 5 (some .int), Cond.methodLink RL 90 yX8_fair, Cond.instanceMethod yX8_fair, Cond.selects RX8 yX8_fair yX8_fair, Cond.code yX8_fair cX8_fair 3 (some .int), Cond.methodLink RL 91 yX7_then, Cond.instanceMethod yX7_then, Cond.selects RX7 yX7_then yX7_then]
def wsL_law_r32 : List Cond := [Cond.code yX7_then cX7_then 4 (some .int), Cond.methodLink RX7 187 yX0_copyFrom, Cond.instanceMethod yX0_copyFrom, Cond.selects RX0 yX0_copyFrom yX0_copyFrom, Cond.code yX0_copyFrom cX0_copyFrom 3 none, Cond.methodLink RX0 51 arraycopyName, Cond.fieldLink RX0 64 "WheelBrook$Law" "code" "[I", Cond.methodLink RX0 60 yX6_copyFrom, Cond.instanceMethod yX6_copyFrom, Cond.selects RX6 yX6_copyFrom yX6_copyFrom, Cond.code yX6_copyFrom cX6_copyFrom 2 none, Cond.methodLink RX0 68 yX2_learn, Cond.methodLink RL 94 yX8_then, Cond.instanceMethod yX8_then, Cond.selects RX8 yX8_then yX8_then, Cond.code yX8_then cX8_then 5 (some .int), Cond.methodLink RX8 223 yX8_isAhead, Cond.static yX8_isAhead, Cond.code yX8_isAhead cX8_isAhead 1 (some .boolean), Cond.methodLink RX8 226 yX8_carry, Cond.static yX8_carry, Cond.code yX8_carry cX8_carry 3 none, Cond.methodLink RL 95 yX7_thenFamily, Cond.instanceMethod yX7_thenFamily]
def wsL_law_r33 : List Cond := [Cond.selects RX7 yX7_thenFamily yX7_thenFamily, Cond.code yX7_thenFamily cX7_thenFamily 4 (some .int), Cond.methodLink RL 98 yX8_thenFamily, Cond.instanceMethod yX8_thenFamily, Cond.selects RX8 yX8_thenFamily yX8_thenFamily, Cond.code yX8_thenFamily cX8_thenFamily 5 (some .int), Cond.methodLink RL 99 yX7_when, Cond.instanceMethod yX7_when, Cond.selects RX7 yX7_when yX7_when, Cond.code yX7_when cX7_when 4 (some .int), Cond.methodLink RX7 191 yX0_isPaid, Cond.methodLink RL 102 yX8_when, Cond.instanceMethod yX8_when, Cond.selects RX8 yX8_when yX8_when, Cond.code yX8_when cX8_when 5 (some .int), Cond.methodLink RL 103 yX7_sluices, Cond.instanceMethod yX7_sluices, Cond.selects RX7 yX7_sluices yX7_sluices, Cond.code yX7_sluices cX7_sluices 7 (some .int), Cond.methodLink RX7 194 yX0_openOnly, Cond.instanceMethod yX0_openOnly, Cond.selects RX0 yX0_openOnly yX0_openOnly, Cond.code yX0_openOnly cX0_openOnly 3 none, Cond.methodLink RX7 198 yX0_allArePaid]
def wsL_law_r34 : List Cond := [Cond.instanceMethod yX0_allArePaid, Cond.selects RX0 yX0_allArePaid yX0_allArePaid, Cond.code yX0_allArePaid cX0_allArePaid 2 (some .boolean), Cond.methodLink RL 106 yX8_sluices, Cond.instanceMethod yX8_sluices, Cond.selects RX8 yX8_sluices yX8_sluices, Cond.code yX8_sluices cX8_sluices 8 (some .int), Cond.methodLink RX8 230 yX8_opens_, Cond.instanceMethod yX8_opens_, Cond.selects RX8 yX8_opens_ yX8_opens_, Cond.code yX8_opens_ cX8_opens_ 3 none, Cond.methodLink RX8 232 yX8_areAllPaid, Cond.instanceMethod yX8_areAllPaid, Cond.selects RX8 yX8_areAllPaid yX8_areAllPaid, Cond.code yX8_areAllPaid cX8_areAllPaid 3 (some .boolean), Cond.methodLink RL 107 yX7_fewer, Cond.instanceMethod yX7_fewer, Cond.selects RX7 yX7_fewer yX7_fewer, Cond.code yX7_fewer cX7_fewer 6 (some .int), Cond.methodLink RX7 202 yX0_turnsIn, Cond.instanceMethod yX0_turnsIn, Cond.selects RX0 yX0_turnsIn yX0_turnsIn, Cond.code yX0_turnsIn cX0_turnsIn 7 (some .int), Cond.methodLink RL 110 yX8_fewer]
def wsL_law_r35 : List Cond := [Cond.instanceMethod yX8_fewer, Cond.selects RX8 yX8_fewer yX8_fewer, Cond.code yX8_fewer cX8_fewer 7 (some .int), Cond.fieldLink RX8 235 "WheelBrookModel" "others" "I", Cond.methodLink RX8 241 yX8_isTold, Cond.instanceMethod yX8_isTold, Cond.selects RX8 yX8_isTold yX8_isTold, Cond.code yX8_isTold cX8_isTold 3 (some .boolean), Cond.methodLink RX8 244 yX8_findTurns, Cond.instanceMethod yX8_findTurns, Cond.selects RX8 yX8_findTurns yX8_findTurns, Cond.code yX8_findTurns cX8_findTurns 5 none, Cond.fieldLink RX8 238 "WheelBrookModel" "own" "I", Cond.methodLink RL 111 yX7_bestPlace, Cond.instanceMethod yX7_bestPlace, Cond.selects RX7 yX7_bestPlace yX7_bestPlace, Cond.code yX7_bestPlace cX7_bestPlace 8 (some .int), Cond.methodLink RL 114 yX8_bestPlace, Cond.instanceMethod yX8_bestPlace, Cond.selects RX8 yX8_bestPlace yX8_bestPlace, Cond.code yX8_bestPlace cX8_bestPlace 8 (some .int), Cond.methodLink RL 115 yX7_who, Cond.instanceMethod yX7_who, Cond.selects RX7 yX7_who yX7_who]
def wsL_law_r36 : List Cond := [Cond.code yX7_who cX7_who 8 (some .int), Cond.fieldLink RX7 206 "WheelBrook$Brook" "gone" "I", Cond.methodLink RL 118 yX8_who, Cond.instanceMethod yX8_who, Cond.selects RX8 yX8_who yX8_who, Cond.code yX8_who cX8_who 9 (some .int), Cond.methodLink RL 119 yX7_slipped, Cond.instanceMethod yX7_slipped, Cond.selects RX7 yX7_slipped yX7_slipped, Cond.code yX7_slipped cX7_slipped 3 (some .int), Cond.fieldLink RX7 209 "WheelBrook$Wheel" "turned" "I", Cond.methodLink RL 123 yX8_slipped, Cond.instanceMethod yX8_slipped, Cond.selects RX8 yX8_slipped yX8_slipped, Cond.code yX8_slipped cX8_slipped 3 (some .int), Cond.methodLink RL 124 yX7_voice, Cond.instanceMethod yX7_voice, Cond.selects RX7 yX7_voice yX7_voice, Cond.code yX7_voice cX7_voice 6 (some .int), Cond.fieldLink RX7 212 "WheelBrook$Wheel" "m" "I", Cond.fieldLink RX7 219 "WheelBrook$Speaker" "parted" "Z", Cond.methodLink RX7 215 yX5_answer, Cond.instanceMethod yX5_answer, Cond.selects RX5 yX5_answer yX5_answer]
def wsL_law_r37 : List Cond := [Cond.code yX5_answer cX5_answer 6 (some .int), Cond.fieldLink RX5 15 "WheelBrook$Speaker" "kind" "I", Cond.fieldLink RX5 19 "WheelBrook$Speaker" "number" "I", Cond.fieldLink RX5 22 "WheelBrook$Speaker" "m" "I", Cond.fieldLink RX5 25 "WheelBrook$Speaker" "traced" "I", Cond.fieldLink RX5 28 "WheelBrook$Speaker" "parted" "Z", Cond.methodLink RX5 32 yX5_speak, Cond.instanceMethod yX5_speak, Cond.selects RX5 yX5_speak yX5_speak, Cond.code yX5_speak cX5_speak 7 (some .int), Cond.fieldLink RX5 36 "WheelBrook$Speaker" "BODIES" "[I", Cond.methodLink RX5 42 yX5_ofWheel, Cond.instanceMethod yX5_ofWheel, Cond.selects RX5 yX5_ofWheel yX5_ofWheel, Cond.methodLink RX5 46 yX5_ofOthers, Cond.instanceMethod yX5_ofOthers, Cond.selects RX5 yX5_ofOthers yX5_ofOthers, Cond.code yX5_ofOthers cX5_ofOthers 6 (some .int), Cond.methodLink RX5 53 yX5_partsOfSlow, Cond.instanceMethod yX5_partsOfSlow, Cond.selects RX5 yX5_partsOfSlow yX5_partsOfSlow, Cond.code yX5_ofWheel cX5_ofWheel 4 (some .int), Cond.methodLink RX5 49 yX5_divided, Cond.instanceMethod yX5_divided]
def wsL_law_r38 : List Cond := [Cond.selects RX5 yX5_divided yX5_divided, Cond.code yX5_divided cX5_divided 3 (some .int), Cond.code yX5_partsOfSlow cX5_partsOfSlow 5 (some .int), Cond.methodLink RL 127 yX8_voice, Cond.instanceMethod yX8_voice, Cond.selects RX8 yX8_voice yX8_voice, Cond.code yX8_voice cX8_voice 6 (some .int), Cond.fieldLink RX8 247 "WheelBrookModel" "traced" "I", Cond.fieldLink RX8 250 "WheelBrookModel" "speaks" "I", Cond.fieldLink RX8 274 "WheelBrookModel" "isParted" "Z", Cond.methodLink RX8 262 yX8_kindNow, Cond.instanceMethod yX8_kindNow, Cond.selects RX8 yX8_kindNow yX8_kindNow, Cond.code yX8_kindNow cX8_kindNow 1 (some .int), Cond.methodLink RX8 259 yX8_flowsAs, Cond.instanceMethod yX8_flowsAs, Cond.selects RX8 yX8_flowsAs yX8_flowsAs, Cond.code yX8_flowsAs cX8_flowsAs 3 (some .int), Cond.methodLink RX8 253 yX8_begins, Cond.instanceMethod yX8_begins, Cond.selects RX8 yX8_begins yX8_begins, Cond.code yX8_begins cX8_begins 2 none, Cond.methodLink RX8 256 yX8_above, Cond.static yX8_above]
def wsL_law_r39 : List Cond := [Cond.code yX8_above cX8_above 1 (some .int), Cond.methodLink RX8 265 yX8_turnsAs, Cond.instanceMethod yX8_turnsAs, Cond.selects RX8 yX8_turnsAs yX8_turnsAs, Cond.code yX8_turnsAs cX8_turnsAs 3 (some .int), Cond.methodLink RX8 268 yX8_mNow, Cond.instanceMethod yX8_mNow, Cond.selects RX8 yX8_mNow yX8_mNow, Cond.code yX8_mNow cX8_mNow 1 (some .int), Cond.methodLink RX8 271 yX8_praysAs, Cond.instanceMethod yX8_praysAs, Cond.selects RX8 yX8_praysAs yX8_praysAs, Cond.code yX8_praysAs cX8_praysAs 3 (some .int), Cond.methodLink RX8 278 yX8_partsAs, Cond.instanceMethod yX8_partsAs, Cond.selects RX8 yX8_partsAs yX8_partsAs, Cond.code yX8_partsAs cX8_partsAs 5 (some .int), Cond.methodLink RL 128 yX7_body, Cond.instanceMethod yX7_body, Cond.selects RX7 yX7_body yX7_body, Cond.code yX7_body cX7_body 2 (some .int), Cond.fieldLink RX7 223 "WheelBrook$Speaker" "traced" "I", Cond.fieldLink RX7 226 "WheelBrook$Speaker" "trace" "[I", Cond.methodLink RL 131 yX8_body]
def wsL_law_r40 : List Cond := [Cond.instanceMethod yX8_body, Cond.selects RX8 yX8_body yX8_body, Cond.code yX8_body cX8_body 2 (some .int), Cond.methodLink RL 132 yX7_sheet, Cond.instanceMethod yX7_sheet, Cond.selects RX7 yX7_sheet yX7_sheet, Cond.code yX7_sheet cX7_sheet 4 (some .int), Cond.methodLink RX7 229 yX7_noSheet, Cond.static yX7_noSheet, Cond.code yX7_noSheet cX7_noSheet 1 (some .boolean), Cond.methodLink RX7 232 yX4_begin, Cond.instanceMethod yX4_begin, Cond.selects RX4 yX4_begin yX4_begin, Cond.code yX4_begin cX4_begin 5 none, Cond.methodLink RL 135 yX8_sheet, Cond.instanceMethod yX8_sheet, Cond.selects RX8 yX8_sheet yX8_sheet, Cond.code yX8_sheet cX8_sheet 5 (some .int), Cond.methodLink RX8 281 yX8_isSheet, Cond.static yX8_isSheet, Cond.code yX8_isSheet cX8_isSheet 1 (some .boolean), Cond.methodLink RL 136 yX7_put, Cond.instanceMethod yX7_put, Cond.selects RX7 yX7_put yX7_put]
def wsL_law_r41 : List Cond := [Cond.code yX7_put cX7_put 4 (some .int), Cond.fieldLink RX7 238 "WheelBrook$Sheets" "sizes" "[I", Cond.fieldLink RX7 241 "WheelBrook$Sheets" "rows" "[[I", Cond.methodLink RX7 235 yX4_isMissing, Cond.instanceMethod yX4_isMissing, Cond.selects RX4 yX4_isMissing yX4_isMissing, Cond.code yX4_isMissing cX4_isMissing 2 (some .boolean), Cond.methodLink RX7 245 yX4_lowest, Cond.instanceMethod yX4_lowest, Cond.selects RX4 yX4_lowest yX4_lowest, Cond.code yX4_lowest cX4_lowest 3 (some .int), Cond.methodLink RL 139 yX8_put, Cond.instanceMethod yX8_put, Cond.selects RX8 yX8_put yX8_put, Cond.code yX8_put cX8_put 5 (some .int), Cond.methodLink RL 140 yX7_move, Cond.instanceMethod yX7_move, Cond.selects RX7 yX7_move yX7_move, Cond.code yX7_move cX7_move 6 (some .int), Cond.fieldLink RX7 248 "WheelBrook$Sheets" "widths" "[I", Cond.methodLink RX7 254 arraycopyName, Cond.methodLink RX7 251 yX4_stand, Cond.instanceMethod yX4_stand, Cond.selects RX4 yX4_stand yX4_stand]
def wsL_law_r42 : List Cond := [Cond.code yX4_stand cX4_stand 4 (some .boolean), Cond.methodLink RL 144 yX8_move, Cond.instanceMethod yX8_move, Cond.selects RX8 yX8_move yX8_move, Cond.code yX8_move cX8_move 7 (some .int), Cond.methodLink RL 145 yX7_forces, Cond.instanceMethod yX7_forces, Cond.selects RX7 yX7_forces yX7_forces, Cond.code yX7_forces cX7_forces 3 (some .int), Cond.methodLink RL 148 yX8_forces, Cond.instanceMethod yX8_forces, Cond.selects RX8 yX8_forces yX8_forces, Cond.code yX8_forces cX8_forces 4 (some .int), Cond.methodLink RX8 284 yX8_lacks, Cond.instanceMethod yX8_lacks, Cond.selects RX8 yX8_lacks yX8_lacks, Cond.code yX8_lacks cX8_lacks 2 (some .int), Cond.methodLink RL 149 yX7_judge, Cond.instanceMethod yX7_judge, Cond.selects RX7 yX7_judge yX7_judge, Cond.code yX7_judge cX7_judge 3 (some .int), Cond.methodLink RL 152 yX8_judge, Cond.instanceMethod yX8_judge, Cond.selects RX8 yX8_judge yX8_judge]
def wsL_law_r43 : List Cond := [Cond.code yX8_judge cX8_judge 4 (some .int), Cond.methodLink RL 153 yX7_image, Cond.instanceMethod yX7_image, Cond.selects RX7 yX7_image yX7_image, Cond.code yX7_image cX7_image 1 (some .int), Cond.fieldLink RX7 263 "WheelBrook" "images" "I", Cond.methodLink RX7 260 yX1_copyFrom, Cond.instanceMethod yX1_copyFrom, Cond.selects RX1 yX1_copyFrom yX1_copyFrom, Cond.code yX1_copyFrom cX1_copyFrom 2 none, Cond.methodLink RX1 23 arraycopyName, Cond.fieldLink RX1 29 "WheelBrook$Desk" "waiting" "I", Cond.methodLink RL 156 yX8_image, Cond.instanceMethod yX8_image, Cond.selects RX8 yX8_image yX8_image, Cond.code yX8_image cX8_image 1 (some .int), Cond.fieldLink RX8 287 "WheelBrookModel" "images" "I", Cond.methodLink RL 157 yX7_restore, Cond.instanceMethod yX7_restore, Cond.selects RX7 yX7_restore yX7_restore, Cond.code yX7_restore cX7_restore 1 (some .int), Cond.methodLink RL 160 yX8_restore, Cond.instanceMethod yX8_restore, Cond.selects RX8 yX8_restore yX8_restore]
def wsL_law_r44 : List Cond := [Cond.code yX8_restore cX8_restore 1 (some .int), Cond.methodLink RL 161 yX7_tell, Cond.instanceMethod yX7_tell, Cond.selects RX7 yX7_tell yX7_tell, Cond.code yX7_tell cX7_tell 2 (some .int), Cond.fieldLink RX7 266 "WheelBrook$Desk" "waiting" "I", Cond.fieldLink RX7 269 "WheelBrook$Desk" "numbers" "[I", Cond.methodLink RL 164 yX8_tell, Cond.instanceMethod yX8_tell, Cond.selects RX8 yX8_tell yX8_tell, Cond.code yX8_tell cX8_tell 2 (some .int), Cond.methodLink RL 165 yX7_check, Cond.instanceMethod yX7_check, Cond.selects RX7 yX7_check yX7_check, Cond.code yX7_check cX7_check 4 (some .int), Cond.methodLink RL 168 yX8_check, Cond.instanceMethod yX8_check, Cond.selects RX8 yX8_check yX8_check, Cond.code yX8_check cX8_check 5 (some .int), Cond.methodLink RL 169 yX7_count, Cond.instanceMethod yX7_count, Cond.selects RX7 yX7_count yX7_count, Cond.code yX7_count cX7_count 2 (some .int), Cond.fieldLink RX7 275 "WheelBrook$Brook" "lost" "I"]
def wsL_law_r45 : List Cond := [Cond.methodLink RX7 272 yX0_forceNow, Cond.methodLink RL 172 yX8_count, Cond.instanceMethod yX8_count, Cond.selects RX8 yX8_count yX8_count, Cond.code yX8_count cX8_count 2 (some .int), Cond.methodLink RL 173 yX7_told, Cond.instanceMethod yX7_told, Cond.selects RX7 yX7_told yX7_told, Cond.code yX7_told cX7_told 2 (some .int), Cond.methodLink RL 176 yX8_told, Cond.instanceMethod yX8_told, Cond.selects RX8 yX8_told yX8_told, Cond.code yX8_told cX8_told 2 (some .int)]
def wsL_law : List Cond := (wsL_law_r1 ++ (wsL_law_r2 ++ (wsL_law_r3 ++ (wsL_law_r4 ++ (wsL_law_r5 ++ (wsL_law_r6 ++ (wsL_law_r7 ++ (wsL_law_r8 ++ (wsL_law_r9 ++ (wsL_law_r10 ++ (wsL_law_r11 ++ (wsL_law_r12 ++ (wsL_law_r13 ++ (wsL_law_r14 ++ (wsL_law_r15 ++ (wsL_law_r16 ++ (wsL_law_r17 ++ (wsL_law_r18 ++ (wsL_law_r19 ++ (wsL_law_r20 ++ (wsL_law_r21 ++ (wsL_law_r22 ++ (wsL_law_r23 ++ (wsL_law_r24 ++ (wsL_law_r25 ++ (wsL_law_r26 ++ (wsL_law_r27 ++ (wsL_law_r28 ++ (wsL_law_r29 ++ (wsL_law_r30 ++ (wsL_law_r31 ++ (wsL_law_r32 ++ (wsL_law_r33 ++ (wsL_law_r34 ++ (wsL_law_r35 ++ (wsL_law_r36 ++ (wsL_law_r37 ++ (wsL_law_r38 ++ (wsL_law_r39 ++ (wsL_law_r40 ++ (wsL_law_r41 ++ (wsL_law_r42 ++ (wsL_law_r43 ++ (wsL_law_r44 ++ wsL_law_r45)))))))))))))))))))))))))))))))))))))))))))) ++ wsX70 ++ wsX80 ++ wsX00 ++ wsX10 ++ wsX30 ++ wsX50 ++ wsX40 ++ wsX20 ++ wsX60 ++ ([] : List Cond)
theorem inlX0 : ∀ w ∈ wsX00, w ∈ wsL_law := fun _ h => List.mem_append_left _ (List.mem_append_left _ (List.mem_append_left _ (List.mem_append_left _ (List.mem_append_left _ (List.mem_append_left _ (List.mem_append_left _ (List.mem_append_right _ h)))))))
theorem inlX1 : ∀ w ∈ wsX10, w ∈ wsL_law := fun _ h => List.mem_append_left _ (List.mem_append_left _ (List.mem_append_left _ (List.mem_append_left _ (List.mem_append_left _ (List.mem_append_left _ (List.mem_append_right _ h))))))
theorem inlX2 : ∀ w ∈ wsX20, w ∈ wsL_law := fun _ h => List.mem_append_left _ (List.mem_append_left _ (List.mem_append_right _ h))
theorem inlX3 : ∀ w ∈ wsX30, w ∈ wsL_law := fun _ h => List.mem_append_left _ (List.mem_append_left _ (List.mem_append_left _ (List.mem_append_left _ (List.mem_append_left _ (List.mem_append_right _ h)))))
theorem inlX4 : ∀ w ∈ wsX40, w ∈ wsL_law := fun _ h => List.mem_append_left _ (List.mem_append_left _ (List.mem_append_left _ (List.mem_append_right _ h)))
theorem inlX5 : ∀ w ∈ wsX50, w ∈ wsL_law := fun _ h => List.mem_append_left _ (List.mem_append_left _ (List.mem_append_left _ (List.mem_append_left _ (List.mem_append_right _ h))))
theorem inlX6 : ∀ w ∈ wsX60, w ∈ wsL_law := fun _ h => List.mem_append_left _ (List.mem_append_right _ h)
theorem inlX7 : ∀ w ∈ wsX70, w ∈ wsL_law := fun _ h => List.mem_append_left _ (List.mem_append_left _ (List.mem_append_left _ (List.mem_append_left _ (List.mem_append_left _ (List.mem_append_left _ (List.mem_append_left _ (List.mem_append_left _ (List.mem_append_left _ (List.mem_append_right _ h)))))))))
theorem inlX8 : ∀ w ∈ wsX80, w ∈ wsL_law := fun _ h => List.mem_append_left _ (List.mem_append_left _ (List.mem_append_left _ (List.mem_append_left _ (List.mem_append_left _ (List.mem_append_left _ (List.mem_append_left _ (List.mem_append_left _ (List.mem_append_right _ h))))))))
set_option maxRecDepth 20000 in
abbrev vwCl : List vw_C := [(RX0, TX0, 15), (RX1, TX1, 4), (RX2, TX2, 3), (RX3, TX3, 8), (RX4, TX4, 3), (RX5, TX5, 6), (RX6, TX6, 9), (RX7, TX7, 10), (RX8, TX8, 27)]
/-! ===== the words of all: one list for every method ===== -/
abbrev zW0 : List Cond := wsL_law
theorem zin_r1 : ∀ w ∈ wsL_law_r1, w ∈ zW0 := fun _ h => List.mem_append_left _ (List.mem_append_left _ (List.mem_append_left _ (List.mem_append_left _ (List.mem_append_left _ (List.mem_append_left _ (List.mem_append_left _ (List.mem_append_left _ (List.mem_append_left _ (List.mem_append_left _ (List.mem_append_left _ h))))))))))
theorem zin_r2 : ∀ w ∈ wsL_law_r2, w ∈ zW0 := fun _ h => List.mem_append_left _ (List.mem_append_left _ (List.mem_append_left _ (List.mem_append_left _ (List.mem_append_left _ (List.mem_append_left _ (List.mem_append_left _ (List.mem_append_left _ (List.mem_append_left _ (List.mem_append_left _ (List.mem_append_right _ (List.mem_append_left _ h)))))))))))
theorem zin_r3 : ∀ w ∈ wsL_law_r3, w ∈ zW0 := fun _ h => List.mem_append_left _ (List.mem_append_left _ (List.mem_append_left _ (List.mem_append_left _ (List.mem_append_left _ (List.mem_append_left _ (List.mem_append_left _ (List.mem_append_left _ (List.mem_append_left _ (List.mem_append_left _ (List.mem_append_right _ (List.mem_append_right _ (List.mem_append_left _ h))))))))))))
theorem zin_r4 : ∀ w ∈ wsL_law_r4, w ∈ zW0 := fun _ h => List.mem_append_left _ (List.mem_append_left _ (List.mem_append_left _ (List.mem_append_left _ (List.mem_append_left _ (List.mem_append_left _ (List.mem_append_left _ (List.mem_append_left _ (List.mem_append_left _ (List.mem_append_left _ (List.mem_append_right _ (List.mem_append_right _ (List.mem_append_right _ (List.mem_append_left _ h)))))))))))))
theorem zin_r5 : ∀ w ∈ wsL_law_r5, w ∈ zW0 := fun _ h => List.mem_append_left _ (List.mem_append_left _ (List.mem_append_left _ (List.mem_append_left _ (List.mem_append_left _ (List.mem_append_left _ (List.mem_append_left _ (List.mem_append_left _ (List.mem_append_left _ (List.mem_append_left _ (List.mem_append_right _ (List.mem_append_right _ (List.mem_append_right _ (List.mem_append_right _ (List.mem_append_left _ h))))))))))))))
theorem zin_r6 : ∀ w ∈ wsL_law_r6, w ∈ zW0 := fun _ h => List.mem_append_left _ (List.mem_append_left _ (List.mem_append_left _ (List.mem_append_left _ (List.mem_append_left _ (List.mem_append_left _ (List.mem_append_left _ (List.mem_append_left _ (List.mem_append_left _ (List.mem_append_left _ (List.mem_append_right _ (List.mem_append_right _ (List.mem_append_right _ (List.mem_append_right _ (List.mem_append_right _ (List.mem_append_left _ h)))))))))))))))
theorem zin_r7 : ∀ w ∈ wsL_law_r7, w ∈ zW0 := fun _ h => List.mem_append_left _ (List.mem_append_left _ (List.mem_append_left _ (List.mem_append_left _ (List.mem_append_left _ (List.mem_append_left _ (List.mem_append_left _ (List.mem_append_left _ (List.mem_append_left _ (List.mem_append_left _ (List.mem_append_right _ (List.mem_append_right _ (List.mem_append_right _ (List.mem_append_right _ (List.mem_append_right _ (List.mem_append_right _ (List.mem_append_left _ h))))))))))))))))
theorem zin_r8 : ∀ w ∈ wsL_law_r8, w ∈ zW0 := fun _ h => List.mem_append_left _ (List.mem_append_left _ (List.mem_append_left _ (List.mem_append_left _ (List.mem_append_left _ (List.mem_append_left _ (List.mem_append_left _ (List.mem_append_left _ (List.mem_append_left _ (List.mem_append_left _ (List.mem_append_right _ (List.mem_append_right _ (List.mem_append_right _ (List.mem_append_right _ (List.mem_append_right _ (List.mem_append_right _ (List.mem_append_right _ (List.mem_append_left _ h)))))))))))))))))
theorem zin_r9 : ∀ w ∈ wsL_law_r9, w ∈ zW0 := fun _ h => List.mem_append_left _ (List.mem_append_left _ (List.mem_append_left _ (List.mem_append_left _ (List.mem_append_left _ (List.mem_append_left _ (List.mem_append_left _ (List.mem_append_left _ (List.mem_append_left _ (List.mem_append_left _ (List.mem_append_right _ (List.mem_append_right _ (List.mem_append_right _ (List.mem_append_right _ (List.mem_append_right _ (List.mem_append_right _ (List.mem_append_right _ (List.mem_append_right _ (List.mem_append_left _ h))))))))))))))))))
theorem zin_r10 : ∀ w ∈ wsL_law_r10, w ∈ zW0 := fun _ h => List.mem_append_left _ (List.mem_append_left _ (List.mem_append_left _ (List.mem_append_left _ (List.mem_append_left _ (List.mem_append_left _ (List.mem_append_left _ (List.mem_append_left _ (List.mem_append_left _ (List.mem_append_left _ (List.mem_append_right _ (List.mem_append_right _ (List.mem_append_right _ (List.mem_append_right _ (List.mem_append_right _ (List.mem_append_right _ (List.mem_append_right _ (List.mem_append_right _ (List.mem_append_right _ (List.mem_append_left _ h)))))))))))))))))))
theorem zin_r11 : ∀ w ∈ wsL_law_r11, w ∈ zW0 := fun _ h => List.mem_append_left _ (List.mem_append_left _ (List.mem_append_left _ (List.mem_append_left _ (List.mem_append_left _ (List.mem_append_left _ (List.mem_append_left _ (List.mem_append_left _ (List.mem_append_left _ (List.mem_append_left _ (List.mem_append_right _ (List.mem_append_right _ (List.mem_append_right _ (List.mem_append_right _ (List.mem_append_right _ (List.mem_append_right _ (List.mem_append_right _ (List.mem_append_right _ (List.mem_append_right _ (List.mem_append_right _ (List.mem_append_left _ h))))))))))))))))))))
theorem zin_r12 : ∀ w ∈ wsL_law_r12, w ∈ zW0 := fun _ h => List.mem_append_left _ (List.mem_append_left _ (List.mem_append_left _ (List.mem_append_left _ (List.mem_append_left _ (List.mem_append_left _ (List.mem_append_left _ (List.mem_append_left _ (List.mem_append_left _ (List.mem_append_left _ (List.mem_append_right _ (List.mem_append_right _ (List.mem_append_right _ (List.mem_append_right _ (List.mem_append_right _ (List.mem_append_right _ (List.mem_append_right _ (List.mem_append_right _ (List.mem_append_right _ (List.mem_append_right _ (List.mem_append_right _ (List.mem_append_left _ h)))))))))))))))))))))
theorem zin_r13 : ∀ w ∈ wsL_law_r13, w ∈ zW0 := fun _ h => List.mem_append_left _ (List.mem_append_left _ (List.mem_append_left _ (List.mem_append_left _ (List.mem_append_left _ (List.mem_append_left _ (List.mem_append_left _ (List.mem_append_left _ (List.mem_append_left _ (List.mem_append_left _ (List.mem_append_right _ (List.mem_append_right _ (List.mem_append_right _ (List.mem_append_right _ (List.mem_append_right _ (List.mem_append_right _ (List.mem_append_right _ (List.mem_append_right _ (List.mem_append_right _ (List.mem_append_right _ (List.mem_append_right _ (List.mem_append_right _ (List.mem_append_left _ h))))))))))))))))))))))
theorem zin_r14 : ∀ w ∈ wsL_law_r14, w ∈ zW0 := fun _ h => List.mem_append_left _ (List.mem_append_left _ (List.mem_append_left _ (List.mem_append_left _ (List.mem_append_left _ (List.mem_append_left _ (List.mem_append_left _ (List.mem_append_left _ (List.mem_append_left _ (List.mem_append_left _ (List.mem_append_right _ (List.mem_append_right _ (List.mem_append_right _ (List.mem_append_right _ (List.mem_append_right _ (List.mem_append_right _ (List.mem_append_right _ (List.mem_append_right _ (List.mem_append_right _ (List.mem_append_right _ (List.mem_append_right _ (List.mem_append_right _ (List.mem_append_right _ (List.mem_append_left _ h)))))))))))))))))))))))
theorem zin_r15 : ∀ w ∈ wsL_law_r15, w ∈ zW0 := fun _ h => List.mem_append_left _ (List.mem_append_left _ (List.mem_append_left _ (List.mem_append_left _ (List.mem_append_left _ (List.mem_append_left _ (List.mem_append_left _ (List.mem_append_left _ (List.mem_append_left _ (List.mem_append_left _ (List.mem_append_right _ (List.mem_append_right _ (List.mem_append_right _ (List.mem_append_right _ (List.mem_append_right _ (List.mem_append_right _ (List.mem_append_right _ (List.mem_append_right _ (List.mem_append_right _ (List.mem_append_right _ (List.mem_append_right _ (List.mem_append_right _ (List.mem_append_right _ (List.mem_append_right _ (List.mem_append_left _ h))))))))))))))))))))))))
theorem zin_r16 : ∀ w ∈ wsL_law_r16, w ∈ zW0 := fun _ h => List.mem_append_left _ (List.mem_append_left _ (List.mem_append_left _ (List.mem_append_left _ (List.mem_append_left _ (List.mem_append_left _ (List.mem_append_left _ (List.mem_append_left _ (List.mem_append_left _ (List.mem_append_left _ (List.mem_append_right _ (List.mem_append_right _ (List.mem_append_right _ (List.mem_append_right _ (List.mem_append_right _ (List.mem_append_right _ (List.mem_append_right _ (List.mem_append_right _ (List.mem_append_right _ (List.mem_append_right _ (List.mem_append_right _ (List.mem_append_right _ (List.mem_append_right _ (List.mem_append_right _ (List.mem_append_right _ (List.mem_append_left _ h)))))))))))))))))))))))))
theorem zin_r17 : ∀ w ∈ wsL_law_r17, w ∈ zW0 := fun _ h => List.mem_append_left _ (List.mem_append_left _ (List.mem_append_left _ (List.mem_append_left _ (List.mem_append_left _ (List.mem_append_left _ (List.mem_append_left _ (List.mem_append_left _ (List.mem_append_left _ (List.mem_append_left _ (List.mem_append_right _ (List.mem_append_right _ (List.mem_append_right _ (List.mem_append_right _ (List.mem_append_right _ (List.mem_append_right _ (List.mem_append_right _ (List.mem_append_right _ (List.mem_append_right _ (List.mem_append_right _ (List.mem_append_right _ (List.mem_append_right _ (List.mem_append_right _ (List.mem_append_right _ (List.mem_append_right _ (List.mem_append_right _ (List.mem_append_left _ h))))))))))))))))))))))))))
theorem zin_r18 : ∀ w ∈ wsL_law_r18, w ∈ zW0 := fun _ h => List.mem_append_left _ (List.mem_append_left _ (List.mem_append_left _ (List.mem_append_left _ (List.mem_append_left _ (List.mem_append_left _ (List.mem_append_left _ (List.mem_append_left _ (List.mem_append_left _ (List.mem_append_left _ (List.mem_append_right _ (List.mem_append_right _ (List.mem_append_right _ (List.mem_append_right _ (List.mem_append_right _ (List.mem_append_right _ (List.mem_append_right _ (List.mem_append_right _ (List.mem_append_right _ (List.mem_append_right _ (List.mem_append_right _ (List.mem_append_right _ (List.mem_append_right _ (List.mem_append_right _ (List.mem_append_right _ (List.mem_append_right _ (List.mem_append_right _ (List.mem_append_left _ h)))))))))))))))))))))))))))
theorem zin_r19 : ∀ w ∈ wsL_law_r19, w ∈ zW0 := fun _ h => List.mem_append_left _ (List.mem_append_left _ (List.mem_append_left _ (List.mem_append_left _ (List.mem_append_left _ (List.mem_append_left _ (List.mem_append_left _ (List.mem_append_left _ (List.mem_append_left _ (List.mem_append_left _ (List.mem_append_right _ (List.mem_append_right _ (List.mem_append_right _ (List.mem_append_right _ (List.mem_append_right _ (List.mem_append_right _ (List.mem_append_right _ (List.mem_append_right _ (List.mem_append_right _ (List.mem_append_right _ (List.mem_append_right _ (List.mem_append_right _ (List.mem_append_right _ (List.mem_append_right _ (List.mem_append_right _ (List.mem_append_right _ (List.mem_append_right _ (List.mem_append_right _ (List.mem_append_left _ h))))))))))))))))))))))))))))
theorem zin_r20 : ∀ w ∈ wsL_law_r20, w ∈ zW0 := fun _ h => List.mem_append_left _ (List.mem_append_left _ (List.mem_append_left _ (List.mem_append_left _ (List.mem_append_left _ (List.mem_append_left _ (List.mem_append_left _ (List.mem_append_left _ (List.mem_append_left _ (List.mem_append_left _ (List.mem_append_right _ (List.mem_append_right _ (List.mem_append_right _ (List.mem_append_right _ (List.mem_append_right _ (List.mem_append_right _ (List.mem_append_right _ (List.mem_append_right _ (List.mem_append_right _ (List.mem_append_right _ (List.mem_append_right _ (List.mem_append_right _ (List.mem_append_right _ (List.mem_append_right _ (List.mem_append_right _ (List.mem_append_right _ (List.mem_append_right _ (List.mem_append_right _ (List.mem_append_right _ (List.mem_append_left _ h)))))))))))))))))))))))))))))
theorem zin_r21 : ∀ w ∈ wsL_law_r21, w ∈ zW0 := fun _ h => List.mem_append_left _ (List.mem_append_left _ (List.mem_append_left _ (List.mem_append_left _ (List.mem_append_left _ (List.mem_append_left _ (List.mem_append_left _ (List.mem_append_left _ (List.mem_append_left _ (List.mem_append_left _ (List.mem_append_right _ (List.mem_append_right _ (List.mem_append_right _ (List.mem_append_right _ (List.mem_append_right _ (List.mem_append_right _ (List.mem_append_right _ (List.mem_append_right _ (List.mem_append_right _ (List.mem_append_right _ (List.mem_append_right _ (List.mem_append_right _ (List.mem_append_right _ (List.mem_append_right _ (List.mem_append_right _ (List.mem_append_right _ (List.mem_append_right _ (List.mem_append_right _ (List.mem_append_right _ (List.mem_append_right _ (List.mem_append_left _ h))))))))))))))))))))))))))))))
theorem zin_r22 : ∀ w ∈ wsL_law_r22, w ∈ zW0 := fun _ h => List.mem_append_left _ (List.mem_append_left _ (List.mem_append_left _ (List.mem_append_left _ (List.mem_append_left _ (List.mem_append_left _ (List.mem_append_left _ (List.mem_append_left _ (List.mem_append_left _ (List.mem_append_left _ (List.mem_append_right _ (List.mem_append_right _ (List.mem_append_right _ (List.mem_append_right _ (List.mem_append_right _ (List.mem_append_right _ (List.mem_append_right _ (List.mem_append_right _ (List.mem_append_right _ (List.mem_append_right _ (List.mem_append_right _ (List.mem_append_right _ (List.mem_append_right _ (List.mem_append_right _ (List.mem_append_right _ (List.mem_append_right _ (List.mem_append_right _ (List.mem_append_right _ (List.mem_append_right _ (List.mem_append_right _ (List.mem_append_right _ (List.mem_append_left _ h)))))))))))))))))))))))))))))))
theorem zin_r23 : ∀ w ∈ wsL_law_r23, w ∈ zW0 := fun _ h => List.mem_append_left _ (List.mem_append_left _ (List.mem_append_left _ (List.mem_append_left _ (List.mem_append_left _ (List.mem_append_left _ (List.mem_append_left _ (List.mem_append_left _ (List.mem_append_left _ (List.mem_append_left _ (List.mem_append_right _ (List.mem_append_right _ (List.mem_append_right _ (List.mem_append_right _ (List.mem_append_right _ (List.mem_append_right _ (List.mem_append_right _ (List.mem_append_right _ (List.mem_append_right _ (List.mem_append_right _ (List.mem_append_right _ (List.mem_append_right _ (List.mem_append_right _ (List.mem_append_right _ (List.mem_append_right _ (List.mem_append_right _ (List.mem_append_right _ (List.mem_append_right _ (List.mem_append_right _ (List.mem_append_right _ (List.mem_append_right _ (List.mem_append_right _ (List.mem_append_left _ h))))))))))))))))))))))))))))))))
theorem zin_r24 : ∀ w ∈ wsL_law_r24, w ∈ zW0 := fun _ h => List.mem_append_left _ (List.mem_append_left _ (List.mem_append_left _ (List.mem_append_left _ (List.mem_append_left _ (List.mem_append_left _ (List.mem_append_left _ (List.mem_append_left _ (List.mem_append_left _ (List.mem_append_left _ (List.mem_append_right _ (List.mem_append_right _ (List.mem_append_right _ (List.mem_append_right _ (List.mem_append_right _ (List.mem_append_right _ (List.mem_append_right _ (List.mem_append_right _ (List.mem_append_right _ (List.mem_append_right _ (List.mem_append_right _ (List.mem_append_right _ (List.mem_append_right _ (List.mem_append_right _ (List.mem_append_right _ (List.mem_append_right _ (List.mem_append_right _ (List.mem_append_right _ (List.mem_append_right _ (List.mem_append_right _ (List.mem_append_right _ (List.mem_append_right _ (List.mem_append_right _ (List.mem_append_left _ h)))))))))))))))))))))))))))))))))
theorem zin_r25 : ∀ w ∈ wsL_law_r25, w ∈ zW0 := fun _ h => List.mem_append_left _ (List.mem_append_left _ (List.mem_append_left _ (List.mem_append_left _ (List.mem_append_left _ (List.mem_append_left _ (List.mem_append_left _ (List.mem_append_left _ (List.mem_append_left _ (List.mem_append_left _ (List.mem_append_right _ (List.mem_append_right _ (List.mem_append_right _ (List.mem_append_right _ (List.mem_append_right _ (List.mem_append_right _ (List.mem_append_right _ (List.mem_append_right _ (List.mem_append_right _ (List.mem_append_right _ (List.mem_append_right _ (List.mem_append_right _ (List.mem_append_right _ (List.mem_append_right _ (List.mem_append_right _ (List.mem_append_right _ (List.mem_append_right _ (List.mem_append_right _ (List.mem_append_right _ (List.mem_append_right _ (List.mem_append_right _ (List.mem_append_right _ (List.mem_append_right _ (List.mem_append_right _ (List.mem_append_left _ h))))))))))))))))))))))))))))))))))
theorem zin_r26 : ∀ w ∈ wsL_law_r26, w ∈ zW0 := fun _ h => List.mem_append_left _ (List.mem_append_left _ (List.mem_append_left _ (List.mem_append_left _ (List.mem_append_left _ (List.mem_append_left _ (List.mem_append_left _ (List.mem_append_left _ (List.mem_append_left _ (List.mem_append_left _ (List.mem_append_right _ (List.mem_append_right _ (List.mem_append_right _ (List.mem_append_right _ (List.mem_append_right _ (List.mem_append_right _ (List.mem_append_right _ (List.mem_append_right _ (List.mem_append_right _ (List.mem_append_right _ (List.mem_append_right _ (List.mem_append_right _ (List.mem_append_right _ (List.mem_append_right _ (List.mem_append_right _ (List.mem_append_right _ (List.mem_append_right _ (List.mem_append_right _ (List.mem_append_right _ (List.mem_append_right _ (List.mem_append_right _ (List.mem_append_right _ (List.mem_append_right _ (List.mem_append_right _ (List.mem_append_right _ (List.mem_append_left _ h)))))))))))))))))))))))))))))))))))
theorem zin_r27 : ∀ w ∈ wsL_law_r27, w ∈ zW0 := fun _ h => List.mem_append_left _ (List.mem_append_left _ (List.mem_append_left _ (List.mem_append_left _ (List.mem_append_left _ (List.mem_append_left _ (List.mem_append_left _ (List.mem_append_left _ (List.mem_append_left _ (List.mem_append_left _ (List.mem_append_right _ (List.mem_append_right _ (List.mem_append_right _ (List.mem_append_right _ (List.mem_append_right _ (List.mem_append_right _ (List.mem_append_right _ (List.mem_append_right _ (List.mem_append_right _ (List.mem_append_right _ (List.mem_append_right _ (List.mem_append_right _ (List.mem_append_right _ (List.mem_append_right _ (List.mem_append_right _ (List.mem_append_right _ (List.mem_append_right _ (List.mem_append_right _ (List.mem_append_right _ (List.mem_append_right _ (List.mem_append_right _ (List.mem_append_right _ (List.mem_append_right _ (List.mem_append_right _ (List.mem_append_right _ (List.mem_append_right _ (List.mem_append_left _ h))))))))))))))))))))))))))))))))))))
theorem zin_r28 : ∀ w ∈ wsL_law_r28, w ∈ zW0 := fun _ h => List.mem_append_left _ (List.mem_append_left _ (List.mem_append_left _ (List.mem_append_left _ (List.mem_append_left _ (List.mem_append_left _ (List.mem_append_left _ (List.mem_append_left _ (List.mem_append_left _ (List.mem_append_left _ (List.mem_append_right _ (List.mem_append_right _ (List.mem_append_right _ (List.mem_append_right _ (List.mem_append_right _ (List.mem_append_right _ (List.mem_append_right _ (List.mem_append_right _ (List.mem_append_right _ (List.mem_append_right _ (List.mem_append_right _ (List.mem_append_right _ (List.mem_append_right _ (List.mem_append_right _ (List.mem_append_right _ (List.mem_append_right _ (List.mem_append_right _ (List.mem_append_right _ (List.mem_append_right _ (List.mem_append_right _ (List.mem_append_right _ (List.mem_append_right _ (List.mem_append_right _ (List.mem_append_right _ (List.mem_append_right _ (List.mem_append_right _ (List.mem_append_right _ (List.mem_append_left _ h)))))))))))))))))))))))))))))))))))))
theorem zin_r29 : ∀ w ∈ wsL_law_r29, w ∈ zW0 := fun _ h => List.mem_append_left _ (List.mem_append_left _ (List.mem_append_left _ (List.mem_append_left _ (List.mem_append_left _ (List.mem_append_left _ (List.mem_append_left _ (List.mem_append_left _ (List.mem_append_left _ (List.mem_append_left _ (List.mem_append_right _ (List.mem_append_right _ (List.mem_append_right _ (List.mem_append_right _ (List.mem_append_right _ (List.mem_append_right _ (List.mem_append_right _ (List.mem_append_right _ (List.mem_append_right _ (List.mem_append_right _ (List.mem_append_right _ (List.mem_append_right _ (List.mem_append_right _ (List.mem_append_right _ (List.mem_append_right _ (List.mem_append_right _ (List.mem_append_right _ (List.mem_append_right _ (List.mem_append_right _ (List.mem_append_right _ (List.mem_append_right _ (List.mem_append_right _ (List.mem_append_right _ (List.mem_append_right _ (List.mem_append_right _ (List.mem_append_right _ (List.mem_append_right _ (List.mem_append_right _ (List.mem_append_left _ h))))))))))))))))))))))))))))))))))))))
theorem zin_r30 : ∀ w ∈ wsL_law_r30, w ∈ zW0 := fun _ h => List.mem_append_left _ (List.mem_append_left _ (List.mem_append_left _ (List.mem_append_left _ (List.mem_append_left _ (List.mem_append_left _ (List.mem_append_left _ (List.mem_append_left _ (List.mem_append_left _ (List.mem_append_left _ (List.mem_append_right _ (List.mem_append_right _ (List.mem_append_right _ (List.mem_append_right _ (List.mem_append_right _ (List.mem_append_right _ (List.mem_append_right _ (List.mem_append_right _ (List.mem_append_right _ (List.mem_append_right _ (List.mem_append_right _ (List.mem_append_right _ (List.mem_append_right _ (List.mem_append_right _ (List.mem_append_right _ (List.mem_append_right _ (List.mem_append_right _ (List.mem_append_right _ (List.mem_append_right _ (List.mem_append_right _ (List.mem_append_right _ (List.mem_append_right _ (List.mem_append_right _ (List.mem_append_right _ (List.mem_append_right _ (List.mem_append_right _ (List.mem_append_right _ (List.mem_append_right _ (List.mem_append_right _ (List.mem_append_left _ h)))))))))))))))))))))))))))))))))))))))
theorem zin_r31 : ∀ w ∈ wsL_law_r31, w ∈ zW0 := fun _ h => List.mem_append_left _ (List.mem_append_left _ (List.mem_append_left _ (List.mem_append_left _ (List.mem_append_left _ (List.mem_append_left _ (List.mem_append_left _ (List.mem_append_left _ (List.mem_append_left _ (List.mem_append_left _ (List.mem_append_right _ (List.mem_append_right _ (List.mem_append_right _ (List.mem_append_right _ (List.mem_append_right _ (List.mem_append_right _ (List.mem_append_right _ (List.mem_append_right _ (List.mem_append_right _ (List.mem_append_right _ (List.mem_append_right _ (List.mem_append_right _ (List.mem_append_right _ (List.mem_append_right _ (List.mem_append_right _ (List.mem_append_right _ (List.mem_append_right _ (List.mem_append_right _ (List.mem_append_right _ (List.mem_append_right _ (List.mem_append_right _ (List.mem_append_right _ (List.mem_append_right _ (List.mem_append_right _ (List.mem_append_right _ (List.mem_append_right _ (List.mem_append_right _ (List.mem_append_right _ (List.mem_append_right _ (List.mem_append_right _ (List.mem_append_left _ h))))))))))))))))))))))))))))))))))))))))
theorem zin_r32 : ∀ w ∈ wsL_law_r32, w ∈ zW0 := fun _ h => List.mem_append_left _ (List.mem_append_left _ (List.mem_append_left _ (List.mem_append_left _ (List.mem_append_left _ (List.mem_append_left _ (List.mem_append_left _ (List.mem_append_left _ (List.mem_append_left _ (List.mem_append_left _ (List.mem_append_right _ (List.mem_append_right _ (List.mem_append_right _ (List.mem_append_right _ (List.mem_append_right _ (List.mem_append_right _ (List.mem_append_right _ (List.mem_append_right _ (List.mem_append_right _ (List.mem_append_right _ (List.mem_append_right _ (List.mem_append_right _ (List.mem_append_right _ (List.mem_append_right _ (List.mem_append_right _ (List.mem_append_right _ (List.mem_append_right _ (List.mem_append_right _ (List.mem_append_right _ (List.mem_append_right _ (List.mem_append_right _ (List.mem_append_right _ (List.mem_append_right _ (List.mem_append_right _ (List.mem_append_right _ (List.mem_append_right _ (List.mem_append_right _ (List.mem_append_right _ (List.mem_append_right _ (List.mem_append_right _ (List.mem_append_right _ (List.mem_append_left _ h)))))))))))))))))))))))))))))))))))))))))
theorem zin_r33 : ∀ w ∈ wsL_law_r33, w ∈ zW0 := fun _ h => List.mem_append_left _ (List.mem_append_left _ (List.mem_append_left _ (List.mem_append_left _ (List.mem_append_left _ (List.mem_append_left _ (List.mem_append_left _ (List.mem_append_left _ (List.mem_append_left _ (List.mem_append_left _ (List.mem_append_right _ (List.mem_append_right _ (List.mem_append_right _ (List.mem_append_right _ (List.mem_append_right _ (List.mem_append_right _ (List.mem_append_right _ (List.mem_append_right _ (List.mem_append_right _ (List.mem_append_right _ (List.mem_append_right _ (List.mem_append_right _ (List.mem_append_right _ (List.mem_append_right _ (List.mem_append_right _ (List.mem_append_right _ (List.mem_append_right _ (List.mem_append_right _ (List.mem_append_right _ (List.mem_append_right _ (List.mem_append_right _ (List.mem_append_right _ (List.mem_append_right _ (List.mem_append_right _ (List.mem_append_right _ (List.mem_append_right _ (List.mem_append_right _ (List.mem_append_right _ (List.mem_append_right _ (List.mem_append_right _ (List.mem_append_right _ (List.mem_append_right _ (List.mem_append_left _ h))))))))))))))))))))))))))))))))))))))))))
theorem zin_r34 : ∀ w ∈ wsL_law_r34, w ∈ zW0 := fun _ h => List.mem_append_left _ (List.mem_append_left _ (List.mem_append_left _ (List.mem_append_left _ (List.mem_append_left _ (List.mem_append_left _ (List.mem_append_left _ (List.mem_append_left _ (List.mem_append_left _ (List.mem_append_left _ (List.mem_append_right _ (List.mem_append_right _ (List.mem_append_right _ (List.mem_append_right _ (List.mem_append_right _ (List.mem_append_right _ (List.mem_append_right _ (List.mem_append_right _ (List.mem_append_right _ (List.mem_append_right _ (List.mem_append_right _ (List.mem_append_right _ (List.mem_append_right _ (List.mem_append_right _ (List.mem_append_right _ (List.mem_append_right _ (List.mem_append_right _ (List.mem_append_right _ (List.mem_append_right _ (List.mem_append_right _ (List.mem_append_right _ (List.mem_append_right _ (List.mem_append_right _ (List.mem_append_right _ (List.mem_append_right _ (List.mem_append_right _ (List.mem_append_right _ (List.mem_append_right _ (List.mem_append_right _ (List.mem_append_right _ (List.mem_append_right _ (List.mem_append_right _ (List.mem_append_right _ (List.mem_append_left _ h)))))))))))))))))))))))))))))))))))))))))))
theorem zin_r35 : ∀ w ∈ wsL_law_r35, w ∈ zW0 := fun _ h => List.mem_append_left _ (List.mem_append_left _ (List.mem_append_left _ (List.mem_append_left _ (List.mem_append_left _ (List.mem_append_left _ (List.mem_append_left _ (List.mem_append_left _ (List.mem_append_left _ (List.mem_append_left _ (List.mem_append_right _ (List.mem_append_right _ (List.mem_append_right _ (List.mem_append_right _ (List.mem_append_right _ (List.mem_append_right _ (List.mem_append_right _ (List.mem_append_right _ (List.mem_append_right _ (List.mem_append_right _ (List.mem_append_right _ (List.mem_append_right _ (List.mem_append_right _ (List.mem_append_right _ (List.mem_append_right _ (List.mem_append_right _ (List.mem_append_right _ (List.mem_append_right _ (List.mem_append_right _ (List.mem_append_right _ (List.mem_append_right _ (List.mem_append_right _ (List.mem_append_right _ (List.mem_append_right _ (List.mem_append_right _ (List.mem_append_right _ (List.mem_append_right _ (List.mem_append_right _ (List.mem_append_right _ (List.mem_append_right _ (List.mem_append_right _ (List.mem_append_right _ (List.mem_append_right _ (List.mem_append_right _ (List.mem_append_left _ h))))))))))))))))))))))))))))))))))))))))))))
theorem zin_r36 : ∀ w ∈ wsL_law_r36, w ∈ zW0 := fun _ h => List.mem_append_left _ (List.mem_append_left _ (List.mem_append_left _ (List.mem_append_left _ (List.mem_append_left _ (List.mem_append_left _ (List.mem_append_left _ (List.mem_append_left _ (List.mem_append_left _ (List.mem_append_left _ (List.mem_append_right _ (List.mem_append_right _ (List.mem_append_right _ (List.mem_append_right _ (List.mem_append_right _ (List.mem_append_right _ (List.mem_append_right _ (List.mem_append_right _ (List.mem_append_right _ (List.mem_append_right _ (List.mem_append_right _ (List.mem_append_right _ (List.mem_append_right _ (List.mem_append_right _ (List.mem_append_right _ (List.mem_append_right _ (List.mem_append_right _ (List.mem_append_right _ (List.mem_append_right _ (List.mem_append_right _ (List.mem_append_right _ (List.mem_append_right _ (List.mem_append_right _ (List.mem_append_right _ (List.mem_append_right _ (List.mem_append_right _ (List.mem_append_right _ (List.mem_append_right _ (List.mem_append_right _ (List.mem_append_right _ (List.mem_append_right _ (List.mem_append_right _ (List.mem_append_right _ (List.mem_append_right _ (List.mem_append_right _ (List.mem_append_left _ h)))))))))))))))))))))))))))))))))))))))))))))
theorem zin_r37 : ∀ w ∈ wsL_law_r37, w ∈ zW0 := fun _ h => List.mem_append_left _ (List.mem_append_left _ (List.mem_append_left _ (List.mem_append_left _ (List.mem_append_left _ (List.mem_append_left _ (List.mem_append_left _ (List.mem_append_left _ (List.mem_append_left _ (List.mem_append_left _ (List.mem_append_right _ (List.mem_append_right _ (List.mem_append_right _ (List.mem_append_right _ (List.mem_append_right _ (List.mem_append_right _ (List.mem_append_right _ (List.mem_append_right _ (List.mem_append_right _ (List.mem_append_right _ (List.mem_append_right _ (List.mem_append_right _ (List.mem_append_right _ (List.mem_append_right _ (List.mem_append_right _ (List.mem_append_right _ (List.mem_append_right _ (List.mem_append_right _ (List.mem_append_right _ (List.mem_append_right _ (List.mem_append_right _ (List.mem_append_right _ (List.mem_append_right _ (List.mem_append_right _ (List.mem_append_right _ (List.mem_append_right _ (List.mem_append_right _ (List.mem_append_right _ (List.mem_append_right _ (List.mem_append_right _ (List.mem_append_right _ (List.mem_append_right _ (List.mem_append_right _ (List.mem_append_right _ (List.mem_append_right _ (List.mem_append_right _ (List.mem_append_left _ h))))))))))))))))))))))))))))))))))))))))))))))
theorem zin_r38 : ∀ w ∈ wsL_law_r38, w ∈ zW0 := fun _ h => List.mem_append_left _ (List.mem_append_left _ (List.mem_append_left _ (List.mem_append_left _ (List.mem_append_left _ (List.mem_append_left _ (List.mem_append_left _ (List.mem_append_left _ (List.mem_append_left _ (List.mem_append_left _ (List.mem_append_right _ (List.mem_append_right _ (List.mem_append_right _ (List.mem_append_right _ (List.mem_append_right _ (List.mem_append_right _ (List.mem_append_right _ (List.mem_append_right _ (List.mem_append_right _ (List.mem_append_right _ (List.mem_append_right _ (List.mem_append_right _ (List.mem_append_right _ (List.mem_append_right _ (List.mem_append_right _ (List.mem_append_right _ (List.mem_append_right _ (List.mem_append_right _ (List.mem_append_right _ (List.mem_append_right _ (List.mem_append_right _ (List.mem_append_right _ (List.mem_append_right _ (List.mem_append_right _ (List.mem_append_right _ (List.mem_append_right _ (List.mem_append_right _ (List.mem_append_right _ (List.mem_append_right _ (List.mem_append_right _ (List.mem_append_right _ (List.mem_append_right _ (List.mem_append_right _ (List.mem_append_right _ (List.mem_append_right _ (List.mem_append_right _ (List.mem_append_right _ (List.mem_append_left _ h)))))))))))))))))))))))))))))))))))))))))))))))
theorem zin_r39 : ∀ w ∈ wsL_law_r39, w ∈ zW0 := fun _ h => List.mem_append_left _ (List.mem_append_left _ (List.mem_append_left _ (List.mem_append_left _ (List.mem_append_left _ (List.mem_append_left _ (List.mem_append_left _ (List.mem_append_left _ (List.mem_append_left _ (List.mem_append_left _ (List.mem_append_right _ (List.mem_append_right _ (List.mem_append_right _ (List.mem_append_right _ (List.mem_append_right _ (List.mem_append_right _ (List.mem_append_right _ (List.mem_append_right _ (List.mem_append_right _ (List.mem_append_right _ (List.mem_append_right _ (List.mem_append_right _ (List.mem_append_right _ (List.mem_append_right _ (List.mem_append_right _ (List.mem_append_right _ (List.mem_append_right _ (List.mem_append_right _ (List.mem_append_right _ (List.mem_append_right _ (List.mem_append_right _ (List.mem_append_right _ (List.mem_append_right _ (List.mem_append_right _ (List.mem_append_right _ (List.mem_append_right _ (List.mem_append_right _ (List.mem_append_right _ (List.mem_append_right _ (List.mem_append_right _ (List.mem_append_right _ (List.mem_append_right _ (List.mem_append_right _ (List.mem_append_right _ (List.mem_append_right _ (List.mem_append_right _ (List.mem_append_right _ (List.mem_append_right _ (List.mem_append_left _ h))))))))))))))))))))))))))))))))))))))))))))))))
theorem zin_r40 : ∀ w ∈ wsL_law_r40, w ∈ zW0 := fun _ h => List.mem_append_left _ (List.mem_append_left _ (List.mem_append_left _ (List.mem_append_left _ (List.mem_append_left _ (List.mem_append_left _ (List.mem_append_left _ (List.mem_append_left _ (List.mem_append_left _ (List.mem_append_left _ (List.mem_append_right _ (List.mem_append_right _ (List.mem_append_right _ (List.mem_append_right _ (List.mem_append_right _ (List.mem_append_right _ (List.mem_append_right _ (List.mem_append_right _ (List.mem_append_right _ (List.mem_append_right _ (List.mem_append_right _ (List.mem_append_right _ (List.mem_append_right _ (List.mem_append_right _ (List.mem_append_right _ (List.mem_append_right _ (List.mem_append_right _ (List.mem_append_right _ (List.mem_append_right _ (List.mem_append_right _ (List.mem_append_right _ (List.mem_append_right _ (List.mem_append_right _ (List.mem_append_right _ (List.mem_append_right _ (List.mem_append_right _ (List.mem_append_right _ (List.mem_append_right _ (List.mem_append_right _ (List.mem_append_right _ (List.mem_append_right _ (List.mem_append_right _ (List.mem_append_right _ (List.mem_append_right _ (List.mem_append_right _ (List.mem_append_right _ (List.mem_append_right _ (List.mem_append_right _ (List.mem_append_right _ (List.mem_append_left _ h)))))))))))))))))))))))))))))))))))))))))))))))))
theorem zin_r41 : ∀ w ∈ wsL_law_r41, w ∈ zW0 := fun _ h => List.mem_append_left _ (List.mem_append_left _ (List.mem_append_left _ (List.mem_append_left _ (List.mem_append_left _ (List.mem_append_left _ (List.mem_append_left _ (List.mem_append_left _ (List.mem_append_left _ (List.mem_append_left _ (List.mem_append_right _ (List.mem_append_right _ (List.mem_append_right _ (List.mem_append_right _ (List.mem_append_right _ (List.mem_append_right _ (List.mem_append_right _ (List.mem_append_right _ (List.mem_append_right _ (List.mem_append_right _ (List.mem_append_right _ (List.mem_append_right _ (List.mem_append_right _ (List.mem_append_right _ (List.mem_append_right _ (List.mem_append_right _ (List.mem_append_right _ (List.mem_append_right _ (List.mem_append_right _ (List.mem_append_right _ (List.mem_append_right _ (List.mem_append_right _ (List.mem_append_right _ (List.mem_append_right _ (List.mem_append_right _ (List.mem_append_right _ (List.mem_append_right _ (List.mem_append_right _ (List.mem_append_right _ (List.mem_append_right _ (List.mem_append_right _ (List.mem_append_right _ (List.mem_append_right _ (List.mem_append_right _ (List.mem_append_right _ (List.mem_append_right _ (List.mem_append_right _ (List.mem_append_right _ (List.mem_append_right _ (List.mem_append_right _ (List.mem_append_left _ h))))))))))))))))))))))))))))))))))))))))))))))))))
theorem zin_r42 : ∀ w ∈ wsL_law_r42, w ∈ zW0 := fun _ h => List.mem_append_left _ (List.mem_append_left _ (List.mem_append_left _ (List.mem_append_left _ (List.mem_append_left _ (List.mem_append_left _ (List.mem_append_left _ (List.mem_append_left _ (List.mem_append_left _ (List.mem_append_left _ (List.mem_append_right _ (List.mem_append_right _ (List.mem_append_right _ (List.mem_append_right _ (List.mem_append_right _ (List.mem_append_right _ (List.mem_append_right _ (List.mem_append_right _ (List.mem_append_right _ (List.mem_append_right _ (List.mem_append_right _ (List.mem_append_right _ (List.mem_append_right _ (List.mem_append_right _ (List.mem_append_right _ (List.mem_append_right _ (List.mem_append_right _ (List.mem_append_right _ (List.mem_append_right _ (List.mem_append_right _ (List.mem_append_right _ (List.mem_append_right _ (List.mem_append_right _ (List.mem_append_right _ (List.mem_append_right _ (List.mem_append_right _ (List.mem_append_right _ (List.mem_append_right _ (List.mem_append_right _ (List.mem_append_right _ (List.mem_append_right _ (List.mem_append_right _ (List.mem_append_right _ (List.mem_append_right _ (List.mem_append_right _ (List.mem_append_right _ (List.mem_append_right _ (List.mem_append_right _ (List.mem_append_right _ (List.mem_append_right _ (List.mem_append_right _ (List.mem_append_left _ h)))))))))))))))))))))))))))))))))))))))))))))))))))
theorem zin_r43 : ∀ w ∈ wsL_law_r43, w ∈ zW0 := fun _ h => List.mem_append_left _ (List.mem_append_left _ (List.mem_append_left _ (List.mem_append_left _ (List.mem_append_left _ (List.mem_append_left _ (List.mem_append_left _ (List.mem_append_left _ (List.mem_append_left _ (List.mem_append_left _ (List.mem_append_right _ (List.mem_append_right _ (List.mem_append_right _ (List.mem_append_right _ (List.mem_append_right _ (List.mem_append_right _ (List.mem_append_right _ (List.mem_append_right _ (List.mem_append_right _ (List.mem_append_right _ (List.mem_append_right _ (List.mem_append_right _ (List.mem_append_right _ (List.mem_append_right _ (List.mem_append_right _ (List.mem_append_right _ (List.mem_append_right _ (List.mem_append_right _ (List.mem_append_right _ (List.mem_append_right _ (List.mem_append_right _ (List.mem_append_right _ (List.mem_append_right _ (List.mem_append_right _ (List.mem_append_right _ (List.mem_append_right _ (List.mem_append_right _ (List.mem_append_right _ (List.mem_append_right _ (List.mem_append_right _ (List.mem_append_right _ (List.mem_append_right _ (List.mem_append_right _ (List.mem_append_right _ (List.mem_append_right _ (List.mem_append_right _ (List.mem_append_right _ (List.mem_append_right _ (List.mem_append_right _ (List.mem_append_right _ (List.mem_append_right _ (List.mem_append_right _ (List.mem_append_left _ h))))))))))))))))))))))))))))))))))))))))))))))))))))
theorem zin_r44 : ∀ w ∈ wsL_law_r44, w ∈ zW0 := fun _ h => List.mem_append_left _ (List.mem_append_left _ (List.mem_append_left _ (List.mem_append_left _ (List.mem_append_left _ (List.mem_append_left _ (List.mem_append_left _ (List.mem_append_left _ (List.mem_append_left _ (List.mem_append_left _ (List.mem_append_right _ (List.mem_append_right _ (List.mem_append_right _ (List.mem_append_right _ (List.mem_append_right _ (List.mem_append_right _ (List.mem_append_right _ (List.mem_append_right _ (List.mem_append_right _ (List.mem_append_right _ (List.mem_append_right _ (List.mem_append_right _ (List.mem_append_right _ (List.mem_append_right _ (List.mem_append_right _ (List.mem_append_right _ (List.mem_append_right _ (List.mem_append_right _ (List.mem_append_right _ (List.mem_append_right _ (List.mem_append_right _ (List.mem_append_right _ (List.mem_append_right _ (List.mem_append_right _ (List.mem_append_right _ (List.mem_append_right _ (List.mem_append_right _ (List.mem_append_right _ (List.mem_append_right _ (List.mem_append_right _ (List.mem_append_right _ (List.mem_append_right _ (List.mem_append_right _ (List.mem_append_right _ (List.mem_append_right _ (List.mem_append_right _ (List.mem_append_right _ (List.mem_append_right _ (List.mem_append_right _ (List.mem_append_right _ (List.mem_append_right _ (List.mem_append_right _ (List.mem_append_right _ (List.mem_append_left _ h)))))))))))))))))))))))))))))))))))))))))))))))))))))
theorem zin_r45 : ∀ w ∈ wsL_law_r45, w ∈ zW0 := fun _ h => List.mem_append_left _ (List.mem_append_left _ (List.mem_append_left _ (List.mem_append_left _ (List.mem_append_left _ (List.mem_append_left _ (List.mem_append_left _ (List.mem_append_left _ (List.mem_append_left _ (List.mem_append_left _ (List.mem_append_right _ (List.mem_append_right _ (List.mem_append_right _ (List.mem_append_right _ (List.mem_append_right _ (List.mem_append_right _ (List.mem_append_right _ (List.mem_append_right _ (List.mem_append_right _ (List.mem_append_right _ (List.mem_append_right _ (List.mem_append_right _ (List.mem_append_right _ (List.mem_append_right _ (List.mem_append_right _ (List.mem_append_right _ (List.mem_append_right _ (List.mem_append_right _ (List.mem_append_right _ (List.mem_append_right _ (List.mem_append_right _ (List.mem_append_right _ (List.mem_append_right _ (List.mem_append_right _ (List.mem_append_right _ (List.mem_append_right _ (List.mem_append_right _ (List.mem_append_right _ (List.mem_append_right _ (List.mem_append_right _ (List.mem_append_right _ (List.mem_append_right _ (List.mem_append_right _ (List.mem_append_right _ (List.mem_append_right _ (List.mem_append_right _ (List.mem_append_right _ (List.mem_append_right _ (List.mem_append_right _ (List.mem_append_right _ (List.mem_append_right _ (List.mem_append_right _ (List.mem_append_right _ (List.mem_append_right _ (h))))))))))))))))))))))))))))))))))))))))))))))))))))))
theorem zgood_of {ws : List Cond} (h : ws.all goodWord = true) : ∀ w ∈ ws, (w.onTables && w.keeps) = true ∨ ∃ ty, w = .arrayClass ty := fun w hw => good_of_word (List.all_eq_true.mp h w hw)
theorem zgd_r1 : wsL_law_r1.all goodWord = true := by decide +kernel
theorem zgd_r2 : wsL_law_r2.all goodWord = true := by decide +kernel
theorem zgd_r3 : wsL_law_r3.all goodWord = true := by decide +kernel
theorem zgd_r4 : wsL_law_r4.all goodWord = true := by decide +kernel
theorem zgd_r5 : wsL_law_r5.all goodWord = true := by decide +kernel
theorem zgd_r6 : wsL_law_r6.all goodWord = true := by decide +kernel
theorem zgd_r7 : wsL_law_r7.all goodWord = true := by decide +kernel
theorem zgd_r8 : wsL_law_r8.all goodWord = true := by decide +kernel
theorem zgd_r9 : wsL_law_r9.all goodWord = true := by decide +kernel
theorem zgd_r10 : wsL_law_r10.all goodWord = true := by decide +kernel
theorem zgd_r11 : wsL_law_r11.all goodWord = true := by decide +kernel
theorem zgd_r12 : wsL_law_r12.all goodWord = true := by decide +kernel
theorem zgd_r13 : wsL_law_r13.all goodWord = true := by decide +kernel
theorem zgd_r14 : wsL_law_r14.all goodWord = true := by decide +kernel
theorem zgd_r15 : wsL_law_r15.all goodWord = true := by decide +kernel
theorem zgd_r16 : wsL_law_r16.all goodWord = true := by decide +kernel
theorem zgd_r17 : wsL_law_r17.all goodWord = true := by decide +kernel
theorem zgd_r18 : wsL_law_r18.all goodWord = true := by decide +kernel
theorem zgd_r19 : wsL_law_r19.all goodWord = true := by decide +kernel
theorem zgd_r20 : wsL_law_r20.all goodWord = true := by decide +kernel
theorem zgd_r21 : wsL_law_r21.all goodWord = true := by decide +kernel
theorem zgd_r22 : wsL_law_r22.all goodWord = true := by decide +kernel
theorem zgd_r23 : wsL_law_r23.all goodWord = true := by decide +kernel
theorem zgd_r24 : wsL_law_r24.all goodWord = true := by decide +kernel
theorem zgd_r25 : wsL_law_r25.all goodWord = true := by decide +kernel
theorem zgd_r26 : wsL_law_r26.all goodWord = true := by decide +kernel
theorem zgd_r27 : wsL_law_r27.all goodWord = true := by decide +kernel
theorem zgd_r28 : wsL_law_r28.all goodWord = true := by decide +kernel
theorem zgd_r29 : wsL_law_r29.all goodWord = true := by decide +kernel
theorem zgd_r30 : wsL_law_r30.all goodWord = true := by decide +kernel
theorem zgd_r31 : wsL_law_r31.all goodWord = true := by decide +kernel
theorem zgd_r32 : wsL_law_r32.all goodWord = true := by decide +kernel
theorem zgd_r33 : wsL_law_r33.all goodWord = true := by decide +kernel
theorem zgd_r34 : wsL_law_r34.all goodWord = true := by decide +kernel
theorem zgd_r35 : wsL_law_r35.all goodWord = true := by decide +kernel
theorem zgd_r36 : wsL_law_r36.all goodWord = true := by decide +kernel
theorem zgd_r37 : wsL_law_r37.all goodWord = true := by decide +kernel
theorem zgd_r38 : wsL_law_r38.all goodWord = true := by decide +kernel
theorem zgd_r39 : wsL_law_r39.all goodWord = true := by decide +kernel
theorem zgd_r40 : wsL_law_r40.all goodWord = true := by decide +kernel
theorem zgd_r41 : wsL_law_r41.all goodWord = true := by decide +kernel
theorem zgd_r42 : wsL_law_r42.all goodWord = true := by decide +kernel
theorem zgd_r43 : wsL_law_r43.all goodWord = true := by decide +kernel
theorem zgd_r44 : wsL_law_r44.all goodWord = true := by decide +kernel
theorem zgd_r45 : wsL_law_r45.all goodWord = true := by decide +kernel
theorem zgd_X7 : wsX70.all goodWord = true := by decide +kernel
theorem zgd_X8 : wsX80.all goodWord = true := by decide +kernel
theorem zgd_X0 : wsX00.all goodWord = true := by decide +kernel
theorem zgd_X1 : wsX10.all goodWord = true := by decide +kernel
theorem zgd_X3 : wsX30.all goodWord = true := by decide +kernel
theorem zgd_X5 : wsX50.all goodWord = true := by decide +kernel
theorem zgd_X4 : wsX40.all goodWord = true := by decide +kernel
theorem zgd_X2 : wsX20.all goodWord = true := by decide +kernel
theorem zgd_X6 : wsX60.all goodWord = true := by decide +kernel
theorem zall_app {a b : List Cond} (ha : a.all goodWord = true) (hb : b.all goodWord = true) : (a ++ b).all goodWord = true := by rw [List.all_append, ha, hb]; rfl
theorem zgd_all : zW0.all goodWord = true := zall_app (zall_app (zall_app (zall_app (zall_app (zall_app (zall_app (zall_app (zall_app (zall_app (zall_app zgd_r1 (zall_app zgd_r2 (zall_app zgd_r3 (zall_app zgd_r4 (zall_app zgd_r5 (zall_app zgd_r6 (zall_app zgd_r7 (zall_app zgd_r8 (zall_app zgd_r9 (zall_app zgd_r10 (zall_app zgd_r11 (zall_app zgd_r12 (zall_app zgd_r13 (zall_app zgd_r14 (zall_app zgd_r15 (zall_app zgd_r16 (zall_app zgd_r17 (zall_app zgd_r18 (zall_app zgd_r19 (zall_app zgd_r20 (zall_app zgd_r21 (zall_app zgd_r22 (zall_app zgd_r23 (zall_app zgd_r24 (zall_app zgd_r25 (zall_app zgd_r26 (zall_app zgd_r27 (zall_app zgd_r28 (zall_app zgd_r29 (zall_app zgd_r30 (zall_app zgd_r31 (zall_app zgd_r32 (zall_app zgd_r33 (zall_app zgd_r34 (zall_app zgd_r35 (zall_app zgd_r36 (zall_app zgd_r37 (zall_app zgd_r38 (zall_app zgd_r39 (zall_app zgd_r40 (zall_app zgd_r41 (zall_app zgd_r42 (zall_app zgd_r43 (zall_app zgd_r44 (zgd_r45))))))))))))))))))))))))))))))))))))))))))))) zgd_X7) zgd_X8) zgd_X0) zgd_X1) zgd_X3) zgd_X5) zgd_X4) zgd_X2) zgd_X6) rfl
theorem zW0_good : ∀ w ∈ zW0, w ∈ zW0 ∧ ((w.onTables && w.keeps) = true ∨ ∃ ty, w = .arrayClass ty) := fun w h => ⟨h, zgood_of zgd_all w h⟩
theorem zgood1 {w : Cond} (h : w ∈ zW0) : GoodIn zW0 (w :: zW0) := fun v hv => (List.mem_cons.mp hv).elim (fun e => by rw [e]; exact zW0_good w h) (zW0_good v)
end
section
/-! ===== the shallow words: a guard, a call's answer, a name ===== -/
abbrev zM : Type := Nat → Nat → Int32
def zst (M : zM) (q k : Nat) (v : Int32) : zM := fun j => if j = q then upd (M q) k v else M j
def zup (M : zM) (q : Nat) (f : Nat → Int32) : zM := fun j => if j = q then f else M j
def zgd {β : Type} (c : Prop) [Decidable c] (k : Option β) : Option β := if c then none else k
def zbi {α β : Type} (x : Option (α × zM)) (k : α → zM → Option β) : Option β := match x with
  | none => none
  | some q => k q.1 q.2
def zbv {β : Type} (x : Option zM) (k : zM → Option β) : Option β := match x with
  | none => none
  | some q => k q
def zlt {α β : Type} (x : α) (k : α → β) : β := k x
def zF : Nat := 1000
theorem zgd_e {β : Type} {c : Prop} [Decidable c] {k : Option β} {z : β} (h : zgd c k = some z) : ¬ c ∧ k = some z := by
  unfold zgd at h
  by_cases hc : c
  · rw [if_pos hc] at h
    cases h
  · rw [if_neg hc] at h
    exact ⟨hc, h⟩
theorem zbi_e {α β : Type} {x : Option (α × zM)} {k : α → zM → Option β} {z : β} (h : zbi x k = some z) : ∃ (r : α) (M : zM), x = some (r, M) ∧ k r M = some z := by
  match x, h with
  | some q, h => exact ⟨q.1, q.2, rfl, h⟩
theorem zbv_e {β : Type} {x : Option zM} {k : zM → Option β} {z : β} (h : zbv x k = some z) : ∃ (M : zM), x = some M ∧ k M = some z := by
  match x, h with
  | some q, h => exact ⟨q, rfl, h⟩
theorem zlt_s {α β : Type} {x y : α} {k : α → β} {z : β} (e : y = x) (h : zlt x k = z) : k y = z := by
  rw [e]
  exact h
theorem zif_t {β : Type} {c : Prop} [Decidable c] {a b z : β} (hc : c) (h : (if c then a else b) = z) : a = z := (if_pos hc).symm.trans h
theorem zif_f {β : Type} {c : Prop} [Decidable c] {a b z : β} (hc : ¬ c) (h : (if c then a else b) = z) : b = z := (if_neg hc).symm.trans h
/-! ===== the fixed heap: numbered cells ===== -/
def zshB (cy : Nat → ClassId) (a : Nat → Nat) (b o : Nat) (f : Nat → Int32) : va_E := match o with
  | 0 => .inr (0, [.ref (a (b + 1)), .ref (a (b + 2)), .ref (a (b + 3)), .ref (a (b + 4)), .ref (a (b + 5)), .ref (a (b + 16)), .ref (a (b + 19)), .ref (a (b + 6)), .ref (a (b + 7)), .int (f 9), .int (f 10), .int (f 11), .int (f 12), .int (f 13), .int (f 14)])
  | 1 => .inl (cy 0, 24, .inl f)
  | 2 => .inl (cy 0, 12, .inl f)
  | 3 => .inl (cy 0, 5, .inl f)
  | 4 => .inl (cy 0, 5, .inl f)
  | 5 => .inl (cy 2, 8, .inr (.inr (.inr (.inr (fun i => if i < 8 then some (a (b + 8 + i)) else none)))))
  | 6 => .inl (cy 0, 4, .inl f)
  | 7 => .inl (cy 0, 12, .inl f)
  | 16 => .inr (2, [.ref (a (b + 17)), .ref (a (b + 18)), .int (f 2)])
  | 17 => .inl (cy 0, 60, .inl f)
  | 18 => .inl (cy 0, 60, .inl f)
  | 19 => .inr (2, [.ref (a (b + 20)), .ref (a (b + 21)), .int (f 2)])
  | 20 => .inl (cy 0, 60, .inl f)
  | 21 => .inl (cy 0, 60, .inl f)
  | _ => .inr (6, [.int (f 0), .int (f 1), .int (f 2), .int (f 3), .int (f 4), .int (f 5), .int (f 6), .int (f 7), .int (f 8)])
def zshR (cy : Nat → ClassId) (a : Nat → Nat) (q : Nat) (f : Nat → Int32) : va_E := match q with
  | 0 => .inr (8, [.ref (a 88), .ref (a 89), .ref (a 90), .int (f 3), .ref (a 91), .int (f 5), .int (f 6), .int (f 7), .int (f 8), .ref (a 92), .ref (a 93), .ref (a 94), .ref (a 95), .ref (a 96), .int (f 14), .int (f 15), .ref (a 97), .int (f 17), .int (f 18), .ref (a 98), .int (f 20), .int (f 21), .int (f 22), .ref (a 99), .ref (a 100), .ref (a 101), .ref (a 102)])
  | 1 => .inl (cy 0, 449, .inl f)
  | 2 => .inl (cy 0, 449, .inl f)
  | 3 => .inl (cy 0, 449, .inl f)
  | 4 => .inl (cy 0, 7, .inl f)
  | 5 => .inl (cy 0, 124, .inl f)
  | 6 => .inl (cy 0, 128, .inl f)
  | 7 => .inl (cy 0, 64, .inl f)
  | 8 => .inl (cy 0, 13, .inl f)
  | 9 => .inl (cy 0, 9, .inl f)
  | 10 => .inl (cy 0, 9, .inl f)
  | 11 => .inl (cy 0, 30, .inl f)
  | 12 => .inl (cy 0, 4, .inl f)
  | 13 => .inl (cy 0, 4, .inl f)
  | 14 => .inl (cy 0, 96, .inl f)
  | _ => .inl (cy 0, 24, .inl f)
def zshO (cy : Nat → ClassId) (a : Nat → Nat) (q : Nat) (f : Nat → Int32) : va_E := match q with
  | 0 => .inr (1, [.ref (a 68), .ref (a 69), .int (f 2), .int (f 3)])
  | 1 => .inl (cy 1, 60, .inl f)
  | 2 => .inl (cy 0, 24, .inl f)
  | 3 => .inr (1, [.ref (a 71), .ref (a 72), .int (f 2), .int (f 3)])
  | 4 => .inl (cy 1, 60, .inl f)
  | 5 => .inl (cy 0, 24, .inl f)
  | 6 => .inr (3, [.ref (a 74), .ref (a 75), .int (f 2), .int (f 3), .int (f 4), .int (f 5), .int (f 6), .int (f 7)])
  | 7 => .inl (cy 0, 60, .inl f)
  | 8 => .inl (cy 0, 60, .inl f)
  | 9 => .inr (5, [.ref (a 77), .int (f 1), .int (f 2), .int (f 3), .int (f 4), .int (f 5)])
  | 10 => .inl (cy 0, 30, .inl f)
  | 11 => .inr (4, [.ref (a 79), .ref (a 80), .ref (a 81)])
  | 12 => .inl (cy 3, 4, .inr (.inr (.inr (.inr (fun i => if i < 4 then some (a (82 + i)) else none)))))
  | 13 => .inl (cy 0, 4, .inl f)
  | 14 => .inl (cy 0, 4, .inl f)
  | 19 => .inl (cy 0, 7, .inl f)
  | _ => .inl (cy 0, 24, .inl f)
def zsh (cy : Nat → ClassId) (a : Nat → Nat) (q : Nat) (f : Nat → Int32) : va_E :=
  if q = 0 then .inr (7, [.ref (a 1), .ref (a 23), .ref (a 45), .ref (a 67), .ref (a 70), .ref (a 73), .ref (a 76), .ref (a 78), .ref (a 86), .int (f 9)])
  else if q < 67 then zshB cy a (1 + 22 * ((q - 1) / 22)) ((q - 1) % 22) f
  else if q < 87 then zshO cy a (q - 67) f
  else zshR cy a (q - 87) f
def zwC (cy : Nat → ClassId) (a : Nat → Nat) (M : zM) : va_W := (List.range 103).map (fun q => (a q, zsh cy a q (M q)))
theorem zwC_at {cy : Nat → ClassId} {a : Nat → Nat} {M : zM} {q : Nat} (h : q < 103) : (zwC cy a M)[q]? = some (a q, zsh cy a q (M q)) := by
  simp [zwC, h]
theorem zwC_set {cy : Nat → ClassId} {a : Nat → Nat} {M : zM} {q : Nat} {f : Nat → Int32} : (zwC cy a M).set q (a q, zsh cy a q f) = zwC cy a (zup M q f) := by
  apply List.ext_getElem?
  intro i
  rw [List.getElem?_set]
  by_cases hi : i < 103
  · by_cases hq : q = i
    · subst hq
      simp [zwC, zup, hi]
    · rw [if_neg hq, zwC_at hi, zwC_at hi]
      simp [zup, show ¬ i = q from fun e => hq e.symm]
  · by_cases hq : q = i
    · subst hq
      simp [zwC, hi]
    · rw [if_neg hq]
      simp [zwC, hi]
/-- the kinds of cells -/
def zX0 (q : Nat) : Prop := q = 1 ∨ q = 23 ∨ q = 45
def zX1 (q : Nat) : Prop := q = 67 ∨ q = 70
def zX2 (q : Nat) : Prop := q = 17 ∨ q = 20 ∨ q = 39 ∨ q = 42 ∨ q = 61 ∨ q = 64
def zX3 (q : Nat) : Prop := q = 73
def zX4 (q : Nat) : Prop := q = 78
def zX5 (q : Nat) : Prop := q = 76
def zX6 (q : Nat) : Prop := (∃ i, i < 8 ∧ q = 9 + i) ∨ (∃ i, i < 8 ∧ q = 31 + i) ∨ (∃ i, i < 8 ∧ q = 53 + i)
def zX7 (q : Nat) : Prop := q = 0
def zX8 (q : Nat) : Prop := q = 87
def zI (q n : Nat) : Prop := q < 103 ∧ ∀ (cy : Nat → ClassId) (a : Nat → Nat) (f : Nat → Int32), zsh cy a q f = .inl (cy 0, n, .inl f)
def zB (q n : Nat) : Prop := q < 103 ∧ ∀ (cy : Nat → ClassId) (a : Nat → Nat) (f : Nat → Int32), zsh cy a q f = .inl (cy 1, n, .inl f)
def zRW (q b : Nat) : Prop := q < 103 ∧ (∀ i, i < 8 → zX6 (b + i)) ∧ ∀ (cy : Nat → ClassId) (a : Nat → Nat) (f : Nat → Int32), zsh cy a q f = .inl (cy 2, 8, .inr (.inr (.inr (.inr (fun i => if i < 8 then some (a (b + i)) else none)))))
theorem zX0_lt {q : Nat} (h : zX0 q) : q < 103 := by unfold zX0 at h; omega
theorem zX1_lt {q : Nat} (h : zX1 q) : q < 103 := by unfold zX1 at h; omega
theorem zX2_lt {q : Nat} (h : zX2 q) : q < 103 := by unfold zX2 at h; omega
theorem zX3_lt {q : Nat} (h : zX3 q) : q < 103 := by unfold zX3 at h; omega
theorem zX4_lt {q : Nat} (h : zX4 q) : q < 103 := by unfold zX4 at h; omega
theorem zX5_lt {q : Nat} (h : zX5 q) : q < 103 := by unfold zX5 at h; omega
theorem zX6_lt {q : Nat} (h : zX6 q) : q < 103 := by
  rcases h with ⟨i, hi, e⟩ | ⟨i, hi, e⟩ | ⟨i, hi, e⟩ <;> omega
theorem zX7_lt {q : Nat} (h : zX7 q) : q < 103 := by unfold zX7 at h; omega
theorem zX8_lt {q : Nat} (h : zX8 q) : q < 103 := by unfold zX8 at h; omega
theorem zS0 {q : Nat} (h : zX0 q) (cy : Nat → ClassId) (a : Nat → Nat) (f : Nat → Int32) : zsh cy a q f = .inr (0, [.ref (a (q + 1)), .ref (a (q + 2)), .ref (a (q + 3)), .ref (a (q + 4)), .ref (a (q + 5)), .ref (a (q + 16)), .ref (a (q + 19)), .ref (a (q + 6)), .ref (a (q + 7)), .int (f 9), .int (f 10), .int (f 11), .int (f 12), .int (f 13), .int (f 14)]) := by
  rcases h with rfl | rfl | rfl <;> rfl
theorem zS1 {q : Nat} (h : zX1 q) (cy : Nat → ClassId) (a : Nat → Nat) (f : Nat → Int32) : zsh cy a q f = .inr (1, [.ref (a (q + 1)), .ref (a (q + 2)), .int (f 2), .int (f 3)]) := by
  rcases h with rfl | rfl <;> rfl
theorem zS2 {q : Nat} (h : zX2 q) (cy : Nat → ClassId) (a : Nat → Nat) (f : Nat → Int32) : zsh cy a q f = .inr (2, [.ref (a (q + 1)), .ref (a (q + 2)), .int (f 2)]) := by
  rcases h with rfl | rfl | rfl | rfl | rfl | rfl <;> rfl
theorem zS3 {q : Nat} (h : zX3 q) (cy : Nat → ClassId) (a : Nat → Nat) (f : Nat → Int32) : zsh cy a q f = .inr (3, [.ref (a (q + 1)), .ref (a (q + 2)), .int (f 2), .int (f 3), .int (f 4), .int (f 5), .int (f 6), .int (f 7)]) := by
  cases h
  rfl
theorem zS4 {q : Nat} (h : zX4 q) (cy : Nat → ClassId) (a : Nat → Nat) (f : Nat → Int32) : zsh cy a q f = .inr (4, [.ref (a (q + 1)), .ref (a (q + 2)), .ref (a (q + 3))]) := by
  cases h
  rfl
theorem zS5 {q : Nat} (h : zX5 q) (cy : Nat → ClassId) (a : Nat → Nat) (f : Nat → Int32) : zsh cy a q f = .inr (5, [.ref (a (q + 1)), .int (f 1), .int (f 2), .int (f 3), .int (f 4), .int (f 5)]) := by
  cases h
  rfl
theorem zS6 {q : Nat} (h : zX6 q) (cy : Nat → ClassId) (a : Nat → Nat) (f : Nat → Int32) : zsh cy a q f = .inr (6, [.int (f 0), .int (f 1), .int (f 2), .int (f 3), .int (f 4), .int (f 5), .int (f 6), .int (f 7), .int (f 8)]) := by
  rcases h with ⟨i, hi, e⟩ | ⟨i, hi, e⟩ | ⟨i, hi, e⟩ <;> subst e <;> match i, hi with
    | 0, _ => rfl
    | 1, _ => rfl
    | 2, _ => rfl
    | 3, _ => rfl
    | 4, _ => rfl
    | 5, _ => rfl
    | 6, _ => rfl
    | 7, _ => rfl
theorem zS7 {q : Nat} (h : zX7 q) (cy : Nat → ClassId) (a : Nat → Nat) (f : Nat → Int32) : zsh cy a q f = .inr (7, [.ref (a 1), .ref (a 23), .ref (a 45), .ref (a 67), .ref (a 70), .ref (a 73), .ref (a 76), .ref (a 78), .ref (a 86), .int (f 9)]) := by
  cases h
  rfl
theorem zS8 {q : Nat} (h : zX8 q) (cy : Nat → ClassId) (a : Nat → Nat) (f : Nat → Int32) : zsh cy a q f = .inr (8, [.ref (a 88), .ref (a 89), .ref (a 90), .int (f 3), .ref (a 91), .int (f 5), .int (f 6), .int (f 7), .int (f 8), .ref (a 92), .ref (a 93), .ref (a 94), .ref (a 95), .ref (a 96), .int (f 14), .int (f 15), .ref (a 97), .int (f 17), .int (f 18), .ref (a 98), .int (f 20), .int (f 21), .int (f 22), .ref (a 99), .ref (a 100), .ref (a 101), .ref (a 102)]) := by
  cases h
  rfl
theorem zI_0_1 {q : Nat} (h : zX0 q) : zI (q + 1) 24 := by
  rcases h with rfl | rfl | rfl <;> exact ⟨by omega, fun _ _ _ => rfl⟩
theorem zI_0_2 {q : Nat} (h : zX0 q) : zI (q + 2) 12 := by
  rcases h with rfl | rfl | rfl <;> exact ⟨by omega, fun _ _ _ => rfl⟩
theorem zI_0_3 {q : Nat} (h : zX0 q) : zI (q + 3) 5 := by
  rcases h with rfl | rfl | rfl <;> exact ⟨by omega, fun _ _ _ => rfl⟩
theorem zI_0_4 {q : Nat} (h : zX0 q) : zI (q + 4) 5 := by
  rcases h with rfl | rfl | rfl <;> exact ⟨by omega, fun _ _ _ => rfl⟩
theorem zI_0_6 {q : Nat} (h : zX0 q) : zI (q + 6) 4 := by
  rcases h with rfl | rfl | rfl <;> exact ⟨by omega, fun _ _ _ => rfl⟩
theorem zI_0_7 {q : Nat} (h : zX0 q) : zI (q + 7) 12 := by
  rcases h with rfl | rfl | rfl <;> exact ⟨by omega, fun _ _ _ => rfl⟩
theorem zRW_0_5 {q : Nat} (h : zX0 q) : zRW (q + 5) (q + 8) := by
  rcases h with rfl | rfl | rfl
  · exact ⟨by omega, fun i hi => Or.inl ⟨i, hi, rfl⟩, fun _ _ _ => rfl⟩
  · exact ⟨by omega, fun i hi => Or.inr (Or.inl ⟨i, hi, rfl⟩), fun _ _ _ => rfl⟩
  · exact ⟨by omega, fun i hi => Or.inr (Or.inr ⟨i, hi, rfl⟩), fun _ _ _ => rfl⟩
theorem zX2_0_16 {q : Nat} (h : zX0 q) : zX2 (q + 16) := by unfold zX0 at h; unfold zX2; omega
theorem zX2_0_19 {q : Nat} (h : zX0 q) : zX2 (q + 19) := by unfold zX0 at h; unfold zX2; omega
theorem zB_1_1 {q : Nat} (h : zX1 q) : zB (q + 1) 60 := by
  rcases h with rfl | rfl <;> exact ⟨by omega, fun _ _ _ => rfl⟩
theorem zI_1_2 {q : Nat} (h : zX1 q) : zI (q + 2) 24 := by
  rcases h with rfl | rfl <;> exact ⟨by omega, fun _ _ _ => rfl⟩
theorem zI_2_1 {q : Nat} (h : zX2 q) : zI (q + 1) 60 := by
  rcases h with rfl | rfl | rfl | rfl | rfl | rfl <;> exact ⟨by omega, fun _ _ _ => rfl⟩
theorem zI_2_2 {q : Nat} (h : zX2 q) : zI (q + 2) 60 := by
  rcases h with rfl | rfl | rfl | rfl | rfl | rfl <;> exact ⟨by omega, fun _ _ _ => rfl⟩
theorem zI_3_1 {q : Nat} (h : zX3 q) : zI (q + 1) 60 := by
  cases h
  exact ⟨by omega, fun _ _ _ => rfl⟩
theorem zI_3_2 {q : Nat} (h : zX3 q) : zI (q + 2) 60 := by
  cases h
  exact ⟨by omega, fun _ _ _ => rfl⟩
theorem zI_4_2 {q : Nat} (h : zX4 q) : zI (q + 2) 4 := by
  cases h
  exact ⟨by omega, fun _ _ _ => rfl⟩
theorem zI_4_3 {q : Nat} (h : zX4 q) : zI (q + 3) 4 := by
  cases h
  exact ⟨by omega, fun _ _ _ => rfl⟩
def zRI (q b : Nat) : Prop := q < 103 ∧ (∀ i, i < 4 → zI (b + i) 24) ∧ ∀ (cy : Nat → ClassId) (a : Nat → Nat) (f : Nat → Int32), zsh cy a q f = .inl (cy 3, 4, .inr (.inr (.inr (.inr (fun i => if i < 4 then some (a (b + i)) else none)))))
theorem zRI_4_1 {q : Nat} (h : zX4 q) : zRI (q + 1) (q + 4) := by
  cases h
  refine ⟨by omega, fun i hi => ?_, fun _ _ _ => rfl⟩
  match i, hi with
  | 0, _ => exact ⟨by omega, fun _ _ _ => rfl⟩
  | 1, _ => exact ⟨by omega, fun _ _ _ => rfl⟩
  | 2, _ => exact ⟨by omega, fun _ _ _ => rfl⟩
  | 3, _ => exact ⟨by omega, fun _ _ _ => rfl⟩
theorem zI_5_1 {q : Nat} (h : zX5 q) : zI (q + 1) 30 := by
  cases h
  exact ⟨by omega, fun _ _ _ => rfl⟩
theorem zI_86 : zI 86 7 := ⟨by omega, fun _ _ _ => rfl⟩
theorem zI_88 : zI 88 449 := ⟨by omega, fun _ _ _ => rfl⟩
theorem zI_89 : zI 89 449 := ⟨by omega, fun _ _ _ => rfl⟩
theorem zI_90 : zI 90 449 := ⟨by omega, fun _ _ _ => rfl⟩
theorem zI_91 : zI 91 7 := ⟨by omega, fun _ _ _ => rfl⟩
theorem zI_92 : zI 92 124 := ⟨by omega, fun _ _ _ => rfl⟩
theorem zI_93 : zI 93 128 := ⟨by omega, fun _ _ _ => rfl⟩
theorem zI_94 : zI 94 64 := ⟨by omega, fun _ _ _ => rfl⟩
theorem zI_95 : zI 95 13 := ⟨by omega, fun _ _ _ => rfl⟩
theorem zI_96 : zI 96 9 := ⟨by omega, fun _ _ _ => rfl⟩
theorem zI_97 : zI 97 9 := ⟨by omega, fun _ _ _ => rfl⟩
theorem zI_98 : zI 98 30 := ⟨by omega, fun _ _ _ => rfl⟩
theorem zI_99 : zI 99 4 := ⟨by omega, fun _ _ _ => rfl⟩
theorem zI_100 : zI 100 4 := ⟨by omega, fun _ _ _ => rfl⟩
theorem zI_101 : zI 101 96 := ⟨by omega, fun _ _ _ => rfl⟩
theorem zI_102 : zI 102 24 := ⟨by omega, fun _ _ _ => rfl⟩
theorem zX0_1 : zX0 1 := Or.inl rfl
theorem zX0_23 : zX0 23 := Or.inr (Or.inl rfl)
theorem zX0_45 : zX0 45 := Or.inr (Or.inr rfl)
theorem zX1_67 : zX1 67 := Or.inl rfl
theorem zX1_70 : zX1 70 := Or.inr rfl
theorem zX3_73 : zX3 73 := rfl
theorem zX5_76 : zX5 76 := rfl
theorem zX4_78 : zX4 78 := rfl
end
section
/-! ===== the world of a method: the fixed heap with the numbers M, the tables, what lies outside ===== -/
def zTY (cy : Nat → ClassId) : List (ClassId × FieldType) := [(cy 0, .int), (cy 1, .byte), (cy 2, .object "WheelBrook$Wheel"), (cy 3, .array .int)]
def zfr (a : Nat → Nat) (sz : Nat) : Nat → Prop := fun q => (∃ k, k < 103 ∧ q = a k) ∨ sz ≤ q
def zABOVE (j : Nat) : Int32 := ([0, 0, 0, 0, 1, 3, 0] : List Int32).getD j 0
def zMSET (j : Nat) : Int32 := ([6, 9, 11, 4, 1, 999999] : List Int32).getD j 0
def zBODY (j : Nat) : Int32 := ([10, 11, 12, 13, 20, 0, 0, 21, 0, 30, 0, 0, 0, 0, 40, 0, 50, 0, 51, 0, 0, 60, 0, 0, 70, 71, 0, 0] : List Int32).getD j 0
def zsLen : List Nat := [4, 3]
def zsByt : List (List Int32) := [[102, 112, 104, 109], [116, 99, 109]]
def zST (C n : String) (N : Nat) (f : Nat → Int32) (A : Nat → Prop) (U : State) : Prop := ∃ t, va_Z C n "[I" (.ref t) A U U.heap ∧ va_T .int t N (fun j => .int (f j)) A U U.heap
def zSTR (A : Nat → Prop) (U : State) : Prop := va_Z "java/lang/String" "COMPACT_STRINGS" "Z" (.int 1) A U U.heap ∧ ∃ adK adV : Nat → Nat, vk_S 2 zsLen zsByt adK adV A U U.heap ∧ vk_R RX3 62 "fphm" (adK 0) U ∧ vk_R RX3 64 "tcm" (adK 1) U
def zNE (U : State) : Prop := va_Nw (.methodLinkNest RX0 122 yX7_held RX7) U ∧ va_Nw (.fieldLinkNest RX5 39 RX7 "ABOVE" "[I" RX7) U
def zEN (A : Nat → Prop) (U : State) : Prop := zNE U ∧ zST RX7 "ABOVE" 7 zABOVE A U ∧ zST RX7 "MOST_SET" 6 zMSET A U ∧ zST RX5 "BODIES" 28 zBODY A U ∧ zSTR A U
theorem zST.go {C n : String} {N : Nat} {f : Nat → Int32} {A B : Nat → Prop} {s U : State} (h : zST C n N f A s) (hv : s.vm.Alike U.vm) (hq : ∀ a : Nat, a < s.heap.size → ¬ A a → U.heap[a]? = s.heap[a]?) (hAB : ∀ q, B q → A q) : zST C n N f B U := by
  obtain ⟨t, h1, h2⟩ := h
  exact ⟨t, ((h1.kept hq).narrow hAB).moved hv, ((h2.kept hq).narrow hAB).moved hv⟩
theorem zEN.call {A B : Nat → Prop} {s U : State} (h : zEN A s) (hW : s.WarmedH U.vm) (hq : ∀ a : Nat, a < s.heap.size → ¬ A a → U.heap[a]? = s.heap[a]?) (hAB : ∀ q, B q → A q) : zEN B U := by
  obtain ⟨⟨n1, n2⟩, h1, h2, h3, h4, adK, adV, h5, h6, h7⟩ := h
  have hv := hW.alike
  exact ⟨⟨n1.warmM hW, n2.warmF hW⟩, h1.go hv hq hAB, h2.go hv hq hAB, h3.go hv hq hAB, ((h4.kept hq).narrow hAB).moved hv, adK, adV, ((h5.kept hq).narrow hAB).moved hv, h6.warm hW, h7.warm hW⟩
theorem zEN.calling {A : Nat → Prop} {U : State} {g : JFrame} {mk : MethodId} {a : Array Value} (h : zEN A U) : zEN A (U.calling g mk a) := by
  obtain ⟨⟨n1, n2⟩, ⟨t1, h1, h1'⟩, ⟨t2, h2, h2'⟩, ⟨t3, h3, h3'⟩, h4, adK, adV, h5, h6, h7⟩ := h
  have hv : U.vm.Alike (U.calling g mk a).vm := Vm.Alike.refl U.vm
  exact ⟨⟨va_Nw.same rfl rfl n1, va_Nw.same rfl rfl n2⟩, ⟨t1, va_Z.moved hv h1, va_T.moved hv h1'⟩, ⟨t2, va_Z.moved hv h2, va_T.moved hv h2'⟩, ⟨t3, va_Z.moved hv h3, va_T.moved hv h3'⟩, va_Z.moved hv h4, adK, adV, vk_S.moved hv h5, vk_R.same rfl h6, vk_R.same rfl h7⟩
def zPRE (D : va_G) (cy : Nat → ClassId) (a : Nat → Nat) (sz : Nat) (M : zM) (U : State) : Prop := U.heap.size = sz ∧ va_P D vwCl (zwC cy a M) U.heap ∧ va_K D vwCl (zTY cy) U ∧ zEN (zfr a sz) U ∧ va_D (fun _ => True) (zwC cy a M)
def zPST (D : va_G) (cy : Nat → ClassId) (a : Nat → Nat) (sz : Nat) (M : zM) (t : State) : Prop := va_P D vwCl (zwC cy a M) t.heap ∧ va_K D vwCl (zTY cy) t ∧ va_D (zfr a sz) (zwC cy a M)
def zWD (D : va_G) (cy : Nat → ClassId) (a : Nat → Nat) (A : Nat → Prop) (M : zM) (H : Heap) (locs : List Loc) (s : State) : Prop := va_P D vwCl (zwC cy a M) H ∧ va_D A (zwC cy a M) ∧ va_S A s.heap H locs ∧ va_K D vwCl (zTY cy) s ∧ zEN A s ∧ ∀ q, s.heap.size ≤ q → A q
def zRm (f w : Nat) : Room := { frames := f, cells := 0, slots := 0, locals := w }
theorem zblind {D : va_G} {cy : Nat → ClassId} {a : Nat → Nat} {sz : Nat} {M : zM} {As : List Value} : FrameBlind (va_Pc As (zPRE D cy a sz M)) := by
  intro v U g mk h
  obtain ⟨h0, h1, h2, h3, h4, h5⟩ := h
  exact ⟨h0, h1, h2, va_K.moved (u := U) (U := U.calling g mk v) (Vm.Alike.refl U.vm) h3, zEN.calling h4, h5⟩
theorem zD_fr {cy : Nat → ClassId} {a : Nat → Nat} {M : zM} {sz : Nat} {A : Nat → Prop} (h : va_D A (zwC cy a M)) : va_D (zfr a sz) (zwC cy a M) := by
  refine h.weaken (fun k q hk _ => Or.inl ?_)
  have hl : k < 103 := by
    have := (List.getElem?_eq_some_iff.mp hk).1
    simpa [zwC] using this
  rw [zwC_at hl] at hk
  exact ⟨k, hl, by rw [← Option.some.inj hk]⟩
theorem zfr_in {cy : Nat → ClassId} {a : Nat → Nat} {M : zM} {sz : Nat} {A : Nat → Prop} {H0 H : Heap} {locs : List Loc} (hD : va_D A (zwC cy a M)) (hS : va_S A H0 H locs) (hA : ∀ q, H0.size ≤ q → A q) (hs : sz = H.size) : ∀ q, zfr a sz q → A q := by
  intro q h
  rcases h with ⟨k, hk, e⟩ | h
  · rw [e]
    exact hD.2 k _ (zwC_at hk)
  · exact hA q (Nat.le_trans hS.1 (by rw [← hs]; exact h))
/-- a contract: it takes the numbers M to an answer and numbers of the post -/
def zCi (l : Launch) (D : va_G) (cy : Nat → ClassId) (a : Nat → Nat) (y : MethodName) (bytes : ByteArray) (nL : Nat) (ret : Option FieldType) (rm : Room) (As : List Value) (M : zM) (post : Int32 → zM → Prop) : Prop :=
  ∀ sz, Met l y (.code y bytes nL ret :: zW0) rm (va_Pc As (zPRE D cy a sz M)) (va_Qi post (fun u t => zPST D cy a sz u t) (zfr a sz)) 0 0 (zfr a sz)
def zCv (l : Launch) (D : va_G) (cy : Nat → ClassId) (a : Nat → Nat) (y : MethodName) (bytes : ByteArray) (nL : Nat) (rm : Room) (As : List Value) (M : zM) (post : zM → Prop) : Prop :=
  ∀ sz, Met l y (.code y bytes nL none :: zW0) rm (va_Pc As (zPRE D cy a sz M)) (va_Qv post (fun u t => zPST D cy a sz u t) (zfr a sz)) 0 0 (zfr a sz)
def zCr (l : Launch) (D : va_G) (cy : Nat → ClassId) (a : Nat → Nat) (y : MethodName) (bytes : ByteArray) (nL : Nat) (ret : Option FieldType) (rm : Room) (As : List Value) (M : zM) (post : Nat × zM → Prop) : Prop :=
  ∀ sz, Met l y (.code y bytes nL ret :: zW0) rm (va_Pc As (zPRE D cy a sz M)) (va_Qr post (fun u b t => b = a u.1 ∧ zPST D cy a sz u.2 t) (zfr a sz)) 0 0 (zfr a sz)
/-- what holds all through a body -/
def zCX (p : Program) (s : State) (m : MethodId) (meth : Method) (c : Code) (args : Array Value) (cc : ByteArray) (nL : Nat) (ret : Option FieldType) (own : String) : Prop :=
  p.tables.exec = Jvm.exec ∧ c.code = cc ∧ meth.sig.returnType = ret ∧ c.maxLocals = nL ∧ s.vm.findClass own = some m.cls ∧ (∀ w ∈ zW0, w.before args s = true) ∧ meth.locks = false
theorem zentry {l : Launch} {D : va_G} {cy : Nat → ClassId} {a : Nat → Nat} {own nm ds : String} {bytes : ByteArray} {nL : Nat} {ret : Option FieldType} {rm : Room} {As : List Value} {lv : List (Nat × Value)} {M : zM} {Qc : Nat → Array Value → State → Outcome → State → Prop} (sz : Nat) (hy : plainName own = true) (hlen : (lg_sl As).length ≤ nL) (hlv : lv_args 0 As = lv)
    (body : ∀ (p : Program) (e : Env) (s : State) (m : MethodId) (args : Array Value) (below : List Frame) (meth : Method) (c : Code) (ls : Array Slot), zCX p s m meth c args bytes nL ret own → zWD D cy a (zfr a s.heap.size) M s.heap [] s → lv_has ls nL lv →
      W p l e rm s m args below meth c s.heap [] 0 0 (MQ below (Qc s.heap.size) args s 0 0 (zfr a s.heap.size)) (F0 m 0 ls [])) :
    Met l ⟨own, nm, ds⟩ (.code ⟨own, nm, ds⟩ bytes nL ret :: zW0) rm (va_Pc As (zPRE D cy a sz M)) (Qc sz) 0 0 (zfr a sz) := by
  refine Met.ofW (cc := bytes) (maxL := nL) (ret := ret) hy rfl ?_
  intro p e s m args below meth c s₁ B hml hv
  obtain ⟨rfl, hsz, hP, hK, hE, hD0⟩ := hv
  have hts := atoms_spec (ws := .code ⟨own, nm, ds⟩ bytes nL ret :: zW0) B.pre
  have hown : s.vm.findClass own = some m.cls := findClass_of_methodNamed B.named
  subst hsz
  rw [lg_entry_eq]
  exact body p e s m _ below meth c _ ⟨B.exec, B.bytes, B.returns, hml, hown, fun w hw => hts w (List.mem_cons_of_mem _ hw), B.notSynchronized⟩ ⟨hP, zD_fr hD0, va_S.rf, hK, hE, fun q hq => Or.inr hq⟩ (hlv ▸ lv_entry As hlen)
section ZZ
variable {p : Program} {l : Launch} {e : Env} {R : Room} {s : State} {m : MethodId} {args : Array Value} {below : List Frame} {meth : Method} {c : Code} {H : Heap} {locs : List Loc} {cells slots : Nat} {Q : State → Prop}
variable {cc : ByteArray} {pc : Nat} {ls : Array Slot} {rest : List Value} {D : va_G} {cy : Nat → ClassId} {a : Nat → Nat} {A : Nat → Prop} {M : zM} {nL : Nat} {ret : Option FieldType} {own : String}
theorem z_iret {v : Int32} {post : Int32 → zM → Prop} (X : zCX p s m meth c args cc nL (some .int) own) (hw : zWD D cy a (zfr a s.heap.size) M H locs s) (hp : post v M) (hdg : decode cc pc = .ok (.ireturn, 1)) :
    W p l e R s m args below meth c H locs cells slots (MQ below (va_Qi post (fun u t => zPST D cy a s.heap.size u t) (zfr a s.heap.size)) args s cells slots (zfr a s.heap.size)) (F0 m pc ls [.int v]) := by
  obtain ⟨hx, hb, hr, hml, hown, hW, hlocks⟩ := X
  obtain ⟨hP, hD, hS, hK, hE, hA⟩ := hw
  exact W.iret (v := v) hx hb hr (fun t ht hWd => ⟨⟨v, M, rfl, hp, by rw [ht]; exact hP, va_K.moved hWd.alike hK, hD⟩, hS.F ht⟩) hS.2.2 hdg hlocks
theorem z_zret {v : Int32} {post : Int32 → zM → Prop} (X : zCX p s m meth c args cc nL (some .boolean) own) (hw : zWD D cy a (zfr a s.heap.size) M H locs s) (hv : v = 0 ∨ v = 1) (hp : post v M) (hdg : decode cc pc = .ok (.ireturn, 1)) :
    W p l e R s m args below meth c H locs cells slots (MQ below (va_Qi post (fun u t => zPST D cy a s.heap.size u t) (zfr a s.heap.size)) args s cells slots (zfr a s.heap.size)) (F0 m pc ls [.int v]) := by
  obtain ⟨hx, hb, hr, hml, hown, hW, hlocks⟩ := X
  obtain ⟨hP, hD, hS, hK, hE, hA⟩ := hw
  exact W.zret (v := v) (ty := .boolean) hx hb hr (by rcases hv with rfl | rfl <;> rfl) (fun t ht hWd => ⟨⟨v, M, rfl, hp, by rw [ht]; exact hP, va_K.moved hWd.alike hK, hD⟩, hS.F ht⟩) hS.2.2 hdg hlocks
theorem z_vret {post : zM → Prop} (X : zCX p s m meth c args cc nL none own) (hw : zWD D cy a (zfr a s.heap.size) M H locs s) (hp : post M) (hdg : decode cc pc = .ok (.return_, 1)) :
    W p l e R s m args below meth c H locs cells slots (MQ below (va_Qv post (fun u t => zPST D cy a s.heap.size u t) (zfr a s.heap.size)) args s cells slots (zfr a s.heap.size)) (F0 m pc ls []) := by
  obtain ⟨hx, hb, hr, hml, hown, hW, hlocks⟩ := X
  obtain ⟨hP, hD, hS, hK, hE, hA⟩ := hw
  exact W.vret hx hb hr (fun t ht hWd => ⟨⟨M, rfl, hp, by rw [ht]; exact hP, va_K.moved hWd.alike hK, hD⟩, hS.F ht⟩) hS.2.2 hdg hlocks
theorem z_get {ref C : String} {T : u_T} {N ci index q : Nat} (X : zCX p s m meth c args cc nL ret own) (hw : zWD D cy a A M H locs s) (hin : ∀ w ∈ u_ws C T N, w ∈ zW0) (hq : q < 103) {fs : List Value} (hsh : zsh cy a q (M q) = .inr (ci, fs)) (hc : vwCl[ci]? = some (C, T, N)) (k : Nat) (hk : k < N) (hl : Cond.fieldLink own index ref (T k).2.1 (T k).2.2.1 ∈ zW0) (hsame : ∀ x, s.fieldFound? (T k).1 (T k).2.1 (T k).2.2.1 = some x → s.fieldFound? ref (T k).2.1 (T k).2.2.1 = some x) {v : Value} (hv : fs[k]? = some v) (hdg : decode cc pc = .ok (.getfield index, 3))
    (kk : W p l e R s m args below meth c H locs cells slots Q (F0 m (pc + 3) ls (v :: rest))) : W p l e R s m args below meth c H locs cells slots Q (F0 m pc ls (.ref (a q) :: rest)) := by
  obtain ⟨hx, hb, hr, hml, hown, hW, hlocks⟩ := X
  obtain ⟨hP, hD, hS, hK, hE, hA⟩ := hw
  exact va_get hx hb hW hin hown hK hP q ((zwC_at hq).trans (by rw [hsh])) hc k hk (hW _ hl) hsame hv hdg kk
theorem z_put {ref C : String} {T : u_T} {N ci index q : Nat} (X : zCX p s m meth c args cc nL ret own) (hw : zWD D cy a A M H locs s) (hin : ∀ w ∈ u_ws C T N, w ∈ zW0) (ty0 : Nat → FieldType) (hty : ∀ k, k < N → parseFieldDescriptor (T k).2.2.1 = some (ty0 k)) (hnm : ∀ a, a < N → ∀ b, b < N → a ≠ b → (T a).2.1 ≠ (T b).2.1) (hq : q < 103) {fs : List Value} (hsh : zsh cy a q (M q) = .inr (ci, fs)) (hc : vwCl[ci]? = some (C, T, N)) (k : Nat) (hk : k < N) (hl : Cond.fieldLink own index ref (T k).2.1 (T k).2.2.1 ∈ zW0) (hsame : ∀ x, s.fieldFound? (T k).1 (T k).2.1 (T k).2.2.1 = some x → s.fieldFound? ref (T k).2.1 (T k).2.2.1 = some x) (hfin : (T k).2.2.2 = false) {ty : FieldType} {v : Int32} (hd : parseFieldDescriptor (T k).2.2.1 = some ty) (hn : narrow ty (.int v) = .int v) (hfit : fits ty (.int v) = true) (hlen : k < fs.length) (hsh2 : .inr (ci, fs.set k (.int v)) = zsh cy a q (upd (M q) k v))
    (hdg : decode cc pc = .ok (.putfield index, 3)) (kk : ∀ (M1 : zM) (H1 : Heap) (locs1 : List Loc), M1 = zst M q k v → zWD D cy a A M1 H1 locs1 s → W p l e R s m args below meth c H1 locs1 cells slots Q (F0 m (pc + 3) ls rest)) : W p l e R s m args below meth c H locs cells slots Q (F0 m pc ls (.int v :: .ref (a q) :: rest)) := by
  obtain ⟨hx, hb, hr, hml, hown, hW, hlocks⟩ := X
  obtain ⟨hP, hD, hS, hK, hE, hA⟩ := hw
  refine va_put hx hb hW hin ty0 hty hnm hown hK hP hD hS q ((zwC_at hq).trans (by rw [hsh])) hc k hk (hW _ hl) hsame hfin hd hn hfit hlen hdg (fun H1 locs1 hP1 hD1 hS1 => ?_)
  rw [hsh2, zwC_set] at hP1 hD1
  exact kk (zst M q k v) H1 locs1 rfl ⟨hP1, hD1, hS1, hK, hE, hA⟩
theorem z_ald {q n : Nat} (X : zCX p s m meth c args cc nL ret own) (hw : zWD D cy a A M H locs s) (hq : zI q n) {i : Int32} (hi : ¬ (i < 0 ∨ n ≤ i.toNatClampNeg)) (hdg : decode cc pc = .ok (.iaload, 1))
    (kk : W p l e R s m args below meth c H locs cells slots Q (F0 m (pc + 1) ls (.int (M q i.toNatClampNeg) :: rest))) : W p l e R s m args below meth c H locs cells slots Q (F0 m pc ls (.int i :: .ref (a q) :: rest)) := by
  obtain ⟨hx, hb, hr, hml, hown, hW, hlocks⟩ := X
  obtain ⟨hP, hD, hS, hK, hE, hA⟩ := hw
  exact va_iald hx hb hK hP q 0 ((zwC_at hq.1).trans (by rw [hq.2])) rfl hi hdg kk
theorem z_ast {q n : Nat} (X : zCX p s m meth c args cc nL ret own) (hw : zWD D cy a A M H locs s) (hq : zI q n) {i x : Int32} (hi : ¬ (i < 0 ∨ n ≤ i.toNatClampNeg)) (hdg : decode cc pc = .ok (.iastore, 1))
    (kk : ∀ (M1 : zM) (H1 : Heap) (locs1 : List Loc), M1 = zst M q i.toNatClampNeg x → zWD D cy a A M1 H1 locs1 s → W p l e R s m args below meth c H1 locs1 cells slots Q (F0 m (pc + 1) ls rest)) : W p l e R s m args below meth c H locs cells slots Q (F0 m pc ls (.int x :: .int i :: .ref (a q) :: rest)) := by
  obtain ⟨hx, hb, hr, hml, hown, hW, hlocks⟩ := X
  obtain ⟨hP, hD, hS, hK, hE, hA⟩ := hw
  refine va_iast hx hb hK hP hD hS q 0 ((zwC_at hq.1).trans (by rw [hq.2])) rfl hi hdg (fun H1 locs1 hP1 hD1 hS1 => ?_)
  rw [← hq.2 cy a, zwC_set] at hP1 hD1
  exact kk (zst M q i.toNatClampNeg x) H1 locs1 rfl ⟨hP1, hD1, hS1, hK, hE, hA⟩
theorem z_bald {q n : Nat} (X : zCX p s m meth c args cc nL ret own) (hw : zWD D cy a A M H locs s) (hq : zB q n) {i : Int32} (hi : ¬ (i < 0 ∨ n ≤ i.toNatClampNeg)) (hdg : decode cc pc = .ok (.baload, 1))
    (kk : W p l e R s m args below meth c H locs cells slots Q (F0 m (pc + 1) ls (.int (M q i.toNatClampNeg) :: rest))) : W p l e R s m args below meth c H locs cells slots Q (F0 m pc ls (.int i :: .ref (a q) :: rest)) := by
  obtain ⟨hx, hb, hr, hml, hown, hW, hlocks⟩ := X
  obtain ⟨hP, hD, hS, hK, hE, hA⟩ := hw
  exact va_bald hx hb hK hP q 1 ((zwC_at hq.1).trans (by rw [hq.2])) rfl hi hdg kk
theorem z_bast {q n : Nat} (X : zCX p s m meth c args cc nL ret own) (hw : zWD D cy a A M H locs s) (hq : zB q n) {i x : Int32} (hi : ¬ (i < 0 ∨ n ≤ i.toNatClampNeg)) (hdg : decode cc pc = .ok (.bastore, 1))
    (kk : ∀ (M1 : zM) (H1 : Heap) (locs1 : List Loc), M1 = zst M q i.toNatClampNeg (vp_nar .byte x) → zWD D cy a A M1 H1 locs1 s → W p l e R s m args below meth c H1 locs1 cells slots Q (F0 m (pc + 1) ls rest)) : W p l e R s m args below meth c H locs cells slots Q (F0 m pc ls (.int x :: .int i :: .ref (a q) :: rest)) := by
  obtain ⟨hx, hb, hr, hml, hown, hW, hlocks⟩ := X
  obtain ⟨hP, hD, hS, hK, hE, hA⟩ := hw
  refine va_bast hx hb hK hP hD hS q 1 ((zwC_at hq.1).trans (by rw [hq.2])) rfl hi hdg (fun H1 locs1 hP1 hD1 hS1 => ?_)
  rw [← hq.2 cy a, zwC_set] at hP1 hD1
  exact kk (zst M q i.toNatClampNeg (vp_nar .byte x)) H1 locs1 rfl ⟨hP1, hD1, hS1, hK, hE, hA⟩
theorem z_alenI {q n : Nat} {v : Int32} (X : zCX p s m meth c args cc nL ret own) (hw : zWD D cy a A M H locs s) (hq : zI q n) (hv : Int32.ofNat n = v) (hdg : decode cc pc = .ok (.arraylength, 1))
    (kk : W p l e R s m args below meth c H locs cells slots Q (F0 m (pc + 1) ls (.int v :: rest))) : W p l e R s m args below meth c H locs cells slots Q (F0 m pc ls (.ref (a q) :: rest)) := by
  obtain ⟨hx, hb, hr, hml, hown, hW, hlocks⟩ := X
  obtain ⟨hP, hD, hS, hK, hE, hA⟩ := hw
  exact va_alen hx hb hK hP q 0 ((zwC_at hq.1).trans (by rw [hq.2])) rfl hv hdg kk
theorem z_alenB {q n : Nat} {v : Int32} (X : zCX p s m meth c args cc nL ret own) (hw : zWD D cy a A M H locs s) (hq : zB q n) (hv : Int32.ofNat n = v) (hdg : decode cc pc = .ok (.arraylength, 1))
    (kk : W p l e R s m args below meth c H locs cells slots Q (F0 m (pc + 1) ls (.int v :: rest))) : W p l e R s m args below meth c H locs cells slots Q (F0 m pc ls (.ref (a q) :: rest)) := by
  obtain ⟨hx, hb, hr, hml, hown, hW, hlocks⟩ := X
  obtain ⟨hP, hD, hS, hK, hE, hA⟩ := hw
  exact va_alen hx hb hK hP q 1 ((zwC_at hq.1).trans (by rw [hq.2])) rfl hv hdg kk
theorem z_aldW {q b : Nat} (X : zCX p s m meth c args cc nL ret own) (hw : zWD D cy a A M H locs s) (hq : zRW q b) {i : Int32} (hi : ¬ (i < 0 ∨ 8 ≤ i.toNatClampNeg)) (hdg : decode cc pc = .ok (.aaload, 1))
    (kk : ∀ w : Nat, w = b + i.toNatClampNeg → zX6 w → W p l e R s m args below meth c H locs cells slots Q (F0 m (pc + 1) ls (.ref (a w) :: rest))) : W p l e R s m args below meth c H locs cells slots Q (F0 m pc ls (.int i :: .ref (a q) :: rest)) := by
  obtain ⟨hx, hb, hr, hml, hown, hW, hlocks⟩ := X
  obtain ⟨hP, hD, hS, hK, hE, hA⟩ := hw
  have hlt : i.toNatClampNeg < 8 := Nat.not_le.mp fun z => hi (Or.inr z)
  refine va_aldq hx hb hK hP q 2 ((zwC_at hq.1).trans (by rw [hq.2.2])) rfl hi hdg ?_
  rw [if_pos hlt]
  exact kk _ rfl (hq.2.1 _ hlt)
theorem z_aldI {q b : Nat} (X : zCX p s m meth c args cc nL ret own) (hw : zWD D cy a A M H locs s) (hq : zRI q b) {i : Int32} (hi : ¬ (i < 0 ∨ 4 ≤ i.toNatClampNeg)) (hdg : decode cc pc = .ok (.aaload, 1))
    (kk : ∀ w : Nat, w = b + i.toNatClampNeg → zI w 24 → W p l e R s m args below meth c H locs cells slots Q (F0 m (pc + 1) ls (.ref (a w) :: rest))) : W p l e R s m args below meth c H locs cells slots Q (F0 m pc ls (.int i :: .ref (a q) :: rest)) := by
  obtain ⟨hx, hb, hr, hml, hown, hW, hlocks⟩ := X
  obtain ⟨hP, hD, hS, hK, hE, hA⟩ := hw
  have hlt : i.toNatClampNeg < 4 := Nat.not_le.mp fun z => hi (Or.inr z)
  have hc := hP q _ ((zwC_at hq.1).trans (by rw [hq.2.2]))
  refine W.aald (v := va_rf (if i.toNatClampNeg < 4 then some (a (b + i.toNatClampNeg)) else none)) (ty := .array .int) hx hb hc ((hK.2 3 _ rfl).1 4 (fun j => va_rf (if j < 4 then some (a (b + j)) else none))) rfl (fun q => by cases q) (by show ¬ (i < 0 ∨ (arrV _ _ _).slots.size ≤ _); rw [arrV_size]; exact hi) (by show (arrV _ _ _).slots[_]? = _; rw [arrV_read _ _ hlt]) rfl rfl hdg ?_
  rw [if_pos hlt]
  exact kk _ rfl (hq.2.1 _ hlt)
theorem z_tabA {n i : Int32} {N : Nat} {C nm : String} {f : Nat → Int32} {index : Nat} (X : zCX p s m meth c args cc nL ret own) (hw : zWD D cy a A M H locs s) (hZ : zST C nm N f A s) (hl : Cond.fieldLink own index C nm "[I" ∈ zW0) (hdg : decode cc pc = .ok (.getstatic index, 3))
    (kk : ∀ t : Nat, va_T .int t N (fun j => .int (f j)) A s s.heap → W p l e R s m args below meth c H locs cells slots Q (F0 m (pc + 3) ls (.ref t :: rest))) : W p l e R s m args below meth c H locs cells slots Q (F0 m pc ls rest) := by
  obtain ⟨hx, hb, hr, hml, hown, hW, hlocks⟩ := X
  obtain ⟨hP, hD, hS, hK, hE, hA⟩ := hw
  obtain ⟨t, h1, h2⟩ := hZ
  exact va_gets hx hb h1 hS hown (hW _ hl) (fun _ h => h) hdg (kk t h2)
theorem z_tabN {N : Nat} {C nm host : String} {f : Nat → Int32} {index : Nat} (X : zCX p s m meth c args cc nL ret own) (hw : zWD D cy a A M H locs s) (hZ : zST C nm N f A s) (hl : va_Nw (.fieldLinkNest own index C nm "[I" host) s) (hdg : decode cc pc = .ok (.getstatic index, 3))
    (kk : ∀ t : Nat, va_T .int t N (fun j => .int (f j)) A s s.heap → W p l e R s m args below meth c H locs cells slots Q (F0 m (pc + 3) ls (.ref t :: rest))) : W p l e R s m args below meth c H locs cells slots Q (F0 m pc ls rest) := by
  obtain ⟨hx, hb, hr, hml, hown, hW, hlocks⟩ := X
  obtain ⟨hP, hD, hS, hK, hE, hA⟩ := hw
  obtain ⟨t, h1, h2⟩ := hZ
  exact va_getsN hx hb h1 hS hown (va_Nw.use rfl hl) (fun _ h => h) hdg (kk t h2)
theorem z_tald {t N : Nat} {f : Nat → Int32} {i : Int32} (X : zCX p s m meth c args cc nL ret own) (hw : zWD D cy a A M H locs s) (hT : va_T .int t N (fun j => .int (f j)) A s s.heap) (hi : ¬ (i < 0 ∨ N ≤ i.toNatClampNeg)) (hdg : decode cc pc = .ok (.iaload, 1))
    (kk : W p l e R s m args below meth c H locs cells slots Q (F0 m (pc + 1) ls (.int (f i.toNatClampNeg) :: rest))) : W p l e R s m args below meth c H locs cells slots Q (F0 m pc ls (.int i :: .ref t :: rest)) := by
  obtain ⟨hx, hb, hr, hml, hown, hW, hlocks⟩ := X
  obtain ⟨hP, hD, hS, hK, hE, hA⟩ := hw
  exact va_ti hx hb hT hS hi rfl hdg kk
theorem z_tlen {t N : Nat} {f : Nat → Int32} {v : Int32} (X : zCX p s m meth c args cc nL ret own) (hw : zWD D cy a A M H locs s) (hT : va_T .int t N (fun j => .int (f j)) A s s.heap) (hv : Int32.ofNat N = v) (hdg : decode cc pc = .ok (.arraylength, 1))
    (kk : W p l e R s m args below meth c H locs cells slots Q (F0 m (pc + 1) ls (.int v :: rest))) : W p l e R s m args below meth c H locs cells slots Q (F0 m pc ls (.ref t :: rest)) := by
  obtain ⟨hx, hb, hr, hml, hown, hW, hlocks⟩ := X
  obtain ⟨hP, hD, hS, hK, hE, hA⟩ := hw
  exact va_tlen hx hb hT hS hv hdg kk
end ZZ
end
section
section ZC
variable {p : Program} {l : Launch} {e : Env} {R : Room} {s : State} {m : MethodId} {args : Array Value} {below : List Frame} {meth : Method} {c : Code} {H : Heap} {locs : List Loc} {cells slots : Nat} {Q : State → Prop}
variable {cc : ByteArray} {pc : Nat} {ls : Array Slot} {rest st : List Value} {D : va_G} {cy : Nat → ClassId} {a : Nat → Nat} {A : Nat → Prop} {M : zM} {nL : Nat} {ret : Option FieldType} {own : String}
theorem zpreS {As : List Value} (hw : zWD D cy a A M H locs s) : PreS s H (va_Pc As (zPRE D cy a H.size M)) As := by
  obtain ⟨hP, hD, hS, hK, hE, hA⟩ := hw
  refine ⟨zblind, fun U hU hW => ⟨rfl, by rw [hU], by rw [hU]; exact hP, va_K.moved hW.alike hK, hE.call hW (fun b h1 h2 => by rw [hU]; exact hS.2.1 b h1 h2) (zfr_in hD hS hA rfl), hD.weaken (fun _ _ _ _ => trivial)⟩⟩
theorem zpreV {As : List Value} {C : String} {q ci : Nat} {fs : List Value} {T : u_T} {N : Nat} (hw : zWD D cy a A M H locs s) (hq : q < 103) (hsh : zsh cy a q (M q) = .inr (ci, fs)) (hc : vwCl[ci]? = some (C, T, N)) : PreV s H C (a q) (va_Pc (.ref (a q) :: As) (zPRE D cy a H.size M)) As := by
  have h := zpreS (As := .ref (a q) :: As) hw
  obtain ⟨hP, hD, hS, hK, hE, hA⟩ := hw
  exact ⟨h.1, va_recv hK hP hc ((zwC_at hq).trans (by rw [hsh])), h.2⟩
theorem zback {A1 : Nat → Prop} {u : zM} {t : State} {H1 : Heap} {locs1 : List Loc} (hw : zWD D cy a A M H locs s) (ht : t.heap = H1) (hvm : s.vm.Alike t.vm) (hB : zPST D cy a H.size u t) (hS1 : va_S A s.heap H1 locs1) : zWD D cy a A u H1 locs1 s := by
  obtain ⟨hP, hD, hS, hK, hE, hA⟩ := hw
  obtain ⟨h1, h2, h3⟩ := hB
  rw [ht] at h1
  exact ⟨h1, h3.weaken (fun k q _ h => zfr_in hD hS hA rfl _ h), hS1, hK, hE, hA⟩
theorem z_cVi {y : MethodName} {bytes : ByteArray} {maxL n index q ci N : Nat} {rt : Option FieldType} {rm : Room} {As fs : List Value} {C : String} {T : u_T} {post : Int32 → zM → Prop} (X : zCX p s m meth c args cc nL ret own) (hw : zWD D cy a A M H locs s) (hM : zCi l D cy a y bytes maxL rt rm (.ref (a q) :: As) M post)
    (cw : CallW R s args own C index y bytes maxL rt (.code y bytes maxL rt :: zW0) rm 0 0 n) (hq : q < 103) (hsh : zsh cy a q (M q) = .inr (ci, fs)) (hc : vwCl[ci]? = some (C, T, N)) (hn : As.length = n) (hst : st = As.reverse ++ .ref (a q) :: rest) (hcat : (rest.map fun v => v.category).sum ≤ 8) (hsz : ls.size = nL) (hcs : cells ≤ R.cells ∧ slots ≤ R.slots) (hdg : decode cc pc = .ok (.invokevirtual index, 3))
    (kk : ∀ (r : Int32) (u : zM) (H1 : Heap) (locs1 : List Loc), post r u → zWD D cy a A u H1 locs1 s → W p l e R s m args below meth c H1 locs1 cells slots Q (F0 m (pc + 3) ls (.int r :: rest))) : W p l e R s m args below meth c H locs cells slots Q (F0 m pc ls st) := by
  obtain ⟨hx, hb, hr, hml, hown, hW, hlocks⟩ := id X
  have hfr := zfr_in hw.2.1 hw.2.2.1 hw.2.2.2.2.2 (rfl : H.size = H.size)
  exact va_calli (va_runV (As := As) (rest := rest) ⟨hx, hb, hml, hown, hW⟩ (hM H.size) cw (zpreV hw hq hsh hc) rfl hn hsz hst (lv_room hcat) hdg hcs) hw.2.2.1 (fun q _ h => hfr q h) hfr (fun r u t H1 locs1 ht hvm hp hB hz1 hk1 hS1 => kk r u H1 locs1 hp (zback (A1 := A) hw ht hvm hB hS1))
theorem z_cVv {y : MethodName} {bytes : ByteArray} {maxL n index q ci N : Nat} {rm : Room} {As fs : List Value} {C : String} {T : u_T} {post : zM → Prop} (X : zCX p s m meth c args cc nL ret own) (hw : zWD D cy a A M H locs s) (hM : zCv l D cy a y bytes maxL rm (.ref (a q) :: As) M post)
    (cw : CallW R s args own C index y bytes maxL none (.code y bytes maxL none :: zW0) rm 0 0 n) (hq : q < 103) (hsh : zsh cy a q (M q) = .inr (ci, fs)) (hc : vwCl[ci]? = some (C, T, N)) (hn : As.length = n) (hst : st = As.reverse ++ .ref (a q) :: rest) (hcat : (rest.map fun v => v.category).sum ≤ 8) (hsz : ls.size = nL) (hcs : cells ≤ R.cells ∧ slots ≤ R.slots) (hdg : decode cc pc = .ok (.invokevirtual index, 3))
    (kk : ∀ (u : zM) (H1 : Heap) (locs1 : List Loc), post u → zWD D cy a A u H1 locs1 s → W p l e R s m args below meth c H1 locs1 cells slots Q (F0 m (pc + 3) ls rest)) : W p l e R s m args below meth c H locs cells slots Q (F0 m pc ls st) := by
  obtain ⟨hx, hb, hr, hml, hown, hW, hlocks⟩ := id X
  have hfr := zfr_in hw.2.1 hw.2.2.1 hw.2.2.2.2.2 (rfl : H.size = H.size)
  exact va_callv (va_runV (As := As) (rest := rest) ⟨hx, hb, hml, hown, hW⟩ (hM H.size) cw (zpreV hw hq hsh hc) rfl hn hsz hst (lv_room hcat) hdg hcs) hw.2.2.1 (fun q _ h => hfr q h) hfr (fun u t H1 locs1 ht hvm hp hB hz1 hk1 hS1 => kk u H1 locs1 hp (zback (A1 := A) hw ht hvm hB hS1))
theorem z_cVr {y : MethodName} {bytes : ByteArray} {maxL n index q ci N : Nat} {rt : Option FieldType} {rm : Room} {As fs : List Value} {C : String} {T : u_T} {post : Nat × zM → Prop} (X : zCX p s m meth c args cc nL ret own) (hw : zWD D cy a A M H locs s) (hM : zCr l D cy a y bytes maxL rt rm (.ref (a q) :: As) M post)
    (cw : CallW R s args own C index y bytes maxL rt (.code y bytes maxL rt :: zW0) rm 0 0 n) (hq : q < 103) (hsh : zsh cy a q (M q) = .inr (ci, fs)) (hc : vwCl[ci]? = some (C, T, N)) (hn : As.length = n) (hst : st = As.reverse ++ .ref (a q) :: rest) (hcat : (rest.map fun v => v.category).sum ≤ 8) (hsz : ls.size = nL) (hcs : cells ≤ R.cells ∧ slots ≤ R.slots) (hdg : decode cc pc = .ok (.invokevirtual index, 3))
    (kk : ∀ (r : Nat) (u : zM) (H1 : Heap) (locs1 : List Loc), post (r, u) → zWD D cy a A u H1 locs1 s → W p l e R s m args below meth c H1 locs1 cells slots Q (F0 m (pc + 3) ls (.ref (a r) :: rest))) : W p l e R s m args below meth c H locs cells slots Q (F0 m pc ls st) := by
  obtain ⟨hx, hb, hr, hml, hown, hW, hlocks⟩ := id X
  have hfr := zfr_in hw.2.1 hw.2.2.1 hw.2.2.2.2.2 (rfl : H.size = H.size)
  refine va_callr (va_runV (As := As) (rest := rest) ⟨hx, hb, hml, hown, hW⟩ (hM H.size) cw (zpreV hw hq hsh hc) rfl hn hsz hst (lv_room hcat) hdg hcs) hw.2.2.1 (fun q _ h => hfr q h) hfr (fun u b t H1 locs1 ht hvm hp hB hz1 hk1 hS1 => ?_)
  obtain ⟨rfl, hB⟩ := hB
  exact kk u.1 u.2 H1 locs1 hp (zback (A1 := A) hw ht hvm hB hS1)
theorem z_cSi {y : MethodName} {bytes : ByteArray} {maxL n index : Nat} {rt : Option FieldType} {rm : Room} {As : List Value} {post : Int32 → zM → Prop} (X : zCX p s m meth c args cc nL ret own) (hw : zWD D cy a A M H locs s) (hM : zCi l D cy a y bytes maxL rt rm As M post)
    (cw : CallB R s args own index y bytes maxL rt (.code y bytes maxL rt :: zW0) rm 0 0 n ∧ (Cond.static y).before args s = true) (hn : As.length = n) (hst : st = As.reverse ++ rest) (hcat : (rest.map fun v => v.category).sum ≤ 8) (hsz : ls.size = nL) (hcs : cells ≤ R.cells ∧ slots ≤ R.slots) (hdg : decode cc pc = .ok (.invokestatic index, 3))
    (kk : ∀ (r : Int32) (u : zM) (H1 : Heap) (locs1 : List Loc), post r u → zWD D cy a A u H1 locs1 s → W p l e R s m args below meth c H1 locs1 cells slots Q (F0 m (pc + 3) ls (.int r :: rest))) : W p l e R s m args below meth c H locs cells slots Q (F0 m pc ls st) := by
  obtain ⟨hx, hb, hr, hml, hown, hW, hlocks⟩ := id X
  have hfr := zfr_in hw.2.1 hw.2.2.1 hw.2.2.2.2.2 (rfl : H.size = H.size)
  exact va_calli (va_runS (As := As) (rest := rest) ⟨hx, hb, hml, hown, hW⟩ (hM H.size) cw (zpreS hw) rfl hn hsz hst (lv_room hcat) hdg hcs) hw.2.2.1 (fun q _ h => hfr q h) hfr (fun r u t H1 locs1 ht hvm hp hB hz1 hk1 hS1 => kk r u H1 locs1 hp (zback (A1 := A) hw ht hvm hB hS1))
theorem z_cSv {y : MethodName} {bytes : ByteArray} {maxL n index : Nat} {rm : Room} {As : List Value} {post : zM → Prop} (X : zCX p s m meth c args cc nL ret own) (hw : zWD D cy a A M H locs s) (hM : zCv l D cy a y bytes maxL rm As M post)
    (cw : CallB R s args own index y bytes maxL none (.code y bytes maxL none :: zW0) rm 0 0 n ∧ (Cond.static y).before args s = true) (hn : As.length = n) (hst : st = As.reverse ++ rest) (hcat : (rest.map fun v => v.category).sum ≤ 8) (hsz : ls.size = nL) (hcs : cells ≤ R.cells ∧ slots ≤ R.slots) (hdg : decode cc pc = .ok (.invokestatic index, 3))
    (kk : ∀ (u : zM) (H1 : Heap) (locs1 : List Loc), post u → zWD D cy a A u H1 locs1 s → W p l e R s m args below meth c H1 locs1 cells slots Q (F0 m (pc + 3) ls rest)) : W p l e R s m args below meth c H locs cells slots Q (F0 m pc ls st) := by
  obtain ⟨hx, hb, hr, hml, hown, hW, hlocks⟩ := id X
  have hfr := zfr_in hw.2.1 hw.2.2.1 hw.2.2.2.2.2 (rfl : H.size = H.size)
  exact va_callv (va_runS (As := As) (rest := rest) ⟨hx, hb, hml, hown, hW⟩ (hM H.size) cw (zpreS hw) rfl hn hsz hst (lv_room hcat) hdg hcs) hw.2.2.1 (fun q _ h => hfr q h) hfr (fun u t H1 locs1 ht hvm hp hB hz1 hk1 hS1 => kk u H1 locs1 hp (zback (A1 := A) hw ht hvm hB hS1))
theorem z_cSNi {y : MethodName} {bytes : ByteArray} {maxL n index : Nat} {rt : Option FieldType} {rm : Room} {As : List Value} {host : String} {post : Int32 → zM → Prop} (X : zCX p s m meth c args cc nL ret own) (hw : zWD D cy a A M H locs s) (hM : zCi l D cy a y bytes maxL rt rm As M post)
    (cw : va_CN R s args own index y host bytes maxL rt (.code y bytes maxL rt :: zW0) rm 0 0 n ∧ (Cond.static y).before args s = true ∧ True) (hn : As.length = n) (hst : st = As.reverse ++ rest) (hcat : (rest.map fun v => v.category).sum ≤ 8) (hsz : ls.size = nL) (hcs : cells ≤ R.cells ∧ slots ≤ R.slots) (hdg : decode cc pc = .ok (.invokestatic index, 3))
    (kk : ∀ (r : Int32) (u : zM) (H1 : Heap) (locs1 : List Loc), post r u → zWD D cy a A u H1 locs1 s → W p l e R s m args below meth c H1 locs1 cells slots Q (F0 m (pc + 3) ls (.int r :: rest))) : W p l e R s m args below meth c H locs cells slots Q (F0 m pc ls st) := by
  obtain ⟨hx, hb, hr, hml, hown, hW, hlocks⟩ := id X
  have hfr := zfr_in hw.2.1 hw.2.2.1 hw.2.2.2.2.2 (rfl : H.size = H.size)
  exact va_calli (va_runSN (As := As) (rest := rest) ⟨hx, hb, hml, hown, hW⟩ (hM H.size) cw (zpreS hw) rfl hn hsz hst (lv_room hcat) hdg hcs) hw.2.2.1 (fun q _ h => hfr q h) hfr (fun r u t H1 locs1 ht hvm hp hB hz1 hk1 hS1 => kk r u H1 locs1 hp (zback (A1 := A) hw ht hvm hB hS1))
theorem zcw_V {index n maxL : Nat} {y : MethodName} {bytes : ByteArray} {rt : Option FieldType} {rm : Room} {C : String} (hW : ∀ w ∈ zW0, w.before args s = true) (m1 : Cond.methodLink own index y ∈ zW0) (m2 : Cond.instanceMethod y ∈ zW0) (m3 : Cond.selects C y y ∈ zW0) (m4 : Cond.initialized C ∈ zW0) (m5 : Cond.code y bytes maxL rt ∈ zW0) (hc : rm.cells = 0) (hs : rm.slots = 0)
    (hd : y.cls = C ∧ y.cls ≠ "java/lang/invoke/MethodHandle" ∧ y.cls ≠ "java/lang/invoke/VarHandle" ∧ (parseMethodDescriptor y.desc).map (fun d => d.parameters.length) = some n) (hR : rm.frames + 1 ≤ R.frames ∧ 8 + (maxL + 11) + rm.locals ≤ R.locals) : CallW R s args own C index y bytes maxL rt (.code y bytes maxL rt :: zW0) rm 0 0 n := by
  refine cwV n hW (fun w h => ?_) rfl hc hs hd hR
  unfold wsV at h
  rcases List.mem_append.mp h with h | h
  · simp only [List.mem_cons, List.not_mem_nil, or_false] at h
    rcases h with rfl | rfl | rfl | rfl
    · exact zW0_good _ m1
    · exact zW0_good _ m2
    · exact zW0_good _ m3
    · exact zW0_good _ m4
  · exact zgood1 m5 w h
theorem zcw_S {index n maxL : Nat} {y : MethodName} {bytes : ByteArray} {rt : Option FieldType} {rm : Room} (hW : ∀ w ∈ zW0, w.before args s = true) (m1 : Cond.methodLink own index y ∈ zW0) (m2 : Cond.static y ∈ zW0) (m4 : Cond.initialized y.cls ∈ zW0) (m5 : Cond.code y bytes maxL rt ∈ zW0) (hc : rm.cells = 0) (hs : rm.slots = 0)
    (hd : y.cls ≠ "java/lang/invoke/MethodHandle" ∧ y.cls ≠ "java/lang/invoke/VarHandle" ∧ (parseMethodDescriptor y.desc).map (fun d => d.parameters.length) = some n) (hR : rm.frames + 1 ≤ R.frames ∧ 8 + (maxL + 11) + rm.locals ≤ R.locals) : CallB R s args own index y bytes maxL rt (.code y bytes maxL rt :: zW0) rm 0 0 n ∧ (Cond.static y).before args s = true :=
  ⟨callB_of n hW (zgood1 m5) rfl hc hs (hW _ m4) (hW _ m1) hd hR, hW _ m2⟩
theorem zcw_SN {index n maxL : Nat} {y : MethodName} {bytes : ByteArray} {rt : Option FieldType} {rm : Room} {host : String} (hW : ∀ w ∈ zW0, w.before args s = true) (m1 : va_Nw (.methodLinkNest own index y host) s) (m2 : Cond.static y ∈ zW0) (m4 : Cond.initialized y.cls ∈ zW0) (m5 : Cond.code y bytes maxL rt ∈ zW0) (hc : rm.cells = 0) (hs : rm.slots = 0)
    (hd : y.cls ≠ "java/lang/invoke/MethodHandle" ∧ y.cls ≠ "java/lang/invoke/VarHandle" ∧ (parseMethodDescriptor y.desc).map (fun d => d.parameters.length) = some n) (hR : rm.frames + 1 ≤ R.frames ∧ 8 + (maxL + 11) + rm.locals ≤ R.locals) : va_CN R s args own index y host bytes maxL rt (.code y bytes maxL rt :: zW0) rm 0 0 n ∧ (Cond.static y).before args s = true ∧ True :=
  ⟨va_cnB n hW (zgood1 m5) rfl hc hs m1 (hW _ m4) hd hR, hW _ m2, trivial⟩
theorem z_min {x y : Int32} {index : Nat} (X : zCX p s m meth c args cc nL ret own) (m1 : Cond.methodLink own index Lib.Math.min.name ∈ zW0) (m2 : Cond.static Lib.Math.min.name ∈ zW0) (m3 : Cond.initialized "java/lang/Math" ∈ zW0) (m4 : Cond.code Lib.Math.min.name Lib.Math.min.code 2 (some .int) ∈ zW0) (hsz : ls.size = nL) (hfr : 1 ≤ R.frames) (hlo : (rest.map fun v => v.category).sum + 13 ≤ R.locals) (hcs : cells ≤ R.cells ∧ slots ≤ R.slots) (hdg : decode cc pc = .ok (.invokestatic index, 3))
    (kk : W p l e R s m args below meth c H locs cells slots Q (F0 m (pc + 3) ls (.int (if y < x then y else x) :: rest))) : W p l e R s m args below meth c H locs cells slots Q (F0 m pc ls (.int y :: .int x :: rest)) := by
  obtain ⟨hx, hb, hr, hml, hown, hW, hlocks⟩ := X
  exact va_mmin hx hb (hml.trans hsz.symm) hown (hW _ m1) (hW _ m2) (hW _ m3) (hW _ m4) hfr hlo hcs.1 hcs.2 hdg kk
theorem z_max {x y : Int32} {index : Nat} (X : zCX p s m meth c args cc nL ret own) (m1 : Cond.methodLink own index Lib.Math.max.name ∈ zW0) (m2 : Cond.static Lib.Math.max.name ∈ zW0) (m3 : Cond.initialized "java/lang/Math" ∈ zW0) (m4 : Cond.code Lib.Math.max.name Lib.Math.max.code 2 (some .int) ∈ zW0) (hsz : ls.size = nL) (hfr : 1 ≤ R.frames) (hlo : (rest.map fun v => v.category).sum + 13 ≤ R.locals) (hcs : cells ≤ R.cells ∧ slots ≤ R.slots) (hdg : decode cc pc = .ok (.invokestatic index, 3))
    (kk : W p l e R s m args below meth c H locs cells slots Q (F0 m (pc + 3) ls (.int (if x < y then y else x) :: rest))) : W p l e R s m args below meth c H locs cells slots Q (F0 m pc ls (.int y :: .int x :: rest)) := by
  obtain ⟨hx, hb, hr, hml, hown, hW, hlocks⟩ := X
  exact va_mmax hx hb (hml.trans hsz.symm) hown (hW _ m1) (hW _ m2) (hW _ m3) (hW _ m4) hfr hlo hcs.1 hcs.2 hdg kk
/-- arraycopy over ints: what must hold of its places, and the new row -/
def zcpG (n0 n1 : Nat) (sp dp n : Int32) : Prop := sp < 0 ∨ dp < 0 ∨ n < 0 ∨ n0 < sp.toNatClampNeg + n.toNatClampNeg ∨ n1 < dp.toNatClampNeg + n.toNatClampNeg
abbrev zcp (M : zM) (q0 q1 : Nat) (sp dp n : Int32) : zM := zup M q1 (va_cpy (M q0) (M q1) sp.toNatClampNeg dp.toNatClampNeg n.toNatClampNeg)
theorem z_cpI {q0 q1 n0 n1 index : Nat} {sp dp n : Int32} (X : zCX p s m meth c args cc nL ret own) (hw : zWD D cy a A M H locs s) (h0 : zI q0 n0) (h1 : zI q1 n1) (hg : ¬ (sp < 0 ∨ dp < 0 ∨ n < 0 ∨ n0 < sp.toNatClampNeg + n.toNatClampNeg ∨ n1 < dp.toNatClampNeg + n.toNatClampNeg)) (m1 : Cond.methodLink own index arraycopyName ∈ zW0) (m2 : Cond.native arraycopyName ∈ zW0) (m3 : Cond.static arraycopyName ∈ zW0) (m4 : Cond.initialized "java/lang/System" ∈ zW0) (hsz : ls.size = nL) (hfr : 1 ≤ R.frames) (hlo : (rest.map fun v => v.category).sum + (nativeFrameWords "java/lang/System" "arraycopy" 5 + 11) ≤ R.locals) (hdg : decode cc pc = .ok (.invokestatic index, 3))
    (kk : ∀ (M1 : zM) (H1 : Heap) (locs1 : List Loc), M1 = zcp M q0 q1 sp dp n → zWD D cy a A M1 H1 locs1 s → W p l e R s m args below meth c H1 locs1 cells slots Q (F0 m (pc + 3) ls rest)) : W p l e R s m args below meth c H locs cells slots Q (F0 m pc ls (.int n :: .int dp :: .ref (a q1) :: .int sp :: .ref (a q0) :: rest)) := by
  obtain ⟨hx, hb, hr, hml, hown, hW, hlocks⟩ := X
  obtain ⟨hP, hD, hS, hK, hE, hA⟩ := hw
  have g1 : ¬ sp < 0 := fun z => hg (Or.inl z)
  have g2 : ¬ dp < 0 := fun z => hg (Or.inr (Or.inl z))
  have g3 : ¬ n < 0 := fun z => hg (Or.inr (Or.inr (Or.inl z)))
  have g4 : sp.toNatClampNeg + n.toNatClampNeg ≤ n0 := Nat.not_lt.mp fun z => hg (Or.inr (Or.inr (Or.inr (Or.inl z))))
  have g5 : dp.toNatClampNeg + n.toNatClampNeg ≤ n1 := Nat.not_lt.mp fun z => hg (Or.inr (Or.inr (Or.inr (Or.inr z))))
  refine va_copyi hx hb (hml.trans hsz.symm) hown (hW _ m1) (hW _ m2) (hW _ m3) (hW _ m4) hK hP hD hS q0 q1 0 0 ((zwC_at h0.1).trans (by rw [h0.2])) ((zwC_at h1.1).trans (by rw [h1.2])) rfl rfl rfl g1 g2 g3 g4 g5 (fun _ _ => rfl) hfr hlo hdg (fun H1 locs1 hP1 hD1 hS1 => ?_)
  rw [← h1.2 cy a, zwC_set] at hP1 hD1
  exact kk _ H1 locs1 rfl ⟨hP1, hD1, hS1, hK, hE, hA⟩
theorem z_cpB {q0 q1 n0 n1 index : Nat} {sp dp n : Int32} (X : zCX p s m meth c args cc nL ret own) (hw : zWD D cy a A M H locs s) (h0 : zB q0 n0) (h1 : zB q1 n1) (hg : ¬ (sp < 0 ∨ dp < 0 ∨ n < 0 ∨ n0 < sp.toNatClampNeg + n.toNatClampNeg ∨ n1 < dp.toNatClampNeg + n.toNatClampNeg)) (hf : ¬ ((List.range n.toNatClampNeg).all (fun i => fits .byte (.int (M q0 (sp.toNatClampNeg + i)))) = false)) (m1 : Cond.methodLink own index arraycopyName ∈ zW0) (m2 : Cond.native arraycopyName ∈ zW0) (m3 : Cond.static arraycopyName ∈ zW0) (m4 : Cond.initialized "java/lang/System" ∈ zW0) (hsz : ls.size = nL) (hfr : 1 ≤ R.frames) (hlo : (rest.map fun v => v.category).sum + (nativeFrameWords "java/lang/System" "arraycopy" 5 + 11) ≤ R.locals) (hdg : decode cc pc = .ok (.invokestatic index, 3))
    (kk : ∀ (M1 : zM) (H1 : Heap) (locs1 : List Loc), M1 = zcp M q0 q1 sp dp n → zWD D cy a A M1 H1 locs1 s → W p l e R s m args below meth c H1 locs1 cells slots Q (F0 m (pc + 3) ls rest)) : W p l e R s m args below meth c H locs cells slots Q (F0 m pc ls (.int n :: .int dp :: .ref (a q1) :: .int sp :: .ref (a q0) :: rest)) := by
  obtain ⟨hx, hb, hr, hml, hown, hW, hlocks⟩ := X
  obtain ⟨hP, hD, hS, hK, hE, hA⟩ := hw
  have g1 : ¬ sp < 0 := fun z => hg (Or.inl z)
  have g2 : ¬ dp < 0 := fun z => hg (Or.inr (Or.inl z))
  have g3 : ¬ n < 0 := fun z => hg (Or.inr (Or.inr (Or.inl z)))
  have g4 : sp.toNatClampNeg + n.toNatClampNeg ≤ n0 := Nat.not_lt.mp fun z => hg (Or.inr (Or.inr (Or.inr (Or.inl z))))
  have g5 : dp.toNatClampNeg + n.toNatClampNeg ≤ n1 := Nat.not_lt.mp fun z => hg (Or.inr (Or.inr (Or.inr (Or.inr z))))
  have hf2 : (List.range n.toNatClampNeg).all (fun i => fits .byte (.int (M q0 (sp.toNatClampNeg + i)))) = true := by
    cases hz : (List.range n.toNatClampNeg).all (fun i => fits .byte (.int (M q0 (sp.toNatClampNeg + i))))
    · exact absurd hz hf
    · rfl
  refine va_copyi hx hb (hml.trans hsz.symm) hown (hW _ m1) (hW _ m2) (hW _ m3) (hW _ m4) hK hP hD hS q0 q1 1 1 ((zwC_at h0.1).trans (by rw [h0.2])) ((zwC_at h1.1).trans (by rw [h1.2])) rfl rfl rfl g1 g2 g3 g4 g5 (fun i hi => List.all_eq_true.mp hf2 i (List.mem_range.mpr hi)) hfr hlo hdg (fun H1 locs1 hP1 hD1 hS1 => ?_)
  rw [← h1.2 cy a, zwC_set] at hP1 hD1
  exact kk _ H1 locs1 rfl ⟨hP1, hD1, hS1, hK, hE, hA⟩
theorem z_ldc {index : Nat} {v : Int32} (X : zCX p s m meth c args cc nL ret own) (m1 : Cond.constant own index v ∈ zW0) (hdg : decode cc pc = .ok (.ldc index, 2)) (k : W p l e R s m args below meth c H locs cells slots Q (F0 m (pc + 2) ls (.int v :: rest))) : W p l e R s m args below meth c H locs cells slots Q (F0 m pc ls rest) := by
  obtain ⟨hx, hb, hr, hml, hown, hW, hlocks⟩ := X
  exact lv_ldc hx hb hown (hW _ m1) hdg k
theorem z_ldc2 {index : Nat} {v : Int64} (X : zCX p s m meth c args cc nL ret own) (m1 : Cond.constantLong own index v ∈ zW0) (hdg : decode cc pc = .ok (.ldc2_w index, 3)) (k : W p l e R s m args below meth c H locs cells slots Q (F0 m (pc + 3) ls (.long v :: rest))) : W p l e R s m args below meth c H locs cells slots Q (F0 m pc ls rest) := by
  obtain ⟨hx, hb, hr, hml, hown, hW, hlocks⟩ := X
  exact lv_ldc2 hx hb hown (hW _ m1) hdg k
end ZC
end
