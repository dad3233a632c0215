section
-- ===== PART A: goes FIRST, ahead of the names: the tables' words, and 'selects' of the private methods out of them =====
/-- a private method of a class that the tables say can be made, by its rows of tables_1 -/
def lw_okq (q : MethodName × Nat) : Prop := (q.1.cls ≠ "java/lang/invoke/MethodHandle" ∧ q.1.cls ≠ "java/lang/invoke/VarHandle") ∧ Cond.instantiable q.1.cls q.2 ∈ tables_1 ∧ Cond.privateMethod q.1 ∈ tables_1 ∧ Cond.instanceMethod q.1 ∈ tables_1
theorem lw_p0 : lw_okq (⟨"TwistedLight$Text", "endOfToken", "(I)I"⟩, 7) := ⟨⟨by decide +kernel, by decide +kernel⟩, List.mem_of_getElem? (i := 107) (by decide +kernel), List.mem_of_getElem? (i := 300) (by decide +kernel), List.mem_of_getElem? (i := 301) (by decide +kernel)⟩
theorem lw_p1 : lw_okq (⟨"TwistedLight$Text", "takesToken", "(LTwistedLight$State;II)Z"⟩, 7) := ⟨⟨by decide +kernel, by decide +kernel⟩, List.mem_of_getElem? (i := 107) (by decide +kernel), List.mem_of_getElem? (i := 307) (by decide +kernel), List.mem_of_getElem? (i := 308) (by decide +kernel)⟩
theorem lw_p2 : lw_okq (⟨"TwistedLight$Text", "valueOf", "(II)I"⟩, 7) := ⟨⟨by decide +kernel, by decide +kernel⟩, List.mem_of_getElem? (i := 107) (by decide +kernel), List.mem_of_getElem? (i := 311) (by decide +kernel), List.mem_of_getElem? (i := 312) (by decide +kernel)⟩
theorem lw_p3 : lw_okq (⟨"TwistedLight$Text", "takesNumber", "(LTwistedLight$State;I)Z"⟩, 7) := ⟨⟨by decide +kernel, by decide +kernel⟩, List.mem_of_getElem? (i := 107) (by decide +kernel), List.mem_of_getElem? (i := 315) (by decide +kernel), List.mem_of_getElem? (i := 316) (by decide +kernel)⟩
theorem lw_p4 : lw_okq (⟨"TwistedLight$Text", "takesSymbol", "(LTwistedLight$State;II)Z"⟩, 7) := ⟨⟨by decide +kernel, by decide +kernel⟩, List.mem_of_getElem? (i := 107) (by decide +kernel), List.mem_of_getElem? (i := 319) (by decide +kernel), List.mem_of_getElem? (i := 320) (by decide +kernel)⟩
theorem lw_p5 : lw_okq (⟨"TwistedLight$Text", "takesMark", "(LTwistedLight$State;I)Z"⟩, 7) := ⟨⟨by decide +kernel, by decide +kernel⟩, List.mem_of_getElem? (i := 107) (by decide +kernel), List.mem_of_getElem? (i := 326) (by decide +kernel), List.mem_of_getElem? (i := 327) (by decide +kernel)⟩
theorem lw_p6 : lw_okq (⟨"TwistedLight$Text", "takesPart", "(I)Z"⟩, 7) := ⟨⟨by decide +kernel, by decide +kernel⟩, List.mem_of_getElem? (i := 107) (by decide +kernel), List.mem_of_getElem? (i := 341) (by decide +kernel), List.mem_of_getElem? (i := 342) (by decide +kernel)⟩
theorem lw_p7 : lw_okq (⟨"TwistedLight$Text", "endsItem", "(LTwistedLight$State;)Z"⟩, 7) := ⟨⟨by decide +kernel, by decide +kernel⟩, List.mem_of_getElem? (i := 107) (by decide +kernel), List.mem_of_getElem? (i := 356) (by decide +kernel), List.mem_of_getElem? (i := 357) (by decide +kernel)⟩
theorem lw_p8 : lw_okq (⟨"TwistedLight$Text", "isWhole", "()Z"⟩, 7) := ⟨⟨by decide +kernel, by decide +kernel⟩, List.mem_of_getElem? (i := 107) (by decide +kernel), List.mem_of_getElem? (i := 360) (by decide +kernel), List.mem_of_getElem? (i := 361) (by decide +kernel)⟩
theorem lw_p9 : lw_okq (⟨"TwistedLight$Text", "beginsItem", "(LTwistedLight$State;I)Z"⟩, 7) := ⟨⟨by decide +kernel, by decide +kernel⟩, List.mem_of_getElem? (i := 107) (by decide +kernel), List.mem_of_getElem? (i := 372) (by decide +kernel), List.mem_of_getElem? (i := 373) (by decide +kernel)⟩
theorem lw_p10 : lw_okq (⟨"TwistedLight", "putStep", "(IIIII)V"⟩, 13) := ⟨⟨by decide +kernel, by decide +kernel⟩, List.mem_of_getElem? (i := 18) (by decide +kernel), List.mem_of_getElem? (i := 412) (by decide +kernel), List.mem_of_getElem? (i := 413) (by decide +kernel)⟩
theorem lw_p11 : lw_okq (⟨"TwistedLight", "appendStep", "(LTwistedLight$Steps;)I"⟩, 13) := ⟨⟨by decide +kernel, by decide +kernel⟩, List.mem_of_getElem? (i := 18) (by decide +kernel), List.mem_of_getElem? (i := 421) (by decide +kernel), List.mem_of_getElem? (i := 422) (by decide +kernel)⟩
theorem lw_p12 : lw_okq (⟨"TwistedLight", "findTaps", "(II)Z"⟩, 13) := ⟨⟨by decide +kernel, by decide +kernel⟩, List.mem_of_getElem? (i := 18) (by decide +kernel), List.mem_of_getElem? (i := 452) (by decide +kernel), List.mem_of_getElem? (i := 453) (by decide +kernel)⟩
theorem lw_p13 : lw_okq (⟨"TwistedLight$Block", "shine", "(LTwistedLight$State;)V"⟩, 4) := ⟨⟨by decide +kernel, by decide +kernel⟩, List.mem_of_getElem? (i := 153) (by decide +kernel), List.mem_of_getElem? (i := 460) (by decide +kernel), List.mem_of_getElem? (i := 461) (by decide +kernel)⟩
theorem lw_p14 : lw_okq (⟨"TwistedLight$Block", "passDeed", "(LTwistedLight$Steps;I)V"⟩, 4) := ⟨⟨by decide +kernel, by decide +kernel⟩, List.mem_of_getElem? (i := 153) (by decide +kernel), List.mem_of_getElem? (i := 469) (by decide +kernel), List.mem_of_getElem? (i := 470) (by decide +kernel)⟩
theorem lw_p15 : lw_okq (⟨"TwistedLight$Block", "spread", "(I)V"⟩, 4) := ⟨⟨by decide +kernel, by decide +kernel⟩, List.mem_of_getElem? (i := 153) (by decide +kernel), List.mem_of_getElem? (i := 477) (by decide +kernel), List.mem_of_getElem? (i := 478) (by decide +kernel)⟩
def lw_privs_1 : List (MethodName × Nat) := [(⟨"TwistedLight$Text", "endOfToken", "(I)I"⟩, 7), (⟨"TwistedLight$Text", "takesToken", "(LTwistedLight$State;II)Z"⟩, 7), (⟨"TwistedLight$Text", "valueOf", "(II)I"⟩, 7), (⟨"TwistedLight$Text", "takesNumber", "(LTwistedLight$State;I)Z"⟩, 7), (⟨"TwistedLight$Text", "takesSymbol", "(LTwistedLight$State;II)Z"⟩, 7), (⟨"TwistedLight$Text", "takesMark", "(LTwistedLight$State;I)Z"⟩, 7), (⟨"TwistedLight$Text", "takesPart", "(I)Z"⟩, 7), (⟨"TwistedLight$Text", "endsItem", "(LTwistedLight$State;)Z"⟩, 7), (⟨"TwistedLight$Text", "isWhole", "()Z"⟩, 7), (⟨"TwistedLight$Text", "beginsItem", "(LTwistedLight$State;I)Z"⟩, 7), (⟨"TwistedLight", "putStep", "(IIIII)V"⟩, 13), (⟨"TwistedLight", "appendStep", "(LTwistedLight$Steps;)I"⟩, 13), (⟨"TwistedLight", "findTaps", "(II)Z"⟩, 13), (⟨"TwistedLight$Block", "shine", "(LTwistedLight$State;)V"⟩, 4), (⟨"TwistedLight$Block", "passDeed", "(LTwistedLight$Steps;I)V"⟩, 4), (⟨"TwistedLight$Block", "spread", "(I)V"⟩, 4)]
theorem lw_r1 : ∀ q ∈ lw_privs_1, lw_okq q := List.forall_mem_cons.mpr ⟨lw_p0, List.forall_mem_cons.mpr ⟨lw_p1, List.forall_mem_cons.mpr ⟨lw_p2, List.forall_mem_cons.mpr ⟨lw_p3, List.forall_mem_cons.mpr ⟨lw_p4, List.forall_mem_cons.mpr ⟨lw_p5, List.forall_mem_cons.mpr ⟨lw_p6, List.forall_mem_cons.mpr ⟨lw_p7, List.forall_mem_cons.mpr ⟨lw_p8, List.forall_mem_cons.mpr ⟨lw_p9, List.forall_mem_cons.mpr ⟨lw_p10, List.forall_mem_cons.mpr ⟨lw_p11, List.forall_mem_cons.mpr ⟨lw_p12, List.forall_mem_cons.mpr ⟨lw_p13, List.forall_mem_cons.mpr ⟨lw_p14, List.forall_mem_cons.mpr ⟨lw_p15, fun _ h => absurd h List.not_mem_nil⟩⟩⟩⟩⟩⟩⟩⟩⟩⟩⟩⟩⟩⟩⟩⟩
theorem lw_p16 : lw_okq (⟨"TwistedLight$Block", "twist", "()V"⟩, 4) := ⟨⟨by decide +kernel, by decide +kernel⟩, List.mem_of_getElem? (i := 153) (by decide +kernel), List.mem_of_getElem? (i := 486) (by decide +kernel), List.mem_of_getElem? (i := 487) (by decide +kernel)⟩
theorem lw_p17 : lw_okq (⟨"TwistedLight$Block", "turn", "(II)V"⟩, 4) := ⟨⟨by decide +kernel, by decide +kernel⟩, List.mem_of_getElem? (i := 153) (by decide +kernel), List.mem_of_getElem? (i := 494) (by decide +kernel), List.mem_of_getElem? (i := 495) (by decide +kernel)⟩
theorem lw_p18 : lw_okq (⟨"TwistedLight$Block", "hit", "(II)V"⟩, 4) := ⟨⟨by decide +kernel, by decide +kernel⟩, List.mem_of_getElem? (i := 153) (by decide +kernel), List.mem_of_getElem? (i := 506) (by decide +kernel), List.mem_of_getElem? (i := 507) (by decide +kernel)⟩
theorem lw_p19 : lw_okq (⟨"TwistedLight$Block", "brightestFactor", "()I"⟩, 4) := ⟨⟨by decide +kernel, by decide +kernel⟩, List.mem_of_getElem? (i := 153) (by decide +kernel), List.mem_of_getElem? (i := 534) (by decide +kernel), List.mem_of_getElem? (i := 535) (by decide +kernel)⟩
theorem lw_p20 : lw_okq (⟨"TwistedLight$Block", "multiply", "(I)V"⟩, 4) := ⟨⟨by decide +kernel, by decide +kernel⟩, List.mem_of_getElem? (i := 153) (by decide +kernel), List.mem_of_getElem? (i := 539) (by decide +kernel), List.mem_of_getElem? (i := 540) (by decide +kernel)⟩
theorem lw_p21 : lw_okq (⟨"TwistedLight$Block", "mend", "(LTwistedLight$State;)V"⟩, 4) := ⟨⟨by decide +kernel, by decide +kernel⟩, List.mem_of_getElem? (i := 153) (by decide +kernel), List.mem_of_getElem? (i := 543) (by decide +kernel), List.mem_of_getElem? (i := 544) (by decide +kernel)⟩
theorem lw_p22 : lw_okq (⟨"TwistedLight$Block", "bestTurn", "(LTwistedLight$State;I)I"⟩, 4) := ⟨⟨by decide +kernel, by decide +kernel⟩, List.mem_of_getElem? (i := 153) (by decide +kernel), List.mem_of_getElem? (i := 553) (by decide +kernel), List.mem_of_getElem? (i := 554) (by decide +kernel)⟩
theorem lw_p23 : lw_okq (⟨"TwistedLight", "findBestOrder", "()I"⟩, 13) := ⟨⟨by decide +kernel, by decide +kernel⟩, List.mem_of_getElem? (i := 18) (by decide +kernel), List.mem_of_getElem? (i := 572) (by decide +kernel), List.mem_of_getElem? (i := 573) (by decide +kernel)⟩
theorem lw_p24 : lw_okq (⟨"TwistedLight", "errorsInOrder", "([I)I"⟩, 13) := ⟨⟨by decide +kernel, by decide +kernel⟩, List.mem_of_getElem? (i := 18) (by decide +kernel), List.mem_of_getElem? (i := 581) (by decide +kernel), List.mem_of_getElem? (i := 582) (by decide +kernel)⟩
theorem lw_p25 : lw_okq (⟨"TwistedLight$Arrangement", "swap", "(II)V"⟩, 3) := ⟨⟨by decide +kernel, by decide +kernel⟩, List.mem_of_getElem? (i := 201) (by decide +kernel), List.mem_of_getElem? (i := 599) (by decide +kernel), List.mem_of_getElem? (i := 600) (by decide +kernel)⟩
theorem lw_p26 : lw_okq (⟨"TwistedLight", "errorsAfter", "(I)I"⟩, 13) := ⟨⟨by decide +kernel, by decide +kernel⟩, List.mem_of_getElem? (i := 18) (by decide +kernel), List.mem_of_getElem? (i := 616) (by decide +kernel), List.mem_of_getElem? (i := 617) (by decide +kernel)⟩
theorem lw_p27 : lw_okq (⟨"TwistedLight", "unspreadFits", "(I)Z"⟩, 13) := ⟨⟨by decide +kernel, by decide +kernel⟩, List.mem_of_getElem? (i := 18) (by decide +kernel), List.mem_of_getElem? (i := 682) (by decide +kernel), List.mem_of_getElem? (i := 683) (by decide +kernel)⟩
theorem lw_p28 : lw_okq (⟨"TwistedLight", "slipFits", "(II)Z"⟩, 13) := ⟨⟨by decide +kernel, by decide +kernel⟩, List.mem_of_getElem? (i := 18) (by decide +kernel), List.mem_of_getElem? (i := 711) (by decide +kernel), List.mem_of_getElem? (i := 712) (by decide +kernel)⟩
theorem lw_p29 : lw_okq (⟨"TwistedLightModel", "next", "()V"⟩, 30) := ⟨⟨by decide +kernel, by decide +kernel⟩, List.mem_of_getElem? (i := 751) (by decide +kernel), List.mem_of_getElem? (i := 868) (by decide +kernel), List.mem_of_getElem? (i := 869) (by decide +kernel)⟩
theorem lw_p30 : lw_okq (⟨"TwistedLightModel", "readItem", "()V"⟩, 30) := ⟨⟨by decide +kernel, by decide +kernel⟩, List.mem_of_getElem? (i := 751) (by decide +kernel), List.mem_of_getElem? (i := 872) (by decide +kernel), List.mem_of_getElem? (i := 873) (by decide +kernel)⟩
theorem lw_p31 : lw_okq (⟨"TwistedLightModel", "must", "(Z)V"⟩, 30) := ⟨⟨by decide +kernel, by decide +kernel⟩, List.mem_of_getElem? (i := 751) (by decide +kernel), List.mem_of_getElem? (i := 876) (by decide +kernel), List.mem_of_getElem? (i := 877) (by decide +kernel)⟩
def lw_privs_2 : List (MethodName × Nat) := [(⟨"TwistedLight$Block", "twist", "()V"⟩, 4), (⟨"TwistedLight$Block", "turn", "(II)V"⟩, 4), (⟨"TwistedLight$Block", "hit", "(II)V"⟩, 4), (⟨"TwistedLight$Block", "brightestFactor", "()I"⟩, 4), (⟨"TwistedLight$Block", "multiply", "(I)V"⟩, 4), (⟨"TwistedLight$Block", "mend", "(LTwistedLight$State;)V"⟩, 4), (⟨"TwistedLight$Block", "bestTurn", "(LTwistedLight$State;I)I"⟩, 4), (⟨"TwistedLight", "findBestOrder", "()I"⟩, 13), (⟨"TwistedLight", "errorsInOrder", "([I)I"⟩, 13), (⟨"TwistedLight$Arrangement", "swap", "(II)V"⟩, 3), (⟨"TwistedLight", "errorsAfter", "(I)I"⟩, 13), (⟨"TwistedLight", "unspreadFits", "(I)Z"⟩, 13), (⟨"TwistedLight", "slipFits", "(II)Z"⟩, 13), (⟨"TwistedLightModel", "next", "()V"⟩, 30), (⟨"TwistedLightModel", "readItem", "()V"⟩, 30), (⟨"TwistedLightModel", "must", "(Z)V"⟩, 30)]
theorem lw_r2 : ∀ q ∈ lw_privs_2, lw_okq q := List.forall_mem_cons.mpr ⟨lw_p16, List.forall_mem_cons.mpr ⟨lw_p17, List.forall_mem_cons.mpr ⟨lw_p18, List.forall_mem_cons.mpr ⟨lw_p19, List.forall_mem_cons.mpr ⟨lw_p20, List.forall_mem_cons.mpr ⟨lw_p21, List.forall_mem_cons.mpr ⟨lw_p22, List.forall_mem_cons.mpr ⟨lw_p23, List.forall_mem_cons.mpr ⟨lw_p24, List.forall_mem_cons.mpr ⟨lw_p25, List.forall_mem_cons.mpr ⟨lw_p26, List.forall_mem_cons.mpr ⟨lw_p27, List.forall_mem_cons.mpr ⟨lw_p28, List.forall_mem_cons.mpr ⟨lw_p29, List.forall_mem_cons.mpr ⟨lw_p30, List.forall_mem_cons.mpr ⟨lw_p31, fun _ h => absurd h List.not_mem_nil⟩⟩⟩⟩⟩⟩⟩⟩⟩⟩⟩⟩⟩⟩⟩⟩
theorem lw_p32 : lw_okq (⟨"TwistedLightModel", "readMarks", "()V"⟩, 30) := ⟨⟨by decide +kernel, by decide +kernel⟩, List.mem_of_getElem? (i := 751) (by decide +kernel), List.mem_of_getElem? (i := 880) (by decide +kernel), List.mem_of_getElem? (i := 881) (by decide +kernel)⟩
theorem lw_p33 : lw_okq (⟨"TwistedLightModel", "readDeed", "()V"⟩, 30) := ⟨⟨by decide +kernel, by decide +kernel⟩, List.mem_of_getElem? (i := 751) (by decide +kernel), List.mem_of_getElem? (i := 887) (by decide +kernel), List.mem_of_getElem? (i := 888) (by decide +kernel)⟩
theorem lw_p34 : lw_okq (⟨"TwistedLightModel", "readRow", "(I)V"⟩, 30) := ⟨⟨by decide +kernel, by decide +kernel⟩, List.mem_of_getElem? (i := 751) (by decide +kernel), List.mem_of_getElem? (i := 900) (by decide +kernel), List.mem_of_getElem? (i := 901) (by decide +kernel)⟩
theorem lw_p35 : lw_okq (⟨"TwistedLightModel", "note", "()V"⟩, 30) := ⟨⟨by decide +kernel, by decide +kernel⟩, List.mem_of_getElem? (i := 751) (by decide +kernel), List.mem_of_getElem? (i := 904) (by decide +kernel), List.mem_of_getElem? (i := 905) (by decide +kernel)⟩
theorem lw_p36 : lw_okq (⟨"TwistedLightModel", "marksMany", "()I"⟩, 30) := ⟨⟨by decide +kernel, by decide +kernel⟩, List.mem_of_getElem? (i := 751) (by decide +kernel), List.mem_of_getElem? (i := 916) (by decide +kernel), List.mem_of_getElem? (i := 917) (by decide +kernel)⟩
theorem lw_p37 : lw_okq (⟨"TwistedLightModel", "lay", "(IIIIII)V"⟩, 30) := ⟨⟨by decide +kernel, by decide +kernel⟩, List.mem_of_getElem? (i := 751) (by decide +kernel), List.mem_of_getElem? (i := 927) (by decide +kernel), List.mem_of_getElem? (i := 928) (by decide +kernel)⟩
theorem lw_p38 : lw_okq (⟨"TwistedLightModel", "areTaps", "(II)Z"⟩, 30) := ⟨⟨by decide +kernel, by decide +kernel⟩, List.mem_of_getElem? (i := 751) (by decide +kernel), List.mem_of_getElem? (i := 953) (by decide +kernel), List.mem_of_getElem? (i := 954) (by decide +kernel)⟩
theorem lw_p39 : lw_okq (⟨"TwistedLightModel", "layReceived", "()V"⟩, 30) := ⟨⟨by decide +kernel, by decide +kernel⟩, List.mem_of_getElem? (i := 751) (by decide +kernel), List.mem_of_getElem? (i := 957) (by decide +kernel), List.mem_of_getElem? (i := 958) (by decide +kernel)⟩
theorem lw_p40 : lw_okq (⟨"TwistedLightModel", "layAir", "()V"⟩, 30) := ⟨⟨by decide +kernel, by decide +kernel⟩, List.mem_of_getElem? (i := 751) (by decide +kernel), List.mem_of_getElem? (i := 961) (by decide +kernel), List.mem_of_getElem? (i := 962) (by decide +kernel)⟩
theorem lw_p41 : lw_okq (⟨"TwistedLightModel", "doDeed", "(I)V"⟩, 30) := ⟨⟨by decide +kernel, by decide +kernel⟩, List.mem_of_getElem? (i := 751) (by decide +kernel), List.mem_of_getElem? (i := 968) (by decide +kernel), List.mem_of_getElem? (i := 969) (by decide +kernel)⟩
theorem lw_p42 : lw_okq (⟨"TwistedLightModel", "spread", "(I)V"⟩, 30) := ⟨⟨by decide +kernel, by decide +kernel⟩, List.mem_of_getElem? (i := 751) (by decide +kernel), List.mem_of_getElem? (i := 972) (by decide +kernel), List.mem_of_getElem? (i := 973) (by decide +kernel)⟩
theorem lw_p43 : lw_okq (⟨"TwistedLightModel", "takeMade", "()V"⟩, 30) := ⟨⟨by decide +kernel, by decide +kernel⟩, List.mem_of_getElem? (i := 751) (by decide +kernel), List.mem_of_getElem? (i := 976) (by decide +kernel), List.mem_of_getElem? (i := 977) (by decide +kernel)⟩
theorem lw_p44 : lw_okq (⟨"TwistedLightModel", "twist", "(IIII)V"⟩, 30) := ⟨⟨by decide +kernel, by decide +kernel⟩, List.mem_of_getElem? (i := 751) (by decide +kernel), List.mem_of_getElem? (i := 980) (by decide +kernel), List.mem_of_getElem? (i := 981) (by decide +kernel)⟩
theorem lw_p45 : lw_okq (⟨"TwistedLightModel", "slip", "(II)V"⟩, 30) := ⟨⟨by decide +kernel, by decide +kernel⟩, List.mem_of_getElem? (i := 751) (by decide +kernel), List.mem_of_getElem? (i := 984) (by decide +kernel), List.mem_of_getElem? (i := 985) (by decide +kernel)⟩
theorem lw_p46 : lw_okq (⟨"TwistedLightModel", "late", "(I)V"⟩, 30) := ⟨⟨by decide +kernel, by decide +kernel⟩, List.mem_of_getElem? (i := 751) (by decide +kernel), List.mem_of_getElem? (i := 988) (by decide +kernel), List.mem_of_getElem? (i := 989) (by decide +kernel)⟩
theorem lw_p47 : lw_okq (⟨"TwistedLightModel", "goThrough", "(I)V"⟩, 30) := ⟨⟨by decide +kernel, by decide +kernel⟩, List.mem_of_getElem? (i := 751) (by decide +kernel), List.mem_of_getElem? (i := 992) (by decide +kernel), List.mem_of_getElem? (i := 993) (by decide +kernel)⟩
def lw_privs_3 : List (MethodName × Nat) := [(⟨"TwistedLightModel", "readMarks", "()V"⟩, 30), (⟨"TwistedLightModel", "readDeed", "()V"⟩, 30), (⟨"TwistedLightModel", "readRow", "(I)V"⟩, 30), (⟨"TwistedLightModel", "note", "()V"⟩, 30), (⟨"TwistedLightModel", "marksMany", "()I"⟩, 30), (⟨"TwistedLightModel", "lay", "(IIIIII)V"⟩, 30), (⟨"TwistedLightModel", "areTaps", "(II)Z"⟩, 30), (⟨"TwistedLightModel", "layReceived", "()V"⟩, 30), (⟨"TwistedLightModel", "layAir", "()V"⟩, 30), (⟨"TwistedLightModel", "doDeed", "(I)V"⟩, 30), (⟨"TwistedLightModel", "spread", "(I)V"⟩, 30), (⟨"TwistedLightModel", "takeMade", "()V"⟩, 30), (⟨"TwistedLightModel", "twist", "(IIII)V"⟩, 30), (⟨"TwistedLightModel", "slip", "(II)V"⟩, 30), (⟨"TwistedLightModel", "late", "(I)V"⟩, 30), (⟨"TwistedLightModel", "goThrough", "(I)V"⟩, 30)]
theorem lw_r3 : ∀ q ∈ lw_privs_3, lw_okq q := List.forall_mem_cons.mpr ⟨lw_p32, List.forall_mem_cons.mpr ⟨lw_p33, List.forall_mem_cons.mpr ⟨lw_p34, List.forall_mem_cons.mpr ⟨lw_p35, List.forall_mem_cons.mpr ⟨lw_p36, List.forall_mem_cons.mpr ⟨lw_p37, List.forall_mem_cons.mpr ⟨lw_p38, List.forall_mem_cons.mpr ⟨lw_p39, List.forall_mem_cons.mpr ⟨lw_p40, List.forall_mem_cons.mpr ⟨lw_p41, List.forall_mem_cons.mpr ⟨lw_p42, List.forall_mem_cons.mpr ⟨lw_p43, List.forall_mem_cons.mpr ⟨lw_p44, List.forall_mem_cons.mpr ⟨lw_p45, List.forall_mem_cons.mpr ⟨lw_p46, List.forall_mem_cons.mpr ⟨lw_p47, fun _ h => absurd h List.not_mem_nil⟩⟩⟩⟩⟩⟩⟩⟩⟩⟩⟩⟩⟩⟩⟩⟩
theorem lw_p48 : lw_okq (⟨"TwistedLightModel", "doStage", "(I)V"⟩, 30) := ⟨⟨by decide +kernel, by decide +kernel⟩, List.mem_of_getElem? (i := 751) (by decide +kernel), List.mem_of_getElem? (i := 996) (by decide +kernel), List.mem_of_getElem? (i := 997) (by decide +kernel)⟩
theorem lw_p49 : lw_okq (⟨"TwistedLightModel", "unspread", "(I)V"⟩, 30) := ⟨⟨by decide +kernel, by decide +kernel⟩, List.mem_of_getElem? (i := 751) (by decide +kernel), List.mem_of_getElem? (i := 1000) (by decide +kernel), List.mem_of_getElem? (i := 1001) (by decide +kernel)⟩
theorem lw_p50 : lw_okq (⟨"TwistedLightModel", "untwist", "(IIII)V"⟩, 30) := ⟨⟨by decide +kernel, by decide +kernel⟩, List.mem_of_getElem? (i := 751) (by decide +kernel), List.mem_of_getElem? (i := 1007) (by decide +kernel), List.mem_of_getElem? (i := 1008) (by decide +kernel)⟩
theorem lw_p51 : lw_okq (⟨"TwistedLightModel", "blind", "()V"⟩, 30) := ⟨⟨by decide +kernel, by decide +kernel⟩, List.mem_of_getElem? (i := 751) (by decide +kernel), List.mem_of_getElem? (i := 1011) (by decide +kernel), List.mem_of_getElem? (i := 1012) (by decide +kernel)⟩
theorem lw_p52 : lw_okq (⟨"TwistedLightModel", "mend", "()V"⟩, 30) := ⟨⟨by decide +kernel, by decide +kernel⟩, List.mem_of_getElem? (i := 751) (by decide +kernel), List.mem_of_getElem? (i := 1018) (by decide +kernel), List.mem_of_getElem? (i := 1019) (by decide +kernel)⟩
theorem lw_p53 : lw_okq (⟨"TwistedLightModel", "mendFrom", "(II)V"⟩, 30) := ⟨⟨by decide +kernel, by decide +kernel⟩, List.mem_of_getElem? (i := 751) (by decide +kernel), List.mem_of_getElem? (i := 1025) (by decide +kernel), List.mem_of_getElem? (i := 1026) (by decide +kernel)⟩
theorem lw_p54 : lw_okq (⟨"TwistedLightModel", "findTaps", "(III)Z"⟩, 30) := ⟨⟨by decide +kernel, by decide +kernel⟩, List.mem_of_getElem? (i := 751) (by decide +kernel), List.mem_of_getElem? (i := 1029) (by decide +kernel), List.mem_of_getElem? (i := 1030) (by decide +kernel)⟩
theorem lw_p55 : lw_okq (⟨"TwistedLightModel", "findOrder", "()V"⟩, 30) := ⟨⟨by decide +kernel, by decide +kernel⟩, List.mem_of_getElem? (i := 751) (by decide +kernel), List.mem_of_getElem? (i := 1041) (by decide +kernel), List.mem_of_getElem? (i := 1042) (by decide +kernel)⟩
theorem lw_p56 : lw_okq (⟨"TwistedLightModel", "wrongNow", "()I"⟩, 30) := ⟨⟨by decide +kernel, by decide +kernel⟩, List.mem_of_getElem? (i := 751) (by decide +kernel), List.mem_of_getElem? (i := 1045) (by decide +kernel), List.mem_of_getElem? (i := 1046) (by decide +kernel)⟩
theorem lw_p57 : lw_okq (⟨"TwistedLightModel", "turnsOn", "(I)Z"⟩, 30) := ⟨⟨by decide +kernel, by decide +kernel⟩, List.mem_of_getElem? (i := 751) (by decide +kernel), List.mem_of_getElem? (i := 1049) (by decide +kernel), List.mem_of_getElem? (i := 1050) (by decide +kernel)⟩
theorem lw_p58 : lw_okq (⟨"TwistedLightModel", "swap", "(II)V"⟩, 30) := ⟨⟨by decide +kernel, by decide +kernel⟩, List.mem_of_getElem? (i := 751) (by decide +kernel), List.mem_of_getElem? (i := 1053) (by decide +kernel), List.mem_of_getElem? (i := 1054) (by decide +kernel)⟩
theorem lw_p59 : lw_okq (⟨"TwistedLightModel", "wrongReceived", "()I"⟩, 30) := ⟨⟨by decide +kernel, by decide +kernel⟩, List.mem_of_getElem? (i := 751) (by decide +kernel), List.mem_of_getElem? (i := 1065) (by decide +kernel), List.mem_of_getElem? (i := 1066) (by decide +kernel)⟩
theorem lw_p60 : lw_okq (⟨"TwistedLightModel", "keepReceived", "()V"⟩, 30) := ⟨⟨by decide +kernel, by decide +kernel⟩, List.mem_of_getElem? (i := 751) (by decide +kernel), List.mem_of_getElem? (i := 1096) (by decide +kernel), List.mem_of_getElem? (i := 1097) (by decide +kernel)⟩
theorem lw_p61 : lw_okq (⟨"TwistedLightModel", "layKept", "()V"⟩, 30) := ⟨⟨by decide +kernel, by decide +kernel⟩, List.mem_of_getElem? (i := 751) (by decide +kernel), List.mem_of_getElem? (i := 1100) (by decide +kernel), List.mem_of_getElem? (i := 1101) (by decide +kernel)⟩
theorem lw_p62 : lw_okq (⟨"TwistedLightModel", "wrongAtMarks", "()I"⟩, 30) := ⟨⟨by decide +kernel, by decide +kernel⟩, List.mem_of_getElem? (i := 751) (by decide +kernel), List.mem_of_getElem? (i := 1104) (by decide +kernel), List.mem_of_getElem? (i := 1105) (by decide +kernel)⟩
theorem lw_p63 : lw_okq (⟨"TwistedLightModel", "isSeenBy", "(II)Z"⟩, 30) := ⟨⟨by decide +kernel, by decide +kernel⟩, List.mem_of_getElem? (i := 751) (by decide +kernel), List.mem_of_getElem? (i := 1128) (by decide +kernel), List.mem_of_getElem? (i := 1129) (by decide +kernel)⟩
def lw_privs_4 : List (MethodName × Nat) := [(⟨"TwistedLightModel", "doStage", "(I)V"⟩, 30), (⟨"TwistedLightModel", "unspread", "(I)V"⟩, 30), (⟨"TwistedLightModel", "untwist", "(IIII)V"⟩, 30), (⟨"TwistedLightModel", "blind", "()V"⟩, 30), (⟨"TwistedLightModel", "mend", "()V"⟩, 30), (⟨"TwistedLightModel", "mendFrom", "(II)V"⟩, 30), (⟨"TwistedLightModel", "findTaps", "(III)Z"⟩, 30), (⟨"TwistedLightModel", "findOrder", "()V"⟩, 30), (⟨"TwistedLightModel", "wrongNow", "()I"⟩, 30), (⟨"TwistedLightModel", "turnsOn", "(I)Z"⟩, 30), (⟨"TwistedLightModel", "swap", "(II)V"⟩, 30), (⟨"TwistedLightModel", "wrongReceived", "()I"⟩, 30), (⟨"TwistedLightModel", "keepReceived", "()V"⟩, 30), (⟨"TwistedLightModel", "layKept", "()V"⟩, 30), (⟨"TwistedLightModel", "wrongAtMarks", "()I"⟩, 30), (⟨"TwistedLightModel", "isSeenBy", "(II)Z"⟩, 30)]
theorem lw_r4 : ∀ q ∈ lw_privs_4, lw_okq q := List.forall_mem_cons.mpr ⟨lw_p48, List.forall_mem_cons.mpr ⟨lw_p49, List.forall_mem_cons.mpr ⟨lw_p50, List.forall_mem_cons.mpr ⟨lw_p51, List.forall_mem_cons.mpr ⟨lw_p52, List.forall_mem_cons.mpr ⟨lw_p53, List.forall_mem_cons.mpr ⟨lw_p54, List.forall_mem_cons.mpr ⟨lw_p55, List.forall_mem_cons.mpr ⟨lw_p56, List.forall_mem_cons.mpr ⟨lw_p57, List.forall_mem_cons.mpr ⟨lw_p58, List.forall_mem_cons.mpr ⟨lw_p59, List.forall_mem_cons.mpr ⟨lw_p60, List.forall_mem_cons.mpr ⟨lw_p61, List.forall_mem_cons.mpr ⟨lw_p62, List.forall_mem_cons.mpr ⟨lw_p63, fun _ h => absurd h List.not_mem_nil⟩⟩⟩⟩⟩⟩⟩⟩⟩⟩⟩⟩⟩⟩⟩⟩
def lw_privs : List (MethodName × Nat) := lw_privs_1 ++ (lw_privs_2 ++ (lw_privs_3 ++ (lw_privs_4)))
def lw_tbl : List Cond := k2_sels lw_privs ++ tables_1
theorem lw_privs_ok : ∀ q ∈ lw_privs, lw_okq q := by
  show ∀ q ∈ lw_privs_1 ++ (lw_privs_2 ++ (lw_privs_3 ++ (lw_privs_4))), lw_okq q
  exact List.forall_mem_append.mpr ⟨lw_r1, List.forall_mem_append.mpr ⟨lw_r2, List.forall_mem_append.mpr ⟨lw_r3, lw_r4⟩⟩⟩
/-- the streams that the claim lets the run draw from -/
abbrev lw_cs : List Choice := [Jvm.Choice.named "NaN.bits"]
theorem lw_bits : nanBits ∈ lw_cs := by first | decide | exact List.mem_cons_self | simp [lw_cs, nanBits]
-- ===== end of PART A; then your names; then what follows =====
def RX0 : String := "TwistedLight$Arrangement"
def TX0 : u_T := fun k => match k with
  | 0 => ("TwistedLight$Arrangement", "current", "[I", true)
  | 1 => ("TwistedLight$Arrangement", "best", "[I", true)
  | _ => ("TwistedLight$Arrangement", "size", "I", false)
def tyX0 : Nat → FieldType := fun k => match k with
  | 0 => .array .int
  | 1 => .array .int
  | _ => .int
abbrev wsX00 : List Cond := u_ws RX0 TX0 3
theorem nmX0 : ∀ a, a < 3 → ∀ b, b < 3 → a ≠ b → (TX0 a).2.1 ≠ (TX0 b).2.1 := by decide +kernel
theorem tyX0_ok : ∀ k, k < 3 → parseFieldDescriptor (TX0 k).2.2.1 = some (tyX0 k) := by decide +kernel
abbrev cX0_init : ByteArray := prog_2_method_1_code
def yX0_init : MethodName := ⟨RX0, "<init>", "()V"⟩
abbrev cX0_start : ByteArray := prog_2_method_2_code
def yX0_start : MethodName := ⟨RX0, "start", "(I)V"⟩
abbrev cX0_keepCurrent : ByteArray := prog_2_method_3_code
def yX0_keepCurrent : MethodName := ⟨RX0, "keepCurrent", "()V"⟩
abbrev cX0_bestIsPresent : ByteArray := prog_2_method_4_code
def yX0_bestIsPresent : MethodName := ⟨RX0, "bestIsPresent", "()Z"⟩
abbrev cX0_moveOn : ByteArray := prog_2_method_5_code
def yX0_moveOn : MethodName := ⟨RX0, "moveOn", "()Z"⟩
abbrev cX0_swap : ByteArray := prog_2_method_6_code
def yX0_swap : MethodName := ⟨RX0, "swap", "(II)V"⟩
def RX1 : String := "TwistedLight$Block"
def TX1 : u_T := fun k => match k with
  | 0 => ("TwistedLight$Block", "numbers", "[I", true)
  | 1 => ("TwistedLight$Block", "moved", "[I", true)
  | 2 => ("TwistedLight$Block", "tally", "[I", true)
  | _ => ("TwistedLight$Block", "matrix", "LTwistedLight$Matrix;", true)
def tyX1 : Nat → FieldType := fun k => match k with
  | 0 => .array .int
  | 1 => .array .int
  | 2 => .array .int
  | _ => .object "TwistedLight$Matrix"
abbrev wsX10 : List Cond := u_ws RX1 TX1 4
theorem nmX1 : ∀ a, a < 4 → ∀ b, b < 4 → a ≠ b → (TX1 a).2.1 ≠ (TX1 b).2.1 := by decide +kernel
theorem tyX1_ok : ∀ k, k < 4 → parseFieldDescriptor (TX1 k).2.2.1 = some (tyX1 k) := by decide +kernel
abbrev cX1_init : ByteArray := prog_3_method_1_code
def yX1_init : MethodName := ⟨RX1, "<init>", "()V"⟩
abbrev cX1_takeFrom : ByteArray := prog_3_method_2_code
def yX1_takeFrom : MethodName := ⟨RX1, "takeFrom", "(LTwistedLight$Block;)V"⟩
abbrev cX1_receive : ByteArray := prog_3_method_3_code
def yX1_receive : MethodName := ⟨RX1, "receive", "(LTwistedLight$State;I)V"⟩
abbrev cX1_shine : ByteArray := prog_3_method_4_code
def yX1_shine : MethodName := ⟨RX1, "shine", "(LTwistedLight$State;)V"⟩
abbrev cX1_passDeed : ByteArray := prog_3_method_5_code
def yX1_passDeed : MethodName := ⟨RX1, "passDeed", "(LTwistedLight$Steps;I)V"⟩
abbrev cX1_passStage : ByteArray := prog_3_method_6_code
def yX1_passStage : MethodName := ⟨RX1, "passStage", "(LTwistedLight$State;I)V"⟩
abbrev cX1_spread : ByteArray := prog_3_method_7_code
def yX1_spread : MethodName := ⟨RX1, "spread", "(I)V"⟩
abbrev cX1_unspread : ByteArray := prog_3_method_8_code
def yX1_unspread : MethodName := ⟨RX1, "unspread", "(I)V"⟩
abbrev cX1_twist : ByteArray := prog_3_method_9_code
def yX1_twist : MethodName := ⟨RX1, "twist", "()V"⟩
abbrev cX1_slip : ByteArray := prog_3_method_10_code
def yX1_slip : MethodName := ⟨RX1, "slip", "(II)V"⟩
abbrev cX1_turn : ByteArray := prog_3_method_11_code
def yX1_turn : MethodName := ⟨RX1, "turn", "(II)V"⟩
abbrev cX1_late : ByteArray := prog_3_method_12_code
def yX1_late : MethodName := ⟨RX1, "late", "(I)V"⟩
abbrev cX1_hit : ByteArray := prog_3_method_13_code
def yX1_hit : MethodName := ⟨RX1, "hit", "(II)V"⟩
abbrev cX1_multiply : ByteArray := prog_3_method_14_code
def yX1_multiply : MethodName := ⟨RX1, "multiply", "(I)V"⟩
abbrev cX1_brightestFactor : ByteArray := prog_3_method_15_code
def yX1_brightestFactor : MethodName := ⟨RX1, "brightestFactor", "()I"⟩
abbrev cX1_mend : ByteArray := prog_3_method_16_code
def yX1_mend : MethodName := ⟨RX1, "mend", "(LTwistedLight$State;)V"⟩
abbrev cX1_bestTurn : ByteArray := prog_3_method_17_code
def yX1_bestTurn : MethodName := ⟨RX1, "bestTurn", "(LTwistedLight$State;I)I"⟩
abbrev cX1_errors : ByteArray := prog_3_method_18_code
def yX1_errors : MethodName := ⟨RX1, "errors", "(LTwistedLight$State;)I"⟩
abbrev cX1_errorsAtMarks : ByteArray := prog_3_method_19_code
def yX1_errorsAtMarks : MethodName := ⟨RX1, "errorsAtMarks", "(LTwistedLight$State;)I"⟩
def RX2 : String := "TwistedLight$Field"
def TX2 : u_T := fun k => match k with
  | _ => ("", "", "", false)
def tyX2 : Nat → FieldType := fun k => match k with
  | _ => .int
abbrev wsX20 : List Cond := u_ws RX2 TX2 0
theorem nmX2 : ∀ a, a < 0 → ∀ b, b < 0 → a ≠ b → (TX2 a).2.1 ≠ (TX2 b).2.1 := by decide +kernel
theorem tyX2_ok : ∀ k, k < 0 → parseFieldDescriptor (TX2 k).2.2.1 = some (tyX2 k) := by decide +kernel
abbrev cX2_light : ByteArray := prog_4_method_2_code
def yX2_light : MethodName := ⟨RX2, "light", "(I)I"⟩
abbrev cX2_decided : ByteArray := prog_4_method_3_code
def yX2_decided : MethodName := ⟨RX2, "decided", "(I)I"⟩
abbrev cX2_turned : ByteArray := prog_4_method_4_code
def yX2_turned : MethodName := ⟨RX2, "turned", "(II)I"⟩
abbrev cX2_power : ByteArray := prog_4_method_5_code
def yX2_power : MethodName := ⟨RX2, "power", "(II)I"⟩
abbrev cX2_inverse : ByteArray := prog_4_method_6_code
def yX2_inverse : MethodName := ⟨RX2, "inverse", "(I)I"⟩
def RX3 : String := "TwistedLight$History"
def TX3 : u_T := fun k => match k with
  | 0 => ("TwistedLight$History", "past", "[LTwistedLight$State;", true)
  | 1 => ("TwistedLight$History", "next", "I", false)
  | _ => ("TwistedLight$History", "size", "I", false)
def tyX3 : Nat → FieldType := fun k => match k with
  | 0 => .array (.object "TwistedLight$State")
  | 1 => .int
  | _ => .int
abbrev wsX30 : List Cond := u_ws RX3 TX3 3
theorem nmX3 : ∀ a, a < 3 → ∀ b, b < 3 → a ≠ b → (TX3 a).2.1 ≠ (TX3 b).2.1 := by decide +kernel
theorem tyX3_ok : ∀ k, k < 3 → parseFieldDescriptor (TX3 k).2.2.1 = some (tyX3 k) := by decide +kernel
abbrev cX3_init : ByteArray := prog_5_method_1_code
def yX3_init : MethodName := ⟨RX3, "<init>", "()V"⟩
abbrev cX3_remember : ByteArray := prog_5_method_2_code
def yX3_remember : MethodName := ⟨RX3, "remember", "(LTwistedLight$State;)V"⟩
abbrev cX3_restore : ByteArray := prog_5_method_3_code
def yX3_restore : MethodName := ⟨RX3, "restore", "(LTwistedLight$State;)V"⟩
def RX4 : String := "TwistedLight$Matrix"
def TX4 : u_T := fun k => match k with
  | 0 => ("TwistedLight$Matrix", "a", "I", false)
  | 1 => ("TwistedLight$Matrix", "b", "I", false)
  | 2 => ("TwistedLight$Matrix", "c", "I", false)
  | _ => ("TwistedLight$Matrix", "d", "I", false)
def tyX4 : Nat → FieldType := fun k => match k with
  | 0 => .int
  | 1 => .int
  | 2 => .int
  | _ => .int
abbrev wsX40 : List Cond := u_ws RX4 TX4 4
theorem nmX4 : ∀ a, a < 4 → ∀ b, b < 4 → a ≠ b → (TX4 a).2.1 ≠ (TX4 b).2.1 := by decide +kernel
theorem tyX4_ok : ∀ k, k < 4 → parseFieldDescriptor (TX4 k).2.2.1 = some (tyX4 k) := by decide +kernel
abbrev cX4_init : ByteArray := prog_6_method_1_code
def yX4_init : MethodName := ⟨RX4, "<init>", "()V"⟩
abbrev cX4_put : ByteArray := prog_6_method_2_code
def yX4_put : MethodName := ⟨RX4, "put", "(IIII)V"⟩
abbrev cX4_entry : ByteArray := prog_6_method_3_code
def yX4_entry : MethodName := ⟨RX4, "entry", "(I)I"⟩
abbrev cX4_determinant : ByteArray := prog_6_method_4_code
def yX4_determinant : MethodName := ⟨RX4, "determinant", "()I"⟩
abbrev cX4_invert : ByteArray := prog_6_method_5_code
def yX4_invert : MethodName := ⟨RX4, "invert", "()V"⟩
abbrev cX4_multiplyFromLeft : ByteArray := prog_6_method_6_code
def yX4_multiplyFromLeft : MethodName := ⟨RX4, "multiplyFromLeft", "(LTwistedLight$Matrix;)V"⟩
def RX5 : String := "TwistedLight$Odds"
def TX5 : u_T := fun k => match k with
  | _ => ("", "", "", false)
def tyX5 : Nat → FieldType := fun k => match k with
  | _ => .int
abbrev wsX50 : List Cond := u_ws RX5 TX5 0
theorem nmX5 : ∀ a, a < 0 → ∀ b, b < 0 → a ≠ b → (TX5 a).2.1 ≠ (TX5 b).2.1 := by decide +kernel
theorem tyX5_ok : ∀ k, k < 0 → parseFieldDescriptor (TX5 k).2.2.1 = some (tyX5 k) := by decide +kernel
abbrev cX5_power : ByteArray := prog_7_method_2_code
def yX5_power : MethodName := ⟨RX5, "power", "(II)I"⟩
abbrev cX5_atMost : ByteArray := prog_7_method_3_code
def yX5_atMost : MethodName := ⟨RX5, "atMost", "(III)I"⟩
abbrev cX5_commonDivisor : ByteArray := prog_7_method_4_code
def yX5_commonDivisor : MethodName := ⟨RX5, "commonDivisor", "(II)I"⟩
abbrev cX5_sharedPower : ByteArray := prog_7_method_5_code
def yX5_sharedPower : MethodName := ⟨RX5, "sharedPower", "(III)I"⟩
def RX6 : String := "TwistedLight$Sightings"
def TX6 : u_T := fun k => match k with
  | 0 => ("TwistedLight$Sightings", "spots", "[I", true)
  | 1 => ("TwistedLight$Sightings", "symbols", "[I", true)
  | _ => ("TwistedLight$Sightings", "size", "I", false)
def tyX6 : Nat → FieldType := fun k => match k with
  | 0 => .array .int
  | 1 => .array .int
  | _ => .int
abbrev wsX60 : List Cond := u_ws RX6 TX6 3
theorem nmX6 : ∀ a, a < 3 → ∀ b, b < 3 → a ≠ b → (TX6 a).2.1 ≠ (TX6 b).2.1 := by decide +kernel
theorem tyX6_ok : ∀ k, k < 3 → parseFieldDescriptor (TX6 k).2.2.1 = some (tyX6 k) := by decide +kernel
abbrev cX6_init : ByteArray := prog_8_method_1_code
def yX6_init : MethodName := ⟨RX6, "<init>", "()V"⟩
abbrev cX6_append : ByteArray := prog_8_method_2_code
def yX6_append : MethodName := ⟨RX6, "append", "(II)Z"⟩
abbrev cX6_areTrueOf : ByteArray := prog_8_method_3_code
def yX6_areTrueOf : MethodName := ⟨RX6, "areTrueOf", "(LTwistedLight$Block;)Z"⟩
def RX7 : String := "TwistedLight$State"
def TX7 : u_T := fun k => match k with
  | 0 => ("TwistedLight$State", "sent", "[I", true)
  | 1 => ("TwistedLight$State", "marked", "I", false)
  | 2 => ("TwistedLight$State", "line", "LTwistedLight$Steps;", true)
  | 3 => ("TwistedLight$State", "chain", "LTwistedLight$Steps;", true)
  | 4 => ("TwistedLight$State", "loss", "F", false)
  | _ => ("TwistedLight$State", "heard", "I", false)
def tyX7 : Nat → FieldType := fun k => match k with
  | 0 => .array .int
  | 1 => .int
  | 2 => .object "TwistedLight$Steps"
  | 3 => .object "TwistedLight$Steps"
  | 4 => .float
  | _ => .int
abbrev wsX70 : List Cond := u_ws RX7 TX7 6
theorem nmX7 : ∀ a, a < 6 → ∀ b, b < 6 → a ≠ b → (TX7 a).2.1 ≠ (TX7 b).2.1 := by decide +kernel
theorem tyX7_ok : ∀ k, k < 6 → parseFieldDescriptor (TX7 k).2.2.1 = some (tyX7 k) := by decide +kernel
abbrev cX7_init : ByteArray := prog_9_method_1_code
def yX7_init : MethodName := ⟨RX7, "<init>", "()V"⟩
abbrev cX7_tellNothing : ByteArray := prog_9_method_2_code
def yX7_tellNothing : MethodName := ⟨RX7, "tellNothing", "()V"⟩
abbrev cX7_emptyRow : ByteArray := prog_9_method_3_code
def yX7_emptyRow : MethodName := ⟨RX7, "emptyRow", "(I)V"⟩
abbrev cX7_isMarked : ByteArray := prog_9_method_4_code
def yX7_isMarked : MethodName := ⟨RX7, "isMarked", "(I)Z"⟩
abbrev cX7_mark : ByteArray := prog_9_method_5_code
def yX7_mark : MethodName := ⟨RX7, "mark", "(IZ)V"⟩
abbrev cX7_firstMarked : ByteArray := prog_9_method_6_code
def yX7_firstMarked : MethodName := ⟨RX7, "firstMarked", "()I"⟩
abbrev cX7_takeFrom : ByteArray := prog_9_method_7_code
def yX7_takeFrom : MethodName := ⟨RX7, "takeFrom", "(LTwistedLight$State;)V"⟩
def RX8 : String := "TwistedLight$Steps"
def TX8 : u_T := fun k => match k with
  | 0 => ("TwistedLight$Steps", "numbers", "[I", true)
  | 1 => ("TwistedLight$Steps", "room", "I", true)
  | _ => ("TwistedLight$Steps", "size", "I", false)
def tyX8 : Nat → FieldType := fun k => match k with
  | 0 => .array .int
  | 1 => .int
  | _ => .int
abbrev wsX80 : List Cond := u_ws RX8 TX8 3
theorem nmX8 : ∀ a, a < 3 → ∀ b, b < 3 → a ≠ b → (TX8 a).2.1 ≠ (TX8 b).2.1 := by decide +kernel
theorem tyX8_ok : ∀ k, k < 3 → parseFieldDescriptor (TX8 k).2.2.1 = some (tyX8 k) := by decide +kernel
abbrev cX8_init : ByteArray := prog_10_method_1_code
def yX8_init : MethodName := ⟨RX8, "<init>", "(I)V"⟩
abbrev cX8_isPossible : ByteArray := prog_10_method_2_code
def yX8_isPossible : MethodName := ⟨RX8, "isPossible", "([I[I)Z"⟩
abbrev cX8_allows : ByteArray := prog_10_method_3_code
def yX8_allows : MethodName := ⟨RX8, "allows", "([I[III)Z"⟩
abbrev cX8_isFull : ByteArray := prog_10_method_4_code
def yX8_isFull : MethodName := ⟨RX8, "isFull", "()Z"⟩
abbrev cX8_append : ByteArray := prog_10_method_5_code
def yX8_append : MethodName := ⟨RX8, "append", "([I)V"⟩
abbrev cX8_remove : ByteArray := prog_10_method_6_code
def yX8_remove : MethodName := ⟨RX8, "remove", "(I)V"⟩
abbrev cX8_arrange : ByteArray := prog_10_method_7_code
def yX8_arrange : MethodName := ⟨RX8, "arrange", "(LTwistedLight$Steps;[I)V"⟩
abbrev cX8_numberOf : ByteArray := prog_10_method_8_code
def yX8_numberOf : MethodName := ⟨RX8, "numberOf", "(II)I"⟩
abbrev cX8_takeFrom : ByteArray := prog_10_method_9_code
def yX8_takeFrom : MethodName := ⟨RX8, "takeFrom", "(LTwistedLight$Steps;)V"⟩
def RX9 : String := "TwistedLight$Text"
def TX9 : u_T := fun k => match k with
  | 0 => ("TwistedLight$Text", "letters", "[I", true)
  | 1 => ("TwistedLight$Text", "step", "[I", true)
  | 2 => ("TwistedLight$Text", "length", "I", false)
  | 3 => ("TwistedLight$Text", "item", "I", false)
  | 4 => ("TwistedLight$Text", "told", "I", false)
  | 5 => ("TwistedLight$Text", "items", "I", false)
  | _ => ("TwistedLight$Text", "marksTold", "Z", false)
def tyX9 : Nat → FieldType := fun k => match k with
  | 0 => .array .int
  | 1 => .array .int
  | 2 => .int
  | 3 => .int
  | 4 => .int
  | 5 => .int
  | _ => .boolean
abbrev wsX90 : List Cond := u_ws RX9 TX9 7
theorem nmX9 : ∀ a, a < 7 → ∀ b, b < 7 → a ≠ b → (TX9 a).2.1 ≠ (TX9 b).2.1 := by decide +kernel
theorem tyX9_ok : ∀ k, k < 7 → parseFieldDescriptor (TX9 k).2.2.1 = some (tyX9 k) := by decide +kernel
abbrev cX9_init : ByteArray := prog_11_method_1_code
def yX9_init : MethodName := ⟨RX9, "<init>", "()V"⟩
abbrev cX9_append : ByteArray := prog_11_method_2_code
def yX9_append : MethodName := ⟨RX9, "append", "(I)Z"⟩
abbrev cX9_readInto : ByteArray := prog_11_method_3_code
def yX9_readInto : MethodName := ⟨RX9, "readInto", "(LTwistedLight$State;)I"⟩
abbrev cX9_endOfToken : ByteArray := prog_11_method_4_code
def yX9_endOfToken : MethodName := ⟨RX9, "endOfToken", "(I)I"⟩
abbrev cX9_isDigit : ByteArray := prog_11_method_5_code
def yX9_isDigit : MethodName := ⟨RX9, "isDigit", "(I)Z"⟩
abbrev cX9_takesToken : ByteArray := prog_11_method_6_code
def yX9_takesToken : MethodName := ⟨RX9, "takesToken", "(LTwistedLight$State;II)Z"⟩
abbrev cX9_valueOf : ByteArray := prog_11_method_7_code
def yX9_valueOf : MethodName := ⟨RX9, "valueOf", "(II)I"⟩
abbrev cX9_beginsItem : ByteArray := prog_11_method_8_code
def yX9_beginsItem : MethodName := ⟨RX9, "beginsItem", "(LTwistedLight$State;I)Z"⟩
abbrev cX9_takesNumber : ByteArray := prog_11_method_9_code
def yX9_takesNumber : MethodName := ⟨RX9, "takesNumber", "(LTwistedLight$State;I)Z"⟩
abbrev cX9_takesSymbol : ByteArray := prog_11_method_10_code
def yX9_takesSymbol : MethodName := ⟨RX9, "takesSymbol", "(LTwistedLight$State;II)Z"⟩
abbrev cX9_takesMark : ByteArray := prog_11_method_11_code
def yX9_takesMark : MethodName := ⟨RX9, "takesMark", "(LTwistedLight$State;I)Z"⟩
abbrev cX9_takesPart : ByteArray := prog_11_method_12_code
def yX9_takesPart : MethodName := ⟨RX9, "takesPart", "(I)Z"⟩
abbrev cX9_endsItem : ByteArray := prog_11_method_13_code
def yX9_endsItem : MethodName := ⟨RX9, "endsItem", "(LTwistedLight$State;)Z"⟩
abbrev cX9_isWhole : ByteArray := prog_11_method_14_code
def yX9_isWhole : MethodName := ⟨RX9, "isWhole", "()Z"⟩
def RX10 : String := "TwistedLight"
def TX10 : u_T := fun k => match k with
  | 0 => ("TwistedLight", "present", "LTwistedLight$State;", true)
  | 1 => ("TwistedLight", "draft", "LTwistedLight$State;", true)
  | 2 => ("TwistedLight", "images", "[LTwistedLight$State;", true)
  | 3 => ("TwistedLight", "saved", "[Z", true)
  | 4 => ("TwistedLight", "history", "LTwistedLight$History;", true)
  | 5 => ("TwistedLight", "text", "LTwistedLight$Text;", true)
  | 6 => ("TwistedLight", "sightings", "LTwistedLight$Sightings;", true)
  | 7 => ("TwistedLight", "received", "LTwistedLight$Block;", true)
  | 8 => ("TwistedLight", "trial", "LTwistedLight$Block;", true)
  | 9 => ("TwistedLight", "arrangement", "LTwistedLight$Arrangement;", true)
  | 10 => ("TwistedLight", "step", "[I", true)
  | 11 => ("TwistedLight", "learnt", "LTwistedLight$Matrix;", true)
  | _ => ("TwistedLight", "lights", "LTwistedLight$Matrix;", true)
def tyX10 : Nat → FieldType := fun k => match k with
  | 0 => .object "TwistedLight$State"
  | 1 => .object "TwistedLight$State"
  | 2 => .array (.object "TwistedLight$State")
  | 3 => .array .boolean
  | 4 => .object "TwistedLight$History"
  | 5 => .object "TwistedLight$Text"
  | 6 => .object "TwistedLight$Sightings"
  | 7 => .object "TwistedLight$Block"
  | 8 => .object "TwistedLight$Block"
  | 9 => .object "TwistedLight$Arrangement"
  | 10 => .array .int
  | 11 => .object "TwistedLight$Matrix"
  | _ => .object "TwistedLight$Matrix"
abbrev wsX100 : List Cond := u_ws RX10 TX10 13
theorem nmX10 : ∀ a, a < 13 → ∀ b, b < 13 → a ≠ b → (TX10 a).2.1 ≠ (TX10 b).2.1 := by decide +kernel
theorem tyX10_ok : ∀ k, k < 13 → parseFieldDescriptor (TX10 k).2.2.1 = some (tyX10 k) := by decide +kernel
abbrev cX10_init : ByteArray := prog_1_method_1_code
def yX10_init : MethodName := ⟨RX10, "<init>", "()V"⟩
abbrev cX10_type : ByteArray := prog_1_method_2_code
def yX10_type : MethodName := ⟨RX10, "type", "(I)I"⟩
abbrev cX10_clear : ByteArray := prog_1_method_3_code
def yX10_clear : MethodName := ⟨RX10, "clear", "()I"⟩
abbrev cX10_block : ByteArray := prog_1_method_4_code
def yX10_block : MethodName := ⟨RX10, "block", "()I"⟩
abbrev cX10_sends : ByteArray := prog_1_method_5_code
def yX10_sends : MethodName := ⟨RX10, "sends", "(III)I"⟩
abbrev cX10_marks : ByteArray := prog_1_method_6_code
def yX10_marks : MethodName := ⟨RX10, "marks", "(II)I"⟩
abbrev cX10_adds : ByteArray := prog_1_method_7_code
def yX10_adds : MethodName := ⟨RX10, "adds", "(IIIII)I"⟩
abbrev cX10_cuts : ByteArray := prog_1_method_8_code
def yX10_cuts : MethodName := ⟨RX10, "cuts", "()I"⟩
abbrev cX10_stages : ByteArray := prog_1_method_9_code
def yX10_stages : MethodName := ⟨RX10, "stages", "(IIIII)I"⟩
abbrev cX10_drops : ByteArray := prog_1_method_10_code
def yX10_drops : MethodName := ⟨RX10, "drops", "(I)I"⟩
abbrev cX10_learns : ByteArray := prog_1_method_11_code
def yX10_learns : MethodName := ⟨RX10, "learns", "(II)I"⟩
abbrev cX10_orders : ByteArray := prog_1_method_12_code
def yX10_orders : MethodName := ⟨RX10, "orders", "()I"⟩
abbrev cX10_hears : ByteArray := prog_1_method_13_code
def yX10_hears : MethodName := ⟨RX10, "hears", "()I"⟩
abbrev cX10_undo : ByteArray := prog_1_method_14_code
def yX10_undo : MethodName := ⟨RX10, "undo", "()I"⟩
abbrev cX10_at : ByteArray := prog_1_method_15_code
def yX10_at : MethodName := ⟨RX10, "at", "(III)I"⟩
abbrev cX10_deed : ByteArray := prog_1_method_16_code
def yX10_deed : MethodName := ⟨RX10, "deed", "(II)I"⟩
abbrev cX10_stage : ByteArray := prog_1_method_17_code
def yX10_stage : MethodName := ⟨RX10, "stage", "(II)I"⟩
abbrev cX10_wrong : ByteArray := prog_1_method_18_code
def yX10_wrong : MethodName := ⟨RX10, "wrong", "(I)I"⟩
abbrev cX10_loss : ByteArray := prog_1_method_19_code
def yX10_loss : MethodName := ⟨RX10, "loss", "()I"⟩
abbrev cX10_taps : ByteArray := prog_1_method_20_code
def yX10_taps : MethodName := ⟨RX10, "taps", "(III)I"⟩
abbrev cX10_skew : ByteArray := prog_1_method_21_code
def yX10_skew : MethodName := ⟨RX10, "skew", "()I"⟩
abbrev cX10_spreads : ByteArray := prog_1_method_22_code
def yX10_spreads : MethodName := ⟨RX10, "spreads", "(I)I"⟩
abbrev cX10_order : ByteArray := prog_1_method_23_code
def yX10_order : MethodName := ⟨RX10, "order", "(I)I"⟩
abbrev cX10_lag : ByteArray := prog_1_method_24_code
def yX10_lag : MethodName := ⟨RX10, "lag", "(I)I"⟩
abbrev cX10_sees : ByteArray := prog_1_method_25_code
def yX10_sees : MethodName := ⟨RX10, "sees", "(III)I"⟩
abbrev cX10_forget : ByteArray := prog_1_method_26_code
def yX10_forget : MethodName := ⟨RX10, "forget", "()I"⟩
abbrev cX10_fits : ByteArray := prog_1_method_27_code
def yX10_fits : MethodName := ⟨RX10, "fits", "(I)I"⟩
abbrev cX10_odds : ByteArray := prog_1_method_28_code
def yX10_odds : MethodName := ⟨RX10, "odds", "(IIII)I"⟩
abbrev cX10_keep : ByteArray := prog_1_method_29_code
def yX10_keep : MethodName := ⟨RX10, "keep", "(I)I"⟩
abbrev cX10_back : ByteArray := prog_1_method_30_code
def yX10_back : MethodName := ⟨RX10, "back", "(I)I"⟩
abbrev cX10_count : ByteArray := prog_1_method_31_code
def yX10_count : MethodName := ⟨RX10, "count", "(I)I"⟩
abbrev cX10_isPlace : ByteArray := prog_1_method_32_code
def yX10_isPlace : MethodName := ⟨RX10, "isPlace", "(I)Z"⟩
abbrev cX10_isSpot : ByteArray := prog_1_method_33_code
def yX10_isSpot : MethodName := ⟨RX10, "isSpot", "(II)Z"⟩
abbrev cX10_isSymbol : ByteArray := prog_1_method_34_code
def yX10_isSymbol : MethodName := ⟨RX10, "isSymbol", "(I)Z"⟩
abbrev cX10_isPair : ByteArray := prog_1_method_35_code
def yX10_isPair : MethodName := ⟨RX10, "isPair", "(II)Z"⟩
abbrev cX10_putStep : ByteArray := prog_1_method_36_code
def yX10_putStep : MethodName := ⟨RX10, "putStep", "(IIIII)V"⟩
abbrev cX10_appendStep : ByteArray := prog_1_method_37_code
def yX10_appendStep : MethodName := ⟨RX10, "appendStep", "(LTwistedLight$Steps;)I"⟩
abbrev cX10_errorsAfter : ByteArray := prog_1_method_38_code
def yX10_errorsAfter : MethodName := ⟨RX10, "errorsAfter", "(I)I"⟩
abbrev cX10_unspreadFits : ByteArray := prog_1_method_39_code
def yX10_unspreadFits : MethodName := ⟨RX10, "unspreadFits", "(I)Z"⟩
abbrev cX10_slipFits : ByteArray := prog_1_method_40_code
def yX10_slipFits : MethodName := ⟨RX10, "slipFits", "(II)Z"⟩
abbrev cX10_findTaps : ByteArray := prog_1_method_41_code
def yX10_findTaps : MethodName := ⟨RX10, "findTaps", "(II)Z"⟩
abbrev cX10_findBestOrder : ByteArray := prog_1_method_42_code
def yX10_findBestOrder : MethodName := ⟨RX10, "findBestOrder", "()I"⟩
abbrev cX10_errorsInOrder : ByteArray := prog_1_method_43_code
def yX10_errorsInOrder : MethodName := ⟨RX10, "errorsInOrder", "([I)I"⟩
def RX11 : String := "TwistedLightModel"
def TX11 : u_T := fun k => match k with
  | 0 => ("TwistedLightModel", "now", "[I", true)
  | 1 => ("TwistedLightModel", "lost", "F", false)
  | 2 => ("TwistedLightModel", "past", "[I", true)
  | 3 => ("TwistedLightModel", "pastLost", "[F", true)
  | 4 => ("TwistedLightModel", "pasts", "I", false)
  | 5 => ("TwistedLightModel", "images", "[I", true)
  | 6 => ("TwistedLightModel", "imageLost", "[F", true)
  | 7 => ("TwistedLightModel", "isKept", "[Z", true)
  | 8 => ("TwistedLightModel", "text", "[I", true)
  | 9 => ("TwistedLightModel", "typed", "I", false)
  | 10 => ("TwistedLightModel", "draft", "[I", true)
  | 11 => ("TwistedLightModel", "at", "I", false)
  | 12 => ("TwistedLightModel", "tokenAt", "I", false)
  | 13 => ("TwistedLightModel", "token", "I", false)
  | 14 => ("TwistedLightModel", "value", "I", false)
  | 15 => ("TwistedLightModel", "fault", "I", false)
  | 16 => ("TwistedLightModel", "isMarkTold", "Z", false)
  | 17 => ("TwistedLightModel", "way", "[I", true)
  | 18 => ("TwistedLightModel", "made", "[I", true)
  | 19 => ("TwistedLightModel", "tapU", "I", false)
  | 20 => ("TwistedLightModel", "tapV", "I", false)
  | 21 => ("TwistedLightModel", "four", "[I", true)
  | 22 => ("TwistedLightModel", "tried", "[I", true)
  | 23 => ("TwistedLightModel", "best", "[I", true)
  | 24 => ("TwistedLightModel", "bestWrong", "I", false)
  | 25 => ("TwistedLightModel", "chain", "[I", true)
  | 26 => ("TwistedLightModel", "received", "[I", true)
  | 27 => ("TwistedLightModel", "seen", "I", false)
  | 28 => ("TwistedLightModel", "seenAt", "[I", true)
  | _ => ("TwistedLightModel", "seenAs", "[I", true)
def tyX11 : Nat → FieldType := fun k => match k with
  | 0 => .array .int
  | 1 => .float
  | 2 => .array .int
  | 3 => .array .float
  | 4 => .int
  | 5 => .array .int
  | 6 => .array .float
  | 7 => .array .boolean
  | 8 => .array .int
  | 9 => .int
  | 10 => .array .int
  | 11 => .int
  | 12 => .int
  | 13 => .int
  | 14 => .int
  | 15 => .int
  | 16 => .boolean
  | 17 => .array .int
  | 18 => .array .int
  | 19 => .int
  | 20 => .int
  | 21 => .array .int
  | 22 => .array .int
  | 23 => .array .int
  | 24 => .int
  | 25 => .array .int
  | 26 => .array .int
  | 27 => .int
  | 28 => .array .int
  | _ => .array .int
abbrev wsX110 : List Cond := u_ws RX11 TX11 30
theorem nmX11 : ∀ a, a < 30 → ∀ b, b < 30 → a ≠ b → (TX11 a).2.1 ≠ (TX11 b).2.1 := by decide +kernel
theorem tyX11_ok : ∀ k, k < 30 → parseFieldDescriptor (TX11 k).2.2.1 = some (tyX11 k) := by decide +kernel
abbrev cX11_init : ByteArray := prog_13_method_1_code
def yX11_init : MethodName := ⟨RX11, "<init>", "()V"⟩
abbrev cX11_in : ByteArray := prog_13_method_2_code
def yX11_in : MethodName := ⟨RX11, "in", "(III)Z"⟩
abbrev cX11_has : ByteArray := prog_13_method_3_code
def yX11_has : MethodName := ⟨RX11, "has", "(II)Z"⟩
abbrev cX11_left : ByteArray := prog_13_method_4_code
def yX11_left : MethodName := ⟨RX11, "left", "(I)I"⟩
abbrev cX11_power : ByteArray := prog_13_method_5_code
def yX11_power : MethodName := ⟨RX11, "power", "(II)I"⟩
abbrev cX11_inverse : ByteArray := prog_13_method_6_code
def yX11_inverse : MethodName := ⟨RX11, "inverse", "(I)I"⟩
abbrev cX11_light : ByteArray := prog_13_method_7_code
def yX11_light : MethodName := ⟨RX11, "light", "(I)I"⟩
abbrev cX11_decided : ByteArray := prog_13_method_8_code
def yX11_decided : MethodName := ⟨RX11, "decided", "(I)I"⟩
abbrev cX11_note : ByteArray := prog_13_method_9_code
def yX11_note : MethodName := ⟨RX11, "note", "()V"⟩
abbrev cX11_undo : ByteArray := prog_13_method_10_code
def yX11_undo : MethodName := ⟨RX11, "undo", "()I"⟩
abbrev cX11_mayBe : ByteArray := prog_13_method_11_code
def yX11_mayBe : MethodName := ⟨RX11, "mayBe", "(IIIIII)Z"⟩
abbrev cX11_isDeed : ByteArray := prog_13_method_12_code
def yX11_isDeed : MethodName := ⟨RX11, "isDeed", "(IIIII)Z"⟩
abbrev cX11_isStage : ByteArray := prog_13_method_13_code
def yX11_isStage : MethodName := ⟨RX11, "isStage", "(IIIII)Z"⟩
abbrev cX11_type : ByteArray := prog_13_method_14_code
def yX11_type : MethodName := ⟨RX11, "type", "(I)I"⟩
abbrev cX11_clear : ByteArray := prog_13_method_15_code
def yX11_clear : MethodName := ⟨RX11, "clear", "()I"⟩
abbrev cX11_next : ByteArray := prog_13_method_16_code
def yX11_next : MethodName := ⟨RX11, "next", "()V"⟩
abbrev cX11_must : ByteArray := prog_13_method_17_code
def yX11_must : MethodName := ⟨RX11, "must", "(Z)V"⟩
abbrev cX11_readRow : ByteArray := prog_13_method_18_code
def yX11_readRow : MethodName := ⟨RX11, "readRow", "(I)V"⟩
abbrev cX11_readMarks : ByteArray := prog_13_method_19_code
def yX11_readMarks : MethodName := ⟨RX11, "readMarks", "()V"⟩
abbrev cX11_readDeed : ByteArray := prog_13_method_20_code
def yX11_readDeed : MethodName := ⟨RX11, "readDeed", "()V"⟩
abbrev cX11_readItem : ByteArray := prog_13_method_21_code
def yX11_readItem : MethodName := ⟨RX11, "readItem", "()V"⟩
abbrev cX11_block : ByteArray := prog_13_method_22_code
def yX11_block : MethodName := ⟨RX11, "block", "()I"⟩
abbrev cX11_sends : ByteArray := prog_13_method_23_code
def yX11_sends : MethodName := ⟨RX11, "sends", "(III)I"⟩
abbrev cX11_marksMany : ByteArray := prog_13_method_24_code
def yX11_marksMany : MethodName := ⟨RX11, "marksMany", "()I"⟩
abbrev cX11_marks : ByteArray := prog_13_method_25_code
def yX11_marks : MethodName := ⟨RX11, "marks", "(II)I"⟩
abbrev cX11_lay : ByteArray := prog_13_method_26_code
def yX11_lay : MethodName := ⟨RX11, "lay", "(IIIIII)V"⟩
abbrev cX11_adds : ByteArray := prog_13_method_27_code
def yX11_adds : MethodName := ⟨RX11, "adds", "(IIIII)I"⟩
abbrev cX11_cuts : ByteArray := prog_13_method_28_code
def yX11_cuts : MethodName := ⟨RX11, "cuts", "()I"⟩
abbrev cX11_takeMade : ByteArray := prog_13_method_29_code
def yX11_takeMade : MethodName := ⟨RX11, "takeMade", "()V"⟩
abbrev cX11_spread : ByteArray := prog_13_method_30_code
def yX11_spread : MethodName := ⟨RX11, "spread", "(I)V"⟩
abbrev cX11_unspread : ByteArray := prog_13_method_31_code
def yX11_unspread : MethodName := ⟨RX11, "unspread", "(I)V"⟩
abbrev cX11_twist : ByteArray := prog_13_method_32_code
def yX11_twist : MethodName := ⟨RX11, "twist", "(IIII)V"⟩
abbrev cX11_untwist : ByteArray := prog_13_method_33_code
def yX11_untwist : MethodName := ⟨RX11, "untwist", "(IIII)V"⟩
abbrev cX11_slip : ByteArray := prog_13_method_34_code
def yX11_slip : MethodName := ⟨RX11, "slip", "(II)V"⟩
abbrev cX11_late : ByteArray := prog_13_method_35_code
def yX11_late : MethodName := ⟨RX11, "late", "(I)V"⟩
abbrev cX11_isLight : ByteArray := prog_13_method_36_code
def yX11_isLight : MethodName := ⟨RX11, "isLight", "(I)Z"⟩
abbrev cX11_blind : ByteArray := prog_13_method_37_code
def yX11_blind : MethodName := ⟨RX11, "blind", "()V"⟩
abbrev cX11_mend : ByteArray := prog_13_method_38_code
def yX11_mend : MethodName := ⟨RX11, "mend", "()V"⟩
abbrev cX11_mendFrom : ByteArray := prog_13_method_39_code
def yX11_mendFrom : MethodName := ⟨RX11, "mendFrom", "(II)V"⟩
abbrev cX11_doDeed : ByteArray := prog_13_method_40_code
def yX11_doDeed : MethodName := ⟨RX11, "doDeed", "(I)V"⟩
abbrev cX11_doStage : ByteArray := prog_13_method_41_code
def yX11_doStage : MethodName := ⟨RX11, "doStage", "(I)V"⟩
abbrev cX11_layAir : ByteArray := prog_13_method_42_code
def yX11_layAir : MethodName := ⟨RX11, "layAir", "()V"⟩
abbrev cX11_goThrough : ByteArray := prog_13_method_43_code
def yX11_goThrough : MethodName := ⟨RX11, "goThrough", "(I)V"⟩
abbrev cX11_layReceived : ByteArray := prog_13_method_44_code
def yX11_layReceived : MethodName := ⟨RX11, "layReceived", "()V"⟩
abbrev cX11_wrongNow : ByteArray := prog_13_method_45_code
def yX11_wrongNow : MethodName := ⟨RX11, "wrongNow", "()I"⟩
abbrev cX11_wrongAtMarks : ByteArray := prog_13_method_46_code
def yX11_wrongAtMarks : MethodName := ⟨RX11, "wrongAtMarks", "()I"⟩
abbrev cX11_wrongReceived : ByteArray := prog_13_method_47_code
def yX11_wrongReceived : MethodName := ⟨RX11, "wrongReceived", "()I"⟩
abbrev cX11_stages : ByteArray := prog_13_method_48_code
def yX11_stages : MethodName := ⟨RX11, "stages", "(IIIII)I"⟩
abbrev cX11_drops : ByteArray := prog_13_method_49_code
def yX11_drops : MethodName := ⟨RX11, "drops", "(I)I"⟩
abbrev cX11_findTaps : ByteArray := prog_13_method_50_code
def yX11_findTaps : MethodName := ⟨RX11, "findTaps", "(III)Z"⟩
abbrev cX11_areTaps : ByteArray := prog_13_method_51_code
def yX11_areTaps : MethodName := ⟨RX11, "areTaps", "(II)Z"⟩
abbrev cX11_arePlaces : ByteArray := prog_13_method_52_code
def yX11_arePlaces : MethodName := ⟨RX11, "arePlaces", "(II)Z"⟩
abbrev cX11_learns : ByteArray := prog_13_method_53_code
def yX11_learns : MethodName := ⟨RX11, "learns", "(II)I"⟩
abbrev cX11_taps : ByteArray := prog_13_method_54_code
def yX11_taps : MethodName := ⟨RX11, "taps", "(III)I"⟩
abbrev cX11_turnsOn : ByteArray := prog_13_method_55_code
def yX11_turnsOn : MethodName := ⟨RX11, "turnsOn", "(I)Z"⟩
abbrev cX11_swap : ByteArray := prog_13_method_56_code
def yX11_swap : MethodName := ⟨RX11, "swap", "(II)V"⟩
abbrev cX11_findOrder : ByteArray := prog_13_method_57_code
def yX11_findOrder : MethodName := ⟨RX11, "findOrder", "()V"⟩
abbrev cX11_order : ByteArray := prog_13_method_58_code
def yX11_order : MethodName := ⟨RX11, "order", "(I)I"⟩
abbrev cX11_orders : ByteArray := prog_13_method_59_code
def yX11_orders : MethodName := ⟨RX11, "orders", "()I"⟩
abbrev cX11_hears : ByteArray := prog_13_method_60_code
def yX11_hears : MethodName := ⟨RX11, "hears", "()I"⟩
abbrev cX11_at : ByteArray := prog_13_method_61_code
def yX11_at : MethodName := ⟨RX11, "at", "(III)I"⟩
abbrev cX11_deed : ByteArray := prog_13_method_62_code
def yX11_deed : MethodName := ⟨RX11, "deed", "(II)I"⟩
abbrev cX11_stage : ByteArray := prog_13_method_63_code
def yX11_stage : MethodName := ⟨RX11, "stage", "(II)I"⟩
abbrev cX11_wrong : ByteArray := prog_13_method_64_code
def yX11_wrong : MethodName := ⟨RX11, "wrong", "(I)I"⟩
abbrev cX11_loss : ByteArray := prog_13_method_65_code
def yX11_loss : MethodName := ⟨RX11, "loss", "()I"⟩
abbrev cX11_keepReceived : ByteArray := prog_13_method_66_code
def yX11_keepReceived : MethodName := ⟨RX11, "keepReceived", "()V"⟩
abbrev cX11_layKept : ByteArray := prog_13_method_67_code
def yX11_layKept : MethodName := ⟨RX11, "layKept", "()V"⟩
abbrev cX11_skew : ByteArray := prog_13_method_68_code
def yX11_skew : MethodName := ⟨RX11, "skew", "()I"⟩
abbrev cX11_spreads : ByteArray := prog_13_method_69_code
def yX11_spreads : MethodName := ⟨RX11, "spreads", "(I)I"⟩
abbrev cX11_lag : ByteArray := prog_13_method_70_code
def yX11_lag : MethodName := ⟨RX11, "lag", "(I)I"⟩
abbrev cX11_sees : ByteArray := prog_13_method_71_code
def yX11_sees : MethodName := ⟨RX11, "sees", "(III)I"⟩
abbrev cX11_forget : ByteArray := prog_13_method_72_code
def yX11_forget : MethodName := ⟨RX11, "forget", "()I"⟩
abbrev cX11_isSeenBy : ByteArray := prog_13_method_73_code
def yX11_isSeenBy : MethodName := ⟨RX11, "isSeenBy", "(II)Z"⟩
abbrev cX11_fits : ByteArray := prog_13_method_74_code
def yX11_fits : MethodName := ⟨RX11, "fits", "(I)I"⟩
abbrev cX11_odds : ByteArray := prog_13_method_75_code
def yX11_odds : MethodName := ⟨RX11, "odds", "(IIII)I"⟩
abbrev cX11_keep : ByteArray := prog_13_method_76_code
def yX11_keep : MethodName := ⟨RX11, "keep", "(I)I"⟩
abbrev cX11_back : ByteArray := prog_13_method_77_code
def yX11_back : MethodName := ⟨RX11, "back", "(I)I"⟩
abbrev cX11_count : ByteArray := prog_13_method_78_code
def yX11_count : MethodName := ⟨RX11, "count", "(I)I"⟩
def RJ6 : String := "java/lang/Integer"
abbrev cJ6_bitCount_0f7a4 : ByteArray := prog_14_method_49_code
def yJ6_bitCount_0f7a4 : MethodName := ⟨RJ6, "bitCount", "(I)I"⟩
def RJ9 : String := "java/lang/Math"
abbrev cJ9_floorMod_7cf53 : ByteArray := prog_15_method_50_code
def yJ9_floorMod_7cf53 : MethodName := ⟨RJ9, "floorMod", "(II)I"⟩
abbrev cJ9_max_7cf53 : ByteArray := prog_15_method_65_code
def yJ9_max_7cf53 : MethodName := ⟨RJ9, "max", "(II)I"⟩
abbrev cJ9_min_7cf53 : ByteArray := prog_15_method_69_code
def yJ9_min_7cf53 : MethodName := ⟨RJ9, "min", "(II)I"⟩
def RJ10 : String := "java/lang/System"
def RJ7 : String := "java/util/Arrays"
abbrev cJ7_fill_53178 : ByteArray := prog_17_method_103_code
def yJ7_fill_53178 : MethodName := ⟨RJ7, "fill", "([II)V"⟩
def RL : String := "TwistedLightLaw"
abbrev cL_law : ByteArray := code
def yL_law : MethodName := ⟨RL, "law", "([I)Z"⟩
abbrev vwCl : List vw_C := [(RX0, TX0, 3), (RX1, TX1, 4), (RX3, TX3, 3), (RX4, TX4, 4), (RX6, TX6, 3), (RX7, TX7, 6), (RX8, TX8, 3), (RX9, TX9, 7), (RX10, TX10, 13), (RX11, TX11, 30)]
end
section
/-! decode rows, printed -/
theorem dX0_init_0 : decode cX0_init 0 = .ok (.aload_n 0, 1) := by decide +kernel
theorem dX0_init_1 : decode cX0_init 1 = .ok (.invokespecial 3, 3) := by decide +kernel
theorem dX0_init_4 : decode cX0_init 4 = .ok (.aload_n 0, 1) := by decide +kernel
theorem dX0_init_5 : decode cX0_init 5 = .ok (.iconst 4, 1) := by decide +kernel
theorem dX0_init_6 : decode cX0_init 6 = .ok (.newarray .int, 2) := by decide +kernel
theorem dX0_init_8 : decode cX0_init 8 = .ok (.putfield 9, 3) := by decide +kernel
theorem dX0_init_11 : decode cX0_init 11 = .ok (.aload_n 0, 1) := by decide +kernel
theorem dX0_init_12 : decode cX0_init 12 = .ok (.iconst 4, 1) := by decide +kernel
theorem dX0_init_13 : decode cX0_init 13 = .ok (.newarray .int, 2) := by decide +kernel
theorem dX0_init_15 : decode cX0_init 15 = .ok (.putfield 15, 3) := by decide +kernel
theorem dX0_init_18 : decode cX0_init 18 = .ok (.return_, 1) := by decide +kernel
theorem dX0_start_0 : decode cX0_start 0 = .ok (.aload_n 0, 1) := by decide +kernel
theorem dX0_start_1 : decode cX0_start 1 = .ok (.iload_n 1, 1) := by decide +kernel
theorem dX0_start_2 : decode cX0_start 2 = .ok (.iconst 4, 1) := by decide +kernel
theorem dX0_start_3 : decode cX0_start 3 = .ok (.invokestatic 18, 3) := by decide +kernel
theorem dX0_start_6 : decode cX0_start 6 = .ok (.putfield 24, 3) := by decide +kernel
theorem dX0_start_9 : decode cX0_start 9 = .ok (.iconst 0, 1) := by decide +kernel
theorem dX0_start_10 : decode cX0_start 10 = .ok (.istore_n 2, 1) := by decide +kernel
theorem dX0_start_11 : decode cX0_start 11 = .ok (.iload_n 2, 1) := by decide +kernel
theorem dX0_start_12 : decode cX0_start 12 = .ok (.aload_n 0, 1) := by decide +kernel
theorem dX0_start_13 : decode cX0_start 13 = .ok (.getfield 24, 3) := by decide +kernel
theorem dX0_start_16 : decode cX0_start 16 = .ok (.if_icmp .ge 16, 3) := by decide +kernel
theorem dX0_start_19 : decode cX0_start 19 = .ok (.aload_n 0, 1) := by decide +kernel
theorem dX0_start_20 : decode cX0_start 20 = .ok (.getfield 9, 3) := by decide +kernel
theorem dX0_start_23 : decode cX0_start 23 = .ok (.iload_n 2, 1) := by decide +kernel
theorem dX0_start_24 : decode cX0_start 24 = .ok (.iload_n 2, 1) := by decide +kernel
theorem dX0_start_25 : decode cX0_start 25 = .ok (.iastore, 1) := by decide +kernel
theorem dX0_start_26 : decode cX0_start 26 = .ok (.iinc 2 1, 3) := by decide +kernel
theorem dX0_start_29 : decode cX0_start 29 = .ok (.goto (-18), 3) := by decide +kernel
theorem dX0_start_32 : decode cX0_start 32 = .ok (.return_, 1) := by decide +kernel
theorem dX0_keepCurrent_0 : decode cX0_keepCurrent 0 = .ok (.aload_n 0, 1) := by decide +kernel
theorem dX0_keepCurrent_1 : decode cX0_keepCurrent 1 = .ok (.getfield 9, 3) := by decide +kernel
theorem dX0_keepCurrent_4 : decode cX0_keepCurrent 4 = .ok (.iconst 0, 1) := by decide +kernel
theorem dX0_keepCurrent_5 : decode cX0_keepCurrent 5 = .ok (.aload_n 0, 1) := by decide +kernel
theorem dX0_keepCurrent_6 : decode cX0_keepCurrent 6 = .ok (.getfield 15, 3) := by decide +kernel
theorem dX0_keepCurrent_9 : decode cX0_keepCurrent 9 = .ok (.iconst 0, 1) := by decide +kernel
theorem dX0_keepCurrent_10 : decode cX0_keepCurrent 10 = .ok (.aload_n 0, 1) := by decide +kernel
theorem dX0_keepCurrent_11 : decode cX0_keepCurrent 11 = .ok (.getfield 24, 3) := by decide +kernel
theorem dX0_keepCurrent_14 : decode cX0_keepCurrent 14 = .ok (.invokestatic 28, 3) := by decide +kernel
theorem dX0_keepCurrent_17 : decode cX0_keepCurrent 17 = .ok (.return_, 1) := by decide +kernel
theorem dX0_bestIsPresent_0 : decode cX0_bestIsPresent 0 = .ok (.iconst 0, 1) := by decide +kernel
theorem dX0_bestIsPresent_1 : decode cX0_bestIsPresent 1 = .ok (.istore_n 1, 1) := by decide +kernel
theorem dX0_bestIsPresent_2 : decode cX0_bestIsPresent 2 = .ok (.iload_n 1, 1) := by decide +kernel
theorem dX0_bestIsPresent_3 : decode cX0_bestIsPresent 3 = .ok (.aload_n 0, 1) := by decide +kernel
theorem dX0_bestIsPresent_4 : decode cX0_bestIsPresent 4 = .ok (.getfield 24, 3) := by decide +kernel
theorem dX0_bestIsPresent_7 : decode cX0_bestIsPresent 7 = .ok (.if_icmp .ge 21, 3) := by decide +kernel
theorem dX0_bestIsPresent_10 : decode cX0_bestIsPresent 10 = .ok (.aload_n 0, 1) := by decide +kernel
theorem dX0_bestIsPresent_11 : decode cX0_bestIsPresent 11 = .ok (.getfield 15, 3) := by decide +kernel
theorem dX0_bestIsPresent_14 : decode cX0_bestIsPresent 14 = .ok (.iload_n 1, 1) := by decide +kernel
theorem dX0_bestIsPresent_15 : decode cX0_bestIsPresent 15 = .ok (.iaload, 1) := by decide +kernel
theorem dX0_bestIsPresent_16 : decode cX0_bestIsPresent 16 = .ok (.iload_n 1, 1) := by decide +kernel
theorem dX0_bestIsPresent_17 : decode cX0_bestIsPresent 17 = .ok (.if_icmp .eq 5, 3) := by decide +kernel
theorem dX0_bestIsPresent_20 : decode cX0_bestIsPresent 20 = .ok (.iconst 0, 1) := by decide +kernel
theorem dX0_bestIsPresent_21 : decode cX0_bestIsPresent 21 = .ok (.ireturn, 1) := by decide +kernel
theorem dX0_bestIsPresent_22 : decode cX0_bestIsPresent 22 = .ok (.iinc 1 1, 3) := by decide +kernel
theorem dX0_bestIsPresent_25 : decode cX0_bestIsPresent 25 = .ok (.goto (-23), 3) := by decide +kernel
theorem dX0_bestIsPresent_28 : decode cX0_bestIsPresent 28 = .ok (.iconst 1, 1) := by decide +kernel
theorem dX0_bestIsPresent_29 : decode cX0_bestIsPresent 29 = .ok (.ireturn, 1) := by decide +kernel
theorem dX0_moveOn_0 : decode cX0_moveOn 0 = .ok (.aload_n 0, 1) := by decide +kernel
theorem dX0_moveOn_1 : decode cX0_moveOn 1 = .ok (.getfield 24, 3) := by decide +kernel
theorem dX0_moveOn_4 : decode cX0_moveOn 4 = .ok (.iconst 2, 1) := by decide +kernel
theorem dX0_moveOn_5 : decode cX0_moveOn 5 = .ok (.isub, 1) := by decide +kernel
theorem dX0_moveOn_6 : decode cX0_moveOn 6 = .ok (.istore_n 1, 1) := by decide +kernel
theorem dX0_moveOn_7 : decode cX0_moveOn 7 = .ok (.iload_n 1, 1) := by decide +kernel
theorem dX0_moveOn_8 : decode cX0_moveOn 8 = .ok (.ifCond .lt 26, 3) := by decide +kernel
theorem dX0_moveOn_11 : decode cX0_moveOn 11 = .ok (.aload_n 0, 1) := by decide +kernel
theorem dX0_moveOn_12 : decode cX0_moveOn 12 = .ok (.getfield 9, 3) := by decide +kernel
theorem dX0_moveOn_15 : decode cX0_moveOn 15 = .ok (.iload_n 1, 1) := by decide +kernel
theorem dX0_moveOn_16 : decode cX0_moveOn 16 = .ok (.iaload, 1) := by decide +kernel
theorem dX0_moveOn_17 : decode cX0_moveOn 17 = .ok (.aload_n 0, 1) := by decide +kernel
theorem dX0_moveOn_18 : decode cX0_moveOn 18 = .ok (.getfield 9, 3) := by decide +kernel
theorem dX0_moveOn_21 : decode cX0_moveOn 21 = .ok (.iload_n 1, 1) := by decide +kernel
theorem dX0_moveOn_22 : decode cX0_moveOn 22 = .ok (.iconst 1, 1) := by decide +kernel
theorem dX0_moveOn_23 : decode cX0_moveOn 23 = .ok (.iadd, 1) := by decide +kernel
theorem dX0_moveOn_24 : decode cX0_moveOn 24 = .ok (.iaload, 1) := by decide +kernel
theorem dX0_moveOn_25 : decode cX0_moveOn 25 = .ok (.if_icmp .le 9, 3) := by decide +kernel
theorem dX0_moveOn_28 : decode cX0_moveOn 28 = .ok (.iinc 1 (-1), 3) := by decide +kernel
theorem dX0_moveOn_31 : decode cX0_moveOn 31 = .ok (.goto (-24), 3) := by decide +kernel
theorem dX0_moveOn_34 : decode cX0_moveOn 34 = .ok (.iload_n 1, 1) := by decide +kernel
theorem dX0_moveOn_35 : decode cX0_moveOn 35 = .ok (.ifCond .ge 5, 3) := by decide +kernel
theorem dX0_moveOn_38 : decode cX0_moveOn 38 = .ok (.iconst 0, 1) := by decide +kernel
theorem dX0_moveOn_39 : decode cX0_moveOn 39 = .ok (.ireturn, 1) := by decide +kernel
theorem dX0_moveOn_40 : decode cX0_moveOn 40 = .ok (.aload_n 0, 1) := by decide +kernel
theorem dX0_moveOn_41 : decode cX0_moveOn 41 = .ok (.getfield 24, 3) := by decide +kernel
theorem dX0_moveOn_44 : decode cX0_moveOn 44 = .ok (.iconst 1, 1) := by decide +kernel
theorem dX0_moveOn_45 : decode cX0_moveOn 45 = .ok (.isub, 1) := by decide +kernel
theorem dX0_moveOn_46 : decode cX0_moveOn 46 = .ok (.istore_n 2, 1) := by decide +kernel
theorem dX0_moveOn_47 : decode cX0_moveOn 47 = .ok (.iload_n 2, 1) := by decide +kernel
theorem dX0_moveOn_48 : decode cX0_moveOn 48 = .ok (.iload_n 1, 1) := by decide +kernel
theorem dX0_moveOn_49 : decode cX0_moveOn 49 = .ok (.if_icmp .le 24, 3) := by decide +kernel
theorem dX0_moveOn_52 : decode cX0_moveOn 52 = .ok (.aload_n 0, 1) := by decide +kernel
theorem dX0_moveOn_53 : decode cX0_moveOn 53 = .ok (.getfield 9, 3) := by decide +kernel
theorem dX0_moveOn_56 : decode cX0_moveOn 56 = .ok (.iload_n 2, 1) := by decide +kernel
theorem dX0_moveOn_57 : decode cX0_moveOn 57 = .ok (.iaload, 1) := by decide +kernel
theorem dX0_moveOn_58 : decode cX0_moveOn 58 = .ok (.aload_n 0, 1) := by decide +kernel
theorem dX0_moveOn_59 : decode cX0_moveOn 59 = .ok (.getfield 9, 3) := by decide +kernel
theorem dX0_moveOn_62 : decode cX0_moveOn 62 = .ok (.iload_n 1, 1) := by decide +kernel
theorem dX0_moveOn_63 : decode cX0_moveOn 63 = .ok (.iaload, 1) := by decide +kernel
theorem dX0_moveOn_64 : decode cX0_moveOn 64 = .ok (.if_icmp .ge 9, 3) := by decide +kernel
theorem dX0_moveOn_67 : decode cX0_moveOn 67 = .ok (.iinc 2 (-1), 3) := by decide +kernel
theorem dX0_moveOn_70 : decode cX0_moveOn 70 = .ok (.goto (-23), 3) := by decide +kernel
theorem dX0_moveOn_73 : decode cX0_moveOn 73 = .ok (.aload_n 0, 1) := by decide +kernel
theorem dX0_moveOn_74 : decode cX0_moveOn 74 = .ok (.iload_n 1, 1) := by decide +kernel
theorem dX0_moveOn_75 : decode cX0_moveOn 75 = .ok (.iload_n 2, 1) := by decide +kernel
theorem dX0_moveOn_76 : decode cX0_moveOn 76 = .ok (.invokevirtual 34, 3) := by decide +kernel
theorem dX0_moveOn_79 : decode cX0_moveOn 79 = .ok (.iload_n 1, 1) := by decide +kernel
theorem dX0_moveOn_80 : decode cX0_moveOn 80 = .ok (.iconst 1, 1) := by decide +kernel
theorem dX0_moveOn_81 : decode cX0_moveOn 81 = .ok (.iadd, 1) := by decide +kernel
theorem dX0_moveOn_82 : decode cX0_moveOn 82 = .ok (.istore_n 3, 1) := by decide +kernel
theorem dX0_moveOn_83 : decode cX0_moveOn 83 = .ok (.aload_n 0, 1) := by decide +kernel
theorem dX0_moveOn_84 : decode cX0_moveOn 84 = .ok (.getfield 24, 3) := by decide +kernel
theorem dX0_moveOn_87 : decode cX0_moveOn 87 = .ok (.iconst 1, 1) := by decide +kernel
theorem dX0_moveOn_88 : decode cX0_moveOn 88 = .ok (.isub, 1) := by decide +kernel
theorem dX0_moveOn_89 : decode cX0_moveOn 89 = .ok (.istore 4, 2) := by decide +kernel
theorem dX0_moveOn_91 : decode cX0_moveOn 91 = .ok (.iload_n 3, 1) := by decide +kernel
theorem dX0_moveOn_92 : decode cX0_moveOn 92 = .ok (.iload 4, 2) := by decide +kernel
theorem dX0_moveOn_94 : decode cX0_moveOn 94 = .ok (.if_icmp .ge 19, 3) := by decide +kernel
theorem dX0_moveOn_97 : decode cX0_moveOn 97 = .ok (.aload_n 0, 1) := by decide +kernel
theorem dX0_moveOn_98 : decode cX0_moveOn 98 = .ok (.iload_n 3, 1) := by decide +kernel
theorem dX0_moveOn_99 : decode cX0_moveOn 99 = .ok (.iload 4, 2) := by decide +kernel
theorem dX0_moveOn_101 : decode cX0_moveOn 101 = .ok (.invokevirtual 34, 3) := by decide +kernel
theorem dX0_moveOn_104 : decode cX0_moveOn 104 = .ok (.iinc 3 1, 3) := by decide +kernel
theorem dX0_moveOn_107 : decode cX0_moveOn 107 = .ok (.iinc 4 (-1), 3) := by decide +kernel
theorem dX0_moveOn_110 : decode cX0_moveOn 110 = .ok (.goto (-19), 3) := by decide +kernel
theorem dX0_moveOn_113 : decode cX0_moveOn 113 = .ok (.iconst 1, 1) := by decide +kernel
theorem dX0_moveOn_114 : decode cX0_moveOn 114 = .ok (.ireturn, 1) := by decide +kernel
theorem dX0_swap_0 : decode cX0_swap 0 = .ok (.aload_n 0, 1) := by decide +kernel
theorem dX0_swap_1 : decode cX0_swap 1 = .ok (.getfield 9, 3) := by decide +kernel
theorem dX0_swap_4 : decode cX0_swap 4 = .ok (.iload_n 1, 1) := by decide +kernel
theorem dX0_swap_5 : decode cX0_swap 5 = .ok (.iaload, 1) := by decide +kernel
theorem dX0_swap_6 : decode cX0_swap 6 = .ok (.istore_n 3, 1) := by decide +kernel
theorem dX0_swap_7 : decode cX0_swap 7 = .ok (.aload_n 0, 1) := by decide +kernel
theorem dX0_swap_8 : decode cX0_swap 8 = .ok (.getfield 9, 3) := by decide +kernel
theorem dX0_swap_11 : decode cX0_swap 11 = .ok (.iload_n 1, 1) := by decide +kernel
theorem dX0_swap_12 : decode cX0_swap 12 = .ok (.aload_n 0, 1) := by decide +kernel
theorem dX0_swap_13 : decode cX0_swap 13 = .ok (.getfield 9, 3) := by decide +kernel
theorem dX0_swap_16 : decode cX0_swap 16 = .ok (.iload_n 2, 1) := by decide +kernel
theorem dX0_swap_17 : decode cX0_swap 17 = .ok (.iaload, 1) := by decide +kernel
theorem dX0_swap_18 : decode cX0_swap 18 = .ok (.iastore, 1) := by decide +kernel
theorem dX0_swap_19 : decode cX0_swap 19 = .ok (.aload_n 0, 1) := by decide +kernel
theorem dX0_swap_20 : decode cX0_swap 20 = .ok (.getfield 9, 3) := by decide +kernel
theorem dX0_swap_23 : decode cX0_swap 23 = .ok (.iload_n 2, 1) := by decide +kernel
theorem dX0_swap_24 : decode cX0_swap 24 = .ok (.iload_n 3, 1) := by decide +kernel
theorem dX0_swap_25 : decode cX0_swap 25 = .ok (.iastore, 1) := by decide +kernel
theorem dX0_swap_26 : decode cX0_swap 26 = .ok (.return_, 1) := by decide +kernel
theorem dX1_init_0 : decode cX1_init 0 = .ok (.aload_n 0, 1) := by decide +kernel
theorem dX1_init_1 : decode cX1_init 1 = .ok (.invokespecial 3, 3) := by decide +kernel
theorem dX1_init_4 : decode cX1_init 4 = .ok (.aload_n 0, 1) := by decide +kernel
theorem dX1_init_5 : decode cX1_init 5 = .ok (.bipush 32, 2) := by decide +kernel
theorem dX1_init_7 : decode cX1_init 7 = .ok (.newarray .int, 2) := by decide +kernel
theorem dX1_init_9 : decode cX1_init 9 = .ok (.putfield 9, 3) := by decide +kernel
theorem dX1_init_12 : decode cX1_init 12 = .ok (.aload_n 0, 1) := by decide +kernel
theorem dX1_init_13 : decode cX1_init 13 = .ok (.bipush 16, 2) := by decide +kernel
theorem dX1_init_15 : decode cX1_init 15 = .ok (.newarray .int, 2) := by decide +kernel
theorem dX1_init_17 : decode cX1_init 17 = .ok (.putfield 15, 3) := by decide +kernel
theorem dX1_init_20 : decode cX1_init 20 = .ok (.aload_n 0, 1) := by decide +kernel
theorem dX1_init_21 : decode cX1_init 21 = .ok (.bipush 97, 2) := by decide +kernel
theorem dX1_init_23 : decode cX1_init 23 = .ok (.newarray .int, 2) := by decide +kernel
theorem dX1_init_25 : decode cX1_init 25 = .ok (.putfield 18, 3) := by decide +kernel
theorem dX1_init_28 : decode cX1_init 28 = .ok (.aload_n 0, 1) := by decide +kernel
theorem dX1_init_29 : decode cX1_init 29 = .ok (.new 21, 3) := by decide +kernel
theorem dX1_init_32 : decode cX1_init 32 = .ok (.dup, 1) := by decide +kernel
theorem dX1_init_33 : decode cX1_init 33 = .ok (.invokespecial 23, 3) := by decide +kernel
theorem dX1_init_36 : decode cX1_init 36 = .ok (.putfield 24, 3) := by decide +kernel
theorem dX1_init_39 : decode cX1_init 39 = .ok (.return_, 1) := by decide +kernel
theorem dX1_takeFrom_0 : decode cX1_takeFrom 0 = .ok (.aload_n 1, 1) := by decide +kernel
theorem dX1_takeFrom_1 : decode cX1_takeFrom 1 = .ok (.getfield 9, 3) := by decide +kernel
theorem dX1_takeFrom_4 : decode cX1_takeFrom 4 = .ok (.iconst 0, 1) := by decide +kernel
theorem dX1_takeFrom_5 : decode cX1_takeFrom 5 = .ok (.aload_n 0, 1) := by decide +kernel
theorem dX1_takeFrom_6 : decode cX1_takeFrom 6 = .ok (.getfield 9, 3) := by decide +kernel
theorem dX1_takeFrom_9 : decode cX1_takeFrom 9 = .ok (.iconst 0, 1) := by decide +kernel
theorem dX1_takeFrom_10 : decode cX1_takeFrom 10 = .ok (.bipush 32, 2) := by decide +kernel
theorem dX1_takeFrom_12 : decode cX1_takeFrom 12 = .ok (.invokestatic 28, 3) := by decide +kernel
theorem dX1_takeFrom_15 : decode cX1_takeFrom 15 = .ok (.return_, 1) := by decide +kernel
theorem dX1_receive_0 : decode cX1_receive 0 = .ok (.aload_n 0, 1) := by decide +kernel
theorem dX1_receive_1 : decode cX1_receive 1 = .ok (.aload_n 1, 1) := by decide +kernel
theorem dX1_receive_2 : decode cX1_receive 2 = .ok (.invokevirtual 34, 3) := by decide +kernel
theorem dX1_receive_5 : decode cX1_receive 5 = .ok (.iconst 0, 1) := by decide +kernel
theorem dX1_receive_6 : decode cX1_receive 6 = .ok (.istore_n 3, 1) := by decide +kernel
theorem dX1_receive_7 : decode cX1_receive 7 = .ok (.iload_n 3, 1) := by decide +kernel
theorem dX1_receive_8 : decode cX1_receive 8 = .ok (.aload_n 1, 1) := by decide +kernel
theorem dX1_receive_9 : decode cX1_receive 9 = .ok (.getfield 38, 3) := by decide +kernel
theorem dX1_receive_12 : decode cX1_receive 12 = .ok (.getfield 44, 3) := by decide +kernel
theorem dX1_receive_15 : decode cX1_receive 15 = .ok (.if_icmp .ge 18, 3) := by decide +kernel
theorem dX1_receive_18 : decode cX1_receive 18 = .ok (.aload_n 0, 1) := by decide +kernel
theorem dX1_receive_19 : decode cX1_receive 19 = .ok (.aload_n 1, 1) := by decide +kernel
theorem dX1_receive_20 : decode cX1_receive 20 = .ok (.getfield 38, 3) := by decide +kernel
theorem dX1_receive_23 : decode cX1_receive 23 = .ok (.iload_n 3, 1) := by decide +kernel
theorem dX1_receive_24 : decode cX1_receive 24 = .ok (.invokevirtual 50, 3) := by decide +kernel
theorem dX1_receive_27 : decode cX1_receive 27 = .ok (.iinc 3 1, 3) := by decide +kernel
theorem dX1_receive_30 : decode cX1_receive 30 = .ok (.goto (-23), 3) := by decide +kernel
theorem dX1_receive_33 : decode cX1_receive 33 = .ok (.iconst 0, 1) := by decide +kernel
theorem dX1_receive_34 : decode cX1_receive 34 = .ok (.istore_n 3, 1) := by decide +kernel
theorem dX1_receive_35 : decode cX1_receive 35 = .ok (.iload_n 3, 1) := by decide +kernel
theorem dX1_receive_36 : decode cX1_receive 36 = .ok (.iload_n 2, 1) := by decide +kernel
theorem dX1_receive_37 : decode cX1_receive 37 = .ok (.if_icmp .ge 15, 3) := by decide +kernel
theorem dX1_receive_40 : decode cX1_receive 40 = .ok (.aload_n 0, 1) := by decide +kernel
theorem dX1_receive_41 : decode cX1_receive 41 = .ok (.aload_n 1, 1) := by decide +kernel
theorem dX1_receive_42 : decode cX1_receive 42 = .ok (.iload_n 3, 1) := by decide +kernel
theorem dX1_receive_43 : decode cX1_receive 43 = .ok (.invokevirtual 54, 3) := by decide +kernel
theorem dX1_receive_46 : decode cX1_receive 46 = .ok (.iinc 3 1, 3) := by decide +kernel
theorem dX1_receive_49 : decode cX1_receive 49 = .ok (.goto (-14), 3) := by decide +kernel
theorem dX1_receive_52 : decode cX1_receive 52 = .ok (.return_, 1) := by decide +kernel
theorem dX1_shine_0 : decode cX1_shine 0 = .ok (.iconst 0, 1) := by decide +kernel
theorem dX1_shine_1 : decode cX1_shine 1 = .ok (.istore_n 2, 1) := by decide +kernel
theorem dX1_shine_2 : decode cX1_shine 2 = .ok (.iload_n 2, 1) := by decide +kernel
theorem dX1_shine_3 : decode cX1_shine 3 = .ok (.bipush 32, 2) := by decide +kernel
theorem dX1_shine_5 : decode cX1_shine 5 = .ok (.if_icmp .ge 24, 3) := by decide +kernel
theorem dX1_shine_8 : decode cX1_shine 8 = .ok (.aload_n 0, 1) := by decide +kernel
theorem dX1_shine_9 : decode cX1_shine 9 = .ok (.getfield 9, 3) := by decide +kernel
theorem dX1_shine_12 : decode cX1_shine 12 = .ok (.iload_n 2, 1) := by decide +kernel
theorem dX1_shine_13 : decode cX1_shine 13 = .ok (.aload_n 1, 1) := by decide +kernel
theorem dX1_shine_14 : decode cX1_shine 14 = .ok (.getfield 58, 3) := by decide +kernel
theorem dX1_shine_17 : decode cX1_shine 17 = .ok (.iload_n 2, 1) := by decide +kernel
theorem dX1_shine_18 : decode cX1_shine 18 = .ok (.iaload, 1) := by decide +kernel
theorem dX1_shine_19 : decode cX1_shine 19 = .ok (.invokestatic 61, 3) := by decide +kernel
theorem dX1_shine_22 : decode cX1_shine 22 = .ok (.iastore, 1) := by decide +kernel
theorem dX1_shine_23 : decode cX1_shine 23 = .ok (.iinc 2 1, 3) := by decide +kernel
theorem dX1_shine_26 : decode cX1_shine 26 = .ok (.goto (-24), 3) := by decide +kernel
theorem dX1_shine_29 : decode cX1_shine 29 = .ok (.return_, 1) := by decide +kernel
theorem dX1_passDeed_0 : decode cX1_passDeed 0 = .ok (.aload_n 1, 1) := by decide +kernel
theorem dX1_passDeed_1 : decode cX1_passDeed 1 = .ok (.iload_n 2, 1) := by decide +kernel
theorem dX1_passDeed_2 : decode cX1_passDeed 2 = .ok (.iconst 1, 1) := by decide +kernel
theorem dX1_passDeed_3 : decode cX1_passDeed 3 = .ok (.invokevirtual 67, 3) := by decide +kernel
theorem dX1_passDeed_6 : decode cX1_passDeed 6 = .ok (.istore_n 3, 1) := by decide +kernel
theorem dX1_passDeed_7 : decode cX1_passDeed 7 = .ok (.aload_n 1, 1) := by decide +kernel
theorem dX1_passDeed_8 : decode cX1_passDeed 8 = .ok (.iload_n 2, 1) := by decide +kernel
theorem dX1_passDeed_9 : decode cX1_passDeed 9 = .ok (.iconst 2, 1) := by decide +kernel
theorem dX1_passDeed_10 : decode cX1_passDeed 10 = .ok (.invokevirtual 67, 3) := by decide +kernel
theorem dX1_passDeed_13 : decode cX1_passDeed 13 = .ok (.istore 4, 2) := by decide +kernel
theorem dX1_passDeed_15 : decode cX1_passDeed 15 = .ok (.aload_n 1, 1) := by decide +kernel
theorem dX1_passDeed_16 : decode cX1_passDeed 16 = .ok (.iload_n 2, 1) := by decide +kernel
theorem dX1_passDeed_17 : decode cX1_passDeed 17 = .ok (.iconst 3, 1) := by decide +kernel
theorem dX1_passDeed_18 : decode cX1_passDeed 18 = .ok (.invokevirtual 67, 3) := by decide +kernel
theorem dX1_passDeed_21 : decode cX1_passDeed 21 = .ok (.istore 5, 2) := by decide +kernel
theorem dX1_passDeed_23 : decode cX1_passDeed 23 = .ok (.aload_n 1, 1) := by decide +kernel
theorem dX1_passDeed_24 : decode cX1_passDeed 24 = .ok (.iload_n 2, 1) := by decide +kernel
theorem dX1_passDeed_25 : decode cX1_passDeed 25 = .ok (.iconst 0, 1) := by decide +kernel
theorem dX1_passDeed_26 : decode cX1_passDeed 26 = .ok (.invokevirtual 67, 3) := by decide +kernel
theorem dX1_passDeed_29 : decode cX1_passDeed 29 = .ok (.tableswitch 102 0 4 #[35, 43, 68, 78, 86], 35) := by decide +kernel
theorem dX1_passDeed_64 : decode cX1_passDeed 64 = .ok (.aload_n 0, 1) := by decide +kernel
theorem dX1_passDeed_65 : decode cX1_passDeed 65 = .ok (.iload_n 3, 1) := by decide +kernel
theorem dX1_passDeed_66 : decode cX1_passDeed 66 = .ok (.invokevirtual 71, 3) := by decide +kernel
theorem dX1_passDeed_69 : decode cX1_passDeed 69 = .ok (.goto 62, 3) := by decide +kernel
theorem dX1_passDeed_72 : decode cX1_passDeed 72 = .ok (.aload_n 0, 1) := by decide +kernel
theorem dX1_passDeed_73 : decode cX1_passDeed 73 = .ok (.getfield 24, 3) := by decide +kernel
theorem dX1_passDeed_76 : decode cX1_passDeed 76 = .ok (.iload_n 3, 1) := by decide +kernel
theorem dX1_passDeed_77 : decode cX1_passDeed 77 = .ok (.iload 4, 2) := by decide +kernel
theorem dX1_passDeed_79 : decode cX1_passDeed 79 = .ok (.iload 5, 2) := by decide +kernel
theorem dX1_passDeed_81 : decode cX1_passDeed 81 = .ok (.aload_n 1, 1) := by decide +kernel
theorem dX1_passDeed_82 : decode cX1_passDeed 82 = .ok (.iload_n 2, 1) := by decide +kernel
theorem dX1_passDeed_83 : decode cX1_passDeed 83 = .ok (.iconst 4, 1) := by decide +kernel
theorem dX1_passDeed_84 : decode cX1_passDeed 84 = .ok (.invokevirtual 67, 3) := by decide +kernel
theorem dX1_passDeed_87 : decode cX1_passDeed 87 = .ok (.invokevirtual 75, 3) := by decide +kernel
theorem dX1_passDeed_90 : decode cX1_passDeed 90 = .ok (.aload_n 0, 1) := by decide +kernel
theorem dX1_passDeed_91 : decode cX1_passDeed 91 = .ok (.invokevirtual 79, 3) := by decide +kernel
theorem dX1_passDeed_94 : decode cX1_passDeed 94 = .ok (.goto 37, 3) := by decide +kernel
theorem dX1_passDeed_97 : decode cX1_passDeed 97 = .ok (.aload_n 0, 1) := by decide +kernel
theorem dX1_passDeed_98 : decode cX1_passDeed 98 = .ok (.iload_n 3, 1) := by decide +kernel
theorem dX1_passDeed_99 : decode cX1_passDeed 99 = .ok (.iload 4, 2) := by decide +kernel
theorem dX1_passDeed_101 : decode cX1_passDeed 101 = .ok (.invokevirtual 82, 3) := by decide +kernel
theorem dX1_passDeed_104 : decode cX1_passDeed 104 = .ok (.goto 27, 3) := by decide +kernel
theorem dX1_passDeed_107 : decode cX1_passDeed 107 = .ok (.aload_n 0, 1) := by decide +kernel
theorem dX1_passDeed_108 : decode cX1_passDeed 108 = .ok (.iload_n 3, 1) := by decide +kernel
theorem dX1_passDeed_109 : decode cX1_passDeed 109 = .ok (.invokevirtual 86, 3) := by decide +kernel
theorem dX1_passDeed_112 : decode cX1_passDeed 112 = .ok (.goto 19, 3) := by decide +kernel
theorem dX1_passDeed_115 : decode cX1_passDeed 115 = .ok (.aload_n 0, 1) := by decide +kernel
theorem dX1_passDeed_116 : decode cX1_passDeed 116 = .ok (.iload_n 3, 1) := by decide +kernel
theorem dX1_passDeed_117 : decode cX1_passDeed 117 = .ok (.bipush 16, 2) := by decide +kernel
theorem dX1_passDeed_119 : decode cX1_passDeed 119 = .ok (.imul, 1) := by decide +kernel
theorem dX1_passDeed_120 : decode cX1_passDeed 120 = .ok (.iload 4, 2) := by decide +kernel
theorem dX1_passDeed_122 : decode cX1_passDeed 122 = .ok (.iadd, 1) := by decide +kernel
theorem dX1_passDeed_123 : decode cX1_passDeed 123 = .ok (.iload 5, 2) := by decide +kernel
theorem dX1_passDeed_125 : decode cX1_passDeed 125 = .ok (.invokevirtual 89, 3) := by decide +kernel
theorem dX1_passDeed_128 : decode cX1_passDeed 128 = .ok (.goto 3, 3) := by decide +kernel
theorem dX1_passDeed_131 : decode cX1_passDeed 131 = .ok (.return_, 1) := by decide +kernel
theorem dX1_passStage_0 : decode cX1_passStage 0 = .ok (.aload_n 1, 1) := by decide +kernel
theorem dX1_passStage_1 : decode cX1_passStage 1 = .ok (.getfield 92, 3) := by decide +kernel
theorem dX1_passStage_4 : decode cX1_passStage 4 = .ok (.astore_n 3, 1) := by decide +kernel
theorem dX1_passStage_5 : decode cX1_passStage 5 = .ok (.aload_n 3, 1) := by decide +kernel
theorem dX1_passStage_6 : decode cX1_passStage 6 = .ok (.iload_n 2, 1) := by decide +kernel
theorem dX1_passStage_7 : decode cX1_passStage 7 = .ok (.iconst 1, 1) := by decide +kernel
theorem dX1_passStage_8 : decode cX1_passStage 8 = .ok (.invokevirtual 67, 3) := by decide +kernel
theorem dX1_passStage_11 : decode cX1_passStage 11 = .ok (.istore 4, 2) := by decide +kernel
theorem dX1_passStage_13 : decode cX1_passStage 13 = .ok (.aload_n 3, 1) := by decide +kernel
theorem dX1_passStage_14 : decode cX1_passStage 14 = .ok (.iload_n 2, 1) := by decide +kernel
theorem dX1_passStage_15 : decode cX1_passStage 15 = .ok (.iconst 0, 1) := by decide +kernel
theorem dX1_passStage_16 : decode cX1_passStage 16 = .ok (.invokevirtual 67, 3) := by decide +kernel
theorem dX1_passStage_19 : decode cX1_passStage 19 = .ok (.tableswitch 114 0 4 #[33, 42, 83, 95, 106], 33) := by decide +kernel
theorem dX1_passStage_52 : decode cX1_passStage 52 = .ok (.aload_n 0, 1) := by decide +kernel
theorem dX1_passStage_53 : decode cX1_passStage 53 = .ok (.iload 4, 2) := by decide +kernel
theorem dX1_passStage_55 : decode cX1_passStage 55 = .ok (.invokevirtual 95, 3) := by decide +kernel
theorem dX1_passStage_58 : decode cX1_passStage 58 = .ok (.goto 75, 3) := by decide +kernel
theorem dX1_passStage_61 : decode cX1_passStage 61 = .ok (.aload_n 0, 1) := by decide +kernel
theorem dX1_passStage_62 : decode cX1_passStage 62 = .ok (.getfield 24, 3) := by decide +kernel
theorem dX1_passStage_65 : decode cX1_passStage 65 = .ok (.iload 4, 2) := by decide +kernel
theorem dX1_passStage_67 : decode cX1_passStage 67 = .ok (.aload_n 3, 1) := by decide +kernel
theorem dX1_passStage_68 : decode cX1_passStage 68 = .ok (.iload_n 2, 1) := by decide +kernel
theorem dX1_passStage_69 : decode cX1_passStage 69 = .ok (.iconst 2, 1) := by decide +kernel
theorem dX1_passStage_70 : decode cX1_passStage 70 = .ok (.invokevirtual 67, 3) := by decide +kernel
theorem dX1_passStage_73 : decode cX1_passStage 73 = .ok (.aload_n 3, 1) := by decide +kernel
theorem dX1_passStage_74 : decode cX1_passStage 74 = .ok (.iload_n 2, 1) := by decide +kernel
theorem dX1_passStage_75 : decode cX1_passStage 75 = .ok (.iconst 3, 1) := by decide +kernel
theorem dX1_passStage_76 : decode cX1_passStage 76 = .ok (.invokevirtual 67, 3) := by decide +kernel
theorem dX1_passStage_79 : decode cX1_passStage 79 = .ok (.aload_n 3, 1) := by decide +kernel
theorem dX1_passStage_80 : decode cX1_passStage 80 = .ok (.iload_n 2, 1) := by decide +kernel
theorem dX1_passStage_81 : decode cX1_passStage 81 = .ok (.iconst 4, 1) := by decide +kernel
theorem dX1_passStage_82 : decode cX1_passStage 82 = .ok (.invokevirtual 67, 3) := by decide +kernel
theorem dX1_passStage_85 : decode cX1_passStage 85 = .ok (.invokevirtual 75, 3) := by decide +kernel
theorem dX1_passStage_88 : decode cX1_passStage 88 = .ok (.aload_n 0, 1) := by decide +kernel
theorem dX1_passStage_89 : decode cX1_passStage 89 = .ok (.getfield 24, 3) := by decide +kernel
theorem dX1_passStage_92 : decode cX1_passStage 92 = .ok (.invokevirtual 98, 3) := by decide +kernel
theorem dX1_passStage_95 : decode cX1_passStage 95 = .ok (.aload_n 0, 1) := by decide +kernel
theorem dX1_passStage_96 : decode cX1_passStage 96 = .ok (.invokevirtual 79, 3) := by decide +kernel
theorem dX1_passStage_99 : decode cX1_passStage 99 = .ok (.goto 34, 3) := by decide +kernel
theorem dX1_passStage_102 : decode cX1_passStage 102 = .ok (.aload_n 0, 1) := by decide +kernel
theorem dX1_passStage_103 : decode cX1_passStage 103 = .ok (.bipush 16, 2) := by decide +kernel
theorem dX1_passStage_105 : decode cX1_passStage 105 = .ok (.iload 4, 2) := by decide +kernel
theorem dX1_passStage_107 : decode cX1_passStage 107 = .ok (.isub, 1) := by decide +kernel
theorem dX1_passStage_108 : decode cX1_passStage 108 = .ok (.invokevirtual 86, 3) := by decide +kernel
theorem dX1_passStage_111 : decode cX1_passStage 111 = .ok (.goto 22, 3) := by decide +kernel
theorem dX1_passStage_114 : decode cX1_passStage 114 = .ok (.aload_n 0, 1) := by decide +kernel
theorem dX1_passStage_115 : decode cX1_passStage 115 = .ok (.aload_n 0, 1) := by decide +kernel
theorem dX1_passStage_116 : decode cX1_passStage 116 = .ok (.invokevirtual 101, 3) := by decide +kernel
theorem dX1_passStage_119 : decode cX1_passStage 119 = .ok (.invokevirtual 105, 3) := by decide +kernel
theorem dX1_passStage_122 : decode cX1_passStage 122 = .ok (.goto 11, 3) := by decide +kernel
theorem dX1_passStage_125 : decode cX1_passStage 125 = .ok (.aload_n 0, 1) := by decide +kernel
theorem dX1_passStage_126 : decode cX1_passStage 126 = .ok (.aload_n 1, 1) := by decide +kernel
theorem dX1_passStage_127 : decode cX1_passStage 127 = .ok (.invokevirtual 108, 3) := by decide +kernel
theorem dX1_passStage_130 : decode cX1_passStage 130 = .ok (.goto 3, 3) := by decide +kernel
theorem dX1_passStage_133 : decode cX1_passStage 133 = .ok (.return_, 1) := by decide +kernel
theorem dX1_spread_0 : decode cX1_spread 0 = .ok (.iconst 0, 1) := by decide +kernel
theorem dX1_spread_1 : decode cX1_spread 1 = .ok (.istore_n 2, 1) := by decide +kernel
theorem dX1_spread_2 : decode cX1_spread 2 = .ok (.iload_n 2, 1) := by decide +kernel
theorem dX1_spread_3 : decode cX1_spread 3 = .ok (.bipush 32, 2) := by decide +kernel
theorem dX1_spread_5 : decode cX1_spread 5 = .ok (.if_icmp .ge 94, 3) := by decide +kernel
theorem dX1_spread_8 : decode cX1_spread 8 = .ok (.aload_n 0, 1) := by decide +kernel
theorem dX1_spread_9 : decode cX1_spread 9 = .ok (.getfield 9, 3) := by decide +kernel
theorem dX1_spread_12 : decode cX1_spread 12 = .ok (.iload_n 2, 1) := by decide +kernel
theorem dX1_spread_13 : decode cX1_spread 13 = .ok (.bipush 16, 2) := by decide +kernel
theorem dX1_spread_15 : decode cX1_spread 15 = .ok (.iadd, 1) := by decide +kernel
theorem dX1_spread_16 : decode cX1_spread 16 = .ok (.iconst 1, 1) := by decide +kernel
theorem dX1_spread_17 : decode cX1_spread 17 = .ok (.isub, 1) := by decide +kernel
theorem dX1_spread_18 : decode cX1_spread 18 = .ok (.iaload, 1) := by decide +kernel
theorem dX1_spread_19 : decode cX1_spread 19 = .ok (.istore_n 3, 1) := by decide +kernel
theorem dX1_spread_20 : decode cX1_spread 20 = .ok (.bipush 15, 2) := by decide +kernel
theorem dX1_spread_22 : decode cX1_spread 22 = .ok (.istore 4, 2) := by decide +kernel
theorem dX1_spread_24 : decode cX1_spread 24 = .ok (.iload 4, 2) := by decide +kernel
theorem dX1_spread_26 : decode cX1_spread 26 = .ok (.ifCond .le 48, 3) := by decide +kernel
theorem dX1_spread_29 : decode cX1_spread 29 = .ok (.aload_n 0, 1) := by decide +kernel
theorem dX1_spread_30 : decode cX1_spread 30 = .ok (.getfield 9, 3) := by decide +kernel
theorem dX1_spread_33 : decode cX1_spread 33 = .ok (.iload_n 2, 1) := by decide +kernel
theorem dX1_spread_34 : decode cX1_spread 34 = .ok (.iload 4, 2) := by decide +kernel
theorem dX1_spread_36 : decode cX1_spread 36 = .ok (.iadd, 1) := by decide +kernel
theorem dX1_spread_37 : decode cX1_spread 37 = .ok (.iconst 1, 1) := by decide +kernel
theorem dX1_spread_38 : decode cX1_spread 38 = .ok (.isub, 1) := by decide +kernel
theorem dX1_spread_39 : decode cX1_spread 39 = .ok (.iaload, 1) := by decide +kernel
theorem dX1_spread_40 : decode cX1_spread 40 = .ok (.istore 5, 2) := by decide +kernel
theorem dX1_spread_42 : decode cX1_spread 42 = .ok (.aload_n 0, 1) := by decide +kernel
theorem dX1_spread_43 : decode cX1_spread 43 = .ok (.getfield 9, 3) := by decide +kernel
theorem dX1_spread_46 : decode cX1_spread 46 = .ok (.iload_n 2, 1) := by decide +kernel
theorem dX1_spread_47 : decode cX1_spread 47 = .ok (.iload 4, 2) := by decide +kernel
theorem dX1_spread_49 : decode cX1_spread 49 = .ok (.iadd, 1) := by decide +kernel
theorem dX1_spread_50 : decode cX1_spread 50 = .ok (.aload_n 0, 1) := by decide +kernel
theorem dX1_spread_51 : decode cX1_spread 51 = .ok (.getfield 9, 3) := by decide +kernel
theorem dX1_spread_54 : decode cX1_spread 54 = .ok (.iload_n 2, 1) := by decide +kernel
theorem dX1_spread_55 : decode cX1_spread 55 = .ok (.iload 4, 2) := by decide +kernel
theorem dX1_spread_57 : decode cX1_spread 57 = .ok (.iadd, 1) := by decide +kernel
theorem dX1_spread_58 : decode cX1_spread 58 = .ok (.iaload, 1) := by decide +kernel
theorem dX1_spread_59 : decode cX1_spread 59 = .ok (.iload_n 1, 1) := by decide +kernel
theorem dX1_spread_60 : decode cX1_spread 60 = .ok (.iload 5, 2) := by decide +kernel
theorem dX1_spread_62 : decode cX1_spread 62 = .ok (.imul, 1) := by decide +kernel
theorem dX1_spread_63 : decode cX1_spread 63 = .ok (.iadd, 1) := by decide +kernel
theorem dX1_spread_64 : decode cX1_spread 64 = .ok (.bipush 97, 2) := by decide +kernel
theorem dX1_spread_66 : decode cX1_spread 66 = .ok (.irem, 1) := by decide +kernel
theorem dX1_spread_67 : decode cX1_spread 67 = .ok (.iastore, 1) := by decide +kernel
theorem dX1_spread_68 : decode cX1_spread 68 = .ok (.iinc 4 (-1), 3) := by decide +kernel
theorem dX1_spread_71 : decode cX1_spread 71 = .ok (.goto (-47), 3) := by decide +kernel
theorem dX1_spread_74 : decode cX1_spread 74 = .ok (.aload_n 0, 1) := by decide +kernel
theorem dX1_spread_75 : decode cX1_spread 75 = .ok (.getfield 9, 3) := by decide +kernel
theorem dX1_spread_78 : decode cX1_spread 78 = .ok (.iload_n 2, 1) := by decide +kernel
theorem dX1_spread_79 : decode cX1_spread 79 = .ok (.aload_n 0, 1) := by decide +kernel
theorem dX1_spread_80 : decode cX1_spread 80 = .ok (.getfield 9, 3) := by decide +kernel
theorem dX1_spread_83 : decode cX1_spread 83 = .ok (.iload_n 2, 1) := by decide +kernel
theorem dX1_spread_84 : decode cX1_spread 84 = .ok (.iaload, 1) := by decide +kernel
theorem dX1_spread_85 : decode cX1_spread 85 = .ok (.iload_n 1, 1) := by decide +kernel
theorem dX1_spread_86 : decode cX1_spread 86 = .ok (.iload_n 3, 1) := by decide +kernel
theorem dX1_spread_87 : decode cX1_spread 87 = .ok (.imul, 1) := by decide +kernel
theorem dX1_spread_88 : decode cX1_spread 88 = .ok (.iadd, 1) := by decide +kernel
theorem dX1_spread_89 : decode cX1_spread 89 = .ok (.bipush 97, 2) := by decide +kernel
theorem dX1_spread_91 : decode cX1_spread 91 = .ok (.irem, 1) := by decide +kernel
theorem dX1_spread_92 : decode cX1_spread 92 = .ok (.iastore, 1) := by decide +kernel
theorem dX1_spread_93 : decode cX1_spread 93 = .ok (.iinc 2 16, 3) := by decide +kernel
theorem dX1_spread_96 : decode cX1_spread 96 = .ok (.goto (-94), 3) := by decide +kernel
theorem dX1_spread_99 : decode cX1_spread 99 = .ok (.return_, 1) := by decide +kernel
theorem dX1_unspread_0 : decode cX1_unspread 0 = .ok (.bipush 97, 2) := by decide +kernel
theorem dX1_unspread_2 : decode cX1_unspread 2 = .ok (.iload_n 1, 1) := by decide +kernel
theorem dX1_unspread_3 : decode cX1_unspread 3 = .ok (.isub, 1) := by decide +kernel
theorem dX1_unspread_4 : decode cX1_unspread 4 = .ok (.istore_n 2, 1) := by decide +kernel
theorem dX1_unspread_5 : decode cX1_unspread 5 = .ok (.iconst 1, 1) := by decide +kernel
theorem dX1_unspread_6 : decode cX1_unspread 6 = .ok (.iload_n 1, 1) := by decide +kernel
theorem dX1_unspread_7 : decode cX1_unspread 7 = .ok (.bipush 16, 2) := by decide +kernel
theorem dX1_unspread_9 : decode cX1_unspread 9 = .ok (.invokestatic 111, 3) := by decide +kernel
theorem dX1_unspread_12 : decode cX1_unspread 12 = .ok (.isub, 1) := by decide +kernel
theorem dX1_unspread_13 : decode cX1_unspread 13 = .ok (.bipush 97, 2) := by decide +kernel
theorem dX1_unspread_15 : decode cX1_unspread 15 = .ok (.invokestatic 114, 3) := by decide +kernel
theorem dX1_unspread_18 : decode cX1_unspread 18 = .ok (.invokestatic 119, 3) := by decide +kernel
theorem dX1_unspread_21 : decode cX1_unspread 21 = .ok (.istore_n 3, 1) := by decide +kernel
theorem dX1_unspread_22 : decode cX1_unspread 22 = .ok (.iconst 0, 1) := by decide +kernel
theorem dX1_unspread_23 : decode cX1_unspread 23 = .ok (.istore 4, 2) := by decide +kernel
theorem dX1_unspread_25 : decode cX1_unspread 25 = .ok (.iload 4, 2) := by decide +kernel
theorem dX1_unspread_27 : decode cX1_unspread 27 = .ok (.bipush 32, 2) := by decide +kernel
theorem dX1_unspread_29 : decode cX1_unspread 29 = .ok (.if_icmp .ge 123, 3) := by decide +kernel
theorem dX1_unspread_32 : decode cX1_unspread 32 = .ok (.iconst 0, 1) := by decide +kernel
theorem dX1_unspread_33 : decode cX1_unspread 33 = .ok (.istore 5, 2) := by decide +kernel
theorem dX1_unspread_35 : decode cX1_unspread 35 = .ok (.iconst 1, 1) := by decide +kernel
theorem dX1_unspread_36 : decode cX1_unspread 36 = .ok (.istore 6, 2) := by decide +kernel
theorem dX1_unspread_38 : decode cX1_unspread 38 = .ok (.iload 6, 2) := by decide +kernel
theorem dX1_unspread_40 : decode cX1_unspread 40 = .ok (.bipush 16, 2) := by decide +kernel
theorem dX1_unspread_42 : decode cX1_unspread 42 = .ok (.if_icmp .gt 32, 3) := by decide +kernel
theorem dX1_unspread_45 : decode cX1_unspread 45 = .ok (.iload 5, 2) := by decide +kernel
theorem dX1_unspread_47 : decode cX1_unspread 47 = .ok (.iload_n 2, 1) := by decide +kernel
theorem dX1_unspread_48 : decode cX1_unspread 48 = .ok (.imul, 1) := by decide +kernel
theorem dX1_unspread_49 : decode cX1_unspread 49 = .ok (.aload_n 0, 1) := by decide +kernel
theorem dX1_unspread_50 : decode cX1_unspread 50 = .ok (.getfield 9, 3) := by decide +kernel
theorem dX1_unspread_53 : decode cX1_unspread 53 = .ok (.iload 4, 2) := by decide +kernel
theorem dX1_unspread_55 : decode cX1_unspread 55 = .ok (.iload 6, 2) := by decide +kernel
theorem dX1_unspread_57 : decode cX1_unspread 57 = .ok (.bipush 16, 2) := by decide +kernel
theorem dX1_unspread_59 : decode cX1_unspread 59 = .ok (.irem, 1) := by decide +kernel
theorem dX1_unspread_60 : decode cX1_unspread 60 = .ok (.iadd, 1) := by decide +kernel
theorem dX1_unspread_61 : decode cX1_unspread 61 = .ok (.iaload, 1) := by decide +kernel
theorem dX1_unspread_62 : decode cX1_unspread 62 = .ok (.iadd, 1) := by decide +kernel
theorem dX1_unspread_63 : decode cX1_unspread 63 = .ok (.bipush 97, 2) := by decide +kernel
theorem dX1_unspread_65 : decode cX1_unspread 65 = .ok (.irem, 1) := by decide +kernel
theorem dX1_unspread_66 : decode cX1_unspread 66 = .ok (.istore 5, 2) := by decide +kernel
theorem dX1_unspread_68 : decode cX1_unspread 68 = .ok (.iinc 6 1, 3) := by decide +kernel
theorem dX1_unspread_71 : decode cX1_unspread 71 = .ok (.goto (-33), 3) := by decide +kernel
theorem dX1_unspread_74 : decode cX1_unspread 74 = .ok (.aload_n 0, 1) := by decide +kernel
theorem dX1_unspread_75 : decode cX1_unspread 75 = .ok (.getfield 9, 3) := by decide +kernel
theorem dX1_unspread_78 : decode cX1_unspread 78 = .ok (.iload 4, 2) := by decide +kernel
theorem dX1_unspread_80 : decode cX1_unspread 80 = .ok (.iload 5, 2) := by decide +kernel
theorem dX1_unspread_82 : decode cX1_unspread 82 = .ok (.iload_n 3, 1) := by decide +kernel
theorem dX1_unspread_83 : decode cX1_unspread 83 = .ok (.imul, 1) := by decide +kernel
theorem dX1_unspread_84 : decode cX1_unspread 84 = .ok (.bipush 97, 2) := by decide +kernel
theorem dX1_unspread_86 : decode cX1_unspread 86 = .ok (.irem, 1) := by decide +kernel
theorem dX1_unspread_87 : decode cX1_unspread 87 = .ok (.iastore, 1) := by decide +kernel
theorem dX1_unspread_88 : decode cX1_unspread 88 = .ok (.iconst 1, 1) := by decide +kernel
theorem dX1_unspread_89 : decode cX1_unspread 89 = .ok (.istore 6, 2) := by decide +kernel
theorem dX1_unspread_91 : decode cX1_unspread 91 = .ok (.iload 6, 2) := by decide +kernel
theorem dX1_unspread_93 : decode cX1_unspread 93 = .ok (.bipush 16, 2) := by decide +kernel
theorem dX1_unspread_95 : decode cX1_unspread 95 = .ok (.if_icmp .ge 51, 3) := by decide +kernel
theorem dX1_unspread_98 : decode cX1_unspread 98 = .ok (.aload_n 0, 1) := by decide +kernel
theorem dX1_unspread_99 : decode cX1_unspread 99 = .ok (.getfield 9, 3) := by decide +kernel
theorem dX1_unspread_102 : decode cX1_unspread 102 = .ok (.iload 4, 2) := by decide +kernel
theorem dX1_unspread_104 : decode cX1_unspread 104 = .ok (.iload 6, 2) := by decide +kernel
theorem dX1_unspread_106 : decode cX1_unspread 106 = .ok (.iadd, 1) := by decide +kernel
theorem dX1_unspread_107 : decode cX1_unspread 107 = .ok (.iconst 1, 1) := by decide +kernel
theorem dX1_unspread_108 : decode cX1_unspread 108 = .ok (.isub, 1) := by decide +kernel
theorem dX1_unspread_109 : decode cX1_unspread 109 = .ok (.iaload, 1) := by decide +kernel
theorem dX1_unspread_110 : decode cX1_unspread 110 = .ok (.istore 7, 2) := by decide +kernel
theorem dX1_unspread_112 : decode cX1_unspread 112 = .ok (.aload_n 0, 1) := by decide +kernel
theorem dX1_unspread_113 : decode cX1_unspread 113 = .ok (.getfield 9, 3) := by decide +kernel
theorem dX1_unspread_116 : decode cX1_unspread 116 = .ok (.iload 4, 2) := by decide +kernel
theorem dX1_unspread_118 : decode cX1_unspread 118 = .ok (.iload 6, 2) := by decide +kernel
theorem dX1_unspread_120 : decode cX1_unspread 120 = .ok (.iadd, 1) := by decide +kernel
theorem dX1_unspread_121 : decode cX1_unspread 121 = .ok (.aload_n 0, 1) := by decide +kernel
theorem dX1_unspread_122 : decode cX1_unspread 122 = .ok (.getfield 9, 3) := by decide +kernel
theorem dX1_unspread_125 : decode cX1_unspread 125 = .ok (.iload 4, 2) := by decide +kernel
theorem dX1_unspread_127 : decode cX1_unspread 127 = .ok (.iload 6, 2) := by decide +kernel
theorem dX1_unspread_129 : decode cX1_unspread 129 = .ok (.iadd, 1) := by decide +kernel
theorem dX1_unspread_130 : decode cX1_unspread 130 = .ok (.iaload, 1) := by decide +kernel
theorem dX1_unspread_131 : decode cX1_unspread 131 = .ok (.iload_n 2, 1) := by decide +kernel
theorem dX1_unspread_132 : decode cX1_unspread 132 = .ok (.iload 7, 2) := by decide +kernel
theorem dX1_unspread_134 : decode cX1_unspread 134 = .ok (.imul, 1) := by decide +kernel
theorem dX1_unspread_135 : decode cX1_unspread 135 = .ok (.iadd, 1) := by decide +kernel
theorem dX1_unspread_136 : decode cX1_unspread 136 = .ok (.bipush 97, 2) := by decide +kernel
theorem dX1_unspread_138 : decode cX1_unspread 138 = .ok (.irem, 1) := by decide +kernel
theorem dX1_unspread_139 : decode cX1_unspread 139 = .ok (.iastore, 1) := by decide +kernel
theorem dX1_unspread_140 : decode cX1_unspread 140 = .ok (.iinc 6 1, 3) := by decide +kernel
theorem dX1_unspread_143 : decode cX1_unspread 143 = .ok (.goto (-52), 3) := by decide +kernel
theorem dX1_unspread_146 : decode cX1_unspread 146 = .ok (.iinc 4 16, 3) := by decide +kernel
theorem dX1_unspread_149 : decode cX1_unspread 149 = .ok (.goto (-124), 3) := by decide +kernel
theorem dX1_unspread_152 : decode cX1_unspread 152 = .ok (.return_, 1) := by decide +kernel
theorem dX1_twist_0 : decode cX1_twist 0 = .ok (.iconst 0, 1) := by decide +kernel
theorem dX1_twist_1 : decode cX1_twist 1 = .ok (.istore_n 1, 1) := by decide +kernel
theorem dX1_twist_2 : decode cX1_twist 2 = .ok (.iload_n 1, 1) := by decide +kernel
theorem dX1_twist_3 : decode cX1_twist 3 = .ok (.bipush 16, 2) := by decide +kernel
theorem dX1_twist_5 : decode cX1_twist 5 = .ok (.if_icmp .ge 85, 3) := by decide +kernel
theorem dX1_twist_8 : decode cX1_twist 8 = .ok (.aload_n 0, 1) := by decide +kernel
theorem dX1_twist_9 : decode cX1_twist 9 = .ok (.getfield 9, 3) := by decide +kernel
theorem dX1_twist_12 : decode cX1_twist 12 = .ok (.iload_n 1, 1) := by decide +kernel
theorem dX1_twist_13 : decode cX1_twist 13 = .ok (.iaload, 1) := by decide +kernel
theorem dX1_twist_14 : decode cX1_twist 14 = .ok (.istore_n 2, 1) := by decide +kernel
theorem dX1_twist_15 : decode cX1_twist 15 = .ok (.aload_n 0, 1) := by decide +kernel
theorem dX1_twist_16 : decode cX1_twist 16 = .ok (.getfield 9, 3) := by decide +kernel
theorem dX1_twist_19 : decode cX1_twist 19 = .ok (.bipush 16, 2) := by decide +kernel
theorem dX1_twist_21 : decode cX1_twist 21 = .ok (.iload_n 1, 1) := by decide +kernel
theorem dX1_twist_22 : decode cX1_twist 22 = .ok (.iadd, 1) := by decide +kernel
theorem dX1_twist_23 : decode cX1_twist 23 = .ok (.iaload, 1) := by decide +kernel
theorem dX1_twist_24 : decode cX1_twist 24 = .ok (.istore_n 3, 1) := by decide +kernel
theorem dX1_twist_25 : decode cX1_twist 25 = .ok (.aload_n 0, 1) := by decide +kernel
theorem dX1_twist_26 : decode cX1_twist 26 = .ok (.getfield 9, 3) := by decide +kernel
theorem dX1_twist_29 : decode cX1_twist 29 = .ok (.iload_n 1, 1) := by decide +kernel
theorem dX1_twist_30 : decode cX1_twist 30 = .ok (.aload_n 0, 1) := by decide +kernel
theorem dX1_twist_31 : decode cX1_twist 31 = .ok (.getfield 24, 3) := by decide +kernel
theorem dX1_twist_34 : decode cX1_twist 34 = .ok (.getfield 122, 3) := by decide +kernel
theorem dX1_twist_37 : decode cX1_twist 37 = .ok (.iload_n 2, 1) := by decide +kernel
theorem dX1_twist_38 : decode cX1_twist 38 = .ok (.imul, 1) := by decide +kernel
theorem dX1_twist_39 : decode cX1_twist 39 = .ok (.aload_n 0, 1) := by decide +kernel
theorem dX1_twist_40 : decode cX1_twist 40 = .ok (.getfield 24, 3) := by decide +kernel
theorem dX1_twist_43 : decode cX1_twist 43 = .ok (.getfield 125, 3) := by decide +kernel
theorem dX1_twist_46 : decode cX1_twist 46 = .ok (.iload_n 3, 1) := by decide +kernel
theorem dX1_twist_47 : decode cX1_twist 47 = .ok (.imul, 1) := by decide +kernel
theorem dX1_twist_48 : decode cX1_twist 48 = .ok (.iadd, 1) := by decide +kernel
theorem dX1_twist_49 : decode cX1_twist 49 = .ok (.bipush 97, 2) := by decide +kernel
theorem dX1_twist_51 : decode cX1_twist 51 = .ok (.irem, 1) := by decide +kernel
theorem dX1_twist_52 : decode cX1_twist 52 = .ok (.iastore, 1) := by decide +kernel
theorem dX1_twist_53 : decode cX1_twist 53 = .ok (.aload_n 0, 1) := by decide +kernel
theorem dX1_twist_54 : decode cX1_twist 54 = .ok (.getfield 9, 3) := by decide +kernel
theorem dX1_twist_57 : decode cX1_twist 57 = .ok (.bipush 16, 2) := by decide +kernel
theorem dX1_twist_59 : decode cX1_twist 59 = .ok (.iload_n 1, 1) := by decide +kernel
theorem dX1_twist_60 : decode cX1_twist 60 = .ok (.iadd, 1) := by decide +kernel
theorem dX1_twist_61 : decode cX1_twist 61 = .ok (.aload_n 0, 1) := by decide +kernel
theorem dX1_twist_62 : decode cX1_twist 62 = .ok (.getfield 24, 3) := by decide +kernel
theorem dX1_twist_65 : decode cX1_twist 65 = .ok (.getfield 128, 3) := by decide +kernel
theorem dX1_twist_68 : decode cX1_twist 68 = .ok (.iload_n 2, 1) := by decide +kernel
theorem dX1_twist_69 : decode cX1_twist 69 = .ok (.imul, 1) := by decide +kernel
theorem dX1_twist_70 : decode cX1_twist 70 = .ok (.aload_n 0, 1) := by decide +kernel
theorem dX1_twist_71 : decode cX1_twist 71 = .ok (.getfield 24, 3) := by decide +kernel
theorem dX1_twist_74 : decode cX1_twist 74 = .ok (.getfield 131, 3) := by decide +kernel
theorem dX1_twist_77 : decode cX1_twist 77 = .ok (.iload_n 3, 1) := by decide +kernel
theorem dX1_twist_78 : decode cX1_twist 78 = .ok (.imul, 1) := by decide +kernel
theorem dX1_twist_79 : decode cX1_twist 79 = .ok (.iadd, 1) := by decide +kernel
theorem dX1_twist_80 : decode cX1_twist 80 = .ok (.bipush 97, 2) := by decide +kernel
theorem dX1_twist_82 : decode cX1_twist 82 = .ok (.irem, 1) := by decide +kernel
theorem dX1_twist_83 : decode cX1_twist 83 = .ok (.iastore, 1) := by decide +kernel
theorem dX1_twist_84 : decode cX1_twist 84 = .ok (.iinc 1 1, 3) := by decide +kernel
theorem dX1_twist_87 : decode cX1_twist 87 = .ok (.goto (-85), 3) := by decide +kernel
theorem dX1_twist_90 : decode cX1_twist 90 = .ok (.return_, 1) := by decide +kernel
theorem dX1_slip_0 : decode cX1_slip 0 = .ok (.iload_n 1, 1) := by decide +kernel
theorem dX1_slip_1 : decode cX1_slip 1 = .ok (.istore_n 3, 1) := by decide +kernel
theorem dX1_slip_2 : decode cX1_slip 2 = .ok (.iload_n 3, 1) := by decide +kernel
theorem dX1_slip_3 : decode cX1_slip 3 = .ok (.bipush 16, 2) := by decide +kernel
theorem dX1_slip_5 : decode cX1_slip 5 = .ok (.if_icmp .ge 15, 3) := by decide +kernel
theorem dX1_slip_8 : decode cX1_slip 8 = .ok (.aload_n 0, 1) := by decide +kernel
theorem dX1_slip_9 : decode cX1_slip 9 = .ok (.iload_n 3, 1) := by decide +kernel
theorem dX1_slip_10 : decode cX1_slip 10 = .ok (.iload_n 2, 1) := by decide +kernel
theorem dX1_slip_11 : decode cX1_slip 11 = .ok (.invokevirtual 134, 3) := by decide +kernel
theorem dX1_slip_14 : decode cX1_slip 14 = .ok (.iinc 3 1, 3) := by decide +kernel
theorem dX1_slip_17 : decode cX1_slip 17 = .ok (.goto (-15), 3) := by decide +kernel
theorem dX1_slip_20 : decode cX1_slip 20 = .ok (.return_, 1) := by decide +kernel
theorem dX1_turn_0 : decode cX1_turn 0 = .ok (.aload_n 0, 1) := by decide +kernel
theorem dX1_turn_1 : decode cX1_turn 1 = .ok (.getfield 9, 3) := by decide +kernel
theorem dX1_turn_4 : decode cX1_turn 4 = .ok (.iload_n 1, 1) := by decide +kernel
theorem dX1_turn_5 : decode cX1_turn 5 = .ok (.aload_n 0, 1) := by decide +kernel
theorem dX1_turn_6 : decode cX1_turn 6 = .ok (.getfield 9, 3) := by decide +kernel
theorem dX1_turn_9 : decode cX1_turn 9 = .ok (.iload_n 1, 1) := by decide +kernel
theorem dX1_turn_10 : decode cX1_turn 10 = .ok (.iaload, 1) := by decide +kernel
theorem dX1_turn_11 : decode cX1_turn 11 = .ok (.iload_n 2, 1) := by decide +kernel
theorem dX1_turn_12 : decode cX1_turn 12 = .ok (.invokestatic 137, 3) := by decide +kernel
theorem dX1_turn_15 : decode cX1_turn 15 = .ok (.iastore, 1) := by decide +kernel
theorem dX1_turn_16 : decode cX1_turn 16 = .ok (.aload_n 0, 1) := by decide +kernel
theorem dX1_turn_17 : decode cX1_turn 17 = .ok (.getfield 9, 3) := by decide +kernel
theorem dX1_turn_20 : decode cX1_turn 20 = .ok (.bipush 16, 2) := by decide +kernel
theorem dX1_turn_22 : decode cX1_turn 22 = .ok (.iload_n 1, 1) := by decide +kernel
theorem dX1_turn_23 : decode cX1_turn 23 = .ok (.iadd, 1) := by decide +kernel
theorem dX1_turn_24 : decode cX1_turn 24 = .ok (.aload_n 0, 1) := by decide +kernel
theorem dX1_turn_25 : decode cX1_turn 25 = .ok (.getfield 9, 3) := by decide +kernel
theorem dX1_turn_28 : decode cX1_turn 28 = .ok (.bipush 16, 2) := by decide +kernel
theorem dX1_turn_30 : decode cX1_turn 30 = .ok (.iload_n 1, 1) := by decide +kernel
theorem dX1_turn_31 : decode cX1_turn 31 = .ok (.iadd, 1) := by decide +kernel
theorem dX1_turn_32 : decode cX1_turn 32 = .ok (.iaload, 1) := by decide +kernel
theorem dX1_turn_33 : decode cX1_turn 33 = .ok (.iload_n 2, 1) := by decide +kernel
theorem dX1_turn_34 : decode cX1_turn 34 = .ok (.invokestatic 137, 3) := by decide +kernel
theorem dX1_turn_37 : decode cX1_turn 37 = .ok (.iastore, 1) := by decide +kernel
theorem dX1_turn_38 : decode cX1_turn 38 = .ok (.return_, 1) := by decide +kernel
theorem dX1_late_0 : decode cX1_late 0 = .ok (.iconst 0, 1) := by decide +kernel
theorem dX1_late_1 : decode cX1_late 1 = .ok (.istore_n 2, 1) := by decide +kernel
theorem dX1_late_2 : decode cX1_late 2 = .ok (.iload_n 2, 1) := by decide +kernel
theorem dX1_late_3 : decode cX1_late 3 = .ok (.bipush 16, 2) := by decide +kernel
theorem dX1_late_5 : decode cX1_late 5 = .ok (.if_icmp .ge 29, 3) := by decide +kernel
theorem dX1_late_8 : decode cX1_late 8 = .ok (.aload_n 0, 1) := by decide +kernel
theorem dX1_late_9 : decode cX1_late 9 = .ok (.getfield 15, 3) := by decide +kernel
theorem dX1_late_12 : decode cX1_late 12 = .ok (.iload_n 2, 1) := by decide +kernel
theorem dX1_late_13 : decode cX1_late 13 = .ok (.iload_n 1, 1) := by decide +kernel
theorem dX1_late_14 : decode cX1_late 14 = .ok (.iadd, 1) := by decide +kernel
theorem dX1_late_15 : decode cX1_late 15 = .ok (.bipush 16, 2) := by decide +kernel
theorem dX1_late_17 : decode cX1_late 17 = .ok (.irem, 1) := by decide +kernel
theorem dX1_late_18 : decode cX1_late 18 = .ok (.aload_n 0, 1) := by decide +kernel
theorem dX1_late_19 : decode cX1_late 19 = .ok (.getfield 9, 3) := by decide +kernel
theorem dX1_late_22 : decode cX1_late 22 = .ok (.bipush 16, 2) := by decide +kernel
theorem dX1_late_24 : decode cX1_late 24 = .ok (.iload_n 2, 1) := by decide +kernel
theorem dX1_late_25 : decode cX1_late 25 = .ok (.iadd, 1) := by decide +kernel
theorem dX1_late_26 : decode cX1_late 26 = .ok (.iaload, 1) := by decide +kernel
theorem dX1_late_27 : decode cX1_late 27 = .ok (.iastore, 1) := by decide +kernel
theorem dX1_late_28 : decode cX1_late 28 = .ok (.iinc 2 1, 3) := by decide +kernel
theorem dX1_late_31 : decode cX1_late 31 = .ok (.goto (-29), 3) := by decide +kernel
theorem dX1_late_34 : decode cX1_late 34 = .ok (.aload_n 0, 1) := by decide +kernel
theorem dX1_late_35 : decode cX1_late 35 = .ok (.getfield 15, 3) := by decide +kernel
theorem dX1_late_38 : decode cX1_late 38 = .ok (.iconst 0, 1) := by decide +kernel
theorem dX1_late_39 : decode cX1_late 39 = .ok (.aload_n 0, 1) := by decide +kernel
theorem dX1_late_40 : decode cX1_late 40 = .ok (.getfield 9, 3) := by decide +kernel
theorem dX1_late_43 : decode cX1_late 43 = .ok (.bipush 16, 2) := by decide +kernel
theorem dX1_late_45 : decode cX1_late 45 = .ok (.bipush 16, 2) := by decide +kernel
theorem dX1_late_47 : decode cX1_late 47 = .ok (.invokestatic 28, 3) := by decide +kernel
theorem dX1_late_50 : decode cX1_late 50 = .ok (.return_, 1) := by decide +kernel
theorem dX1_hit_0 : decode cX1_hit 0 = .ok (.aload_n 0, 1) := by decide +kernel
theorem dX1_hit_1 : decode cX1_hit 1 = .ok (.getfield 9, 3) := by decide +kernel
theorem dX1_hit_4 : decode cX1_hit 4 = .ok (.iload_n 1, 1) := by decide +kernel
theorem dX1_hit_5 : decode cX1_hit 5 = .ok (.aload_n 0, 1) := by decide +kernel
theorem dX1_hit_6 : decode cX1_hit 6 = .ok (.getfield 9, 3) := by decide +kernel
theorem dX1_hit_9 : decode cX1_hit 9 = .ok (.iload_n 1, 1) := by decide +kernel
theorem dX1_hit_10 : decode cX1_hit 10 = .ok (.iaload, 1) := by decide +kernel
theorem dX1_hit_11 : decode cX1_hit 11 = .ok (.iload_n 2, 1) := by decide +kernel
theorem dX1_hit_12 : decode cX1_hit 12 = .ok (.iadd, 1) := by decide +kernel
theorem dX1_hit_13 : decode cX1_hit 13 = .ok (.bipush 97, 2) := by decide +kernel
theorem dX1_hit_15 : decode cX1_hit 15 = .ok (.irem, 1) := by decide +kernel
theorem dX1_hit_16 : decode cX1_hit 16 = .ok (.iastore, 1) := by decide +kernel
theorem dX1_hit_17 : decode cX1_hit 17 = .ok (.return_, 1) := by decide +kernel
theorem dX1_multiply_0 : decode cX1_multiply 0 = .ok (.iconst 0, 1) := by decide +kernel
theorem dX1_multiply_1 : decode cX1_multiply 1 = .ok (.istore_n 2, 1) := by decide +kernel
theorem dX1_multiply_2 : decode cX1_multiply 2 = .ok (.iload_n 2, 1) := by decide +kernel
theorem dX1_multiply_3 : decode cX1_multiply 3 = .ok (.bipush 32, 2) := by decide +kernel
theorem dX1_multiply_5 : decode cX1_multiply 5 = .ok (.if_icmp .ge 26, 3) := by decide +kernel
theorem dX1_multiply_8 : decode cX1_multiply 8 = .ok (.aload_n 0, 1) := by decide +kernel
theorem dX1_multiply_9 : decode cX1_multiply 9 = .ok (.getfield 9, 3) := by decide +kernel
theorem dX1_multiply_12 : decode cX1_multiply 12 = .ok (.iload_n 2, 1) := by decide +kernel
theorem dX1_multiply_13 : decode cX1_multiply 13 = .ok (.aload_n 0, 1) := by decide +kernel
theorem dX1_multiply_14 : decode cX1_multiply 14 = .ok (.getfield 9, 3) := by decide +kernel
theorem dX1_multiply_17 : decode cX1_multiply 17 = .ok (.iload_n 2, 1) := by decide +kernel
theorem dX1_multiply_18 : decode cX1_multiply 18 = .ok (.iaload, 1) := by decide +kernel
theorem dX1_multiply_19 : decode cX1_multiply 19 = .ok (.iload_n 1, 1) := by decide +kernel
theorem dX1_multiply_20 : decode cX1_multiply 20 = .ok (.imul, 1) := by decide +kernel
theorem dX1_multiply_21 : decode cX1_multiply 21 = .ok (.bipush 97, 2) := by decide +kernel
theorem dX1_multiply_23 : decode cX1_multiply 23 = .ok (.irem, 1) := by decide +kernel
theorem dX1_multiply_24 : decode cX1_multiply 24 = .ok (.iastore, 1) := by decide +kernel
theorem dX1_multiply_25 : decode cX1_multiply 25 = .ok (.iinc 2 1, 3) := by decide +kernel
theorem dX1_multiply_28 : decode cX1_multiply 28 = .ok (.goto (-26), 3) := by decide +kernel
theorem dX1_multiply_31 : decode cX1_multiply 31 = .ok (.return_, 1) := by decide +kernel
theorem dX1_brightestFactor_0 : decode cX1_brightestFactor 0 = .ok (.aload_n 0, 1) := by decide +kernel
theorem dX1_brightestFactor_1 : decode cX1_brightestFactor 1 = .ok (.getfield 18, 3) := by decide +kernel
theorem dX1_brightestFactor_4 : decode cX1_brightestFactor 4 = .ok (.iconst 0, 1) := by decide +kernel
theorem dX1_brightestFactor_5 : decode cX1_brightestFactor 5 = .ok (.invokestatic 140, 3) := by decide +kernel
theorem dX1_brightestFactor_8 : decode cX1_brightestFactor 8 = .ok (.iconst 0, 1) := by decide +kernel
theorem dX1_brightestFactor_9 : decode cX1_brightestFactor 9 = .ok (.istore_n 1, 1) := by decide +kernel
theorem dX1_brightestFactor_10 : decode cX1_brightestFactor 10 = .ok (.iload_n 1, 1) := by decide +kernel
theorem dX1_brightestFactor_11 : decode cX1_brightestFactor 11 = .ok (.bipush 32, 2) := by decide +kernel
theorem dX1_brightestFactor_13 : decode cX1_brightestFactor 13 = .ok (.if_icmp .ge 46, 3) := by decide +kernel
theorem dX1_brightestFactor_16 : decode cX1_brightestFactor 16 = .ok (.aload_n 0, 1) := by decide +kernel
theorem dX1_brightestFactor_17 : decode cX1_brightestFactor 17 = .ok (.getfield 9, 3) := by decide +kernel
theorem dX1_brightestFactor_20 : decode cX1_brightestFactor 20 = .ok (.iload_n 1, 1) := by decide +kernel
theorem dX1_brightestFactor_21 : decode cX1_brightestFactor 21 = .ok (.iaload, 1) := by decide +kernel
theorem dX1_brightestFactor_22 : decode cX1_brightestFactor 22 = .ok (.invokestatic 119, 3) := by decide +kernel
theorem dX1_brightestFactor_25 : decode cX1_brightestFactor 25 = .ok (.istore_n 2, 1) := by decide +kernel
theorem dX1_brightestFactor_26 : decode cX1_brightestFactor 26 = .ok (.iconst 0, 1) := by decide +kernel
theorem dX1_brightestFactor_27 : decode cX1_brightestFactor 27 = .ok (.istore_n 3, 1) := by decide +kernel
theorem dX1_brightestFactor_28 : decode cX1_brightestFactor 28 = .ok (.iload_n 3, 1) := by decide +kernel
theorem dX1_brightestFactor_29 : decode cX1_brightestFactor 29 = .ok (.iconst 4, 1) := by decide +kernel
theorem dX1_brightestFactor_30 : decode cX1_brightestFactor 30 = .ok (.if_icmp .ge 23, 3) := by decide +kernel
theorem dX1_brightestFactor_33 : decode cX1_brightestFactor 33 = .ok (.aload_n 0, 1) := by decide +kernel
theorem dX1_brightestFactor_34 : decode cX1_brightestFactor 34 = .ok (.getfield 18, 3) := by decide +kernel
theorem dX1_brightestFactor_37 : decode cX1_brightestFactor 37 = .ok (.iload_n 2, 1) := by decide +kernel
theorem dX1_brightestFactor_38 : decode cX1_brightestFactor 38 = .ok (.iload_n 3, 1) := by decide +kernel
theorem dX1_brightestFactor_39 : decode cX1_brightestFactor 39 = .ok (.invokestatic 137, 3) := by decide +kernel
theorem dX1_brightestFactor_42 : decode cX1_brightestFactor 42 = .ok (.dup2, 1) := by decide +kernel
theorem dX1_brightestFactor_43 : decode cX1_brightestFactor 43 = .ok (.iaload, 1) := by decide +kernel
theorem dX1_brightestFactor_44 : decode cX1_brightestFactor 44 = .ok (.iconst 1, 1) := by decide +kernel
theorem dX1_brightestFactor_45 : decode cX1_brightestFactor 45 = .ok (.iadd, 1) := by decide +kernel
theorem dX1_brightestFactor_46 : decode cX1_brightestFactor 46 = .ok (.iastore, 1) := by decide +kernel
theorem dX1_brightestFactor_47 : decode cX1_brightestFactor 47 = .ok (.iinc 3 1, 3) := by decide +kernel
theorem dX1_brightestFactor_50 : decode cX1_brightestFactor 50 = .ok (.goto (-22), 3) := by decide +kernel
theorem dX1_brightestFactor_53 : decode cX1_brightestFactor 53 = .ok (.iinc 1 1, 3) := by decide +kernel
theorem dX1_brightestFactor_56 : decode cX1_brightestFactor 56 = .ok (.goto (-46), 3) := by decide +kernel
theorem dX1_brightestFactor_59 : decode cX1_brightestFactor 59 = .ok (.iconst 1, 1) := by decide +kernel
theorem dX1_brightestFactor_60 : decode cX1_brightestFactor 60 = .ok (.istore_n 1, 1) := by decide +kernel
theorem dX1_brightestFactor_61 : decode cX1_brightestFactor 61 = .ok (.iconst 2, 1) := by decide +kernel
theorem dX1_brightestFactor_62 : decode cX1_brightestFactor 62 = .ok (.istore_n 2, 1) := by decide +kernel
theorem dX1_brightestFactor_63 : decode cX1_brightestFactor 63 = .ok (.iload_n 2, 1) := by decide +kernel
theorem dX1_brightestFactor_64 : decode cX1_brightestFactor 64 = .ok (.bipush 97, 2) := by decide +kernel
theorem dX1_brightestFactor_66 : decode cX1_brightestFactor 66 = .ok (.if_icmp .ge 26, 3) := by decide +kernel
theorem dX1_brightestFactor_69 : decode cX1_brightestFactor 69 = .ok (.aload_n 0, 1) := by decide +kernel
theorem dX1_brightestFactor_70 : decode cX1_brightestFactor 70 = .ok (.getfield 18, 3) := by decide +kernel
theorem dX1_brightestFactor_73 : decode cX1_brightestFactor 73 = .ok (.iload_n 2, 1) := by decide +kernel
theorem dX1_brightestFactor_74 : decode cX1_brightestFactor 74 = .ok (.iaload, 1) := by decide +kernel
theorem dX1_brightestFactor_75 : decode cX1_brightestFactor 75 = .ok (.aload_n 0, 1) := by decide +kernel
theorem dX1_brightestFactor_76 : decode cX1_brightestFactor 76 = .ok (.getfield 18, 3) := by decide +kernel
theorem dX1_brightestFactor_79 : decode cX1_brightestFactor 79 = .ok (.iload_n 1, 1) := by decide +kernel
theorem dX1_brightestFactor_80 : decode cX1_brightestFactor 80 = .ok (.iaload, 1) := by decide +kernel
theorem dX1_brightestFactor_81 : decode cX1_brightestFactor 81 = .ok (.if_icmp .le 5, 3) := by decide +kernel
theorem dX1_brightestFactor_84 : decode cX1_brightestFactor 84 = .ok (.iload_n 2, 1) := by decide +kernel
theorem dX1_brightestFactor_85 : decode cX1_brightestFactor 85 = .ok (.istore_n 1, 1) := by decide +kernel
theorem dX1_brightestFactor_86 : decode cX1_brightestFactor 86 = .ok (.iinc 2 1, 3) := by decide +kernel
theorem dX1_brightestFactor_89 : decode cX1_brightestFactor 89 = .ok (.goto (-26), 3) := by decide +kernel
theorem dX1_brightestFactor_92 : decode cX1_brightestFactor 92 = .ok (.iload_n 1, 1) := by decide +kernel
theorem dX1_brightestFactor_93 : decode cX1_brightestFactor 93 = .ok (.ireturn, 1) := by decide +kernel
theorem dX1_mend_0 : decode cX1_mend 0 = .ok (.aload_n 1, 1) := by decide +kernel
theorem dX1_mend_1 : decode cX1_mend 1 = .ok (.invokevirtual 146, 3) := by decide +kernel
theorem dX1_mend_4 : decode cX1_mend 4 = .ok (.istore_n 2, 1) := by decide +kernel
theorem dX1_mend_5 : decode cX1_mend 5 = .ok (.iload_n 2, 1) := by decide +kernel
theorem dX1_mend_6 : decode cX1_mend 6 = .ok (.bipush (-9), 2) := by decide +kernel
theorem dX1_mend_8 : decode cX1_mend 8 = .ok (.if_icmp .ne 4, 3) := by decide +kernel
theorem dX1_mend_11 : decode cX1_mend 11 = .ok (.return_, 1) := by decide +kernel
theorem dX1_mend_12 : decode cX1_mend 12 = .ok (.iconst 0, 1) := by decide +kernel
theorem dX1_mend_13 : decode cX1_mend 13 = .ok (.istore_n 3, 1) := by decide +kernel
theorem dX1_mend_14 : decode cX1_mend 14 = .ok (.iconst 0, 1) := by decide +kernel
theorem dX1_mend_15 : decode cX1_mend 15 = .ok (.istore 4, 2) := by decide +kernel
theorem dX1_mend_17 : decode cX1_mend 17 = .ok (.iload 4, 2) := by decide +kernel
theorem dX1_mend_19 : decode cX1_mend 19 = .ok (.bipush 16, 2) := by decide +kernel
theorem dX1_mend_21 : decode cX1_mend 21 = .ok (.if_icmp .ge 42, 3) := by decide +kernel
theorem dX1_mend_24 : decode cX1_mend 24 = .ok (.iload_n 2, 1) := by decide +kernel
theorem dX1_mend_25 : decode cX1_mend 25 = .ok (.iload 4, 2) := by decide +kernel
theorem dX1_mend_27 : decode cX1_mend 27 = .ok (.iadd, 1) := by decide +kernel
theorem dX1_mend_28 : decode cX1_mend 28 = .ok (.bipush 16, 2) := by decide +kernel
theorem dX1_mend_30 : decode cX1_mend 30 = .ok (.irem, 1) := by decide +kernel
theorem dX1_mend_31 : decode cX1_mend 31 = .ok (.istore 5, 2) := by decide +kernel
theorem dX1_mend_33 : decode cX1_mend 33 = .ok (.aload_n 1, 1) := by decide +kernel
theorem dX1_mend_34 : decode cX1_mend 34 = .ok (.iload 5, 2) := by decide +kernel
theorem dX1_mend_36 : decode cX1_mend 36 = .ok (.invokevirtual 149, 3) := by decide +kernel
theorem dX1_mend_39 : decode cX1_mend 39 = .ok (.ifCond .eq 11, 3) := by decide +kernel
theorem dX1_mend_42 : decode cX1_mend 42 = .ok (.aload_n 0, 1) := by decide +kernel
theorem dX1_mend_43 : decode cX1_mend 43 = .ok (.aload_n 1, 1) := by decide +kernel
theorem dX1_mend_44 : decode cX1_mend 44 = .ok (.iload 5, 2) := by decide +kernel
theorem dX1_mend_46 : decode cX1_mend 46 = .ok (.invokevirtual 153, 3) := by decide +kernel
theorem dX1_mend_49 : decode cX1_mend 49 = .ok (.istore_n 3, 1) := by decide +kernel
theorem dX1_mend_50 : decode cX1_mend 50 = .ok (.aload_n 0, 1) := by decide +kernel
theorem dX1_mend_51 : decode cX1_mend 51 = .ok (.iload 5, 2) := by decide +kernel
theorem dX1_mend_53 : decode cX1_mend 53 = .ok (.iload_n 3, 1) := by decide +kernel
theorem dX1_mend_54 : decode cX1_mend 54 = .ok (.invokevirtual 134, 3) := by decide +kernel
theorem dX1_mend_57 : decode cX1_mend 57 = .ok (.iinc 4 1, 3) := by decide +kernel
theorem dX1_mend_60 : decode cX1_mend 60 = .ok (.goto (-43), 3) := by decide +kernel
theorem dX1_mend_63 : decode cX1_mend 63 = .ok (.return_, 1) := by decide +kernel
theorem dX1_bestTurn_0 : decode cX1_bestTurn 0 = .ok (.iconst 0, 1) := by decide +kernel
theorem dX1_bestTurn_1 : decode cX1_bestTurn 1 = .ok (.istore_n 3, 1) := by decide +kernel
theorem dX1_bestTurn_2 : decode cX1_bestTurn 2 = .ok (.iconst (-1), 1) := by decide +kernel
theorem dX1_bestTurn_3 : decode cX1_bestTurn 3 = .ok (.istore 4, 2) := by decide +kernel
theorem dX1_bestTurn_5 : decode cX1_bestTurn 5 = .ok (.iconst 0, 1) := by decide +kernel
theorem dX1_bestTurn_6 : decode cX1_bestTurn 6 = .ok (.istore 5, 2) := by decide +kernel
theorem dX1_bestTurn_8 : decode cX1_bestTurn 8 = .ok (.iload 5, 2) := by decide +kernel
theorem dX1_bestTurn_10 : decode cX1_bestTurn 10 = .ok (.iconst 4, 1) := by decide +kernel
theorem dX1_bestTurn_11 : decode cX1_bestTurn 11 = .ok (.if_icmp .ge 100, 3) := by decide +kernel
theorem dX1_bestTurn_14 : decode cX1_bestTurn 14 = .ok (.aload_n 0, 1) := by decide +kernel
theorem dX1_bestTurn_15 : decode cX1_bestTurn 15 = .ok (.getfield 9, 3) := by decide +kernel
theorem dX1_bestTurn_18 : decode cX1_bestTurn 18 = .ok (.iload_n 2, 1) := by decide +kernel
theorem dX1_bestTurn_19 : decode cX1_bestTurn 19 = .ok (.iaload, 1) := by decide +kernel
theorem dX1_bestTurn_20 : decode cX1_bestTurn 20 = .ok (.iload 5, 2) := by decide +kernel
theorem dX1_bestTurn_22 : decode cX1_bestTurn 22 = .ok (.invokestatic 137, 3) := by decide +kernel
theorem dX1_bestTurn_25 : decode cX1_bestTurn 25 = .ok (.istore 6, 2) := by decide +kernel
theorem dX1_bestTurn_27 : decode cX1_bestTurn 27 = .ok (.aload_n 0, 1) := by decide +kernel
theorem dX1_bestTurn_28 : decode cX1_bestTurn 28 = .ok (.getfield 9, 3) := by decide +kernel
theorem dX1_bestTurn_31 : decode cX1_bestTurn 31 = .ok (.bipush 16, 2) := by decide +kernel
theorem dX1_bestTurn_33 : decode cX1_bestTurn 33 = .ok (.iload_n 2, 1) := by decide +kernel
theorem dX1_bestTurn_34 : decode cX1_bestTurn 34 = .ok (.iadd, 1) := by decide +kernel
theorem dX1_bestTurn_35 : decode cX1_bestTurn 35 = .ok (.iaload, 1) := by decide +kernel
theorem dX1_bestTurn_36 : decode cX1_bestTurn 36 = .ok (.iload 5, 2) := by decide +kernel
theorem dX1_bestTurn_38 : decode cX1_bestTurn 38 = .ok (.invokestatic 137, 3) := by decide +kernel
theorem dX1_bestTurn_41 : decode cX1_bestTurn 41 = .ok (.istore 7, 2) := by decide +kernel
theorem dX1_bestTurn_43 : decode cX1_bestTurn 43 = .ok (.iload 6, 2) := by decide +kernel
theorem dX1_bestTurn_45 : decode cX1_bestTurn 45 = .ok (.invokestatic 157, 3) := by decide +kernel
theorem dX1_bestTurn_48 : decode cX1_bestTurn 48 = .ok (.aload_n 1, 1) := by decide +kernel
theorem dX1_bestTurn_49 : decode cX1_bestTurn 49 = .ok (.getfield 58, 3) := by decide +kernel
theorem dX1_bestTurn_52 : decode cX1_bestTurn 52 = .ok (.iload_n 2, 1) := by decide +kernel
theorem dX1_bestTurn_53 : decode cX1_bestTurn 53 = .ok (.iaload, 1) := by decide +kernel
theorem dX1_bestTurn_54 : decode cX1_bestTurn 54 = .ok (.if_icmp .ne 7, 3) := by decide +kernel
theorem dX1_bestTurn_57 : decode cX1_bestTurn 57 = .ok (.iconst 1, 1) := by decide +kernel
theorem dX1_bestTurn_58 : decode cX1_bestTurn 58 = .ok (.goto 4, 3) := by decide +kernel
theorem dX1_bestTurn_61 : decode cX1_bestTurn 61 = .ok (.iconst 0, 1) := by decide +kernel
theorem dX1_bestTurn_62 : decode cX1_bestTurn 62 = .ok (.istore 8, 2) := by decide +kernel
theorem dX1_bestTurn_64 : decode cX1_bestTurn 64 = .ok (.iload 8, 2) := by decide +kernel
theorem dX1_bestTurn_66 : decode cX1_bestTurn 66 = .ok (.iload 7, 2) := by decide +kernel
theorem dX1_bestTurn_68 : decode cX1_bestTurn 68 = .ok (.invokestatic 157, 3) := by decide +kernel
theorem dX1_bestTurn_71 : decode cX1_bestTurn 71 = .ok (.aload_n 1, 1) := by decide +kernel
theorem dX1_bestTurn_72 : decode cX1_bestTurn 72 = .ok (.getfield 58, 3) := by decide +kernel
theorem dX1_bestTurn_75 : decode cX1_bestTurn 75 = .ok (.bipush 16, 2) := by decide +kernel
theorem dX1_bestTurn_77 : decode cX1_bestTurn 77 = .ok (.iload_n 2, 1) := by decide +kernel
theorem dX1_bestTurn_78 : decode cX1_bestTurn 78 = .ok (.iadd, 1) := by decide +kernel
theorem dX1_bestTurn_79 : decode cX1_bestTurn 79 = .ok (.iaload, 1) := by decide +kernel
theorem dX1_bestTurn_80 : decode cX1_bestTurn 80 = .ok (.if_icmp .ne 7, 3) := by decide +kernel
theorem dX1_bestTurn_83 : decode cX1_bestTurn 83 = .ok (.iconst 1, 1) := by decide +kernel
theorem dX1_bestTurn_84 : decode cX1_bestTurn 84 = .ok (.goto 4, 3) := by decide +kernel
theorem dX1_bestTurn_87 : decode cX1_bestTurn 87 = .ok (.iconst 0, 1) := by decide +kernel
theorem dX1_bestTurn_88 : decode cX1_bestTurn 88 = .ok (.iadd, 1) := by decide +kernel
theorem dX1_bestTurn_89 : decode cX1_bestTurn 89 = .ok (.istore 8, 2) := by decide +kernel
theorem dX1_bestTurn_91 : decode cX1_bestTurn 91 = .ok (.iload 8, 2) := by decide +kernel
theorem dX1_bestTurn_93 : decode cX1_bestTurn 93 = .ok (.iload 4, 2) := by decide +kernel
theorem dX1_bestTurn_95 : decode cX1_bestTurn 95 = .ok (.if_icmp .le 10, 3) := by decide +kernel
theorem dX1_bestTurn_98 : decode cX1_bestTurn 98 = .ok (.iload 8, 2) := by decide +kernel
theorem dX1_bestTurn_100 : decode cX1_bestTurn 100 = .ok (.istore 4, 2) := by decide +kernel
theorem dX1_bestTurn_102 : decode cX1_bestTurn 102 = .ok (.iload 5, 2) := by decide +kernel
theorem dX1_bestTurn_104 : decode cX1_bestTurn 104 = .ok (.istore_n 3, 1) := by decide +kernel
theorem dX1_bestTurn_105 : decode cX1_bestTurn 105 = .ok (.iinc 5 1, 3) := by decide +kernel
theorem dX1_bestTurn_108 : decode cX1_bestTurn 108 = .ok (.goto (-100), 3) := by decide +kernel
theorem dX1_bestTurn_111 : decode cX1_bestTurn 111 = .ok (.iload_n 3, 1) := by decide +kernel
theorem dX1_bestTurn_112 : decode cX1_bestTurn 112 = .ok (.ireturn, 1) := by decide +kernel
theorem dX1_errors_0 : decode cX1_errors 0 = .ok (.iconst 0, 1) := by decide +kernel
theorem dX1_errors_1 : decode cX1_errors 1 = .ok (.istore_n 2, 1) := by decide +kernel
theorem dX1_errors_2 : decode cX1_errors 2 = .ok (.iconst 0, 1) := by decide +kernel
theorem dX1_errors_3 : decode cX1_errors 3 = .ok (.istore_n 3, 1) := by decide +kernel
theorem dX1_errors_4 : decode cX1_errors 4 = .ok (.iload_n 3, 1) := by decide +kernel
theorem dX1_errors_5 : decode cX1_errors 5 = .ok (.bipush 32, 2) := by decide +kernel
theorem dX1_errors_7 : decode cX1_errors 7 = .ok (.if_icmp .ge 35, 3) := by decide +kernel
theorem dX1_errors_10 : decode cX1_errors 10 = .ok (.iload_n 2, 1) := by decide +kernel
theorem dX1_errors_11 : decode cX1_errors 11 = .ok (.aload_n 0, 1) := by decide +kernel
theorem dX1_errors_12 : decode cX1_errors 12 = .ok (.getfield 9, 3) := by decide +kernel
theorem dX1_errors_15 : decode cX1_errors 15 = .ok (.iload_n 3, 1) := by decide +kernel
theorem dX1_errors_16 : decode cX1_errors 16 = .ok (.iaload, 1) := by decide +kernel
theorem dX1_errors_17 : decode cX1_errors 17 = .ok (.invokestatic 157, 3) := by decide +kernel
theorem dX1_errors_20 : decode cX1_errors 20 = .ok (.aload_n 1, 1) := by decide +kernel
theorem dX1_errors_21 : decode cX1_errors 21 = .ok (.getfield 58, 3) := by decide +kernel
theorem dX1_errors_24 : decode cX1_errors 24 = .ok (.iload_n 3, 1) := by decide +kernel
theorem dX1_errors_25 : decode cX1_errors 25 = .ok (.iaload, 1) := by decide +kernel
theorem dX1_errors_26 : decode cX1_errors 26 = .ok (.if_icmp .ne 7, 3) := by decide +kernel
theorem dX1_errors_29 : decode cX1_errors 29 = .ok (.iconst 0, 1) := by decide +kernel
theorem dX1_errors_30 : decode cX1_errors 30 = .ok (.goto 4, 3) := by decide +kernel
theorem dX1_errors_33 : decode cX1_errors 33 = .ok (.iconst 1, 1) := by decide +kernel
theorem dX1_errors_34 : decode cX1_errors 34 = .ok (.iadd, 1) := by decide +kernel
theorem dX1_errors_35 : decode cX1_errors 35 = .ok (.istore_n 2, 1) := by decide +kernel
theorem dX1_errors_36 : decode cX1_errors 36 = .ok (.iinc 3 1, 3) := by decide +kernel
theorem dX1_errors_39 : decode cX1_errors 39 = .ok (.goto (-35), 3) := by decide +kernel
theorem dX1_errors_42 : decode cX1_errors 42 = .ok (.iload_n 2, 1) := by decide +kernel
theorem dX1_errors_43 : decode cX1_errors 43 = .ok (.ireturn, 1) := by decide +kernel
theorem dX1_errorsAtMarks_0 : decode cX1_errorsAtMarks 0 = .ok (.iconst 0, 1) := by decide +kernel
theorem dX1_errorsAtMarks_1 : decode cX1_errorsAtMarks 1 = .ok (.istore_n 2, 1) := by decide +kernel
theorem dX1_errorsAtMarks_2 : decode cX1_errorsAtMarks 2 = .ok (.iconst 0, 1) := by decide +kernel
theorem dX1_errorsAtMarks_3 : decode cX1_errorsAtMarks 3 = .ok (.istore_n 3, 1) := by decide +kernel
theorem dX1_errorsAtMarks_4 : decode cX1_errorsAtMarks 4 = .ok (.iload_n 3, 1) := by decide +kernel
theorem dX1_errorsAtMarks_5 : decode cX1_errorsAtMarks 5 = .ok (.bipush 32, 2) := by decide +kernel
theorem dX1_errorsAtMarks_7 : decode cX1_errorsAtMarks 7 = .ok (.if_icmp .ge 46, 3) := by decide +kernel
theorem dX1_errorsAtMarks_10 : decode cX1_errorsAtMarks 10 = .ok (.aload_n 1, 1) := by decide +kernel
theorem dX1_errorsAtMarks_11 : decode cX1_errorsAtMarks 11 = .ok (.iload_n 3, 1) := by decide +kernel
theorem dX1_errorsAtMarks_12 : decode cX1_errorsAtMarks 12 = .ok (.bipush 16, 2) := by decide +kernel
theorem dX1_errorsAtMarks_14 : decode cX1_errorsAtMarks 14 = .ok (.irem, 1) := by decide +kernel
theorem dX1_errorsAtMarks_15 : decode cX1_errorsAtMarks 15 = .ok (.invokevirtual 149, 3) := by decide +kernel
theorem dX1_errorsAtMarks_18 : decode cX1_errorsAtMarks 18 = .ok (.ifCond .eq 29, 3) := by decide +kernel
theorem dX1_errorsAtMarks_21 : decode cX1_errorsAtMarks 21 = .ok (.iload_n 2, 1) := by decide +kernel
theorem dX1_errorsAtMarks_22 : decode cX1_errorsAtMarks 22 = .ok (.aload_n 0, 1) := by decide +kernel
theorem dX1_errorsAtMarks_23 : decode cX1_errorsAtMarks 23 = .ok (.getfield 9, 3) := by decide +kernel
theorem dX1_errorsAtMarks_26 : decode cX1_errorsAtMarks 26 = .ok (.iload_n 3, 1) := by decide +kernel
theorem dX1_errorsAtMarks_27 : decode cX1_errorsAtMarks 27 = .ok (.iaload, 1) := by decide +kernel
theorem dX1_errorsAtMarks_28 : decode cX1_errorsAtMarks 28 = .ok (.invokestatic 157, 3) := by decide +kernel
theorem dX1_errorsAtMarks_31 : decode cX1_errorsAtMarks 31 = .ok (.aload_n 1, 1) := by decide +kernel
theorem dX1_errorsAtMarks_32 : decode cX1_errorsAtMarks 32 = .ok (.getfield 58, 3) := by decide +kernel
theorem dX1_errorsAtMarks_35 : decode cX1_errorsAtMarks 35 = .ok (.iload_n 3, 1) := by decide +kernel
theorem dX1_errorsAtMarks_36 : decode cX1_errorsAtMarks 36 = .ok (.iaload, 1) := by decide +kernel
theorem dX1_errorsAtMarks_37 : decode cX1_errorsAtMarks 37 = .ok (.if_icmp .ne 7, 3) := by decide +kernel
theorem dX1_errorsAtMarks_40 : decode cX1_errorsAtMarks 40 = .ok (.iconst 0, 1) := by decide +kernel
theorem dX1_errorsAtMarks_41 : decode cX1_errorsAtMarks 41 = .ok (.goto 4, 3) := by decide +kernel
theorem dX1_errorsAtMarks_44 : decode cX1_errorsAtMarks 44 = .ok (.iconst 1, 1) := by decide +kernel
theorem dX1_errorsAtMarks_45 : decode cX1_errorsAtMarks 45 = .ok (.iadd, 1) := by decide +kernel
theorem dX1_errorsAtMarks_46 : decode cX1_errorsAtMarks 46 = .ok (.istore_n 2, 1) := by decide +kernel
theorem dX1_errorsAtMarks_47 : decode cX1_errorsAtMarks 47 = .ok (.iinc 3 1, 3) := by decide +kernel
theorem dX1_errorsAtMarks_50 : decode cX1_errorsAtMarks 50 = .ok (.goto (-46), 3) := by decide +kernel
theorem dX1_errorsAtMarks_53 : decode cX1_errorsAtMarks 53 = .ok (.iload_n 2, 1) := by decide +kernel
theorem dX1_errorsAtMarks_54 : decode cX1_errorsAtMarks 54 = .ok (.ireturn, 1) := by decide +kernel
theorem dX2_light_0 : decode cX2_light 0 = .ok (.getstatic 9, 3) := by decide +kernel
theorem dX2_light_3 : decode cX2_light 3 = .ok (.iload_n 0, 1) := by decide +kernel
theorem dX2_light_4 : decode cX2_light 4 = .ok (.iconst 3, 1) := by decide +kernel
theorem dX2_light_5 : decode cX2_light 5 = .ok (.iand, 1) := by decide +kernel
theorem dX2_light_6 : decode cX2_light 6 = .ok (.iaload, 1) := by decide +kernel
theorem dX2_light_7 : decode cX2_light 7 = .ok (.ireturn, 1) := by decide +kernel
theorem dX2_decided_0 : decode cX2_decided 0 = .ok (.iload_n 0, 1) := by decide +kernel
theorem dX2_decided_1 : decode cX2_decided 1 = .ok (.bipush 11, 2) := by decide +kernel
theorem dX2_decided_3 : decode cX2_decided 3 = .ok (.if_icmp .gt 5, 3) := by decide +kernel
theorem dX2_decided_6 : decode cX2_decided 6 = .ok (.iconst 0, 1) := by decide +kernel
theorem dX2_decided_7 : decode cX2_decided 7 = .ok (.ireturn, 1) := by decide +kernel
theorem dX2_decided_8 : decode cX2_decided 8 = .ok (.iload_n 0, 1) := by decide +kernel
theorem dX2_decided_9 : decode cX2_decided 9 = .ok (.bipush 48, 2) := by decide +kernel
theorem dX2_decided_11 : decode cX2_decided 11 = .ok (.if_icmp .gt 5, 3) := by decide +kernel
theorem dX2_decided_14 : decode cX2_decided 14 = .ok (.iconst 1, 1) := by decide +kernel
theorem dX2_decided_15 : decode cX2_decided 15 = .ok (.ireturn, 1) := by decide +kernel
theorem dX2_decided_16 : decode cX2_decided 16 = .ok (.iload_n 0, 1) := by decide +kernel
theorem dX2_decided_17 : decode cX2_decided 17 = .ok (.bipush 85, 2) := by decide +kernel
theorem dX2_decided_19 : decode cX2_decided 19 = .ok (.if_icmp .gt 7, 3) := by decide +kernel
theorem dX2_decided_22 : decode cX2_decided 22 = .ok (.iconst 3, 1) := by decide +kernel
theorem dX2_decided_23 : decode cX2_decided 23 = .ok (.goto 4, 3) := by decide +kernel
theorem dX2_decided_26 : decode cX2_decided 26 = .ok (.iconst 2, 1) := by decide +kernel
theorem dX2_decided_27 : decode cX2_decided 27 = .ok (.ireturn, 1) := by decide +kernel
theorem dX2_turned_0 : decode cX2_turned 0 = .ok (.iload_n 0, 1) := by decide +kernel
theorem dX2_turned_1 : decode cX2_turned 1 = .ok (.getstatic 9, 3) := by decide +kernel
theorem dX2_turned_4 : decode cX2_turned 4 = .ok (.iload_n 1, 1) := by decide +kernel
theorem dX2_turned_5 : decode cX2_turned 5 = .ok (.iconst 3, 1) := by decide +kernel
theorem dX2_turned_6 : decode cX2_turned 6 = .ok (.iand, 1) := by decide +kernel
theorem dX2_turned_7 : decode cX2_turned 7 = .ok (.iaload, 1) := by decide +kernel
theorem dX2_turned_8 : decode cX2_turned 8 = .ok (.imul, 1) := by decide +kernel
theorem dX2_turned_9 : decode cX2_turned 9 = .ok (.bipush 97, 2) := by decide +kernel
theorem dX2_turned_11 : decode cX2_turned 11 = .ok (.irem, 1) := by decide +kernel
theorem dX2_turned_12 : decode cX2_turned 12 = .ok (.ireturn, 1) := by decide +kernel
theorem dX2_power_0 : decode cX2_power 0 = .ok (.iconst 1, 1) := by decide +kernel
theorem dX2_power_1 : decode cX2_power 1 = .ok (.istore_n 2, 1) := by decide +kernel
theorem dX2_power_2 : decode cX2_power 2 = .ok (.iload_n 0, 1) := by decide +kernel
theorem dX2_power_3 : decode cX2_power 3 = .ok (.istore_n 3, 1) := by decide +kernel
theorem dX2_power_4 : decode cX2_power 4 = .ok (.iload_n 1, 1) := by decide +kernel
theorem dX2_power_5 : decode cX2_power 5 = .ok (.istore 4, 2) := by decide +kernel
theorem dX2_power_7 : decode cX2_power 7 = .ok (.iload 4, 2) := by decide +kernel
theorem dX2_power_9 : decode cX2_power 9 = .ok (.ifCond .le 34, 3) := by decide +kernel
theorem dX2_power_12 : decode cX2_power 12 = .ok (.iload 4, 2) := by decide +kernel
theorem dX2_power_14 : decode cX2_power 14 = .ok (.iconst 1, 1) := by decide +kernel
theorem dX2_power_15 : decode cX2_power 15 = .ok (.iand, 1) := by decide +kernel
theorem dX2_power_16 : decode cX2_power 16 = .ok (.iconst 1, 1) := by decide +kernel
theorem dX2_power_17 : decode cX2_power 17 = .ok (.if_icmp .ne 10, 3) := by decide +kernel
theorem dX2_power_20 : decode cX2_power 20 = .ok (.iload_n 2, 1) := by decide +kernel
theorem dX2_power_21 : decode cX2_power 21 = .ok (.iload_n 3, 1) := by decide +kernel
theorem dX2_power_22 : decode cX2_power 22 = .ok (.imul, 1) := by decide +kernel
theorem dX2_power_23 : decode cX2_power 23 = .ok (.bipush 97, 2) := by decide +kernel
theorem dX2_power_25 : decode cX2_power 25 = .ok (.irem, 1) := by decide +kernel
theorem dX2_power_26 : decode cX2_power 26 = .ok (.istore_n 2, 1) := by decide +kernel
theorem dX2_power_27 : decode cX2_power 27 = .ok (.iload_n 3, 1) := by decide +kernel
theorem dX2_power_28 : decode cX2_power 28 = .ok (.iload_n 3, 1) := by decide +kernel
theorem dX2_power_29 : decode cX2_power 29 = .ok (.imul, 1) := by decide +kernel
theorem dX2_power_30 : decode cX2_power 30 = .ok (.bipush 97, 2) := by decide +kernel
theorem dX2_power_32 : decode cX2_power 32 = .ok (.irem, 1) := by decide +kernel
theorem dX2_power_33 : decode cX2_power 33 = .ok (.istore_n 3, 1) := by decide +kernel
theorem dX2_power_34 : decode cX2_power 34 = .ok (.iload 4, 2) := by decide +kernel
theorem dX2_power_36 : decode cX2_power 36 = .ok (.iconst 1, 1) := by decide +kernel
theorem dX2_power_37 : decode cX2_power 37 = .ok (.ishr, 1) := by decide +kernel
theorem dX2_power_38 : decode cX2_power 38 = .ok (.istore 4, 2) := by decide +kernel
theorem dX2_power_40 : decode cX2_power 40 = .ok (.goto (-33), 3) := by decide +kernel
theorem dX2_power_43 : decode cX2_power 43 = .ok (.iload_n 2, 1) := by decide +kernel
theorem dX2_power_44 : decode cX2_power 44 = .ok (.ireturn, 1) := by decide +kernel
theorem dX2_inverse_0 : decode cX2_inverse 0 = .ok (.iload_n 0, 1) := by decide +kernel
theorem dX2_inverse_1 : decode cX2_inverse 1 = .ok (.bipush 95, 2) := by decide +kernel
theorem dX2_inverse_3 : decode cX2_inverse 3 = .ok (.invokestatic 15, 3) := by decide +kernel
theorem dX2_inverse_6 : decode cX2_inverse 6 = .ok (.ireturn, 1) := by decide +kernel
theorem dX3_init_0 : decode cX3_init 0 = .ok (.aload_n 0, 1) := by decide +kernel
theorem dX3_init_1 : decode cX3_init 1 = .ok (.invokespecial 3, 3) := by decide +kernel
theorem dX3_init_4 : decode cX3_init 4 = .ok (.aload_n 0, 1) := by decide +kernel
theorem dX3_init_5 : decode cX3_init 5 = .ok (.bipush 6, 2) := by decide +kernel
theorem dX3_init_7 : decode cX3_init 7 = .ok (.anewarray 9, 3) := by decide +kernel
theorem dX3_init_10 : decode cX3_init 10 = .ok (.putfield 11, 3) := by decide +kernel
theorem dX3_init_13 : decode cX3_init 13 = .ok (.iconst 0, 1) := by decide +kernel
theorem dX3_init_14 : decode cX3_init 14 = .ok (.istore_n 1, 1) := by decide +kernel
theorem dX3_init_15 : decode cX3_init 15 = .ok (.iload_n 1, 1) := by decide +kernel
theorem dX3_init_16 : decode cX3_init 16 = .ok (.bipush 6, 2) := by decide +kernel
theorem dX3_init_18 : decode cX3_init 18 = .ok (.if_icmp .ge 22, 3) := by decide +kernel
theorem dX3_init_21 : decode cX3_init 21 = .ok (.aload_n 0, 1) := by decide +kernel
theorem dX3_init_22 : decode cX3_init 22 = .ok (.getfield 11, 3) := by decide +kernel
theorem dX3_init_25 : decode cX3_init 25 = .ok (.iload_n 1, 1) := by decide +kernel
theorem dX3_init_26 : decode cX3_init 26 = .ok (.new 9, 3) := by decide +kernel
theorem dX3_init_29 : decode cX3_init 29 = .ok (.dup, 1) := by decide +kernel
theorem dX3_init_30 : decode cX3_init 30 = .ok (.invokespecial 17, 3) := by decide +kernel
theorem dX3_init_33 : decode cX3_init 33 = .ok (.aastore, 1) := by decide +kernel
theorem dX3_init_34 : decode cX3_init 34 = .ok (.iinc 1 1, 3) := by decide +kernel
theorem dX3_init_37 : decode cX3_init 37 = .ok (.goto (-22), 3) := by decide +kernel
theorem dX3_init_40 : decode cX3_init 40 = .ok (.return_, 1) := by decide +kernel
theorem dX3_remember_0 : decode cX3_remember 0 = .ok (.aload_n 0, 1) := by decide +kernel
theorem dX3_remember_1 : decode cX3_remember 1 = .ok (.getfield 11, 3) := by decide +kernel
theorem dX3_remember_4 : decode cX3_remember 4 = .ok (.aload_n 0, 1) := by decide +kernel
theorem dX3_remember_5 : decode cX3_remember 5 = .ok (.getfield 18, 3) := by decide +kernel
theorem dX3_remember_8 : decode cX3_remember 8 = .ok (.aaload, 1) := by decide +kernel
theorem dX3_remember_9 : decode cX3_remember 9 = .ok (.aload_n 1, 1) := by decide +kernel
theorem dX3_remember_10 : decode cX3_remember 10 = .ok (.invokevirtual 22, 3) := by decide +kernel
theorem dX3_remember_13 : decode cX3_remember 13 = .ok (.aload_n 0, 1) := by decide +kernel
theorem dX3_remember_14 : decode cX3_remember 14 = .ok (.aload_n 0, 1) := by decide +kernel
theorem dX3_remember_15 : decode cX3_remember 15 = .ok (.getfield 18, 3) := by decide +kernel
theorem dX3_remember_18 : decode cX3_remember 18 = .ok (.iconst 1, 1) := by decide +kernel
theorem dX3_remember_19 : decode cX3_remember 19 = .ok (.iadd, 1) := by decide +kernel
theorem dX3_remember_20 : decode cX3_remember 20 = .ok (.bipush 6, 2) := by decide +kernel
theorem dX3_remember_22 : decode cX3_remember 22 = .ok (.irem, 1) := by decide +kernel
theorem dX3_remember_23 : decode cX3_remember 23 = .ok (.putfield 18, 3) := by decide +kernel
theorem dX3_remember_26 : decode cX3_remember 26 = .ok (.aload_n 0, 1) := by decide +kernel
theorem dX3_remember_27 : decode cX3_remember 27 = .ok (.aload_n 0, 1) := by decide +kernel
theorem dX3_remember_28 : decode cX3_remember 28 = .ok (.getfield 26, 3) := by decide +kernel
theorem dX3_remember_31 : decode cX3_remember 31 = .ok (.iconst 1, 1) := by decide +kernel
theorem dX3_remember_32 : decode cX3_remember 32 = .ok (.iadd, 1) := by decide +kernel
theorem dX3_remember_33 : decode cX3_remember 33 = .ok (.bipush 6, 2) := by decide +kernel
theorem dX3_remember_35 : decode cX3_remember 35 = .ok (.invokestatic 29, 3) := by decide +kernel
theorem dX3_remember_38 : decode cX3_remember 38 = .ok (.putfield 26, 3) := by decide +kernel
theorem dX3_remember_41 : decode cX3_remember 41 = .ok (.return_, 1) := by decide +kernel
theorem dX3_restore_0 : decode cX3_restore 0 = .ok (.aload_n 0, 1) := by decide +kernel
theorem dX3_restore_1 : decode cX3_restore 1 = .ok (.aload_n 0, 1) := by decide +kernel
theorem dX3_restore_2 : decode cX3_restore 2 = .ok (.getfield 18, 3) := by decide +kernel
theorem dX3_restore_5 : decode cX3_restore 5 = .ok (.bipush 6, 2) := by decide +kernel
theorem dX3_restore_7 : decode cX3_restore 7 = .ok (.iadd, 1) := by decide +kernel
theorem dX3_restore_8 : decode cX3_restore 8 = .ok (.iconst 1, 1) := by decide +kernel
theorem dX3_restore_9 : decode cX3_restore 9 = .ok (.isub, 1) := by decide +kernel
theorem dX3_restore_10 : decode cX3_restore 10 = .ok (.bipush 6, 2) := by decide +kernel
theorem dX3_restore_12 : decode cX3_restore 12 = .ok (.irem, 1) := by decide +kernel
theorem dX3_restore_13 : decode cX3_restore 13 = .ok (.putfield 18, 3) := by decide +kernel
theorem dX3_restore_16 : decode cX3_restore 16 = .ok (.aload_n 1, 1) := by decide +kernel
theorem dX3_restore_17 : decode cX3_restore 17 = .ok (.aload_n 0, 1) := by decide +kernel
theorem dX3_restore_18 : decode cX3_restore 18 = .ok (.getfield 11, 3) := by decide +kernel
theorem dX3_restore_21 : decode cX3_restore 21 = .ok (.aload_n 0, 1) := by decide +kernel
theorem dX3_restore_22 : decode cX3_restore 22 = .ok (.getfield 18, 3) := by decide +kernel
theorem dX3_restore_25 : decode cX3_restore 25 = .ok (.aaload, 1) := by decide +kernel
theorem dX3_restore_26 : decode cX3_restore 26 = .ok (.invokevirtual 22, 3) := by decide +kernel
theorem dX3_restore_29 : decode cX3_restore 29 = .ok (.aload_n 0, 1) := by decide +kernel
theorem dX3_restore_30 : decode cX3_restore 30 = .ok (.aload_n 0, 1) := by decide +kernel
theorem dX3_restore_31 : decode cX3_restore 31 = .ok (.getfield 26, 3) := by decide +kernel
theorem dX3_restore_34 : decode cX3_restore 34 = .ok (.iconst 1, 1) := by decide +kernel
theorem dX3_restore_35 : decode cX3_restore 35 = .ok (.isub, 1) := by decide +kernel
theorem dX3_restore_36 : decode cX3_restore 36 = .ok (.iconst 0, 1) := by decide +kernel
theorem dX3_restore_37 : decode cX3_restore 37 = .ok (.invokestatic 35, 3) := by decide +kernel
theorem dX3_restore_40 : decode cX3_restore 40 = .ok (.putfield 26, 3) := by decide +kernel
theorem dX3_restore_43 : decode cX3_restore 43 = .ok (.return_, 1) := by decide +kernel
theorem dX4_init_0 : decode cX4_init 0 = .ok (.aload_n 0, 1) := by decide +kernel
theorem dX4_init_1 : decode cX4_init 1 = .ok (.invokespecial 3, 3) := by decide +kernel
theorem dX4_init_4 : decode cX4_init 4 = .ok (.return_, 1) := by decide +kernel
theorem dX4_put_0 : decode cX4_put 0 = .ok (.aload_n 0, 1) := by decide +kernel
theorem dX4_put_1 : decode cX4_put 1 = .ok (.iload_n 1, 1) := by decide +kernel
theorem dX4_put_2 : decode cX4_put 2 = .ok (.bipush 97, 2) := by decide +kernel
theorem dX4_put_4 : decode cX4_put 4 = .ok (.invokestatic 9, 3) := by decide +kernel
theorem dX4_put_7 : decode cX4_put 7 = .ok (.putfield 15, 3) := by decide +kernel
theorem dX4_put_10 : decode cX4_put 10 = .ok (.aload_n 0, 1) := by decide +kernel
theorem dX4_put_11 : decode cX4_put 11 = .ok (.iload_n 2, 1) := by decide +kernel
theorem dX4_put_12 : decode cX4_put 12 = .ok (.bipush 97, 2) := by decide +kernel
theorem dX4_put_14 : decode cX4_put 14 = .ok (.invokestatic 9, 3) := by decide +kernel
theorem dX4_put_17 : decode cX4_put 17 = .ok (.putfield 21, 3) := by decide +kernel
theorem dX4_put_20 : decode cX4_put 20 = .ok (.aload_n 0, 1) := by decide +kernel
theorem dX4_put_21 : decode cX4_put 21 = .ok (.iload_n 3, 1) := by decide +kernel
theorem dX4_put_22 : decode cX4_put 22 = .ok (.bipush 97, 2) := by decide +kernel
theorem dX4_put_24 : decode cX4_put 24 = .ok (.invokestatic 9, 3) := by decide +kernel
theorem dX4_put_27 : decode cX4_put 27 = .ok (.putfield 24, 3) := by decide +kernel
theorem dX4_put_30 : decode cX4_put 30 = .ok (.aload_n 0, 1) := by decide +kernel
theorem dX4_put_31 : decode cX4_put 31 = .ok (.iload 4, 2) := by decide +kernel
theorem dX4_put_33 : decode cX4_put 33 = .ok (.bipush 97, 2) := by decide +kernel
theorem dX4_put_35 : decode cX4_put 35 = .ok (.invokestatic 9, 3) := by decide +kernel
theorem dX4_put_38 : decode cX4_put 38 = .ok (.putfield 27, 3) := by decide +kernel
theorem dX4_put_41 : decode cX4_put 41 = .ok (.return_, 1) := by decide +kernel
theorem dX4_entry_0 : decode cX4_entry 0 = .ok (.iload_n 1, 1) := by decide +kernel
theorem dX4_entry_1 : decode cX4_entry 1 = .ok (.tableswitch 42 0 2 #[27, 32, 37], 27) := by decide +kernel
theorem dX4_entry_28 : decode cX4_entry 28 = .ok (.aload_n 0, 1) := by decide +kernel
theorem dX4_entry_29 : decode cX4_entry 29 = .ok (.getfield 15, 3) := by decide +kernel
theorem dX4_entry_32 : decode cX4_entry 32 = .ok (.ireturn, 1) := by decide +kernel
theorem dX4_entry_33 : decode cX4_entry 33 = .ok (.aload_n 0, 1) := by decide +kernel
theorem dX4_entry_34 : decode cX4_entry 34 = .ok (.getfield 21, 3) := by decide +kernel
theorem dX4_entry_37 : decode cX4_entry 37 = .ok (.ireturn, 1) := by decide +kernel
theorem dX4_entry_38 : decode cX4_entry 38 = .ok (.aload_n 0, 1) := by decide +kernel
theorem dX4_entry_39 : decode cX4_entry 39 = .ok (.getfield 24, 3) := by decide +kernel
theorem dX4_entry_42 : decode cX4_entry 42 = .ok (.ireturn, 1) := by decide +kernel
theorem dX4_entry_43 : decode cX4_entry 43 = .ok (.aload_n 0, 1) := by decide +kernel
theorem dX4_entry_44 : decode cX4_entry 44 = .ok (.getfield 27, 3) := by decide +kernel
theorem dX4_entry_47 : decode cX4_entry 47 = .ok (.ireturn, 1) := by decide +kernel
theorem dX4_determinant_0 : decode cX4_determinant 0 = .ok (.aload_n 0, 1) := by decide +kernel
theorem dX4_determinant_1 : decode cX4_determinant 1 = .ok (.getfield 15, 3) := by decide +kernel
theorem dX4_determinant_4 : decode cX4_determinant 4 = .ok (.aload_n 0, 1) := by decide +kernel
theorem dX4_determinant_5 : decode cX4_determinant 5 = .ok (.getfield 27, 3) := by decide +kernel
theorem dX4_determinant_8 : decode cX4_determinant 8 = .ok (.imul, 1) := by decide +kernel
theorem dX4_determinant_9 : decode cX4_determinant 9 = .ok (.aload_n 0, 1) := by decide +kernel
theorem dX4_determinant_10 : decode cX4_determinant 10 = .ok (.getfield 21, 3) := by decide +kernel
theorem dX4_determinant_13 : decode cX4_determinant 13 = .ok (.aload_n 0, 1) := by decide +kernel
theorem dX4_determinant_14 : decode cX4_determinant 14 = .ok (.getfield 24, 3) := by decide +kernel
theorem dX4_determinant_17 : decode cX4_determinant 17 = .ok (.imul, 1) := by decide +kernel
theorem dX4_determinant_18 : decode cX4_determinant 18 = .ok (.isub, 1) := by decide +kernel
theorem dX4_determinant_19 : decode cX4_determinant 19 = .ok (.bipush 97, 2) := by decide +kernel
theorem dX4_determinant_21 : decode cX4_determinant 21 = .ok (.invokestatic 9, 3) := by decide +kernel
theorem dX4_determinant_24 : decode cX4_determinant 24 = .ok (.ireturn, 1) := by decide +kernel
theorem dX4_invert_0 : decode cX4_invert 0 = .ok (.aload_n 0, 1) := by decide +kernel
theorem dX4_invert_1 : decode cX4_invert 1 = .ok (.invokevirtual 30, 3) := by decide +kernel
theorem dX4_invert_4 : decode cX4_invert 4 = .ok (.invokestatic 34, 3) := by decide +kernel
theorem dX4_invert_7 : decode cX4_invert 7 = .ok (.istore_n 1, 1) := by decide +kernel
theorem dX4_invert_8 : decode cX4_invert 8 = .ok (.aload_n 0, 1) := by decide +kernel
theorem dX4_invert_9 : decode cX4_invert 9 = .ok (.iload_n 1, 1) := by decide +kernel
theorem dX4_invert_10 : decode cX4_invert 10 = .ok (.aload_n 0, 1) := by decide +kernel
theorem dX4_invert_11 : decode cX4_invert 11 = .ok (.getfield 27, 3) := by decide +kernel
theorem dX4_invert_14 : decode cX4_invert 14 = .ok (.imul, 1) := by decide +kernel
theorem dX4_invert_15 : decode cX4_invert 15 = .ok (.iload_n 1, 1) := by decide +kernel
theorem dX4_invert_16 : decode cX4_invert 16 = .ok (.ineg, 1) := by decide +kernel
theorem dX4_invert_17 : decode cX4_invert 17 = .ok (.aload_n 0, 1) := by decide +kernel
theorem dX4_invert_18 : decode cX4_invert 18 = .ok (.getfield 21, 3) := by decide +kernel
theorem dX4_invert_21 : decode cX4_invert 21 = .ok (.imul, 1) := by decide +kernel
theorem dX4_invert_22 : decode cX4_invert 22 = .ok (.iload_n 1, 1) := by decide +kernel
theorem dX4_invert_23 : decode cX4_invert 23 = .ok (.ineg, 1) := by decide +kernel
theorem dX4_invert_24 : decode cX4_invert 24 = .ok (.aload_n 0, 1) := by decide +kernel
theorem dX4_invert_25 : decode cX4_invert 25 = .ok (.getfield 24, 3) := by decide +kernel
theorem dX4_invert_28 : decode cX4_invert 28 = .ok (.imul, 1) := by decide +kernel
theorem dX4_invert_29 : decode cX4_invert 29 = .ok (.iload_n 1, 1) := by decide +kernel
theorem dX4_invert_30 : decode cX4_invert 30 = .ok (.aload_n 0, 1) := by decide +kernel
theorem dX4_invert_31 : decode cX4_invert 31 = .ok (.getfield 15, 3) := by decide +kernel
theorem dX4_invert_34 : decode cX4_invert 34 = .ok (.imul, 1) := by decide +kernel
theorem dX4_invert_35 : decode cX4_invert 35 = .ok (.invokevirtual 40, 3) := by decide +kernel
theorem dX4_invert_38 : decode cX4_invert 38 = .ok (.return_, 1) := by decide +kernel
theorem dX4_multiplyFromLeft_0 : decode cX4_multiplyFromLeft 0 = .ok (.aload_n 0, 1) := by decide +kernel
theorem dX4_multiplyFromLeft_1 : decode cX4_multiplyFromLeft 1 = .ok (.aload_n 1, 1) := by decide +kernel
theorem dX4_multiplyFromLeft_2 : decode cX4_multiplyFromLeft 2 = .ok (.getfield 15, 3) := by decide +kernel
theorem dX4_multiplyFromLeft_5 : decode cX4_multiplyFromLeft 5 = .ok (.aload_n 0, 1) := by decide +kernel
theorem dX4_multiplyFromLeft_6 : decode cX4_multiplyFromLeft 6 = .ok (.getfield 15, 3) := by decide +kernel
theorem dX4_multiplyFromLeft_9 : decode cX4_multiplyFromLeft 9 = .ok (.imul, 1) := by decide +kernel
theorem dX4_multiplyFromLeft_10 : decode cX4_multiplyFromLeft 10 = .ok (.aload_n 1, 1) := by decide +kernel
theorem dX4_multiplyFromLeft_11 : decode cX4_multiplyFromLeft 11 = .ok (.getfield 21, 3) := by decide +kernel
theorem dX4_multiplyFromLeft_14 : decode cX4_multiplyFromLeft 14 = .ok (.aload_n 0, 1) := by decide +kernel
theorem dX4_multiplyFromLeft_15 : decode cX4_multiplyFromLeft 15 = .ok (.getfield 24, 3) := by decide +kernel
theorem dX4_multiplyFromLeft_18 : decode cX4_multiplyFromLeft 18 = .ok (.imul, 1) := by decide +kernel
theorem dX4_multiplyFromLeft_19 : decode cX4_multiplyFromLeft 19 = .ok (.iadd, 1) := by decide +kernel
theorem dX4_multiplyFromLeft_20 : decode cX4_multiplyFromLeft 20 = .ok (.aload_n 1, 1) := by decide +kernel
theorem dX4_multiplyFromLeft_21 : decode cX4_multiplyFromLeft 21 = .ok (.getfield 15, 3) := by decide +kernel
theorem dX4_multiplyFromLeft_24 : decode cX4_multiplyFromLeft 24 = .ok (.aload_n 0, 1) := by decide +kernel
theorem dX4_multiplyFromLeft_25 : decode cX4_multiplyFromLeft 25 = .ok (.getfield 21, 3) := by decide +kernel
theorem dX4_multiplyFromLeft_28 : decode cX4_multiplyFromLeft 28 = .ok (.imul, 1) := by decide +kernel
theorem dX4_multiplyFromLeft_29 : decode cX4_multiplyFromLeft 29 = .ok (.aload_n 1, 1) := by decide +kernel
theorem dX4_multiplyFromLeft_30 : decode cX4_multiplyFromLeft 30 = .ok (.getfield 21, 3) := by decide +kernel
theorem dX4_multiplyFromLeft_33 : decode cX4_multiplyFromLeft 33 = .ok (.aload_n 0, 1) := by decide +kernel
theorem dX4_multiplyFromLeft_34 : decode cX4_multiplyFromLeft 34 = .ok (.getfield 27, 3) := by decide +kernel
theorem dX4_multiplyFromLeft_37 : decode cX4_multiplyFromLeft 37 = .ok (.imul, 1) := by decide +kernel
theorem dX4_multiplyFromLeft_38 : decode cX4_multiplyFromLeft 38 = .ok (.iadd, 1) := by decide +kernel
theorem dX4_multiplyFromLeft_39 : decode cX4_multiplyFromLeft 39 = .ok (.aload_n 1, 1) := by decide +kernel
theorem dX4_multiplyFromLeft_40 : decode cX4_multiplyFromLeft 40 = .ok (.getfield 24, 3) := by decide +kernel
theorem dX4_multiplyFromLeft_43 : decode cX4_multiplyFromLeft 43 = .ok (.aload_n 0, 1) := by decide +kernel
theorem dX4_multiplyFromLeft_44 : decode cX4_multiplyFromLeft 44 = .ok (.getfield 15, 3) := by decide +kernel
theorem dX4_multiplyFromLeft_47 : decode cX4_multiplyFromLeft 47 = .ok (.imul, 1) := by decide +kernel
theorem dX4_multiplyFromLeft_48 : decode cX4_multiplyFromLeft 48 = .ok (.aload_n 1, 1) := by decide +kernel
theorem dX4_multiplyFromLeft_49 : decode cX4_multiplyFromLeft 49 = .ok (.getfield 27, 3) := by decide +kernel
theorem dX4_multiplyFromLeft_52 : decode cX4_multiplyFromLeft 52 = .ok (.aload_n 0, 1) := by decide +kernel
theorem dX4_multiplyFromLeft_53 : decode cX4_multiplyFromLeft 53 = .ok (.getfield 24, 3) := by decide +kernel
theorem dX4_multiplyFromLeft_56 : decode cX4_multiplyFromLeft 56 = .ok (.imul, 1) := by decide +kernel
theorem dX4_multiplyFromLeft_57 : decode cX4_multiplyFromLeft 57 = .ok (.iadd, 1) := by decide +kernel
theorem dX4_multiplyFromLeft_58 : decode cX4_multiplyFromLeft 58 = .ok (.aload_n 1, 1) := by decide +kernel
theorem dX4_multiplyFromLeft_59 : decode cX4_multiplyFromLeft 59 = .ok (.getfield 24, 3) := by decide +kernel
theorem dX4_multiplyFromLeft_62 : decode cX4_multiplyFromLeft 62 = .ok (.aload_n 0, 1) := by decide +kernel
theorem dX4_multiplyFromLeft_63 : decode cX4_multiplyFromLeft 63 = .ok (.getfield 21, 3) := by decide +kernel
theorem dX4_multiplyFromLeft_66 : decode cX4_multiplyFromLeft 66 = .ok (.imul, 1) := by decide +kernel
theorem dX4_multiplyFromLeft_67 : decode cX4_multiplyFromLeft 67 = .ok (.aload_n 1, 1) := by decide +kernel
theorem dX4_multiplyFromLeft_68 : decode cX4_multiplyFromLeft 68 = .ok (.getfield 27, 3) := by decide +kernel
theorem dX4_multiplyFromLeft_71 : decode cX4_multiplyFromLeft 71 = .ok (.aload_n 0, 1) := by decide +kernel
theorem dX4_multiplyFromLeft_72 : decode cX4_multiplyFromLeft 72 = .ok (.getfield 27, 3) := by decide +kernel
theorem dX4_multiplyFromLeft_75 : decode cX4_multiplyFromLeft 75 = .ok (.imul, 1) := by decide +kernel
theorem dX4_multiplyFromLeft_76 : decode cX4_multiplyFromLeft 76 = .ok (.iadd, 1) := by decide +kernel
theorem dX4_multiplyFromLeft_77 : decode cX4_multiplyFromLeft 77 = .ok (.invokevirtual 40, 3) := by decide +kernel
theorem dX4_multiplyFromLeft_80 : decode cX4_multiplyFromLeft 80 = .ok (.return_, 1) := by decide +kernel
theorem dX5_power_0 : decode cX5_power 0 = .ok (.iconst 1, 1) := by decide +kernel
theorem dX5_power_1 : decode cX5_power 1 = .ok (.istore_n 2, 1) := by decide +kernel
theorem dX5_power_2 : decode cX5_power 2 = .ok (.iconst 0, 1) := by decide +kernel
theorem dX5_power_3 : decode cX5_power 3 = .ok (.istore_n 3, 1) := by decide +kernel
theorem dX5_power_4 : decode cX5_power 4 = .ok (.iload_n 3, 1) := by decide +kernel
theorem dX5_power_5 : decode cX5_power 5 = .ok (.iload_n 1, 1) := by decide +kernel
theorem dX5_power_6 : decode cX5_power 6 = .ok (.if_icmp .ge 13, 3) := by decide +kernel
theorem dX5_power_9 : decode cX5_power 9 = .ok (.iload_n 2, 1) := by decide +kernel
theorem dX5_power_10 : decode cX5_power 10 = .ok (.iload_n 0, 1) := by decide +kernel
theorem dX5_power_11 : decode cX5_power 11 = .ok (.imul, 1) := by decide +kernel
theorem dX5_power_12 : decode cX5_power 12 = .ok (.istore_n 2, 1) := by decide +kernel
theorem dX5_power_13 : decode cX5_power 13 = .ok (.iinc 3 1, 3) := by decide +kernel
theorem dX5_power_16 : decode cX5_power 16 = .ok (.goto (-12), 3) := by decide +kernel
theorem dX5_power_19 : decode cX5_power 19 = .ok (.iload_n 2, 1) := by decide +kernel
theorem dX5_power_20 : decode cX5_power 20 = .ok (.ireturn, 1) := by decide +kernel
theorem dX5_atMost_0 : decode cX5_atMost 0 = .ok (.iconst 0, 1) := by decide +kernel
theorem dX5_atMost_1 : decode cX5_atMost 1 = .ok (.istore_n 3, 1) := by decide +kernel
theorem dX5_atMost_2 : decode cX5_atMost 2 = .ok (.iconst 1, 1) := by decide +kernel
theorem dX5_atMost_3 : decode cX5_atMost 3 = .ok (.istore 4, 2) := by decide +kernel
theorem dX5_atMost_5 : decode cX5_atMost 5 = .ok (.iconst 0, 1) := by decide +kernel
theorem dX5_atMost_6 : decode cX5_atMost 6 = .ok (.istore 5, 2) := by decide +kernel
theorem dX5_atMost_8 : decode cX5_atMost 8 = .ok (.iload 5, 2) := by decide +kernel
theorem dX5_atMost_10 : decode cX5_atMost 10 = .ok (.iload_n 1, 1) := by decide +kernel
theorem dX5_atMost_11 : decode cX5_atMost 11 = .ok (.if_icmp .gt 53, 3) := by decide +kernel
theorem dX5_atMost_14 : decode cX5_atMost 14 = .ok (.iload 5, 2) := by decide +kernel
theorem dX5_atMost_16 : decode cX5_atMost 16 = .ok (.iload_n 2, 1) := by decide +kernel
theorem dX5_atMost_17 : decode cX5_atMost 17 = .ok (.if_icmp .gt 47, 3) := by decide +kernel
theorem dX5_atMost_20 : decode cX5_atMost 20 = .ok (.iload_n 3, 1) := by decide +kernel
theorem dX5_atMost_21 : decode cX5_atMost 21 = .ok (.iload 4, 2) := by decide +kernel
theorem dX5_atMost_23 : decode cX5_atMost 23 = .ok (.iload_n 0, 1) := by decide +kernel
theorem dX5_atMost_24 : decode cX5_atMost 24 = .ok (.iload 5, 2) := by decide +kernel
theorem dX5_atMost_26 : decode cX5_atMost 26 = .ok (.invokestatic 7, 3) := by decide +kernel
theorem dX5_atMost_29 : decode cX5_atMost 29 = .ok (.imul, 1) := by decide +kernel
theorem dX5_atMost_30 : decode cX5_atMost 30 = .ok (.bipush 10, 2) := by decide +kernel
theorem dX5_atMost_32 : decode cX5_atMost 32 = .ok (.iload_n 0, 1) := by decide +kernel
theorem dX5_atMost_33 : decode cX5_atMost 33 = .ok (.isub, 1) := by decide +kernel
theorem dX5_atMost_34 : decode cX5_atMost 34 = .ok (.iload_n 1, 1) := by decide +kernel
theorem dX5_atMost_35 : decode cX5_atMost 35 = .ok (.iload 5, 2) := by decide +kernel
theorem dX5_atMost_37 : decode cX5_atMost 37 = .ok (.isub, 1) := by decide +kernel
theorem dX5_atMost_38 : decode cX5_atMost 38 = .ok (.invokestatic 7, 3) := by decide +kernel
theorem dX5_atMost_41 : decode cX5_atMost 41 = .ok (.imul, 1) := by decide +kernel
theorem dX5_atMost_42 : decode cX5_atMost 42 = .ok (.iadd, 1) := by decide +kernel
theorem dX5_atMost_43 : decode cX5_atMost 43 = .ok (.istore_n 3, 1) := by decide +kernel
theorem dX5_atMost_44 : decode cX5_atMost 44 = .ok (.iload 4, 2) := by decide +kernel
theorem dX5_atMost_46 : decode cX5_atMost 46 = .ok (.iload_n 1, 1) := by decide +kernel
theorem dX5_atMost_47 : decode cX5_atMost 47 = .ok (.iload 5, 2) := by decide +kernel
theorem dX5_atMost_49 : decode cX5_atMost 49 = .ok (.isub, 1) := by decide +kernel
theorem dX5_atMost_50 : decode cX5_atMost 50 = .ok (.imul, 1) := by decide +kernel
theorem dX5_atMost_51 : decode cX5_atMost 51 = .ok (.iload 5, 2) := by decide +kernel
theorem dX5_atMost_53 : decode cX5_atMost 53 = .ok (.iconst 1, 1) := by decide +kernel
theorem dX5_atMost_54 : decode cX5_atMost 54 = .ok (.iadd, 1) := by decide +kernel
theorem dX5_atMost_55 : decode cX5_atMost 55 = .ok (.idiv, 1) := by decide +kernel
theorem dX5_atMost_56 : decode cX5_atMost 56 = .ok (.istore 4, 2) := by decide +kernel
theorem dX5_atMost_58 : decode cX5_atMost 58 = .ok (.iinc 5 1, 3) := by decide +kernel
theorem dX5_atMost_61 : decode cX5_atMost 61 = .ok (.goto (-53), 3) := by decide +kernel
theorem dX5_atMost_64 : decode cX5_atMost 64 = .ok (.iload_n 3, 1) := by decide +kernel
theorem dX5_atMost_65 : decode cX5_atMost 65 = .ok (.ireturn, 1) := by decide +kernel
theorem dX5_commonDivisor_0 : decode cX5_commonDivisor 0 = .ok (.iload_n 0, 1) := by decide +kernel
theorem dX5_commonDivisor_1 : decode cX5_commonDivisor 1 = .ok (.iconst 2, 1) := by decide +kernel
theorem dX5_commonDivisor_2 : decode cX5_commonDivisor 2 = .ok (.iload_n 1, 1) := by decide +kernel
theorem dX5_commonDivisor_3 : decode cX5_commonDivisor 3 = .ok (.invokestatic 13, 3) := by decide +kernel
theorem dX5_commonDivisor_6 : decode cX5_commonDivisor 6 = .ok (.iload_n 0, 1) := by decide +kernel
theorem dX5_commonDivisor_7 : decode cX5_commonDivisor 7 = .ok (.iconst 5, 1) := by decide +kernel
theorem dX5_commonDivisor_8 : decode cX5_commonDivisor 8 = .ok (.iload_n 1, 1) := by decide +kernel
theorem dX5_commonDivisor_9 : decode cX5_commonDivisor 9 = .ok (.invokestatic 13, 3) := by decide +kernel
theorem dX5_commonDivisor_12 : decode cX5_commonDivisor 12 = .ok (.imul, 1) := by decide +kernel
theorem dX5_commonDivisor_13 : decode cX5_commonDivisor 13 = .ok (.ireturn, 1) := by decide +kernel
theorem dX5_sharedPower_0 : decode cX5_sharedPower 0 = .ok (.iconst 1, 1) := by decide +kernel
theorem dX5_sharedPower_1 : decode cX5_sharedPower 1 = .ok (.istore_n 3, 1) := by decide +kernel
theorem dX5_sharedPower_2 : decode cX5_sharedPower 2 = .ok (.iconst 0, 1) := by decide +kernel
theorem dX5_sharedPower_3 : decode cX5_sharedPower 3 = .ok (.istore 4, 2) := by decide +kernel
theorem dX5_sharedPower_5 : decode cX5_sharedPower 5 = .ok (.iload 4, 2) := by decide +kernel
theorem dX5_sharedPower_7 : decode cX5_sharedPower 7 = .ok (.iload_n 2, 1) := by decide +kernel
theorem dX5_sharedPower_8 : decode cX5_sharedPower 8 = .ok (.if_icmp .ge 21, 3) := by decide +kernel
theorem dX5_sharedPower_11 : decode cX5_sharedPower 11 = .ok (.iload_n 0, 1) := by decide +kernel
theorem dX5_sharedPower_12 : decode cX5_sharedPower 12 = .ok (.iload_n 3, 1) := by decide +kernel
theorem dX5_sharedPower_13 : decode cX5_sharedPower 13 = .ok (.iload_n 1, 1) := by decide +kernel
theorem dX5_sharedPower_14 : decode cX5_sharedPower 14 = .ok (.imul, 1) := by decide +kernel
theorem dX5_sharedPower_15 : decode cX5_sharedPower 15 = .ok (.irem, 1) := by decide +kernel
theorem dX5_sharedPower_16 : decode cX5_sharedPower 16 = .ok (.ifCond .ne 13, 3) := by decide +kernel
theorem dX5_sharedPower_19 : decode cX5_sharedPower 19 = .ok (.iload_n 3, 1) := by decide +kernel
theorem dX5_sharedPower_20 : decode cX5_sharedPower 20 = .ok (.iload_n 1, 1) := by decide +kernel
theorem dX5_sharedPower_21 : decode cX5_sharedPower 21 = .ok (.imul, 1) := by decide +kernel
theorem dX5_sharedPower_22 : decode cX5_sharedPower 22 = .ok (.istore_n 3, 1) := by decide +kernel
theorem dX5_sharedPower_23 : decode cX5_sharedPower 23 = .ok (.iinc 4 1, 3) := by decide +kernel
theorem dX5_sharedPower_26 : decode cX5_sharedPower 26 = .ok (.goto (-21), 3) := by decide +kernel
theorem dX5_sharedPower_29 : decode cX5_sharedPower 29 = .ok (.iload_n 3, 1) := by decide +kernel
theorem dX5_sharedPower_30 : decode cX5_sharedPower 30 = .ok (.ireturn, 1) := by decide +kernel
theorem dX6_init_0 : decode cX6_init 0 = .ok (.aload_n 0, 1) := by decide +kernel
theorem dX6_init_1 : decode cX6_init 1 = .ok (.invokespecial 3, 3) := by decide +kernel
theorem dX6_init_4 : decode cX6_init 4 = .ok (.aload_n 0, 1) := by decide +kernel
theorem dX6_init_5 : decode cX6_init 5 = .ok (.bipush 6, 2) := by decide +kernel
theorem dX6_init_7 : decode cX6_init 7 = .ok (.newarray .int, 2) := by decide +kernel
theorem dX6_init_9 : decode cX6_init 9 = .ok (.putfield 9, 3) := by decide +kernel
theorem dX6_init_12 : decode cX6_init 12 = .ok (.aload_n 0, 1) := by decide +kernel
theorem dX6_init_13 : decode cX6_init 13 = .ok (.bipush 6, 2) := by decide +kernel
theorem dX6_init_15 : decode cX6_init 15 = .ok (.newarray .int, 2) := by decide +kernel
theorem dX6_init_17 : decode cX6_init 17 = .ok (.putfield 15, 3) := by decide +kernel
theorem dX6_init_20 : decode cX6_init 20 = .ok (.return_, 1) := by decide +kernel
theorem dX6_append_0 : decode cX6_append 0 = .ok (.aload_n 0, 1) := by decide +kernel
theorem dX6_append_1 : decode cX6_append 1 = .ok (.getfield 18, 3) := by decide +kernel
theorem dX6_append_4 : decode cX6_append 4 = .ok (.bipush 6, 2) := by decide +kernel
theorem dX6_append_6 : decode cX6_append 6 = .ok (.if_icmp .lt 5, 3) := by decide +kernel
theorem dX6_append_9 : decode cX6_append 9 = .ok (.iconst 0, 1) := by decide +kernel
theorem dX6_append_10 : decode cX6_append 10 = .ok (.ireturn, 1) := by decide +kernel
theorem dX6_append_11 : decode cX6_append 11 = .ok (.aload_n 0, 1) := by decide +kernel
theorem dX6_append_12 : decode cX6_append 12 = .ok (.getfield 9, 3) := by decide +kernel
theorem dX6_append_15 : decode cX6_append 15 = .ok (.aload_n 0, 1) := by decide +kernel
theorem dX6_append_16 : decode cX6_append 16 = .ok (.getfield 18, 3) := by decide +kernel
theorem dX6_append_19 : decode cX6_append 19 = .ok (.iload_n 1, 1) := by decide +kernel
theorem dX6_append_20 : decode cX6_append 20 = .ok (.iastore, 1) := by decide +kernel
theorem dX6_append_21 : decode cX6_append 21 = .ok (.aload_n 0, 1) := by decide +kernel
theorem dX6_append_22 : decode cX6_append 22 = .ok (.getfield 15, 3) := by decide +kernel
theorem dX6_append_25 : decode cX6_append 25 = .ok (.aload_n 0, 1) := by decide +kernel
theorem dX6_append_26 : decode cX6_append 26 = .ok (.getfield 18, 3) := by decide +kernel
theorem dX6_append_29 : decode cX6_append 29 = .ok (.iload_n 2, 1) := by decide +kernel
theorem dX6_append_30 : decode cX6_append 30 = .ok (.iastore, 1) := by decide +kernel
theorem dX6_append_31 : decode cX6_append 31 = .ok (.aload_n 0, 1) := by decide +kernel
theorem dX6_append_32 : decode cX6_append 32 = .ok (.dup, 1) := by decide +kernel
theorem dX6_append_33 : decode cX6_append 33 = .ok (.getfield 18, 3) := by decide +kernel
theorem dX6_append_36 : decode cX6_append 36 = .ok (.iconst 1, 1) := by decide +kernel
theorem dX6_append_37 : decode cX6_append 37 = .ok (.iadd, 1) := by decide +kernel
theorem dX6_append_38 : decode cX6_append 38 = .ok (.putfield 18, 3) := by decide +kernel
theorem dX6_append_41 : decode cX6_append 41 = .ok (.iconst 1, 1) := by decide +kernel
theorem dX6_append_42 : decode cX6_append 42 = .ok (.ireturn, 1) := by decide +kernel
theorem dX6_areTrueOf_0 : decode cX6_areTrueOf 0 = .ok (.iconst 0, 1) := by decide +kernel
theorem dX6_areTrueOf_1 : decode cX6_areTrueOf 1 = .ok (.istore_n 2, 1) := by decide +kernel
theorem dX6_areTrueOf_2 : decode cX6_areTrueOf 2 = .ok (.iload_n 2, 1) := by decide +kernel
theorem dX6_areTrueOf_3 : decode cX6_areTrueOf 3 = .ok (.aload_n 0, 1) := by decide +kernel
theorem dX6_areTrueOf_4 : decode cX6_areTrueOf 4 = .ok (.getfield 18, 3) := by decide +kernel
theorem dX6_areTrueOf_7 : decode cX6_areTrueOf 7 = .ok (.if_icmp .ge 34, 3) := by decide +kernel
theorem dX6_areTrueOf_10 : decode cX6_areTrueOf 10 = .ok (.aload_n 1, 1) := by decide +kernel
theorem dX6_areTrueOf_11 : decode cX6_areTrueOf 11 = .ok (.getfield 22, 3) := by decide +kernel
theorem dX6_areTrueOf_14 : decode cX6_areTrueOf 14 = .ok (.aload_n 0, 1) := by decide +kernel
theorem dX6_areTrueOf_15 : decode cX6_areTrueOf 15 = .ok (.getfield 9, 3) := by decide +kernel
theorem dX6_areTrueOf_18 : decode cX6_areTrueOf 18 = .ok (.iload_n 2, 1) := by decide +kernel
theorem dX6_areTrueOf_19 : decode cX6_areTrueOf 19 = .ok (.iaload, 1) := by decide +kernel
theorem dX6_areTrueOf_20 : decode cX6_areTrueOf 20 = .ok (.iaload, 1) := by decide +kernel
theorem dX6_areTrueOf_21 : decode cX6_areTrueOf 21 = .ok (.invokestatic 27, 3) := by decide +kernel
theorem dX6_areTrueOf_24 : decode cX6_areTrueOf 24 = .ok (.aload_n 0, 1) := by decide +kernel
theorem dX6_areTrueOf_25 : decode cX6_areTrueOf 25 = .ok (.getfield 15, 3) := by decide +kernel
theorem dX6_areTrueOf_28 : decode cX6_areTrueOf 28 = .ok (.iload_n 2, 1) := by decide +kernel
theorem dX6_areTrueOf_29 : decode cX6_areTrueOf 29 = .ok (.iaload, 1) := by decide +kernel
theorem dX6_areTrueOf_30 : decode cX6_areTrueOf 30 = .ok (.if_icmp .eq 5, 3) := by decide +kernel
theorem dX6_areTrueOf_33 : decode cX6_areTrueOf 33 = .ok (.iconst 0, 1) := by decide +kernel
theorem dX6_areTrueOf_34 : decode cX6_areTrueOf 34 = .ok (.ireturn, 1) := by decide +kernel
theorem dX6_areTrueOf_35 : decode cX6_areTrueOf 35 = .ok (.iinc 2 1, 3) := by decide +kernel
theorem dX6_areTrueOf_38 : decode cX6_areTrueOf 38 = .ok (.goto (-36), 3) := by decide +kernel
theorem dX6_areTrueOf_41 : decode cX6_areTrueOf 41 = .ok (.iconst 1, 1) := by decide +kernel
theorem dX6_areTrueOf_42 : decode cX6_areTrueOf 42 = .ok (.ireturn, 1) := by decide +kernel
theorem dX7_init_0 : decode cX7_init 0 = .ok (.aload_n 0, 1) := by decide +kernel
theorem dX7_init_1 : decode cX7_init 1 = .ok (.invokespecial 3, 3) := by decide +kernel
theorem dX7_init_4 : decode cX7_init 4 = .ok (.aload_n 0, 1) := by decide +kernel
theorem dX7_init_5 : decode cX7_init 5 = .ok (.bipush 32, 2) := by decide +kernel
theorem dX7_init_7 : decode cX7_init 7 = .ok (.newarray .int, 2) := by decide +kernel
theorem dX7_init_9 : decode cX7_init 9 = .ok (.putfield 9, 3) := by decide +kernel
theorem dX7_init_12 : decode cX7_init 12 = .ok (.aload_n 0, 1) := by decide +kernel
theorem dX7_init_13 : decode cX7_init 13 = .ok (.sipush 4369, 3) := by decide +kernel
theorem dX7_init_16 : decode cX7_init 16 = .ok (.putfield 15, 3) := by decide +kernel
theorem dX7_init_19 : decode cX7_init 19 = .ok (.aload_n 0, 1) := by decide +kernel
theorem dX7_init_20 : decode cX7_init 20 = .ok (.new 19, 3) := by decide +kernel
theorem dX7_init_23 : decode cX7_init 23 = .ok (.dup, 1) := by decide +kernel
theorem dX7_init_24 : decode cX7_init 24 = .ok (.bipush 6, 2) := by decide +kernel
theorem dX7_init_26 : decode cX7_init 26 = .ok (.invokespecial 21, 3) := by decide +kernel
theorem dX7_init_29 : decode cX7_init 29 = .ok (.putfield 24, 3) := by decide +kernel
theorem dX7_init_32 : decode cX7_init 32 = .ok (.aload_n 0, 1) := by decide +kernel
theorem dX7_init_33 : decode cX7_init 33 = .ok (.new 19, 3) := by decide +kernel
theorem dX7_init_36 : decode cX7_init 36 = .ok (.dup, 1) := by decide +kernel
theorem dX7_init_37 : decode cX7_init 37 = .ok (.iconst 4, 1) := by decide +kernel
theorem dX7_init_38 : decode cX7_init 38 = .ok (.invokespecial 21, 3) := by decide +kernel
theorem dX7_init_41 : decode cX7_init 41 = .ok (.putfield 28, 3) := by decide +kernel
theorem dX7_init_44 : decode cX7_init 44 = .ok (.return_, 1) := by decide +kernel
theorem dX7_tellNothing_0 : decode cX7_tellNothing 0 = .ok (.aload_n 0, 1) := by decide +kernel
theorem dX7_tellNothing_1 : decode cX7_tellNothing 1 = .ok (.getfield 9, 3) := by decide +kernel
theorem dX7_tellNothing_4 : decode cX7_tellNothing 4 = .ok (.iconst 0, 1) := by decide +kernel
theorem dX7_tellNothing_5 : decode cX7_tellNothing 5 = .ok (.invokestatic 31, 3) := by decide +kernel
theorem dX7_tellNothing_8 : decode cX7_tellNothing 8 = .ok (.aload_n 0, 1) := by decide +kernel
theorem dX7_tellNothing_9 : decode cX7_tellNothing 9 = .ok (.sipush 4369, 3) := by decide +kernel
theorem dX7_tellNothing_12 : decode cX7_tellNothing 12 = .ok (.putfield 15, 3) := by decide +kernel
theorem dX7_tellNothing_15 : decode cX7_tellNothing 15 = .ok (.aload_n 0, 1) := by decide +kernel
theorem dX7_tellNothing_16 : decode cX7_tellNothing 16 = .ok (.getfield 24, 3) := by decide +kernel
theorem dX7_tellNothing_19 : decode cX7_tellNothing 19 = .ok (.iconst 0, 1) := by decide +kernel
theorem dX7_tellNothing_20 : decode cX7_tellNothing 20 = .ok (.putfield 37, 3) := by decide +kernel
theorem dX7_tellNothing_23 : decode cX7_tellNothing 23 = .ok (.return_, 1) := by decide +kernel
theorem dX7_emptyRow_0 : decode cX7_emptyRow 0 = .ok (.iconst 0, 1) := by decide +kernel
theorem dX7_emptyRow_1 : decode cX7_emptyRow 1 = .ok (.istore_n 2, 1) := by decide +kernel
theorem dX7_emptyRow_2 : decode cX7_emptyRow 2 = .ok (.iload_n 2, 1) := by decide +kernel
theorem dX7_emptyRow_3 : decode cX7_emptyRow 3 = .ok (.bipush 16, 2) := by decide +kernel
theorem dX7_emptyRow_5 : decode cX7_emptyRow 5 = .ok (.if_icmp .ge 21, 3) := by decide +kernel
theorem dX7_emptyRow_8 : decode cX7_emptyRow 8 = .ok (.aload_n 0, 1) := by decide +kernel
theorem dX7_emptyRow_9 : decode cX7_emptyRow 9 = .ok (.getfield 9, 3) := by decide +kernel
theorem dX7_emptyRow_12 : decode cX7_emptyRow 12 = .ok (.iload_n 1, 1) := by decide +kernel
theorem dX7_emptyRow_13 : decode cX7_emptyRow 13 = .ok (.bipush 16, 2) := by decide +kernel
theorem dX7_emptyRow_15 : decode cX7_emptyRow 15 = .ok (.imul, 1) := by decide +kernel
theorem dX7_emptyRow_16 : decode cX7_emptyRow 16 = .ok (.iload_n 2, 1) := by decide +kernel
theorem dX7_emptyRow_17 : decode cX7_emptyRow 17 = .ok (.iadd, 1) := by decide +kernel
theorem dX7_emptyRow_18 : decode cX7_emptyRow 18 = .ok (.iconst 0, 1) := by decide +kernel
theorem dX7_emptyRow_19 : decode cX7_emptyRow 19 = .ok (.iastore, 1) := by decide +kernel
theorem dX7_emptyRow_20 : decode cX7_emptyRow 20 = .ok (.iinc 2 1, 3) := by decide +kernel
theorem dX7_emptyRow_23 : decode cX7_emptyRow 23 = .ok (.goto (-21), 3) := by decide +kernel
theorem dX7_emptyRow_26 : decode cX7_emptyRow 26 = .ok (.return_, 1) := by decide +kernel
theorem dX7_isMarked_0 : decode cX7_isMarked 0 = .ok (.aload_n 0, 1) := by decide +kernel
theorem dX7_isMarked_1 : decode cX7_isMarked 1 = .ok (.getfield 15, 3) := by decide +kernel
theorem dX7_isMarked_4 : decode cX7_isMarked 4 = .ok (.iload_n 1, 1) := by decide +kernel
theorem dX7_isMarked_5 : decode cX7_isMarked 5 = .ok (.ishr, 1) := by decide +kernel
theorem dX7_isMarked_6 : decode cX7_isMarked 6 = .ok (.iconst 1, 1) := by decide +kernel
theorem dX7_isMarked_7 : decode cX7_isMarked 7 = .ok (.iand, 1) := by decide +kernel
theorem dX7_isMarked_8 : decode cX7_isMarked 8 = .ok (.iconst 1, 1) := by decide +kernel
theorem dX7_isMarked_9 : decode cX7_isMarked 9 = .ok (.if_icmp .ne 7, 3) := by decide +kernel
theorem dX7_isMarked_12 : decode cX7_isMarked 12 = .ok (.iconst 1, 1) := by decide +kernel
theorem dX7_isMarked_13 : decode cX7_isMarked 13 = .ok (.goto 4, 3) := by decide +kernel
theorem dX7_isMarked_16 : decode cX7_isMarked 16 = .ok (.iconst 0, 1) := by decide +kernel
theorem dX7_isMarked_17 : decode cX7_isMarked 17 = .ok (.ireturn, 1) := by decide +kernel
theorem dX7_mark_0 : decode cX7_mark 0 = .ok (.iconst 1, 1) := by decide +kernel
theorem dX7_mark_1 : decode cX7_mark 1 = .ok (.iload_n 1, 1) := by decide +kernel
theorem dX7_mark_2 : decode cX7_mark 2 = .ok (.ishl, 1) := by decide +kernel
theorem dX7_mark_3 : decode cX7_mark 3 = .ok (.istore_n 3, 1) := by decide +kernel
theorem dX7_mark_4 : decode cX7_mark 4 = .ok (.aload_n 0, 1) := by decide +kernel
theorem dX7_mark_5 : decode cX7_mark 5 = .ok (.iload_n 2, 1) := by decide +kernel
theorem dX7_mark_6 : decode cX7_mark 6 = .ok (.ifCond .eq 12, 3) := by decide +kernel
theorem dX7_mark_9 : decode cX7_mark 9 = .ok (.aload_n 0, 1) := by decide +kernel
theorem dX7_mark_10 : decode cX7_mark 10 = .ok (.getfield 15, 3) := by decide +kernel
theorem dX7_mark_13 : decode cX7_mark 13 = .ok (.iload_n 3, 1) := by decide +kernel
theorem dX7_mark_14 : decode cX7_mark 14 = .ok (.ior, 1) := by decide +kernel
theorem dX7_mark_15 : decode cX7_mark 15 = .ok (.goto 11, 3) := by decide +kernel
theorem dX7_mark_18 : decode cX7_mark 18 = .ok (.aload_n 0, 1) := by decide +kernel
theorem dX7_mark_19 : decode cX7_mark 19 = .ok (.getfield 15, 3) := by decide +kernel
theorem dX7_mark_22 : decode cX7_mark 22 = .ok (.iload_n 3, 1) := by decide +kernel
theorem dX7_mark_23 : decode cX7_mark 23 = .ok (.iconst (-1), 1) := by decide +kernel
theorem dX7_mark_24 : decode cX7_mark 24 = .ok (.ixor, 1) := by decide +kernel
theorem dX7_mark_25 : decode cX7_mark 25 = .ok (.iand, 1) := by decide +kernel
theorem dX7_mark_26 : decode cX7_mark 26 = .ok (.putfield 15, 3) := by decide +kernel
theorem dX7_mark_29 : decode cX7_mark 29 = .ok (.return_, 1) := by decide +kernel
theorem dX7_firstMarked_0 : decode cX7_firstMarked 0 = .ok (.iconst 0, 1) := by decide +kernel
theorem dX7_firstMarked_1 : decode cX7_firstMarked 1 = .ok (.istore_n 1, 1) := by decide +kernel
theorem dX7_firstMarked_2 : decode cX7_firstMarked 2 = .ok (.iload_n 1, 1) := by decide +kernel
theorem dX7_firstMarked_3 : decode cX7_firstMarked 3 = .ok (.bipush 16, 2) := by decide +kernel
theorem dX7_firstMarked_5 : decode cX7_firstMarked 5 = .ok (.if_icmp .ge 19, 3) := by decide +kernel
theorem dX7_firstMarked_8 : decode cX7_firstMarked 8 = .ok (.aload_n 0, 1) := by decide +kernel
theorem dX7_firstMarked_9 : decode cX7_firstMarked 9 = .ok (.iload_n 1, 1) := by decide +kernel
theorem dX7_firstMarked_10 : decode cX7_firstMarked 10 = .ok (.invokevirtual 40, 3) := by decide +kernel
theorem dX7_firstMarked_13 : decode cX7_firstMarked 13 = .ok (.ifCond .eq 5, 3) := by decide +kernel
theorem dX7_firstMarked_16 : decode cX7_firstMarked 16 = .ok (.iload_n 1, 1) := by decide +kernel
theorem dX7_firstMarked_17 : decode cX7_firstMarked 17 = .ok (.ireturn, 1) := by decide +kernel
theorem dX7_firstMarked_18 : decode cX7_firstMarked 18 = .ok (.iinc 1 1, 3) := by decide +kernel
theorem dX7_firstMarked_21 : decode cX7_firstMarked 21 = .ok (.goto (-19), 3) := by decide +kernel
theorem dX7_firstMarked_24 : decode cX7_firstMarked 24 = .ok (.bipush (-9), 2) := by decide +kernel
theorem dX7_firstMarked_26 : decode cX7_firstMarked 26 = .ok (.ireturn, 1) := by decide +kernel
theorem dX7_takeFrom_0 : decode cX7_takeFrom 0 = .ok (.aload_n 1, 1) := by decide +kernel
theorem dX7_takeFrom_1 : decode cX7_takeFrom 1 = .ok (.getfield 9, 3) := by decide +kernel
theorem dX7_takeFrom_4 : decode cX7_takeFrom 4 = .ok (.iconst 0, 1) := by decide +kernel
theorem dX7_takeFrom_5 : decode cX7_takeFrom 5 = .ok (.aload_n 0, 1) := by decide +kernel
theorem dX7_takeFrom_6 : decode cX7_takeFrom 6 = .ok (.getfield 9, 3) := by decide +kernel
theorem dX7_takeFrom_9 : decode cX7_takeFrom 9 = .ok (.iconst 0, 1) := by decide +kernel
theorem dX7_takeFrom_10 : decode cX7_takeFrom 10 = .ok (.bipush 32, 2) := by decide +kernel
theorem dX7_takeFrom_12 : decode cX7_takeFrom 12 = .ok (.invokestatic 44, 3) := by decide +kernel
theorem dX7_takeFrom_15 : decode cX7_takeFrom 15 = .ok (.aload_n 0, 1) := by decide +kernel
theorem dX7_takeFrom_16 : decode cX7_takeFrom 16 = .ok (.aload_n 1, 1) := by decide +kernel
theorem dX7_takeFrom_17 : decode cX7_takeFrom 17 = .ok (.getfield 15, 3) := by decide +kernel
theorem dX7_takeFrom_20 : decode cX7_takeFrom 20 = .ok (.putfield 15, 3) := by decide +kernel
theorem dX7_takeFrom_23 : decode cX7_takeFrom 23 = .ok (.aload_n 0, 1) := by decide +kernel
theorem dX7_takeFrom_24 : decode cX7_takeFrom 24 = .ok (.getfield 24, 3) := by decide +kernel
theorem dX7_takeFrom_27 : decode cX7_takeFrom 27 = .ok (.aload_n 1, 1) := by decide +kernel
theorem dX7_takeFrom_28 : decode cX7_takeFrom 28 = .ok (.getfield 24, 3) := by decide +kernel
theorem dX7_takeFrom_31 : decode cX7_takeFrom 31 = .ok (.invokevirtual 50, 3) := by decide +kernel
theorem dX7_takeFrom_34 : decode cX7_takeFrom 34 = .ok (.aload_n 0, 1) := by decide +kernel
theorem dX7_takeFrom_35 : decode cX7_takeFrom 35 = .ok (.getfield 28, 3) := by decide +kernel
theorem dX7_takeFrom_38 : decode cX7_takeFrom 38 = .ok (.aload_n 1, 1) := by decide +kernel
theorem dX7_takeFrom_39 : decode cX7_takeFrom 39 = .ok (.getfield 28, 3) := by decide +kernel
theorem dX7_takeFrom_42 : decode cX7_takeFrom 42 = .ok (.invokevirtual 50, 3) := by decide +kernel
theorem dX7_takeFrom_45 : decode cX7_takeFrom 45 = .ok (.aload_n 0, 1) := by decide +kernel
theorem dX7_takeFrom_46 : decode cX7_takeFrom 46 = .ok (.aload_n 1, 1) := by decide +kernel
theorem dX7_takeFrom_47 : decode cX7_takeFrom 47 = .ok (.getfield 54, 3) := by decide +kernel
theorem dX7_takeFrom_50 : decode cX7_takeFrom 50 = .ok (.putfield 54, 3) := by decide +kernel
theorem dX7_takeFrom_53 : decode cX7_takeFrom 53 = .ok (.aload_n 0, 1) := by decide +kernel
theorem dX7_takeFrom_54 : decode cX7_takeFrom 54 = .ok (.aload_n 1, 1) := by decide +kernel
theorem dX7_takeFrom_55 : decode cX7_takeFrom 55 = .ok (.getfield 58, 3) := by decide +kernel
theorem dX7_takeFrom_58 : decode cX7_takeFrom 58 = .ok (.putfield 58, 3) := by decide +kernel
theorem dX7_takeFrom_61 : decode cX7_takeFrom 61 = .ok (.return_, 1) := by decide +kernel
theorem dX8_init_0 : decode cX8_init 0 = .ok (.aload_n 0, 1) := by decide +kernel
theorem dX8_init_1 : decode cX8_init 1 = .ok (.invokespecial 3, 3) := by decide +kernel
theorem dX8_init_4 : decode cX8_init 4 = .ok (.aload_n 0, 1) := by decide +kernel
theorem dX8_init_5 : decode cX8_init 5 = .ok (.bipush 30, 2) := by decide +kernel
theorem dX8_init_7 : decode cX8_init 7 = .ok (.newarray .int, 2) := by decide +kernel
theorem dX8_init_9 : decode cX8_init 9 = .ok (.putfield 11, 3) := by decide +kernel
theorem dX8_init_12 : decode cX8_init 12 = .ok (.aload_n 0, 1) := by decide +kernel
theorem dX8_init_13 : decode cX8_init 13 = .ok (.iload_n 1, 1) := by decide +kernel
theorem dX8_init_14 : decode cX8_init 14 = .ok (.bipush 6, 2) := by decide +kernel
theorem dX8_init_16 : decode cX8_init 16 = .ok (.invokestatic 15, 3) := by decide +kernel
theorem dX8_init_19 : decode cX8_init 19 = .ok (.putfield 21, 3) := by decide +kernel
theorem dX8_init_22 : decode cX8_init 22 = .ok (.return_, 1) := by decide +kernel
theorem dX8_isPossible_0 : decode cX8_isPossible 0 = .ok (.iconst 0, 1) := by decide +kernel
theorem dX8_isPossible_1 : decode cX8_isPossible 1 = .ok (.istore_n 2, 1) := by decide +kernel
theorem dX8_isPossible_2 : decode cX8_isPossible 2 = .ok (.iload_n 2, 1) := by decide +kernel
theorem dX8_isPossible_3 : decode cX8_isPossible 3 = .ok (.iconst 5, 1) := by decide +kernel
theorem dX8_isPossible_4 : decode cX8_isPossible 4 = .ok (.if_icmp .ge 23, 3) := by decide +kernel
theorem dX8_isPossible_7 : decode cX8_isPossible 7 = .ok (.aload_n 0, 1) := by decide +kernel
theorem dX8_isPossible_8 : decode cX8_isPossible 8 = .ok (.aload_n 1, 1) := by decide +kernel
theorem dX8_isPossible_9 : decode cX8_isPossible 9 = .ok (.iload_n 2, 1) := by decide +kernel
theorem dX8_isPossible_10 : decode cX8_isPossible 10 = .ok (.aload_n 1, 1) := by decide +kernel
theorem dX8_isPossible_11 : decode cX8_isPossible 11 = .ok (.iload_n 2, 1) := by decide +kernel
theorem dX8_isPossible_12 : decode cX8_isPossible 12 = .ok (.iaload, 1) := by decide +kernel
theorem dX8_isPossible_13 : decode cX8_isPossible 13 = .ok (.invokestatic 25, 3) := by decide +kernel
theorem dX8_isPossible_16 : decode cX8_isPossible 16 = .ok (.ifCond .ne 5, 3) := by decide +kernel
theorem dX8_isPossible_19 : decode cX8_isPossible 19 = .ok (.iconst 0, 1) := by decide +kernel
theorem dX8_isPossible_20 : decode cX8_isPossible 20 = .ok (.ireturn, 1) := by decide +kernel
theorem dX8_isPossible_21 : decode cX8_isPossible 21 = .ok (.iinc 2 1, 3) := by decide +kernel
theorem dX8_isPossible_24 : decode cX8_isPossible 24 = .ok (.goto (-22), 3) := by decide +kernel
theorem dX8_isPossible_27 : decode cX8_isPossible 27 = .ok (.iconst 1, 1) := by decide +kernel
theorem dX8_isPossible_28 : decode cX8_isPossible 28 = .ok (.ireturn, 1) := by decide +kernel
theorem dX8_allows_0 : decode cX8_allows 0 = .ok (.iload_n 2, 1) := by decide +kernel
theorem dX8_allows_1 : decode cX8_allows 1 = .ok (.ifCond .ne 18, 3) := by decide +kernel
theorem dX8_allows_4 : decode cX8_allows 4 = .ok (.iload_n 3, 1) := by decide +kernel
theorem dX8_allows_5 : decode cX8_allows 5 = .ok (.ifCond .lt 12, 3) := by decide +kernel
theorem dX8_allows_8 : decode cX8_allows 8 = .ok (.iload_n 3, 1) := by decide +kernel
theorem dX8_allows_9 : decode cX8_allows 9 = .ok (.iconst 5, 1) := by decide +kernel
theorem dX8_allows_10 : decode cX8_allows 10 = .ok (.if_icmp .ge 7, 3) := by decide +kernel
theorem dX8_allows_13 : decode cX8_allows 13 = .ok (.iconst 1, 1) := by decide +kernel
theorem dX8_allows_14 : decode cX8_allows 14 = .ok (.goto 4, 3) := by decide +kernel
theorem dX8_allows_17 : decode cX8_allows 17 = .ok (.iconst 0, 1) := by decide +kernel
theorem dX8_allows_18 : decode cX8_allows 18 = .ok (.ireturn, 1) := by decide +kernel
theorem dX8_allows_19 : decode cX8_allows 19 = .ok (.aload_n 1, 1) := by decide +kernel
theorem dX8_allows_20 : decode cX8_allows 20 = .ok (.iconst 0, 1) := by decide +kernel
theorem dX8_allows_21 : decode cX8_allows 21 = .ok (.iaload, 1) := by decide +kernel
theorem dX8_allows_22 : decode cX8_allows 22 = .ok (.istore 4, 2) := by decide +kernel
theorem dX8_allows_24 : decode cX8_allows 24 = .ok (.bipush 8, 2) := by decide +kernel
theorem dX8_allows_26 : decode cX8_allows 26 = .ok (.iload 4, 2) := by decide +kernel
theorem dX8_allows_28 : decode cX8_allows 28 = .ok (.imul, 1) := by decide +kernel
theorem dX8_allows_29 : decode cX8_allows 29 = .ok (.iconst 2, 1) := by decide +kernel
theorem dX8_allows_30 : decode cX8_allows 30 = .ok (.iload_n 2, 1) := by decide +kernel
theorem dX8_allows_31 : decode cX8_allows 31 = .ok (.iconst 1, 1) := by decide +kernel
theorem dX8_allows_32 : decode cX8_allows 32 = .ok (.isub, 1) := by decide +kernel
theorem dX8_allows_33 : decode cX8_allows 33 = .ok (.imul, 1) := by decide +kernel
theorem dX8_allows_34 : decode cX8_allows 34 = .ok (.iadd, 1) := by decide +kernel
theorem dX8_allows_35 : decode cX8_allows 35 = .ok (.istore 5, 2) := by decide +kernel
theorem dX8_allows_37 : decode cX8_allows 37 = .ok (.iload_n 3, 1) := by decide +kernel
theorem dX8_allows_38 : decode cX8_allows 38 = .ok (.aload_n 0, 1) := by decide +kernel
theorem dX8_allows_39 : decode cX8_allows 39 = .ok (.iload 5, 2) := by decide +kernel
theorem dX8_allows_41 : decode cX8_allows 41 = .ok (.iaload, 1) := by decide +kernel
theorem dX8_allows_42 : decode cX8_allows 42 = .ok (.if_icmp .lt 13, 3) := by decide +kernel
theorem dX8_allows_45 : decode cX8_allows 45 = .ok (.iload_n 3, 1) := by decide +kernel
theorem dX8_allows_46 : decode cX8_allows 46 = .ok (.aload_n 0, 1) := by decide +kernel
theorem dX8_allows_47 : decode cX8_allows 47 = .ok (.iload 5, 2) := by decide +kernel
theorem dX8_allows_49 : decode cX8_allows 49 = .ok (.iconst 1, 1) := by decide +kernel
theorem dX8_allows_50 : decode cX8_allows 50 = .ok (.iadd, 1) := by decide +kernel
theorem dX8_allows_51 : decode cX8_allows 51 = .ok (.iaload, 1) := by decide +kernel
theorem dX8_allows_52 : decode cX8_allows 52 = .ok (.if_icmp .le 5, 3) := by decide +kernel
theorem dX8_allows_55 : decode cX8_allows 55 = .ok (.iconst 0, 1) := by decide +kernel
theorem dX8_allows_56 : decode cX8_allows 56 = .ok (.ireturn, 1) := by decide +kernel
theorem dX8_allows_57 : decode cX8_allows 57 = .ok (.iload 4, 2) := by decide +kernel
theorem dX8_allows_59 : decode cX8_allows 59 = .ok (.ifCond .ne 24, 3) := by decide +kernel
theorem dX8_allows_62 : decode cX8_allows 62 = .ok (.iload_n 2, 1) := by decide +kernel
theorem dX8_allows_63 : decode cX8_allows 63 = .ok (.iconst 1, 1) := by decide +kernel
theorem dX8_allows_64 : decode cX8_allows 64 = .ok (.if_icmp .ne 19, 3) := by decide +kernel
theorem dX8_allows_67 : decode cX8_allows 67 = .ok (.iload_n 3, 1) := by decide +kernel
theorem dX8_allows_68 : decode cX8_allows 68 = .ok (.bipush 16, 2) := by decide +kernel
theorem dX8_allows_70 : decode cX8_allows 70 = .ok (.invokestatic 29, 3) := by decide +kernel
theorem dX8_allows_73 : decode cX8_allows 73 = .ok (.iconst 1, 1) := by decide +kernel
theorem dX8_allows_74 : decode cX8_allows 74 = .ok (.if_icmp .eq 7, 3) := by decide +kernel
theorem dX8_allows_77 : decode cX8_allows 77 = .ok (.iconst 1, 1) := by decide +kernel
theorem dX8_allows_78 : decode cX8_allows 78 = .ok (.goto 4, 3) := by decide +kernel
theorem dX8_allows_81 : decode cX8_allows 81 = .ok (.iconst 0, 1) := by decide +kernel
theorem dX8_allows_82 : decode cX8_allows 82 = .ok (.ireturn, 1) := by decide +kernel
theorem dX8_allows_83 : decode cX8_allows 83 = .ok (.iload 4, 2) := by decide +kernel
theorem dX8_allows_85 : decode cX8_allows 85 = .ok (.iconst 1, 1) := by decide +kernel
theorem dX8_allows_86 : decode cX8_allows 86 = .ok (.if_icmp .ne 35, 3) := by decide +kernel
theorem dX8_allows_89 : decode cX8_allows 89 = .ok (.iload_n 2, 1) := by decide +kernel
theorem dX8_allows_90 : decode cX8_allows 90 = .ok (.iconst 4, 1) := by decide +kernel
theorem dX8_allows_91 : decode cX8_allows 91 = .ok (.if_icmp .ne 30, 3) := by decide +kernel
theorem dX8_allows_94 : decode cX8_allows 94 = .ok (.aload_n 1, 1) := by decide +kernel
theorem dX8_allows_95 : decode cX8_allows 95 = .ok (.iconst 1, 1) := by decide +kernel
theorem dX8_allows_96 : decode cX8_allows 96 = .ok (.iaload, 1) := by decide +kernel
theorem dX8_allows_97 : decode cX8_allows 97 = .ok (.iload_n 3, 1) := by decide +kernel
theorem dX8_allows_98 : decode cX8_allows 98 = .ok (.imul, 1) := by decide +kernel
theorem dX8_allows_99 : decode cX8_allows 99 = .ok (.aload_n 1, 1) := by decide +kernel
theorem dX8_allows_100 : decode cX8_allows 100 = .ok (.iconst 2, 1) := by decide +kernel
theorem dX8_allows_101 : decode cX8_allows 101 = .ok (.iaload, 1) := by decide +kernel
theorem dX8_allows_102 : decode cX8_allows 102 = .ok (.aload_n 1, 1) := by decide +kernel
theorem dX8_allows_103 : decode cX8_allows 103 = .ok (.iconst 3, 1) := by decide +kernel
theorem dX8_allows_104 : decode cX8_allows 104 = .ok (.iaload, 1) := by decide +kernel
theorem dX8_allows_105 : decode cX8_allows 105 = .ok (.imul, 1) := by decide +kernel
theorem dX8_allows_106 : decode cX8_allows 106 = .ok (.isub, 1) := by decide +kernel
theorem dX8_allows_107 : decode cX8_allows 107 = .ok (.bipush 97, 2) := by decide +kernel
theorem dX8_allows_109 : decode cX8_allows 109 = .ok (.invokestatic 34, 3) := by decide +kernel
theorem dX8_allows_112 : decode cX8_allows 112 = .ok (.ifCond .eq 7, 3) := by decide +kernel
theorem dX8_allows_115 : decode cX8_allows 115 = .ok (.iconst 1, 1) := by decide +kernel
theorem dX8_allows_116 : decode cX8_allows 116 = .ok (.goto 4, 3) := by decide +kernel
theorem dX8_allows_119 : decode cX8_allows 119 = .ok (.iconst 0, 1) := by decide +kernel
theorem dX8_allows_120 : decode cX8_allows 120 = .ok (.ireturn, 1) := by decide +kernel
theorem dX8_allows_121 : decode cX8_allows 121 = .ok (.iconst 1, 1) := by decide +kernel
theorem dX8_allows_122 : decode cX8_allows 122 = .ok (.ireturn, 1) := by decide +kernel
theorem dX8_isFull_0 : decode cX8_isFull 0 = .ok (.aload_n 0, 1) := by decide +kernel
theorem dX8_isFull_1 : decode cX8_isFull 1 = .ok (.getfield 37, 3) := by decide +kernel
theorem dX8_isFull_4 : decode cX8_isFull 4 = .ok (.aload_n 0, 1) := by decide +kernel
theorem dX8_isFull_5 : decode cX8_isFull 5 = .ok (.getfield 21, 3) := by decide +kernel
theorem dX8_isFull_8 : decode cX8_isFull 8 = .ok (.if_icmp .lt 7, 3) := by decide +kernel
theorem dX8_isFull_11 : decode cX8_isFull 11 = .ok (.iconst 1, 1) := by decide +kernel
theorem dX8_isFull_12 : decode cX8_isFull 12 = .ok (.goto 4, 3) := by decide +kernel
theorem dX8_isFull_15 : decode cX8_isFull 15 = .ok (.iconst 0, 1) := by decide +kernel
theorem dX8_isFull_16 : decode cX8_isFull 16 = .ok (.ireturn, 1) := by decide +kernel
theorem dX8_append_0 : decode cX8_append 0 = .ok (.aload_n 0, 1) := by decide +kernel
theorem dX8_append_1 : decode cX8_append 1 = .ok (.invokevirtual 40, 3) := by decide +kernel
theorem dX8_append_4 : decode cX8_append 4 = .ok (.ifCond .ne 29, 3) := by decide +kernel
theorem dX8_append_7 : decode cX8_append 7 = .ok (.aload_n 1, 1) := by decide +kernel
theorem dX8_append_8 : decode cX8_append 8 = .ok (.iconst 0, 1) := by decide +kernel
theorem dX8_append_9 : decode cX8_append 9 = .ok (.aload_n 0, 1) := by decide +kernel
theorem dX8_append_10 : decode cX8_append 10 = .ok (.getfield 11, 3) := by decide +kernel
theorem dX8_append_13 : decode cX8_append 13 = .ok (.aload_n 0, 1) := by decide +kernel
theorem dX8_append_14 : decode cX8_append 14 = .ok (.getfield 37, 3) := by decide +kernel
theorem dX8_append_17 : decode cX8_append 17 = .ok (.iconst 5, 1) := by decide +kernel
theorem dX8_append_18 : decode cX8_append 18 = .ok (.imul, 1) := by decide +kernel
theorem dX8_append_19 : decode cX8_append 19 = .ok (.iconst 5, 1) := by decide +kernel
theorem dX8_append_20 : decode cX8_append 20 = .ok (.invokestatic 44, 3) := by decide +kernel
theorem dX8_append_23 : decode cX8_append 23 = .ok (.aload_n 0, 1) := by decide +kernel
theorem dX8_append_24 : decode cX8_append 24 = .ok (.dup, 1) := by decide +kernel
theorem dX8_append_25 : decode cX8_append 25 = .ok (.getfield 37, 3) := by decide +kernel
theorem dX8_append_28 : decode cX8_append 28 = .ok (.iconst 1, 1) := by decide +kernel
theorem dX8_append_29 : decode cX8_append 29 = .ok (.iadd, 1) := by decide +kernel
theorem dX8_append_30 : decode cX8_append 30 = .ok (.putfield 37, 3) := by decide +kernel
theorem dX8_append_33 : decode cX8_append 33 = .ok (.return_, 1) := by decide +kernel
theorem dX8_remove_0 : decode cX8_remove 0 = .ok (.iload_n 1, 1) := by decide +kernel
theorem dX8_remove_1 : decode cX8_remove 1 = .ok (.iconst 5, 1) := by decide +kernel
theorem dX8_remove_2 : decode cX8_remove 2 = .ok (.imul, 1) := by decide +kernel
theorem dX8_remove_3 : decode cX8_remove 3 = .ok (.istore_n 2, 1) := by decide +kernel
theorem dX8_remove_4 : decode cX8_remove 4 = .ok (.iload_n 2, 1) := by decide +kernel
theorem dX8_remove_5 : decode cX8_remove 5 = .ok (.aload_n 0, 1) := by decide +kernel
theorem dX8_remove_6 : decode cX8_remove 6 = .ok (.getfield 37, 3) := by decide +kernel
theorem dX8_remove_9 : decode cX8_remove 9 = .ok (.iconst 1, 1) := by decide +kernel
theorem dX8_remove_10 : decode cX8_remove 10 = .ok (.isub, 1) := by decide +kernel
theorem dX8_remove_11 : decode cX8_remove 11 = .ok (.iconst 5, 1) := by decide +kernel
theorem dX8_remove_12 : decode cX8_remove 12 = .ok (.imul, 1) := by decide +kernel
theorem dX8_remove_13 : decode cX8_remove 13 = .ok (.if_icmp .ge 23, 3) := by decide +kernel
theorem dX8_remove_16 : decode cX8_remove 16 = .ok (.aload_n 0, 1) := by decide +kernel
theorem dX8_remove_17 : decode cX8_remove 17 = .ok (.getfield 11, 3) := by decide +kernel
theorem dX8_remove_20 : decode cX8_remove 20 = .ok (.iload_n 2, 1) := by decide +kernel
theorem dX8_remove_21 : decode cX8_remove 21 = .ok (.aload_n 0, 1) := by decide +kernel
theorem dX8_remove_22 : decode cX8_remove 22 = .ok (.getfield 11, 3) := by decide +kernel
theorem dX8_remove_25 : decode cX8_remove 25 = .ok (.iload_n 2, 1) := by decide +kernel
theorem dX8_remove_26 : decode cX8_remove 26 = .ok (.iconst 5, 1) := by decide +kernel
theorem dX8_remove_27 : decode cX8_remove 27 = .ok (.iadd, 1) := by decide +kernel
theorem dX8_remove_28 : decode cX8_remove 28 = .ok (.iaload, 1) := by decide +kernel
theorem dX8_remove_29 : decode cX8_remove 29 = .ok (.iastore, 1) := by decide +kernel
theorem dX8_remove_30 : decode cX8_remove 30 = .ok (.iinc 2 1, 3) := by decide +kernel
theorem dX8_remove_33 : decode cX8_remove 33 = .ok (.goto (-29), 3) := by decide +kernel
theorem dX8_remove_36 : decode cX8_remove 36 = .ok (.aload_n 0, 1) := by decide +kernel
theorem dX8_remove_37 : decode cX8_remove 37 = .ok (.dup, 1) := by decide +kernel
theorem dX8_remove_38 : decode cX8_remove 38 = .ok (.getfield 37, 3) := by decide +kernel
theorem dX8_remove_41 : decode cX8_remove 41 = .ok (.iconst 1, 1) := by decide +kernel
theorem dX8_remove_42 : decode cX8_remove 42 = .ok (.isub, 1) := by decide +kernel
theorem dX8_remove_43 : decode cX8_remove 43 = .ok (.putfield 37, 3) := by decide +kernel
theorem dX8_remove_46 : decode cX8_remove 46 = .ok (.return_, 1) := by decide +kernel
theorem dX8_arrange_0 : decode cX8_arrange 0 = .ok (.iconst 0, 1) := by decide +kernel
theorem dX8_arrange_1 : decode cX8_arrange 1 = .ok (.istore_n 3, 1) := by decide +kernel
theorem dX8_arrange_2 : decode cX8_arrange 2 = .ok (.iload_n 3, 1) := by decide +kernel
theorem dX8_arrange_3 : decode cX8_arrange 3 = .ok (.aload_n 0, 1) := by decide +kernel
theorem dX8_arrange_4 : decode cX8_arrange 4 = .ok (.getfield 37, 3) := by decide +kernel
theorem dX8_arrange_7 : decode cX8_arrange 7 = .ok (.if_icmp .ge 29, 3) := by decide +kernel
theorem dX8_arrange_10 : decode cX8_arrange 10 = .ok (.aload_n 1, 1) := by decide +kernel
theorem dX8_arrange_11 : decode cX8_arrange 11 = .ok (.getfield 11, 3) := by decide +kernel
theorem dX8_arrange_14 : decode cX8_arrange 14 = .ok (.aload_n 2, 1) := by decide +kernel
theorem dX8_arrange_15 : decode cX8_arrange 15 = .ok (.iload_n 3, 1) := by decide +kernel
theorem dX8_arrange_16 : decode cX8_arrange 16 = .ok (.iaload, 1) := by decide +kernel
theorem dX8_arrange_17 : decode cX8_arrange 17 = .ok (.iconst 5, 1) := by decide +kernel
theorem dX8_arrange_18 : decode cX8_arrange 18 = .ok (.imul, 1) := by decide +kernel
theorem dX8_arrange_19 : decode cX8_arrange 19 = .ok (.aload_n 0, 1) := by decide +kernel
theorem dX8_arrange_20 : decode cX8_arrange 20 = .ok (.getfield 11, 3) := by decide +kernel
theorem dX8_arrange_23 : decode cX8_arrange 23 = .ok (.iload_n 3, 1) := by decide +kernel
theorem dX8_arrange_24 : decode cX8_arrange 24 = .ok (.iconst 5, 1) := by decide +kernel
theorem dX8_arrange_25 : decode cX8_arrange 25 = .ok (.imul, 1) := by decide +kernel
theorem dX8_arrange_26 : decode cX8_arrange 26 = .ok (.iconst 5, 1) := by decide +kernel
theorem dX8_arrange_27 : decode cX8_arrange 27 = .ok (.invokestatic 44, 3) := by decide +kernel
theorem dX8_arrange_30 : decode cX8_arrange 30 = .ok (.iinc 3 1, 3) := by decide +kernel
theorem dX8_arrange_33 : decode cX8_arrange 33 = .ok (.goto (-31), 3) := by decide +kernel
theorem dX8_arrange_36 : decode cX8_arrange 36 = .ok (.return_, 1) := by decide +kernel
theorem dX8_numberOf_0 : decode cX8_numberOf 0 = .ok (.iload_n 1, 1) := by decide +kernel
theorem dX8_numberOf_1 : decode cX8_numberOf 1 = .ok (.ifCond .lt 20, 3) := by decide +kernel
theorem dX8_numberOf_4 : decode cX8_numberOf 4 = .ok (.iload_n 1, 1) := by decide +kernel
theorem dX8_numberOf_5 : decode cX8_numberOf 5 = .ok (.aload_n 0, 1) := by decide +kernel
theorem dX8_numberOf_6 : decode cX8_numberOf 6 = .ok (.getfield 37, 3) := by decide +kernel
theorem dX8_numberOf_9 : decode cX8_numberOf 9 = .ok (.if_icmp .ge 12, 3) := by decide +kernel
theorem dX8_numberOf_12 : decode cX8_numberOf 12 = .ok (.iload_n 2, 1) := by decide +kernel
theorem dX8_numberOf_13 : decode cX8_numberOf 13 = .ok (.ifCond .lt 8, 3) := by decide +kernel
theorem dX8_numberOf_16 : decode cX8_numberOf 16 = .ok (.iload_n 2, 1) := by decide +kernel
theorem dX8_numberOf_17 : decode cX8_numberOf 17 = .ok (.iconst 5, 1) := by decide +kernel
theorem dX8_numberOf_18 : decode cX8_numberOf 18 = .ok (.if_icmp .lt 5, 3) := by decide +kernel
theorem dX8_numberOf_21 : decode cX8_numberOf 21 = .ok (.iconst (-1), 1) := by decide +kernel
theorem dX8_numberOf_22 : decode cX8_numberOf 22 = .ok (.ireturn, 1) := by decide +kernel
theorem dX8_numberOf_23 : decode cX8_numberOf 23 = .ok (.aload_n 0, 1) := by decide +kernel
theorem dX8_numberOf_24 : decode cX8_numberOf 24 = .ok (.getfield 11, 3) := by decide +kernel
theorem dX8_numberOf_27 : decode cX8_numberOf 27 = .ok (.iload_n 1, 1) := by decide +kernel
theorem dX8_numberOf_28 : decode cX8_numberOf 28 = .ok (.iconst 5, 1) := by decide +kernel
theorem dX8_numberOf_29 : decode cX8_numberOf 29 = .ok (.imul, 1) := by decide +kernel
theorem dX8_numberOf_30 : decode cX8_numberOf 30 = .ok (.iload_n 2, 1) := by decide +kernel
theorem dX8_numberOf_31 : decode cX8_numberOf 31 = .ok (.iadd, 1) := by decide +kernel
theorem dX8_numberOf_32 : decode cX8_numberOf 32 = .ok (.iaload, 1) := by decide +kernel
theorem dX8_numberOf_33 : decode cX8_numberOf 33 = .ok (.ireturn, 1) := by decide +kernel
theorem dX8_takeFrom_0 : decode cX8_takeFrom 0 = .ok (.aload_n 1, 1) := by decide +kernel
theorem dX8_takeFrom_1 : decode cX8_takeFrom 1 = .ok (.getfield 11, 3) := by decide +kernel
theorem dX8_takeFrom_4 : decode cX8_takeFrom 4 = .ok (.iconst 0, 1) := by decide +kernel
theorem dX8_takeFrom_5 : decode cX8_takeFrom 5 = .ok (.aload_n 0, 1) := by decide +kernel
theorem dX8_takeFrom_6 : decode cX8_takeFrom 6 = .ok (.getfield 11, 3) := by decide +kernel
theorem dX8_takeFrom_9 : decode cX8_takeFrom 9 = .ok (.iconst 0, 1) := by decide +kernel
theorem dX8_takeFrom_10 : decode cX8_takeFrom 10 = .ok (.aload_n 0, 1) := by decide +kernel
theorem dX8_takeFrom_11 : decode cX8_takeFrom 11 = .ok (.getfield 11, 3) := by decide +kernel
theorem dX8_takeFrom_14 : decode cX8_takeFrom 14 = .ok (.arraylength, 1) := by decide +kernel
theorem dX8_takeFrom_15 : decode cX8_takeFrom 15 = .ok (.invokestatic 44, 3) := by decide +kernel
theorem dX8_takeFrom_18 : decode cX8_takeFrom 18 = .ok (.aload_n 0, 1) := by decide +kernel
theorem dX8_takeFrom_19 : decode cX8_takeFrom 19 = .ok (.aload_n 1, 1) := by decide +kernel
theorem dX8_takeFrom_20 : decode cX8_takeFrom 20 = .ok (.getfield 37, 3) := by decide +kernel
theorem dX8_takeFrom_23 : decode cX8_takeFrom 23 = .ok (.putfield 37, 3) := by decide +kernel
theorem dX8_takeFrom_26 : decode cX8_takeFrom 26 = .ok (.return_, 1) := by decide +kernel
theorem dX9_init_0 : decode cX9_init 0 = .ok (.aload_n 0, 1) := by decide +kernel
theorem dX9_init_1 : decode cX9_init 1 = .ok (.invokespecial 3, 3) := by decide +kernel
theorem dX9_init_4 : decode cX9_init 4 = .ok (.aload_n 0, 1) := by decide +kernel
theorem dX9_init_5 : decode cX9_init 5 = .ok (.sipush 160, 3) := by decide +kernel
theorem dX9_init_8 : decode cX9_init 8 = .ok (.newarray .int, 2) := by decide +kernel
theorem dX9_init_10 : decode cX9_init 10 = .ok (.putfield 11, 3) := by decide +kernel
theorem dX9_init_13 : decode cX9_init 13 = .ok (.aload_n 0, 1) := by decide +kernel
theorem dX9_init_14 : decode cX9_init 14 = .ok (.iconst 5, 1) := by decide +kernel
theorem dX9_init_15 : decode cX9_init 15 = .ok (.newarray .int, 2) := by decide +kernel
theorem dX9_init_17 : decode cX9_init 17 = .ok (.putfield 17, 3) := by decide +kernel
theorem dX9_init_20 : decode cX9_init 20 = .ok (.return_, 1) := by decide +kernel
theorem dX9_append_0 : decode cX9_append 0 = .ok (.aload_n 0, 1) := by decide +kernel
theorem dX9_append_1 : decode cX9_append 1 = .ok (.getfield 20, 3) := by decide +kernel
theorem dX9_append_4 : decode cX9_append 4 = .ok (.sipush 160, 3) := by decide +kernel
theorem dX9_append_7 : decode cX9_append 7 = .ok (.if_icmp .lt 5, 3) := by decide +kernel
theorem dX9_append_10 : decode cX9_append 10 = .ok (.iconst 0, 1) := by decide +kernel
theorem dX9_append_11 : decode cX9_append 11 = .ok (.ireturn, 1) := by decide +kernel
theorem dX9_append_12 : decode cX9_append 12 = .ok (.aload_n 0, 1) := by decide +kernel
theorem dX9_append_13 : decode cX9_append 13 = .ok (.getfield 11, 3) := by decide +kernel
theorem dX9_append_16 : decode cX9_append 16 = .ok (.aload_n 0, 1) := by decide +kernel
theorem dX9_append_17 : decode cX9_append 17 = .ok (.getfield 20, 3) := by decide +kernel
theorem dX9_append_20 : decode cX9_append 20 = .ok (.iload_n 1, 1) := by decide +kernel
theorem dX9_append_21 : decode cX9_append 21 = .ok (.iastore, 1) := by decide +kernel
theorem dX9_append_22 : decode cX9_append 22 = .ok (.aload_n 0, 1) := by decide +kernel
theorem dX9_append_23 : decode cX9_append 23 = .ok (.dup, 1) := by decide +kernel
theorem dX9_append_24 : decode cX9_append 24 = .ok (.getfield 20, 3) := by decide +kernel
theorem dX9_append_27 : decode cX9_append 27 = .ok (.iconst 1, 1) := by decide +kernel
theorem dX9_append_28 : decode cX9_append 28 = .ok (.iadd, 1) := by decide +kernel
theorem dX9_append_29 : decode cX9_append 29 = .ok (.putfield 20, 3) := by decide +kernel
theorem dX9_append_32 : decode cX9_append 32 = .ok (.iconst 1, 1) := by decide +kernel
theorem dX9_append_33 : decode cX9_append 33 = .ok (.ireturn, 1) := by decide +kernel
theorem dX9_readInto_0 : decode cX9_readInto 0 = .ok (.aload_n 1, 1) := by decide +kernel
theorem dX9_readInto_1 : decode cX9_readInto 1 = .ok (.invokevirtual 24, 3) := by decide +kernel
theorem dX9_readInto_4 : decode cX9_readInto 4 = .ok (.aload_n 0, 1) := by decide +kernel
theorem dX9_readInto_5 : decode cX9_readInto 5 = .ok (.bipush 32, 2) := by decide +kernel
theorem dX9_readInto_7 : decode cX9_readInto 7 = .ok (.putfield 29, 3) := by decide +kernel
theorem dX9_readInto_10 : decode cX9_readInto 10 = .ok (.aload_n 0, 1) := by decide +kernel
theorem dX9_readInto_11 : decode cX9_readInto 11 = .ok (.iconst 0, 1) := by decide +kernel
theorem dX9_readInto_12 : decode cX9_readInto 12 = .ok (.putfield 32, 3) := by decide +kernel
theorem dX9_readInto_15 : decode cX9_readInto 15 = .ok (.aload_n 0, 1) := by decide +kernel
theorem dX9_readInto_16 : decode cX9_readInto 16 = .ok (.iconst 0, 1) := by decide +kernel
theorem dX9_readInto_17 : decode cX9_readInto 17 = .ok (.putfield 35, 3) := by decide +kernel
theorem dX9_readInto_20 : decode cX9_readInto 20 = .ok (.iconst 0, 1) := by decide +kernel
theorem dX9_readInto_21 : decode cX9_readInto 21 = .ok (.istore_n 2, 1) := by decide +kernel
theorem dX9_readInto_22 : decode cX9_readInto 22 = .ok (.iconst 0, 1) := by decide +kernel
theorem dX9_readInto_23 : decode cX9_readInto 23 = .ok (.istore_n 3, 1) := by decide +kernel
theorem dX9_readInto_24 : decode cX9_readInto 24 = .ok (.iload_n 3, 1) := by decide +kernel
theorem dX9_readInto_25 : decode cX9_readInto 25 = .ok (.sipush 160, 3) := by decide +kernel
theorem dX9_readInto_28 : decode cX9_readInto 28 = .ok (.if_icmp .ge 43, 3) := by decide +kernel
theorem dX9_readInto_31 : decode cX9_readInto 31 = .ok (.iload_n 2, 1) := by decide +kernel
theorem dX9_readInto_32 : decode cX9_readInto 32 = .ok (.aload_n 0, 1) := by decide +kernel
theorem dX9_readInto_33 : decode cX9_readInto 33 = .ok (.getfield 20, 3) := by decide +kernel
theorem dX9_readInto_36 : decode cX9_readInto 36 = .ok (.if_icmp .ge 35, 3) := by decide +kernel
theorem dX9_readInto_39 : decode cX9_readInto 39 = .ok (.aload_n 0, 1) := by decide +kernel
theorem dX9_readInto_40 : decode cX9_readInto 40 = .ok (.iload_n 2, 1) := by decide +kernel
theorem dX9_readInto_41 : decode cX9_readInto 41 = .ok (.invokevirtual 39, 3) := by decide +kernel
theorem dX9_readInto_44 : decode cX9_readInto 44 = .ok (.istore 4, 2) := by decide +kernel
theorem dX9_readInto_46 : decode cX9_readInto 46 = .ok (.aload_n 0, 1) := by decide +kernel
theorem dX9_readInto_47 : decode cX9_readInto 47 = .ok (.aload_n 1, 1) := by decide +kernel
theorem dX9_readInto_48 : decode cX9_readInto 48 = .ok (.iload_n 2, 1) := by decide +kernel
theorem dX9_readInto_49 : decode cX9_readInto 49 = .ok (.iload 4, 2) := by decide +kernel
theorem dX9_readInto_51 : decode cX9_readInto 51 = .ok (.invokevirtual 43, 3) := by decide +kernel
theorem dX9_readInto_54 : decode cX9_readInto 54 = .ok (.ifCond .ne 8, 3) := by decide +kernel
theorem dX9_readInto_57 : decode cX9_readInto 57 = .ok (.bipush (-10), 2) := by decide +kernel
theorem dX9_readInto_59 : decode cX9_readInto 59 = .ok (.iload_n 2, 1) := by decide +kernel
theorem dX9_readInto_60 : decode cX9_readInto 60 = .ok (.isub, 1) := by decide +kernel
theorem dX9_readInto_61 : decode cX9_readInto 61 = .ok (.ireturn, 1) := by decide +kernel
theorem dX9_readInto_62 : decode cX9_readInto 62 = .ok (.iload 4, 2) := by decide +kernel
theorem dX9_readInto_64 : decode cX9_readInto 64 = .ok (.istore_n 2, 1) := by decide +kernel
theorem dX9_readInto_65 : decode cX9_readInto 65 = .ok (.iinc 3 1, 3) := by decide +kernel
theorem dX9_readInto_68 : decode cX9_readInto 68 = .ok (.goto (-44), 3) := by decide +kernel
theorem dX9_readInto_71 : decode cX9_readInto 71 = .ok (.aload_n 0, 1) := by decide +kernel
theorem dX9_readInto_72 : decode cX9_readInto 72 = .ok (.getfield 29, 3) := by decide +kernel
theorem dX9_readInto_75 : decode cX9_readInto 75 = .ok (.bipush 32, 2) := by decide +kernel
theorem dX9_readInto_77 : decode cX9_readInto 77 = .ok (.if_icmp .ne 10, 3) := by decide +kernel
theorem dX9_readInto_80 : decode cX9_readInto 80 = .ok (.aload_n 0, 1) := by decide +kernel
theorem dX9_readInto_81 : decode cX9_readInto 81 = .ok (.getfield 32, 3) := by decide +kernel
theorem dX9_readInto_84 : decode cX9_readInto 84 = .ok (.goto 10, 3) := by decide +kernel
theorem dX9_readInto_87 : decode cX9_readInto 87 = .ok (.bipush (-10), 2) := by decide +kernel
theorem dX9_readInto_89 : decode cX9_readInto 89 = .ok (.aload_n 0, 1) := by decide +kernel
theorem dX9_readInto_90 : decode cX9_readInto 90 = .ok (.getfield 20, 3) := by decide +kernel
theorem dX9_readInto_93 : decode cX9_readInto 93 = .ok (.isub, 1) := by decide +kernel
theorem dX9_readInto_94 : decode cX9_readInto 94 = .ok (.ireturn, 1) := by decide +kernel
theorem dX9_endOfToken_0 : decode cX9_endOfToken 0 = .ok (.iload_n 1, 1) := by decide +kernel
theorem dX9_endOfToken_1 : decode cX9_endOfToken 1 = .ok (.iconst 1, 1) := by decide +kernel
theorem dX9_endOfToken_2 : decode cX9_endOfToken 2 = .ok (.iadd, 1) := by decide +kernel
theorem dX9_endOfToken_3 : decode cX9_endOfToken 3 = .ok (.istore_n 2, 1) := by decide +kernel
theorem dX9_endOfToken_4 : decode cX9_endOfToken 4 = .ok (.aload_n 0, 1) := by decide +kernel
theorem dX9_endOfToken_5 : decode cX9_endOfToken 5 = .ok (.getfield 11, 3) := by decide +kernel
theorem dX9_endOfToken_8 : decode cX9_endOfToken 8 = .ok (.iload_n 1, 1) := by decide +kernel
theorem dX9_endOfToken_9 : decode cX9_endOfToken 9 = .ok (.iaload, 1) := by decide +kernel
theorem dX9_endOfToken_10 : decode cX9_endOfToken 10 = .ok (.invokestatic 47, 3) := by decide +kernel
theorem dX9_endOfToken_13 : decode cX9_endOfToken 13 = .ok (.ifCond .eq 29, 3) := by decide +kernel
theorem dX9_endOfToken_16 : decode cX9_endOfToken 16 = .ok (.iload_n 2, 1) := by decide +kernel
theorem dX9_endOfToken_17 : decode cX9_endOfToken 17 = .ok (.aload_n 0, 1) := by decide +kernel
theorem dX9_endOfToken_18 : decode cX9_endOfToken 18 = .ok (.getfield 20, 3) := by decide +kernel
theorem dX9_endOfToken_21 : decode cX9_endOfToken 21 = .ok (.if_icmp .ge 21, 3) := by decide +kernel
theorem dX9_endOfToken_24 : decode cX9_endOfToken 24 = .ok (.aload_n 0, 1) := by decide +kernel
theorem dX9_endOfToken_25 : decode cX9_endOfToken 25 = .ok (.getfield 11, 3) := by decide +kernel
theorem dX9_endOfToken_28 : decode cX9_endOfToken 28 = .ok (.iload_n 2, 1) := by decide +kernel
theorem dX9_endOfToken_29 : decode cX9_endOfToken 29 = .ok (.iaload, 1) := by decide +kernel
theorem dX9_endOfToken_30 : decode cX9_endOfToken 30 = .ok (.invokestatic 47, 3) := by decide +kernel
theorem dX9_endOfToken_33 : decode cX9_endOfToken 33 = .ok (.ifCond .eq 9, 3) := by decide +kernel
theorem dX9_endOfToken_36 : decode cX9_endOfToken 36 = .ok (.iinc 2 1, 3) := by decide +kernel
theorem dX9_endOfToken_39 : decode cX9_endOfToken 39 = .ok (.goto (-23), 3) := by decide +kernel
theorem dX9_endOfToken_42 : decode cX9_endOfToken 42 = .ok (.iload_n 2, 1) := by decide +kernel
theorem dX9_endOfToken_43 : decode cX9_endOfToken 43 = .ok (.ireturn, 1) := by decide +kernel
theorem dX9_isDigit_0 : decode cX9_isDigit 0 = .ok (.iload_n 0, 1) := by decide +kernel
theorem dX9_isDigit_1 : decode cX9_isDigit 1 = .ok (.bipush 48, 2) := by decide +kernel
theorem dX9_isDigit_3 : decode cX9_isDigit 3 = .ok (.if_icmp .lt 13, 3) := by decide +kernel
theorem dX9_isDigit_6 : decode cX9_isDigit 6 = .ok (.iload_n 0, 1) := by decide +kernel
theorem dX9_isDigit_7 : decode cX9_isDigit 7 = .ok (.bipush 57, 2) := by decide +kernel
theorem dX9_isDigit_9 : decode cX9_isDigit 9 = .ok (.if_icmp .gt 7, 3) := by decide +kernel
theorem dX9_isDigit_12 : decode cX9_isDigit 12 = .ok (.iconst 1, 1) := by decide +kernel
theorem dX9_isDigit_13 : decode cX9_isDigit 13 = .ok (.goto 4, 3) := by decide +kernel
theorem dX9_isDigit_16 : decode cX9_isDigit 16 = .ok (.iconst 0, 1) := by decide +kernel
theorem dX9_isDigit_17 : decode cX9_isDigit 17 = .ok (.ireturn, 1) := by decide +kernel
theorem dX9_takesToken_0 : decode cX9_takesToken 0 = .ok (.aload_n 0, 1) := by decide +kernel
theorem dX9_takesToken_1 : decode cX9_takesToken 1 = .ok (.getfield 11, 3) := by decide +kernel
theorem dX9_takesToken_4 : decode cX9_takesToken 4 = .ok (.iload_n 2, 1) := by decide +kernel
theorem dX9_takesToken_5 : decode cX9_takesToken 5 = .ok (.iaload, 1) := by decide +kernel
theorem dX9_takesToken_6 : decode cX9_takesToken 6 = .ok (.istore 4, 2) := by decide +kernel
theorem dX9_takesToken_8 : decode cX9_takesToken 8 = .ok (.iload 4, 2) := by decide +kernel
theorem dX9_takesToken_10 : decode cX9_takesToken 10 = .ok (.bipush 32, 2) := by decide +kernel
theorem dX9_takesToken_12 : decode cX9_takesToken 12 = .ok (.if_icmp .ne 5, 3) := by decide +kernel
theorem dX9_takesToken_15 : decode cX9_takesToken 15 = .ok (.iconst 1, 1) := by decide +kernel
theorem dX9_takesToken_16 : decode cX9_takesToken 16 = .ok (.ireturn, 1) := by decide +kernel
theorem dX9_takesToken_17 : decode cX9_takesToken 17 = .ok (.iload 4, 2) := by decide +kernel
theorem dX9_takesToken_19 : decode cX9_takesToken 19 = .ok (.invokestatic 47, 3) := by decide +kernel
theorem dX9_takesToken_22 : decode cX9_takesToken 22 = .ok (.ifCond .eq 15, 3) := by decide +kernel
theorem dX9_takesToken_25 : decode cX9_takesToken 25 = .ok (.aload_n 0, 1) := by decide +kernel
theorem dX9_takesToken_26 : decode cX9_takesToken 26 = .ok (.aload_n 1, 1) := by decide +kernel
theorem dX9_takesToken_27 : decode cX9_takesToken 27 = .ok (.aload_n 0, 1) := by decide +kernel
theorem dX9_takesToken_28 : decode cX9_takesToken 28 = .ok (.iload_n 2, 1) := by decide +kernel
theorem dX9_takesToken_29 : decode cX9_takesToken 29 = .ok (.iload_n 3, 1) := by decide +kernel
theorem dX9_takesToken_30 : decode cX9_takesToken 30 = .ok (.invokevirtual 51, 3) := by decide +kernel
theorem dX9_takesToken_33 : decode cX9_takesToken 33 = .ok (.invokevirtual 55, 3) := by decide +kernel
theorem dX9_takesToken_36 : decode cX9_takesToken 36 = .ok (.ireturn, 1) := by decide +kernel
theorem dX9_takesToken_37 : decode cX9_takesToken 37 = .ok (.iload 4, 2) := by decide +kernel
theorem dX9_takesToken_39 : decode cX9_takesToken 39 = .ok (.bipush 59, 2) := by decide +kernel
theorem dX9_takesToken_41 : decode cX9_takesToken 41 = .ok (.if_icmp .ne 9, 3) := by decide +kernel
theorem dX9_takesToken_44 : decode cX9_takesToken 44 = .ok (.aload_n 0, 1) := by decide +kernel
theorem dX9_takesToken_45 : decode cX9_takesToken 45 = .ok (.aload_n 1, 1) := by decide +kernel
theorem dX9_takesToken_46 : decode cX9_takesToken 46 = .ok (.invokevirtual 59, 3) := by decide +kernel
theorem dX9_takesToken_49 : decode cX9_takesToken 49 = .ok (.ireturn, 1) := by decide +kernel
theorem dX9_takesToken_50 : decode cX9_takesToken 50 = .ok (.aload_n 0, 1) := by decide +kernel
theorem dX9_takesToken_51 : decode cX9_takesToken 51 = .ok (.aload_n 1, 1) := by decide +kernel
theorem dX9_takesToken_52 : decode cX9_takesToken 52 = .ok (.iload 4, 2) := by decide +kernel
theorem dX9_takesToken_54 : decode cX9_takesToken 54 = .ok (.invokevirtual 63, 3) := by decide +kernel
theorem dX9_takesToken_57 : decode cX9_takesToken 57 = .ok (.ireturn, 1) := by decide +kernel
theorem dX9_valueOf_0 : decode cX9_valueOf 0 = .ok (.aload_n 0, 1) := by decide +kernel
theorem dX9_valueOf_1 : decode cX9_valueOf 1 = .ok (.getfield 11, 3) := by decide +kernel
theorem dX9_valueOf_4 : decode cX9_valueOf 4 = .ok (.iload_n 1, 1) := by decide +kernel
theorem dX9_valueOf_5 : decode cX9_valueOf 5 = .ok (.iaload, 1) := by decide +kernel
theorem dX9_valueOf_6 : decode cX9_valueOf 6 = .ok (.bipush 48, 2) := by decide +kernel
theorem dX9_valueOf_8 : decode cX9_valueOf 8 = .ok (.isub, 1) := by decide +kernel
theorem dX9_valueOf_9 : decode cX9_valueOf 9 = .ok (.istore_n 3, 1) := by decide +kernel
theorem dX9_valueOf_10 : decode cX9_valueOf 10 = .ok (.iload_n 2, 1) := by decide +kernel
theorem dX9_valueOf_11 : decode cX9_valueOf 11 = .ok (.iload_n 1, 1) := by decide +kernel
theorem dX9_valueOf_12 : decode cX9_valueOf 12 = .ok (.isub, 1) := by decide +kernel
theorem dX9_valueOf_13 : decode cX9_valueOf 13 = .ok (.iconst 1, 1) := by decide +kernel
theorem dX9_valueOf_14 : decode cX9_valueOf 14 = .ok (.if_icmp .ne 5, 3) := by decide +kernel
theorem dX9_valueOf_17 : decode cX9_valueOf 17 = .ok (.iload_n 3, 1) := by decide +kernel
theorem dX9_valueOf_18 : decode cX9_valueOf 18 = .ok (.ireturn, 1) := by decide +kernel
theorem dX9_valueOf_19 : decode cX9_valueOf 19 = .ok (.iload_n 2, 1) := by decide +kernel
theorem dX9_valueOf_20 : decode cX9_valueOf 20 = .ok (.iload_n 1, 1) := by decide +kernel
theorem dX9_valueOf_21 : decode cX9_valueOf 21 = .ok (.isub, 1) := by decide +kernel
theorem dX9_valueOf_22 : decode cX9_valueOf 22 = .ok (.iconst 2, 1) := by decide +kernel
theorem dX9_valueOf_23 : decode cX9_valueOf 23 = .ok (.if_icmp .gt 7, 3) := by decide +kernel
theorem dX9_valueOf_26 : decode cX9_valueOf 26 = .ok (.iload_n 3, 1) := by decide +kernel
theorem dX9_valueOf_27 : decode cX9_valueOf 27 = .ok (.ifCond .ne 5, 3) := by decide +kernel
theorem dX9_valueOf_30 : decode cX9_valueOf 30 = .ok (.iconst (-1), 1) := by decide +kernel
theorem dX9_valueOf_31 : decode cX9_valueOf 31 = .ok (.ireturn, 1) := by decide +kernel
theorem dX9_valueOf_32 : decode cX9_valueOf 32 = .ok (.bipush 10, 2) := by decide +kernel
theorem dX9_valueOf_34 : decode cX9_valueOf 34 = .ok (.iload_n 3, 1) := by decide +kernel
theorem dX9_valueOf_35 : decode cX9_valueOf 35 = .ok (.imul, 1) := by decide +kernel
theorem dX9_valueOf_36 : decode cX9_valueOf 36 = .ok (.aload_n 0, 1) := by decide +kernel
theorem dX9_valueOf_37 : decode cX9_valueOf 37 = .ok (.getfield 11, 3) := by decide +kernel
theorem dX9_valueOf_40 : decode cX9_valueOf 40 = .ok (.iload_n 1, 1) := by decide +kernel
theorem dX9_valueOf_41 : decode cX9_valueOf 41 = .ok (.iconst 1, 1) := by decide +kernel
theorem dX9_valueOf_42 : decode cX9_valueOf 42 = .ok (.iadd, 1) := by decide +kernel
theorem dX9_valueOf_43 : decode cX9_valueOf 43 = .ok (.iaload, 1) := by decide +kernel
theorem dX9_valueOf_44 : decode cX9_valueOf 44 = .ok (.iadd, 1) := by decide +kernel
theorem dX9_valueOf_45 : decode cX9_valueOf 45 = .ok (.bipush 48, 2) := by decide +kernel
theorem dX9_valueOf_47 : decode cX9_valueOf 47 = .ok (.isub, 1) := by decide +kernel
theorem dX9_valueOf_48 : decode cX9_valueOf 48 = .ok (.ireturn, 1) := by decide +kernel
theorem dX9_beginsItem_0 : decode cX9_beginsItem 0 = .ok (.aload_n 0, 1) := by decide +kernel
theorem dX9_beginsItem_1 : decode cX9_beginsItem 1 = .ok (.getfield 29, 3) := by decide +kernel
theorem dX9_beginsItem_4 : decode cX9_beginsItem 4 = .ok (.bipush 32, 2) := by decide +kernel
theorem dX9_beginsItem_6 : decode cX9_beginsItem 6 = .ok (.if_icmp .eq 5, 3) := by decide +kernel
theorem dX9_beginsItem_9 : decode cX9_beginsItem 9 = .ok (.iconst 0, 1) := by decide +kernel
theorem dX9_beginsItem_10 : decode cX9_beginsItem 10 = .ok (.ireturn, 1) := by decide +kernel
theorem dX9_beginsItem_11 : decode cX9_beginsItem 11 = .ok (.iload_n 2, 1) := by decide +kernel
theorem dX9_beginsItem_12 : decode cX9_beginsItem 12 = .ok (.lookupswitch 94 #[(100, 82), (109, 60), (120, 44), (121, 52)], 44) := by decide +kernel
theorem dX9_beginsItem_56 : decode cX9_beginsItem 56 = .ok (.aload_n 1, 1) := by decide +kernel
theorem dX9_beginsItem_57 : decode cX9_beginsItem 57 = .ok (.iconst 0, 1) := by decide +kernel
theorem dX9_beginsItem_58 : decode cX9_beginsItem 58 = .ok (.invokevirtual 66, 3) := by decide +kernel
theorem dX9_beginsItem_61 : decode cX9_beginsItem 61 = .ok (.goto 47, 3) := by decide +kernel
theorem dX9_beginsItem_64 : decode cX9_beginsItem 64 = .ok (.aload_n 1, 1) := by decide +kernel
theorem dX9_beginsItem_65 : decode cX9_beginsItem 65 = .ok (.iconst 1, 1) := by decide +kernel
theorem dX9_beginsItem_66 : decode cX9_beginsItem 66 = .ok (.invokevirtual 66, 3) := by decide +kernel
theorem dX9_beginsItem_69 : decode cX9_beginsItem 69 = .ok (.goto 39, 3) := by decide +kernel
theorem dX9_beginsItem_72 : decode cX9_beginsItem 72 = .ok (.aload_n 0, 1) := by decide +kernel
theorem dX9_beginsItem_73 : decode cX9_beginsItem 73 = .ok (.getfield 35, 3) := by decide +kernel
theorem dX9_beginsItem_76 : decode cX9_beginsItem 76 = .ok (.ifCond .eq 5, 3) := by decide +kernel
theorem dX9_beginsItem_79 : decode cX9_beginsItem 79 = .ok (.iconst 0, 1) := by decide +kernel
theorem dX9_beginsItem_80 : decode cX9_beginsItem 80 = .ok (.ireturn, 1) := by decide +kernel
theorem dX9_beginsItem_81 : decode cX9_beginsItem 81 = .ok (.aload_n 0, 1) := by decide +kernel
theorem dX9_beginsItem_82 : decode cX9_beginsItem 82 = .ok (.iconst 1, 1) := by decide +kernel
theorem dX9_beginsItem_83 : decode cX9_beginsItem 83 = .ok (.putfield 35, 3) := by decide +kernel
theorem dX9_beginsItem_86 : decode cX9_beginsItem 86 = .ok (.aload_n 1, 1) := by decide +kernel
theorem dX9_beginsItem_87 : decode cX9_beginsItem 87 = .ok (.iconst 0, 1) := by decide +kernel
theorem dX9_beginsItem_88 : decode cX9_beginsItem 88 = .ok (.putfield 70, 3) := by decide +kernel
theorem dX9_beginsItem_91 : decode cX9_beginsItem 91 = .ok (.goto 17, 3) := by decide +kernel
theorem dX9_beginsItem_94 : decode cX9_beginsItem 94 = .ok (.aload_n 1, 1) := by decide +kernel
theorem dX9_beginsItem_95 : decode cX9_beginsItem 95 = .ok (.getfield 73, 3) := by decide +kernel
theorem dX9_beginsItem_98 : decode cX9_beginsItem 98 = .ok (.invokevirtual 77, 3) := by decide +kernel
theorem dX9_beginsItem_101 : decode cX9_beginsItem 101 = .ok (.ifCond .eq 7, 3) := by decide +kernel
theorem dX9_beginsItem_104 : decode cX9_beginsItem 104 = .ok (.iconst 0, 1) := by decide +kernel
theorem dX9_beginsItem_105 : decode cX9_beginsItem 105 = .ok (.ireturn, 1) := by decide +kernel
theorem dX9_beginsItem_106 : decode cX9_beginsItem 106 = .ok (.iconst 0, 1) := by decide +kernel
theorem dX9_beginsItem_107 : decode cX9_beginsItem 107 = .ok (.ireturn, 1) := by decide +kernel
theorem dX9_beginsItem_108 : decode cX9_beginsItem 108 = .ok (.aload_n 0, 1) := by decide +kernel
theorem dX9_beginsItem_109 : decode cX9_beginsItem 109 = .ok (.iload_n 2, 1) := by decide +kernel
theorem dX9_beginsItem_110 : decode cX9_beginsItem 110 = .ok (.putfield 29, 3) := by decide +kernel
theorem dX9_beginsItem_113 : decode cX9_beginsItem 113 = .ok (.aload_n 0, 1) := by decide +kernel
theorem dX9_beginsItem_114 : decode cX9_beginsItem 114 = .ok (.iconst 0, 1) := by decide +kernel
theorem dX9_beginsItem_115 : decode cX9_beginsItem 115 = .ok (.putfield 81, 3) := by decide +kernel
theorem dX9_beginsItem_118 : decode cX9_beginsItem 118 = .ok (.iconst 1, 1) := by decide +kernel
theorem dX9_beginsItem_119 : decode cX9_beginsItem 119 = .ok (.ireturn, 1) := by decide +kernel
theorem dX9_takesNumber_0 : decode cX9_takesNumber 0 = .ok (.iload_n 2, 1) := by decide +kernel
theorem dX9_takesNumber_1 : decode cX9_takesNumber 1 = .ok (.ifCond .ge 5, 3) := by decide +kernel
theorem dX9_takesNumber_4 : decode cX9_takesNumber 4 = .ok (.iconst 0, 1) := by decide +kernel
theorem dX9_takesNumber_5 : decode cX9_takesNumber 5 = .ok (.ireturn, 1) := by decide +kernel
theorem dX9_takesNumber_6 : decode cX9_takesNumber 6 = .ok (.aload_n 0, 1) := by decide +kernel
theorem dX9_takesNumber_7 : decode cX9_takesNumber 7 = .ok (.getfield 29, 3) := by decide +kernel
theorem dX9_takesNumber_10 : decode cX9_takesNumber 10 = .ok (.lookupswitch 71 #[(100, 65), (109, 58), (120, 42), (121, 50)], 42) := by decide +kernel
theorem dX9_takesNumber_52 : decode cX9_takesNumber 52 = .ok (.aload_n 0, 1) := by decide +kernel
theorem dX9_takesNumber_53 : decode cX9_takesNumber 53 = .ok (.aload_n 1, 1) := by decide +kernel
theorem dX9_takesNumber_54 : decode cX9_takesNumber 54 = .ok (.iconst 0, 1) := by decide +kernel
theorem dX9_takesNumber_55 : decode cX9_takesNumber 55 = .ok (.iload_n 2, 1) := by decide +kernel
theorem dX9_takesNumber_56 : decode cX9_takesNumber 56 = .ok (.invokevirtual 84, 3) := by decide +kernel
theorem dX9_takesNumber_59 : decode cX9_takesNumber 59 = .ok (.ireturn, 1) := by decide +kernel
theorem dX9_takesNumber_60 : decode cX9_takesNumber 60 = .ok (.aload_n 0, 1) := by decide +kernel
theorem dX9_takesNumber_61 : decode cX9_takesNumber 61 = .ok (.aload_n 1, 1) := by decide +kernel
theorem dX9_takesNumber_62 : decode cX9_takesNumber 62 = .ok (.iconst 1, 1) := by decide +kernel
theorem dX9_takesNumber_63 : decode cX9_takesNumber 63 = .ok (.iload_n 2, 1) := by decide +kernel
theorem dX9_takesNumber_64 : decode cX9_takesNumber 64 = .ok (.invokevirtual 84, 3) := by decide +kernel
theorem dX9_takesNumber_67 : decode cX9_takesNumber 67 = .ok (.ireturn, 1) := by decide +kernel
theorem dX9_takesNumber_68 : decode cX9_takesNumber 68 = .ok (.aload_n 0, 1) := by decide +kernel
theorem dX9_takesNumber_69 : decode cX9_takesNumber 69 = .ok (.aload_n 1, 1) := by decide +kernel
theorem dX9_takesNumber_70 : decode cX9_takesNumber 70 = .ok (.iload_n 2, 1) := by decide +kernel
theorem dX9_takesNumber_71 : decode cX9_takesNumber 71 = .ok (.invokevirtual 87, 3) := by decide +kernel
theorem dX9_takesNumber_74 : decode cX9_takesNumber 74 = .ok (.ireturn, 1) := by decide +kernel
theorem dX9_takesNumber_75 : decode cX9_takesNumber 75 = .ok (.aload_n 0, 1) := by decide +kernel
theorem dX9_takesNumber_76 : decode cX9_takesNumber 76 = .ok (.iload_n 2, 1) := by decide +kernel
theorem dX9_takesNumber_77 : decode cX9_takesNumber 77 = .ok (.invokevirtual 90, 3) := by decide +kernel
theorem dX9_takesNumber_80 : decode cX9_takesNumber 80 = .ok (.ireturn, 1) := by decide +kernel
theorem dX9_takesNumber_81 : decode cX9_takesNumber 81 = .ok (.iconst 0, 1) := by decide +kernel
theorem dX9_takesNumber_82 : decode cX9_takesNumber 82 = .ok (.ireturn, 1) := by decide +kernel
theorem dX9_takesSymbol_0 : decode cX9_takesSymbol 0 = .ok (.aload_n 0, 1) := by decide +kernel
theorem dX9_takesSymbol_1 : decode cX9_takesSymbol 1 = .ok (.getfield 81, 3) := by decide +kernel
theorem dX9_takesSymbol_4 : decode cX9_takesSymbol 4 = .ok (.bipush 16, 2) := by decide +kernel
theorem dX9_takesSymbol_6 : decode cX9_takesSymbol 6 = .ok (.if_icmp .ge 10, 3) := by decide +kernel
theorem dX9_takesSymbol_9 : decode cX9_takesSymbol 9 = .ok (.iload_n 3, 1) := by decide +kernel
theorem dX9_takesSymbol_10 : decode cX9_takesSymbol 10 = .ok (.invokestatic 93, 3) := by decide +kernel
theorem dX9_takesSymbol_13 : decode cX9_takesSymbol 13 = .ok (.ifCond .ne 5, 3) := by decide +kernel
theorem dX9_takesSymbol_16 : decode cX9_takesSymbol 16 = .ok (.iconst 0, 1) := by decide +kernel
theorem dX9_takesSymbol_17 : decode cX9_takesSymbol 17 = .ok (.ireturn, 1) := by decide +kernel
theorem dX9_takesSymbol_18 : decode cX9_takesSymbol 18 = .ok (.aload_n 1, 1) := by decide +kernel
theorem dX9_takesSymbol_19 : decode cX9_takesSymbol 19 = .ok (.getfield 96, 3) := by decide +kernel
theorem dX9_takesSymbol_22 : decode cX9_takesSymbol 22 = .ok (.iload_n 2, 1) := by decide +kernel
theorem dX9_takesSymbol_23 : decode cX9_takesSymbol 23 = .ok (.bipush 16, 2) := by decide +kernel
theorem dX9_takesSymbol_25 : decode cX9_takesSymbol 25 = .ok (.imul, 1) := by decide +kernel
theorem dX9_takesSymbol_26 : decode cX9_takesSymbol 26 = .ok (.aload_n 0, 1) := by decide +kernel
theorem dX9_takesSymbol_27 : decode cX9_takesSymbol 27 = .ok (.getfield 81, 3) := by decide +kernel
theorem dX9_takesSymbol_30 : decode cX9_takesSymbol 30 = .ok (.iadd, 1) := by decide +kernel
theorem dX9_takesSymbol_31 : decode cX9_takesSymbol 31 = .ok (.iload_n 3, 1) := by decide +kernel
theorem dX9_takesSymbol_32 : decode cX9_takesSymbol 32 = .ok (.iastore, 1) := by decide +kernel
theorem dX9_takesSymbol_33 : decode cX9_takesSymbol 33 = .ok (.aload_n 0, 1) := by decide +kernel
theorem dX9_takesSymbol_34 : decode cX9_takesSymbol 34 = .ok (.dup, 1) := by decide +kernel
theorem dX9_takesSymbol_35 : decode cX9_takesSymbol 35 = .ok (.getfield 81, 3) := by decide +kernel
theorem dX9_takesSymbol_38 : decode cX9_takesSymbol 38 = .ok (.iconst 1, 1) := by decide +kernel
theorem dX9_takesSymbol_39 : decode cX9_takesSymbol 39 = .ok (.iadd, 1) := by decide +kernel
theorem dX9_takesSymbol_40 : decode cX9_takesSymbol 40 = .ok (.putfield 81, 3) := by decide +kernel
theorem dX9_takesSymbol_43 : decode cX9_takesSymbol 43 = .ok (.iconst 1, 1) := by decide +kernel
theorem dX9_takesSymbol_44 : decode cX9_takesSymbol 44 = .ok (.ireturn, 1) := by decide +kernel
theorem dX9_takesMark_0 : decode cX9_takesMark 0 = .ok (.iload_n 2, 1) := by decide +kernel
theorem dX9_takesMark_1 : decode cX9_takesMark 1 = .ok (.invokestatic 99, 3) := by decide +kernel
theorem dX9_takesMark_4 : decode cX9_takesMark 4 = .ok (.ifCond .eq 11, 3) := by decide +kernel
theorem dX9_takesMark_7 : decode cX9_takesMark 7 = .ok (.aload_n 1, 1) := by decide +kernel
theorem dX9_takesMark_8 : decode cX9_takesMark 8 = .ok (.iload_n 2, 1) := by decide +kernel
theorem dX9_takesMark_9 : decode cX9_takesMark 9 = .ok (.invokevirtual 102, 3) := by decide +kernel
theorem dX9_takesMark_12 : decode cX9_takesMark 12 = .ok (.ifCond .eq 5, 3) := by decide +kernel
theorem dX9_takesMark_15 : decode cX9_takesMark 15 = .ok (.iconst 0, 1) := by decide +kernel
theorem dX9_takesMark_16 : decode cX9_takesMark 16 = .ok (.ireturn, 1) := by decide +kernel
theorem dX9_takesMark_17 : decode cX9_takesMark 17 = .ok (.aload_n 1, 1) := by decide +kernel
theorem dX9_takesMark_18 : decode cX9_takesMark 18 = .ok (.iload_n 2, 1) := by decide +kernel
theorem dX9_takesMark_19 : decode cX9_takesMark 19 = .ok (.iconst 1, 1) := by decide +kernel
theorem dX9_takesMark_20 : decode cX9_takesMark 20 = .ok (.invokevirtual 105, 3) := by decide +kernel
theorem dX9_takesMark_23 : decode cX9_takesMark 23 = .ok (.iconst 1, 1) := by decide +kernel
theorem dX9_takesMark_24 : decode cX9_takesMark 24 = .ok (.ireturn, 1) := by decide +kernel
theorem dX9_takesPart_0 : decode cX9_takesPart 0 = .ok (.aload_n 0, 1) := by decide +kernel
theorem dX9_takesPart_1 : decode cX9_takesPart 1 = .ok (.getfield 81, 3) := by decide +kernel
theorem dX9_takesPart_4 : decode cX9_takesPart 4 = .ok (.iconst 5, 1) := by decide +kernel
theorem dX9_takesPart_5 : decode cX9_takesPart 5 = .ok (.if_icmp .ge 21, 3) := by decide +kernel
theorem dX9_takesPart_8 : decode cX9_takesPart 8 = .ok (.getstatic 109, 3) := by decide +kernel
theorem dX9_takesPart_11 : decode cX9_takesPart 11 = .ok (.aload_n 0, 1) := by decide +kernel
theorem dX9_takesPart_12 : decode cX9_takesPart 12 = .ok (.getfield 17, 3) := by decide +kernel
theorem dX9_takesPart_15 : decode cX9_takesPart 15 = .ok (.aload_n 0, 1) := by decide +kernel
theorem dX9_takesPart_16 : decode cX9_takesPart 16 = .ok (.getfield 81, 3) := by decide +kernel
theorem dX9_takesPart_19 : decode cX9_takesPart 19 = .ok (.iload_n 1, 1) := by decide +kernel
theorem dX9_takesPart_20 : decode cX9_takesPart 20 = .ok (.invokestatic 112, 3) := by decide +kernel
theorem dX9_takesPart_23 : decode cX9_takesPart 23 = .ok (.ifCond .ne 5, 3) := by decide +kernel
theorem dX9_takesPart_26 : decode cX9_takesPart 26 = .ok (.iconst 0, 1) := by decide +kernel
theorem dX9_takesPart_27 : decode cX9_takesPart 27 = .ok (.ireturn, 1) := by decide +kernel
theorem dX9_takesPart_28 : decode cX9_takesPart 28 = .ok (.aload_n 0, 1) := by decide +kernel
theorem dX9_takesPart_29 : decode cX9_takesPart 29 = .ok (.getfield 17, 3) := by decide +kernel
theorem dX9_takesPart_32 : decode cX9_takesPart 32 = .ok (.aload_n 0, 1) := by decide +kernel
theorem dX9_takesPart_33 : decode cX9_takesPart 33 = .ok (.getfield 81, 3) := by decide +kernel
theorem dX9_takesPart_36 : decode cX9_takesPart 36 = .ok (.iload_n 1, 1) := by decide +kernel
theorem dX9_takesPart_37 : decode cX9_takesPart 37 = .ok (.iastore, 1) := by decide +kernel
theorem dX9_takesPart_38 : decode cX9_takesPart 38 = .ok (.aload_n 0, 1) := by decide +kernel
theorem dX9_takesPart_39 : decode cX9_takesPart 39 = .ok (.dup, 1) := by decide +kernel
theorem dX9_takesPart_40 : decode cX9_takesPart 40 = .ok (.getfield 81, 3) := by decide +kernel
theorem dX9_takesPart_43 : decode cX9_takesPart 43 = .ok (.iconst 1, 1) := by decide +kernel
theorem dX9_takesPart_44 : decode cX9_takesPart 44 = .ok (.iadd, 1) := by decide +kernel
theorem dX9_takesPart_45 : decode cX9_takesPart 45 = .ok (.putfield 81, 3) := by decide +kernel
theorem dX9_takesPart_48 : decode cX9_takesPart 48 = .ok (.iconst 1, 1) := by decide +kernel
theorem dX9_takesPart_49 : decode cX9_takesPart 49 = .ok (.ireturn, 1) := by decide +kernel
theorem dX9_endsItem_0 : decode cX9_endsItem 0 = .ok (.aload_n 0, 1) := by decide +kernel
theorem dX9_endsItem_1 : decode cX9_endsItem 1 = .ok (.invokevirtual 116, 3) := by decide +kernel
theorem dX9_endsItem_4 : decode cX9_endsItem 4 = .ok (.ifCond .ne 5, 3) := by decide +kernel
theorem dX9_endsItem_7 : decode cX9_endsItem 7 = .ok (.iconst 0, 1) := by decide +kernel
theorem dX9_endsItem_8 : decode cX9_endsItem 8 = .ok (.ireturn, 1) := by decide +kernel
theorem dX9_endsItem_9 : decode cX9_endsItem 9 = .ok (.aload_n 0, 1) := by decide +kernel
theorem dX9_endsItem_10 : decode cX9_endsItem 10 = .ok (.getfield 29, 3) := by decide +kernel
theorem dX9_endsItem_13 : decode cX9_endsItem 13 = .ok (.bipush 100, 2) := by decide +kernel
theorem dX9_endsItem_15 : decode cX9_endsItem 15 = .ok (.if_icmp .ne 14, 3) := by decide +kernel
theorem dX9_endsItem_18 : decode cX9_endsItem 18 = .ok (.aload_n 1, 1) := by decide +kernel
theorem dX9_endsItem_19 : decode cX9_endsItem 19 = .ok (.getfield 73, 3) := by decide +kernel
theorem dX9_endsItem_22 : decode cX9_endsItem 22 = .ok (.aload_n 0, 1) := by decide +kernel
theorem dX9_endsItem_23 : decode cX9_endsItem 23 = .ok (.getfield 17, 3) := by decide +kernel
theorem dX9_endsItem_26 : decode cX9_endsItem 26 = .ok (.invokevirtual 119, 3) := by decide +kernel
theorem dX9_endsItem_29 : decode cX9_endsItem 29 = .ok (.aload_n 0, 1) := by decide +kernel
theorem dX9_endsItem_30 : decode cX9_endsItem 30 = .ok (.bipush 32, 2) := by decide +kernel
theorem dX9_endsItem_32 : decode cX9_endsItem 32 = .ok (.putfield 29, 3) := by decide +kernel
theorem dX9_endsItem_35 : decode cX9_endsItem 35 = .ok (.aload_n 0, 1) := by decide +kernel
theorem dX9_endsItem_36 : decode cX9_endsItem 36 = .ok (.dup, 1) := by decide +kernel
theorem dX9_endsItem_37 : decode cX9_endsItem 37 = .ok (.getfield 32, 3) := by decide +kernel
theorem dX9_endsItem_40 : decode cX9_endsItem 40 = .ok (.iconst 1, 1) := by decide +kernel
theorem dX9_endsItem_41 : decode cX9_endsItem 41 = .ok (.iadd, 1) := by decide +kernel
theorem dX9_endsItem_42 : decode cX9_endsItem 42 = .ok (.putfield 32, 3) := by decide +kernel
theorem dX9_endsItem_45 : decode cX9_endsItem 45 = .ok (.iconst 1, 1) := by decide +kernel
theorem dX9_endsItem_46 : decode cX9_endsItem 46 = .ok (.ireturn, 1) := by decide +kernel
theorem dX9_isWhole_0 : decode cX9_isWhole 0 = .ok (.aload_n 0, 1) := by decide +kernel
theorem dX9_isWhole_1 : decode cX9_isWhole 1 = .ok (.getfield 29, 3) := by decide +kernel
theorem dX9_isWhole_4 : decode cX9_isWhole 4 = .ok (.lookupswitch 73 #[(100, 59), (109, 57), (120, 44), (121, 44)], 44) := by decide +kernel
theorem dX9_isWhole_48 : decode cX9_isWhole 48 = .ok (.aload_n 0, 1) := by decide +kernel
theorem dX9_isWhole_49 : decode cX9_isWhole 49 = .ok (.getfield 81, 3) := by decide +kernel
theorem dX9_isWhole_52 : decode cX9_isWhole 52 = .ok (.ifCond .le 7, 3) := by decide +kernel
theorem dX9_isWhole_55 : decode cX9_isWhole 55 = .ok (.iconst 1, 1) := by decide +kernel
theorem dX9_isWhole_56 : decode cX9_isWhole 56 = .ok (.goto 4, 3) := by decide +kernel
theorem dX9_isWhole_59 : decode cX9_isWhole 59 = .ok (.iconst 0, 1) := by decide +kernel
theorem dX9_isWhole_60 : decode cX9_isWhole 60 = .ok (.ireturn, 1) := by decide +kernel
theorem dX9_isWhole_61 : decode cX9_isWhole 61 = .ok (.iconst 1, 1) := by decide +kernel
theorem dX9_isWhole_62 : decode cX9_isWhole 62 = .ok (.ireturn, 1) := by decide +kernel
theorem dX9_isWhole_63 : decode cX9_isWhole 63 = .ok (.aload_n 0, 1) := by decide +kernel
theorem dX9_isWhole_64 : decode cX9_isWhole 64 = .ok (.getfield 81, 3) := by decide +kernel
theorem dX9_isWhole_67 : decode cX9_isWhole 67 = .ok (.iconst 5, 1) := by decide +kernel
theorem dX9_isWhole_68 : decode cX9_isWhole 68 = .ok (.if_icmp .ne 7, 3) := by decide +kernel
theorem dX9_isWhole_71 : decode cX9_isWhole 71 = .ok (.iconst 1, 1) := by decide +kernel
theorem dX9_isWhole_72 : decode cX9_isWhole 72 = .ok (.goto 4, 3) := by decide +kernel
theorem dX9_isWhole_75 : decode cX9_isWhole 75 = .ok (.iconst 0, 1) := by decide +kernel
theorem dX9_isWhole_76 : decode cX9_isWhole 76 = .ok (.ireturn, 1) := by decide +kernel
theorem dX9_isWhole_77 : decode cX9_isWhole 77 = .ok (.iconst 0, 1) := by decide +kernel
theorem dX9_isWhole_78 : decode cX9_isWhole 78 = .ok (.ireturn, 1) := by decide +kernel
theorem dX10_init_0 : decode cX10_init 0 = .ok (.aload_n 0, 1) := by decide +kernel
theorem dX10_init_1 : decode cX10_init 1 = .ok (.invokespecial 3, 3) := by decide +kernel
theorem dX10_init_4 : decode cX10_init 4 = .ok (.aload_n 0, 1) := by decide +kernel
theorem dX10_init_5 : decode cX10_init 5 = .ok (.new 9, 3) := by decide +kernel
theorem dX10_init_8 : decode cX10_init 8 = .ok (.dup, 1) := by decide +kernel
theorem dX10_init_9 : decode cX10_init 9 = .ok (.invokespecial 11, 3) := by decide +kernel
theorem dX10_init_12 : decode cX10_init 12 = .ok (.putfield 12, 3) := by decide +kernel
theorem dX10_init_15 : decode cX10_init 15 = .ok (.aload_n 0, 1) := by decide +kernel
theorem dX10_init_16 : decode cX10_init 16 = .ok (.new 9, 3) := by decide +kernel
theorem dX10_init_19 : decode cX10_init 19 = .ok (.dup, 1) := by decide +kernel
theorem dX10_init_20 : decode cX10_init 20 = .ok (.invokespecial 11, 3) := by decide +kernel
theorem dX10_init_23 : decode cX10_init 23 = .ok (.putfield 16, 3) := by decide +kernel
theorem dX10_init_26 : decode cX10_init 26 = .ok (.aload_n 0, 1) := by decide +kernel
theorem dX10_init_27 : decode cX10_init 27 = .ok (.iconst 2, 1) := by decide +kernel
theorem dX10_init_28 : decode cX10_init 28 = .ok (.anewarray 9, 3) := by decide +kernel
theorem dX10_init_31 : decode cX10_init 31 = .ok (.putfield 19, 3) := by decide +kernel
theorem dX10_init_34 : decode cX10_init 34 = .ok (.aload_n 0, 1) := by decide +kernel
theorem dX10_init_35 : decode cX10_init 35 = .ok (.iconst 2, 1) := by decide +kernel
theorem dX10_init_36 : decode cX10_init 36 = .ok (.newarray .boolean, 2) := by decide +kernel
theorem dX10_init_38 : decode cX10_init 38 = .ok (.putfield 23, 3) := by decide +kernel
theorem dX10_init_41 : decode cX10_init 41 = .ok (.aload_n 0, 1) := by decide +kernel
theorem dX10_init_42 : decode cX10_init 42 = .ok (.new 27, 3) := by decide +kernel
theorem dX10_init_45 : decode cX10_init 45 = .ok (.dup, 1) := by decide +kernel
theorem dX10_init_46 : decode cX10_init 46 = .ok (.invokespecial 29, 3) := by decide +kernel
theorem dX10_init_49 : decode cX10_init 49 = .ok (.putfield 30, 3) := by decide +kernel
theorem dX10_init_52 : decode cX10_init 52 = .ok (.aload_n 0, 1) := by decide +kernel
theorem dX10_init_53 : decode cX10_init 53 = .ok (.new 34, 3) := by decide +kernel
theorem dX10_init_56 : decode cX10_init 56 = .ok (.dup, 1) := by decide +kernel
theorem dX10_init_57 : decode cX10_init 57 = .ok (.invokespecial 36, 3) := by decide +kernel
theorem dX10_init_60 : decode cX10_init 60 = .ok (.putfield 37, 3) := by decide +kernel
theorem dX10_init_63 : decode cX10_init 63 = .ok (.aload_n 0, 1) := by decide +kernel
theorem dX10_init_64 : decode cX10_init 64 = .ok (.new 41, 3) := by decide +kernel
theorem dX10_init_67 : decode cX10_init 67 = .ok (.dup, 1) := by decide +kernel
theorem dX10_init_68 : decode cX10_init 68 = .ok (.invokespecial 43, 3) := by decide +kernel
theorem dX10_init_71 : decode cX10_init 71 = .ok (.putfield 44, 3) := by decide +kernel
theorem dX10_init_74 : decode cX10_init 74 = .ok (.aload_n 0, 1) := by decide +kernel
theorem dX10_init_75 : decode cX10_init 75 = .ok (.new 48, 3) := by decide +kernel
theorem dX10_init_78 : decode cX10_init 78 = .ok (.dup, 1) := by decide +kernel
theorem dX10_init_79 : decode cX10_init 79 = .ok (.invokespecial 50, 3) := by decide +kernel
theorem dX10_init_82 : decode cX10_init 82 = .ok (.putfield 51, 3) := by decide +kernel
theorem dX10_init_85 : decode cX10_init 85 = .ok (.aload_n 0, 1) := by decide +kernel
theorem dX10_init_86 : decode cX10_init 86 = .ok (.new 48, 3) := by decide +kernel
theorem dX10_init_89 : decode cX10_init 89 = .ok (.dup, 1) := by decide +kernel
theorem dX10_init_90 : decode cX10_init 90 = .ok (.invokespecial 50, 3) := by decide +kernel
theorem dX10_init_93 : decode cX10_init 93 = .ok (.putfield 55, 3) := by decide +kernel
theorem dX10_init_96 : decode cX10_init 96 = .ok (.aload_n 0, 1) := by decide +kernel
theorem dX10_init_97 : decode cX10_init 97 = .ok (.new 58, 3) := by decide +kernel
theorem dX10_init_100 : decode cX10_init 100 = .ok (.dup, 1) := by decide +kernel
theorem dX10_init_101 : decode cX10_init 101 = .ok (.invokespecial 60, 3) := by decide +kernel
theorem dX10_init_104 : decode cX10_init 104 = .ok (.putfield 61, 3) := by decide +kernel
theorem dX10_init_107 : decode cX10_init 107 = .ok (.aload_n 0, 1) := by decide +kernel
theorem dX10_init_108 : decode cX10_init 108 = .ok (.iconst 5, 1) := by decide +kernel
theorem dX10_init_109 : decode cX10_init 109 = .ok (.newarray .int, 2) := by decide +kernel
theorem dX10_init_111 : decode cX10_init 111 = .ok (.putfield 67, 3) := by decide +kernel
theorem dX10_init_114 : decode cX10_init 114 = .ok (.aload_n 0, 1) := by decide +kernel
theorem dX10_init_115 : decode cX10_init 115 = .ok (.new 71, 3) := by decide +kernel
theorem dX10_init_118 : decode cX10_init 118 = .ok (.dup, 1) := by decide +kernel
theorem dX10_init_119 : decode cX10_init 119 = .ok (.invokespecial 73, 3) := by decide +kernel
theorem dX10_init_122 : decode cX10_init 122 = .ok (.putfield 74, 3) := by decide +kernel
theorem dX10_init_125 : decode cX10_init 125 = .ok (.aload_n 0, 1) := by decide +kernel
theorem dX10_init_126 : decode cX10_init 126 = .ok (.new 71, 3) := by decide +kernel
theorem dX10_init_129 : decode cX10_init 129 = .ok (.dup, 1) := by decide +kernel
theorem dX10_init_130 : decode cX10_init 130 = .ok (.invokespecial 73, 3) := by decide +kernel
theorem dX10_init_133 : decode cX10_init 133 = .ok (.putfield 78, 3) := by decide +kernel
theorem dX10_init_136 : decode cX10_init 136 = .ok (.iconst 0, 1) := by decide +kernel
theorem dX10_init_137 : decode cX10_init 137 = .ok (.istore_n 1, 1) := by decide +kernel
theorem dX10_init_138 : decode cX10_init 138 = .ok (.iload_n 1, 1) := by decide +kernel
theorem dX10_init_139 : decode cX10_init 139 = .ok (.iconst 2, 1) := by decide +kernel
theorem dX10_init_140 : decode cX10_init 140 = .ok (.if_icmp .ge 22, 3) := by decide +kernel
theorem dX10_init_143 : decode cX10_init 143 = .ok (.aload_n 0, 1) := by decide +kernel
theorem dX10_init_144 : decode cX10_init 144 = .ok (.getfield 19, 3) := by decide +kernel
theorem dX10_init_147 : decode cX10_init 147 = .ok (.iload_n 1, 1) := by decide +kernel
theorem dX10_init_148 : decode cX10_init 148 = .ok (.new 9, 3) := by decide +kernel
theorem dX10_init_151 : decode cX10_init 151 = .ok (.dup, 1) := by decide +kernel
theorem dX10_init_152 : decode cX10_init 152 = .ok (.invokespecial 11, 3) := by decide +kernel
theorem dX10_init_155 : decode cX10_init 155 = .ok (.aastore, 1) := by decide +kernel
theorem dX10_init_156 : decode cX10_init 156 = .ok (.iinc 1 1, 3) := by decide +kernel
theorem dX10_init_159 : decode cX10_init 159 = .ok (.goto (-21), 3) := by decide +kernel
theorem dX10_init_162 : decode cX10_init 162 = .ok (.return_, 1) := by decide +kernel
theorem dX10_type_0 : decode cX10_type 0 = .ok (.iload_n 1, 1) := by decide +kernel
theorem dX10_type_1 : decode cX10_type 1 = .ok (.ifCond .lt 10, 3) := by decide +kernel
theorem dX10_type_4 : decode cX10_type 4 = .ok (.iload_n 1, 1) := by decide +kernel
theorem dX10_type_5 : decode cX10_type 5 = .ok (.sipush 255, 3) := by decide +kernel
theorem dX10_type_8 : decode cX10_type 8 = .ok (.if_icmp .le 5, 3) := by decide +kernel
theorem dX10_type_11 : decode cX10_type 11 = .ok (.iconst (-1), 1) := by decide +kernel
theorem dX10_type_12 : decode cX10_type 12 = .ok (.ireturn, 1) := by decide +kernel
theorem dX10_type_13 : decode cX10_type 13 = .ok (.aload_n 0, 1) := by decide +kernel
theorem dX10_type_14 : decode cX10_type 14 = .ok (.getfield 37, 3) := by decide +kernel
theorem dX10_type_17 : decode cX10_type 17 = .ok (.iload_n 1, 1) := by decide +kernel
theorem dX10_type_18 : decode cX10_type 18 = .ok (.invokevirtual 81, 3) := by decide +kernel
theorem dX10_type_21 : decode cX10_type 21 = .ok (.ifCond .eq 13, 3) := by decide +kernel
theorem dX10_type_24 : decode cX10_type 24 = .ok (.aload_n 0, 1) := by decide +kernel
theorem dX10_type_25 : decode cX10_type 25 = .ok (.getfield 37, 3) := by decide +kernel
theorem dX10_type_28 : decode cX10_type 28 = .ok (.getfield 85, 3) := by decide +kernel
theorem dX10_type_31 : decode cX10_type 31 = .ok (.goto 5, 3) := by decide +kernel
theorem dX10_type_34 : decode cX10_type 34 = .ok (.bipush (-3), 2) := by decide +kernel
theorem dX10_type_36 : decode cX10_type 36 = .ok (.ireturn, 1) := by decide +kernel
theorem dX10_clear_0 : decode cX10_clear 0 = .ok (.aload_n 0, 1) := by decide +kernel
theorem dX10_clear_1 : decode cX10_clear 1 = .ok (.getfield 37, 3) := by decide +kernel
theorem dX10_clear_4 : decode cX10_clear 4 = .ok (.getfield 85, 3) := by decide +kernel
theorem dX10_clear_7 : decode cX10_clear 7 = .ok (.istore_n 1, 1) := by decide +kernel
theorem dX10_clear_8 : decode cX10_clear 8 = .ok (.aload_n 0, 1) := by decide +kernel
theorem dX10_clear_9 : decode cX10_clear 9 = .ok (.getfield 37, 3) := by decide +kernel
theorem dX10_clear_12 : decode cX10_clear 12 = .ok (.iconst 0, 1) := by decide +kernel
theorem dX10_clear_13 : decode cX10_clear 13 = .ok (.putfield 85, 3) := by decide +kernel
theorem dX10_clear_16 : decode cX10_clear 16 = .ok (.iload_n 1, 1) := by decide +kernel
theorem dX10_clear_17 : decode cX10_clear 17 = .ok (.ireturn, 1) := by decide +kernel
theorem dX10_block_0 : decode cX10_block 0 = .ok (.aload_n 0, 1) := by decide +kernel
theorem dX10_block_1 : decode cX10_block 1 = .ok (.getfield 16, 3) := by decide +kernel
theorem dX10_block_4 : decode cX10_block 4 = .ok (.aload_n 0, 1) := by decide +kernel
theorem dX10_block_5 : decode cX10_block 5 = .ok (.getfield 12, 3) := by decide +kernel
theorem dX10_block_8 : decode cX10_block 8 = .ok (.invokevirtual 89, 3) := by decide +kernel
theorem dX10_block_11 : decode cX10_block 11 = .ok (.aload_n 0, 1) := by decide +kernel
theorem dX10_block_12 : decode cX10_block 12 = .ok (.getfield 37, 3) := by decide +kernel
theorem dX10_block_15 : decode cX10_block 15 = .ok (.aload_n 0, 1) := by decide +kernel
theorem dX10_block_16 : decode cX10_block 16 = .ok (.getfield 16, 3) := by decide +kernel
theorem dX10_block_19 : decode cX10_block 19 = .ok (.invokevirtual 93, 3) := by decide +kernel
theorem dX10_block_22 : decode cX10_block 22 = .ok (.istore_n 1, 1) := by decide +kernel
theorem dX10_block_23 : decode cX10_block 23 = .ok (.iload_n 1, 1) := by decide +kernel
theorem dX10_block_24 : decode cX10_block 24 = .ok (.ifCond .ge 5, 3) := by decide +kernel
theorem dX10_block_27 : decode cX10_block 27 = .ok (.iload_n 1, 1) := by decide +kernel
theorem dX10_block_28 : decode cX10_block 28 = .ok (.ireturn, 1) := by decide +kernel
theorem dX10_block_29 : decode cX10_block 29 = .ok (.aload_n 0, 1) := by decide +kernel
theorem dX10_block_30 : decode cX10_block 30 = .ok (.getfield 30, 3) := by decide +kernel
theorem dX10_block_33 : decode cX10_block 33 = .ok (.aload_n 0, 1) := by decide +kernel
theorem dX10_block_34 : decode cX10_block 34 = .ok (.getfield 12, 3) := by decide +kernel
theorem dX10_block_37 : decode cX10_block 37 = .ok (.invokevirtual 97, 3) := by decide +kernel
theorem dX10_block_40 : decode cX10_block 40 = .ok (.aload_n 0, 1) := by decide +kernel
theorem dX10_block_41 : decode cX10_block 41 = .ok (.getfield 12, 3) := by decide +kernel
theorem dX10_block_44 : decode cX10_block 44 = .ok (.aload_n 0, 1) := by decide +kernel
theorem dX10_block_45 : decode cX10_block 45 = .ok (.getfield 16, 3) := by decide +kernel
theorem dX10_block_48 : decode cX10_block 48 = .ok (.invokevirtual 89, 3) := by decide +kernel
theorem dX10_block_51 : decode cX10_block 51 = .ok (.aload_n 0, 1) := by decide +kernel
theorem dX10_block_52 : decode cX10_block 52 = .ok (.getfield 37, 3) := by decide +kernel
theorem dX10_block_55 : decode cX10_block 55 = .ok (.iconst 0, 1) := by decide +kernel
theorem dX10_block_56 : decode cX10_block 56 = .ok (.putfield 85, 3) := by decide +kernel
theorem dX10_block_59 : decode cX10_block 59 = .ok (.aload_n 0, 1) := by decide +kernel
theorem dX10_block_60 : decode cX10_block 60 = .ok (.getfield 44, 3) := by decide +kernel
theorem dX10_block_63 : decode cX10_block 63 = .ok (.iconst 0, 1) := by decide +kernel
theorem dX10_block_64 : decode cX10_block 64 = .ok (.putfield 100, 3) := by decide +kernel
theorem dX10_block_67 : decode cX10_block 67 = .ok (.iload_n 1, 1) := by decide +kernel
theorem dX10_block_68 : decode cX10_block 68 = .ok (.ireturn, 1) := by decide +kernel
theorem dX10_sends_0 : decode cX10_sends 0 = .ok (.iload_n 1, 1) := by decide +kernel
theorem dX10_sends_1 : decode cX10_sends 1 = .ok (.iload_n 2, 1) := by decide +kernel
theorem dX10_sends_2 : decode cX10_sends 2 = .ok (.invokestatic 103, 3) := by decide +kernel
theorem dX10_sends_5 : decode cX10_sends 5 = .ok (.ifCond .eq 10, 3) := by decide +kernel
theorem dX10_sends_8 : decode cX10_sends 8 = .ok (.iload_n 3, 1) := by decide +kernel
theorem dX10_sends_9 : decode cX10_sends 9 = .ok (.invokestatic 107, 3) := by decide +kernel
theorem dX10_sends_12 : decode cX10_sends 12 = .ok (.ifCond .ne 5, 3) := by decide +kernel
theorem dX10_sends_15 : decode cX10_sends 15 = .ok (.iconst (-1), 1) := by decide +kernel
theorem dX10_sends_16 : decode cX10_sends 16 = .ok (.ireturn, 1) := by decide +kernel
theorem dX10_sends_17 : decode cX10_sends 17 = .ok (.aload_n 0, 1) := by decide +kernel
theorem dX10_sends_18 : decode cX10_sends 18 = .ok (.getfield 12, 3) := by decide +kernel
theorem dX10_sends_21 : decode cX10_sends 21 = .ok (.getfield 110, 3) := by decide +kernel
theorem dX10_sends_24 : decode cX10_sends 24 = .ok (.iload_n 1, 1) := by decide +kernel
theorem dX10_sends_25 : decode cX10_sends 25 = .ok (.bipush 16, 2) := by decide +kernel
theorem dX10_sends_27 : decode cX10_sends 27 = .ok (.imul, 1) := by decide +kernel
theorem dX10_sends_28 : decode cX10_sends 28 = .ok (.iload_n 2, 1) := by decide +kernel
theorem dX10_sends_29 : decode cX10_sends 29 = .ok (.iadd, 1) := by decide +kernel
theorem dX10_sends_30 : decode cX10_sends 30 = .ok (.iaload, 1) := by decide +kernel
theorem dX10_sends_31 : decode cX10_sends 31 = .ok (.istore 4, 2) := by decide +kernel
theorem dX10_sends_33 : decode cX10_sends 33 = .ok (.iload 4, 2) := by decide +kernel
theorem dX10_sends_35 : decode cX10_sends 35 = .ok (.iload_n 3, 1) := by decide +kernel
theorem dX10_sends_36 : decode cX10_sends 36 = .ok (.if_icmp .ne 6, 3) := by decide +kernel
theorem dX10_sends_39 : decode cX10_sends 39 = .ok (.bipush (-2), 2) := by decide +kernel
theorem dX10_sends_41 : decode cX10_sends 41 = .ok (.ireturn, 1) := by decide +kernel
theorem dX10_sends_42 : decode cX10_sends 42 = .ok (.aload_n 0, 1) := by decide +kernel
theorem dX10_sends_43 : decode cX10_sends 43 = .ok (.getfield 30, 3) := by decide +kernel
theorem dX10_sends_46 : decode cX10_sends 46 = .ok (.aload_n 0, 1) := by decide +kernel
theorem dX10_sends_47 : decode cX10_sends 47 = .ok (.getfield 12, 3) := by decide +kernel
theorem dX10_sends_50 : decode cX10_sends 50 = .ok (.invokevirtual 97, 3) := by decide +kernel
theorem dX10_sends_53 : decode cX10_sends 53 = .ok (.aload_n 0, 1) := by decide +kernel
theorem dX10_sends_54 : decode cX10_sends 54 = .ok (.getfield 12, 3) := by decide +kernel
theorem dX10_sends_57 : decode cX10_sends 57 = .ok (.getfield 110, 3) := by decide +kernel
theorem dX10_sends_60 : decode cX10_sends 60 = .ok (.iload_n 1, 1) := by decide +kernel
theorem dX10_sends_61 : decode cX10_sends 61 = .ok (.bipush 16, 2) := by decide +kernel
theorem dX10_sends_63 : decode cX10_sends 63 = .ok (.imul, 1) := by decide +kernel
theorem dX10_sends_64 : decode cX10_sends 64 = .ok (.iload_n 2, 1) := by decide +kernel
theorem dX10_sends_65 : decode cX10_sends 65 = .ok (.iadd, 1) := by decide +kernel
theorem dX10_sends_66 : decode cX10_sends 66 = .ok (.iload_n 3, 1) := by decide +kernel
theorem dX10_sends_67 : decode cX10_sends 67 = .ok (.iastore, 1) := by decide +kernel
theorem dX10_sends_68 : decode cX10_sends 68 = .ok (.iload 4, 2) := by decide +kernel
theorem dX10_sends_70 : decode cX10_sends 70 = .ok (.ireturn, 1) := by decide +kernel
theorem dX10_marks_0 : decode cX10_marks 0 = .ok (.iload_n 1, 1) := by decide +kernel
theorem dX10_marks_1 : decode cX10_marks 1 = .ok (.invokestatic 113, 3) := by decide +kernel
theorem dX10_marks_4 : decode cX10_marks 4 = .ok (.ifCond .eq 12, 3) := by decide +kernel
theorem dX10_marks_7 : decode cX10_marks 7 = .ok (.iload_n 2, 1) := by decide +kernel
theorem dX10_marks_8 : decode cX10_marks 8 = .ok (.ifCond .lt 8, 3) := by decide +kernel
theorem dX10_marks_11 : decode cX10_marks 11 = .ok (.iload_n 2, 1) := by decide +kernel
theorem dX10_marks_12 : decode cX10_marks 12 = .ok (.iconst 1, 1) := by decide +kernel
theorem dX10_marks_13 : decode cX10_marks 13 = .ok (.if_icmp .le 5, 3) := by decide +kernel
theorem dX10_marks_16 : decode cX10_marks 16 = .ok (.iconst (-1), 1) := by decide +kernel
theorem dX10_marks_17 : decode cX10_marks 17 = .ok (.ireturn, 1) := by decide +kernel
theorem dX10_marks_18 : decode cX10_marks 18 = .ok (.aload_n 0, 1) := by decide +kernel
theorem dX10_marks_19 : decode cX10_marks 19 = .ok (.getfield 12, 3) := by decide +kernel
theorem dX10_marks_22 : decode cX10_marks 22 = .ok (.iload_n 1, 1) := by decide +kernel
theorem dX10_marks_23 : decode cX10_marks 23 = .ok (.invokevirtual 116, 3) := by decide +kernel
theorem dX10_marks_26 : decode cX10_marks 26 = .ok (.iload_n 2, 1) := by decide +kernel
theorem dX10_marks_27 : decode cX10_marks 27 = .ok (.iconst 1, 1) := by decide +kernel
theorem dX10_marks_28 : decode cX10_marks 28 = .ok (.if_icmp .ne 7, 3) := by decide +kernel
theorem dX10_marks_31 : decode cX10_marks 31 = .ok (.iconst 1, 1) := by decide +kernel
theorem dX10_marks_32 : decode cX10_marks 32 = .ok (.goto 4, 3) := by decide +kernel
theorem dX10_marks_35 : decode cX10_marks 35 = .ok (.iconst 0, 1) := by decide +kernel
theorem dX10_marks_36 : decode cX10_marks 36 = .ok (.if_icmp .ne 6, 3) := by decide +kernel
theorem dX10_marks_39 : decode cX10_marks 39 = .ok (.bipush (-2), 2) := by decide +kernel
theorem dX10_marks_41 : decode cX10_marks 41 = .ok (.ireturn, 1) := by decide +kernel
theorem dX10_marks_42 : decode cX10_marks 42 = .ok (.aload_n 0, 1) := by decide +kernel
theorem dX10_marks_43 : decode cX10_marks 43 = .ok (.getfield 30, 3) := by decide +kernel
theorem dX10_marks_46 : decode cX10_marks 46 = .ok (.aload_n 0, 1) := by decide +kernel
theorem dX10_marks_47 : decode cX10_marks 47 = .ok (.getfield 12, 3) := by decide +kernel
theorem dX10_marks_50 : decode cX10_marks 50 = .ok (.invokevirtual 97, 3) := by decide +kernel
theorem dX10_marks_53 : decode cX10_marks 53 = .ok (.aload_n 0, 1) := by decide +kernel
theorem dX10_marks_54 : decode cX10_marks 54 = .ok (.getfield 12, 3) := by decide +kernel
theorem dX10_marks_57 : decode cX10_marks 57 = .ok (.iload_n 1, 1) := by decide +kernel
theorem dX10_marks_58 : decode cX10_marks 58 = .ok (.iload_n 2, 1) := by decide +kernel
theorem dX10_marks_59 : decode cX10_marks 59 = .ok (.iconst 1, 1) := by decide +kernel
theorem dX10_marks_60 : decode cX10_marks 60 = .ok (.if_icmp .ne 7, 3) := by decide +kernel
theorem dX10_marks_63 : decode cX10_marks 63 = .ok (.iconst 1, 1) := by decide +kernel
theorem dX10_marks_64 : decode cX10_marks 64 = .ok (.goto 4, 3) := by decide +kernel
theorem dX10_marks_67 : decode cX10_marks 67 = .ok (.iconst 0, 1) := by decide +kernel
theorem dX10_marks_68 : decode cX10_marks 68 = .ok (.invokevirtual 119, 3) := by decide +kernel
theorem dX10_marks_71 : decode cX10_marks 71 = .ok (.aload_n 0, 1) := by decide +kernel
theorem dX10_marks_72 : decode cX10_marks 72 = .ok (.getfield 12, 3) := by decide +kernel
theorem dX10_marks_75 : decode cX10_marks 75 = .ok (.getfield 123, 3) := by decide +kernel
theorem dX10_marks_78 : decode cX10_marks 78 = .ok (.invokestatic 126, 3) := by decide +kernel
theorem dX10_marks_81 : decode cX10_marks 81 = .ok (.ireturn, 1) := by decide +kernel
theorem dX10_adds_0 : decode cX10_adds 0 = .ok (.aload_n 0, 1) := by decide +kernel
theorem dX10_adds_1 : decode cX10_adds 1 = .ok (.iload_n 1, 1) := by decide +kernel
theorem dX10_adds_2 : decode cX10_adds 2 = .ok (.iload_n 2, 1) := by decide +kernel
theorem dX10_adds_3 : decode cX10_adds 3 = .ok (.iload_n 3, 1) := by decide +kernel
theorem dX10_adds_4 : decode cX10_adds 4 = .ok (.iload 4, 2) := by decide +kernel
theorem dX10_adds_6 : decode cX10_adds 6 = .ok (.iload 5, 2) := by decide +kernel
theorem dX10_adds_8 : decode cX10_adds 8 = .ok (.invokevirtual 132, 3) := by decide +kernel
theorem dX10_adds_11 : decode cX10_adds 11 = .ok (.getstatic 136, 3) := by decide +kernel
theorem dX10_adds_14 : decode cX10_adds 14 = .ok (.aload_n 0, 1) := by decide +kernel
theorem dX10_adds_15 : decode cX10_adds 15 = .ok (.getfield 67, 3) := by decide +kernel
theorem dX10_adds_18 : decode cX10_adds 18 = .ok (.invokestatic 139, 3) := by decide +kernel
theorem dX10_adds_21 : decode cX10_adds 21 = .ok (.ifCond .ne 5, 3) := by decide +kernel
theorem dX10_adds_24 : decode cX10_adds 24 = .ok (.iconst (-1), 1) := by decide +kernel
theorem dX10_adds_25 : decode cX10_adds 25 = .ok (.ireturn, 1) := by decide +kernel
theorem dX10_adds_26 : decode cX10_adds 26 = .ok (.aload_n 0, 1) := by decide +kernel
theorem dX10_adds_27 : decode cX10_adds 27 = .ok (.aload_n 0, 1) := by decide +kernel
theorem dX10_adds_28 : decode cX10_adds 28 = .ok (.getfield 12, 3) := by decide +kernel
theorem dX10_adds_31 : decode cX10_adds 31 = .ok (.getfield 143, 3) := by decide +kernel
theorem dX10_adds_34 : decode cX10_adds 34 = .ok (.invokevirtual 147, 3) := by decide +kernel
theorem dX10_adds_37 : decode cX10_adds 37 = .ok (.ireturn, 1) := by decide +kernel
theorem dX10_cuts_0 : decode cX10_cuts 0 = .ok (.aload_n 0, 1) := by decide +kernel
theorem dX10_cuts_1 : decode cX10_cuts 1 = .ok (.getfield 12, 3) := by decide +kernel
theorem dX10_cuts_4 : decode cX10_cuts 4 = .ok (.getfield 143, 3) := by decide +kernel
theorem dX10_cuts_7 : decode cX10_cuts 7 = .ok (.getfield 151, 3) := by decide +kernel
theorem dX10_cuts_10 : decode cX10_cuts 10 = .ok (.istore_n 1, 1) := by decide +kernel
theorem dX10_cuts_11 : decode cX10_cuts 11 = .ok (.iload_n 1, 1) := by decide +kernel
theorem dX10_cuts_12 : decode cX10_cuts 12 = .ok (.ifCond .ne 6, 3) := by decide +kernel
theorem dX10_cuts_15 : decode cX10_cuts 15 = .ok (.bipush (-2), 2) := by decide +kernel
theorem dX10_cuts_17 : decode cX10_cuts 17 = .ok (.ireturn, 1) := by decide +kernel
theorem dX10_cuts_18 : decode cX10_cuts 18 = .ok (.aload_n 0, 1) := by decide +kernel
theorem dX10_cuts_19 : decode cX10_cuts 19 = .ok (.getfield 30, 3) := by decide +kernel
theorem dX10_cuts_22 : decode cX10_cuts 22 = .ok (.aload_n 0, 1) := by decide +kernel
theorem dX10_cuts_23 : decode cX10_cuts 23 = .ok (.getfield 12, 3) := by decide +kernel
theorem dX10_cuts_26 : decode cX10_cuts 26 = .ok (.invokevirtual 97, 3) := by decide +kernel
theorem dX10_cuts_29 : decode cX10_cuts 29 = .ok (.aload_n 0, 1) := by decide +kernel
theorem dX10_cuts_30 : decode cX10_cuts 30 = .ok (.getfield 12, 3) := by decide +kernel
theorem dX10_cuts_33 : decode cX10_cuts 33 = .ok (.getfield 143, 3) := by decide +kernel
theorem dX10_cuts_36 : decode cX10_cuts 36 = .ok (.iload_n 1, 1) := by decide +kernel
theorem dX10_cuts_37 : decode cX10_cuts 37 = .ok (.iconst 1, 1) := by decide +kernel
theorem dX10_cuts_38 : decode cX10_cuts 38 = .ok (.isub, 1) := by decide +kernel
theorem dX10_cuts_39 : decode cX10_cuts 39 = .ok (.invokevirtual 152, 3) := by decide +kernel
theorem dX10_cuts_42 : decode cX10_cuts 42 = .ok (.iload_n 1, 1) := by decide +kernel
theorem dX10_cuts_43 : decode cX10_cuts 43 = .ok (.iconst 1, 1) := by decide +kernel
theorem dX10_cuts_44 : decode cX10_cuts 44 = .ok (.isub, 1) := by decide +kernel
theorem dX10_cuts_45 : decode cX10_cuts 45 = .ok (.ireturn, 1) := by decide +kernel
theorem dX10_stages_0 : decode cX10_stages 0 = .ok (.aload_n 0, 1) := by decide +kernel
theorem dX10_stages_1 : decode cX10_stages 1 = .ok (.iload_n 1, 1) := by decide +kernel
theorem dX10_stages_2 : decode cX10_stages 2 = .ok (.iload_n 2, 1) := by decide +kernel
theorem dX10_stages_3 : decode cX10_stages 3 = .ok (.iload_n 3, 1) := by decide +kernel
theorem dX10_stages_4 : decode cX10_stages 4 = .ok (.iload 4, 2) := by decide +kernel
theorem dX10_stages_6 : decode cX10_stages 6 = .ok (.iload 5, 2) := by decide +kernel
theorem dX10_stages_8 : decode cX10_stages 8 = .ok (.invokevirtual 132, 3) := by decide +kernel
theorem dX10_stages_11 : decode cX10_stages 11 = .ok (.getstatic 156, 3) := by decide +kernel
theorem dX10_stages_14 : decode cX10_stages 14 = .ok (.aload_n 0, 1) := by decide +kernel
theorem dX10_stages_15 : decode cX10_stages 15 = .ok (.getfield 67, 3) := by decide +kernel
theorem dX10_stages_18 : decode cX10_stages 18 = .ok (.invokestatic 139, 3) := by decide +kernel
theorem dX10_stages_21 : decode cX10_stages 21 = .ok (.ifCond .ne 5, 3) := by decide +kernel
theorem dX10_stages_24 : decode cX10_stages 24 = .ok (.iconst (-1), 1) := by decide +kernel
theorem dX10_stages_25 : decode cX10_stages 25 = .ok (.ireturn, 1) := by decide +kernel
theorem dX10_stages_26 : decode cX10_stages 26 = .ok (.aload_n 0, 1) := by decide +kernel
theorem dX10_stages_27 : decode cX10_stages 27 = .ok (.aload_n 0, 1) := by decide +kernel
theorem dX10_stages_28 : decode cX10_stages 28 = .ok (.getfield 12, 3) := by decide +kernel
theorem dX10_stages_31 : decode cX10_stages 31 = .ok (.getfield 159, 3) := by decide +kernel
theorem dX10_stages_34 : decode cX10_stages 34 = .ok (.invokevirtual 147, 3) := by decide +kernel
theorem dX10_stages_37 : decode cX10_stages 37 = .ok (.ireturn, 1) := by decide +kernel
theorem dX10_drops_0 : decode cX10_drops 0 = .ok (.aload_n 0, 1) := by decide +kernel
theorem dX10_drops_1 : decode cX10_drops 1 = .ok (.getfield 12, 3) := by decide +kernel
theorem dX10_drops_4 : decode cX10_drops 4 = .ok (.getfield 159, 3) := by decide +kernel
theorem dX10_drops_7 : decode cX10_drops 7 = .ok (.getfield 151, 3) := by decide +kernel
theorem dX10_drops_10 : decode cX10_drops 10 = .ok (.istore_n 2, 1) := by decide +kernel
theorem dX10_drops_11 : decode cX10_drops 11 = .ok (.iload_n 1, 1) := by decide +kernel
theorem dX10_drops_12 : decode cX10_drops 12 = .ok (.ifCond .lt 8, 3) := by decide +kernel
theorem dX10_drops_15 : decode cX10_drops 15 = .ok (.iload_n 1, 1) := by decide +kernel
theorem dX10_drops_16 : decode cX10_drops 16 = .ok (.iload_n 2, 1) := by decide +kernel
theorem dX10_drops_17 : decode cX10_drops 17 = .ok (.if_icmp .lt 5, 3) := by decide +kernel
theorem dX10_drops_20 : decode cX10_drops 20 = .ok (.iconst (-1), 1) := by decide +kernel
theorem dX10_drops_21 : decode cX10_drops 21 = .ok (.ireturn, 1) := by decide +kernel
theorem dX10_drops_22 : decode cX10_drops 22 = .ok (.aload_n 0, 1) := by decide +kernel
theorem dX10_drops_23 : decode cX10_drops 23 = .ok (.getfield 30, 3) := by decide +kernel
theorem dX10_drops_26 : decode cX10_drops 26 = .ok (.aload_n 0, 1) := by decide +kernel
theorem dX10_drops_27 : decode cX10_drops 27 = .ok (.getfield 12, 3) := by decide +kernel
theorem dX10_drops_30 : decode cX10_drops 30 = .ok (.invokevirtual 97, 3) := by decide +kernel
theorem dX10_drops_33 : decode cX10_drops 33 = .ok (.aload_n 0, 1) := by decide +kernel
theorem dX10_drops_34 : decode cX10_drops 34 = .ok (.getfield 12, 3) := by decide +kernel
theorem dX10_drops_37 : decode cX10_drops 37 = .ok (.getfield 159, 3) := by decide +kernel
theorem dX10_drops_40 : decode cX10_drops 40 = .ok (.iload_n 1, 1) := by decide +kernel
theorem dX10_drops_41 : decode cX10_drops 41 = .ok (.invokevirtual 152, 3) := by decide +kernel
theorem dX10_drops_44 : decode cX10_drops 44 = .ok (.iload_n 2, 1) := by decide +kernel
theorem dX10_drops_45 : decode cX10_drops 45 = .ok (.iconst 1, 1) := by decide +kernel
theorem dX10_drops_46 : decode cX10_drops 46 = .ok (.isub, 1) := by decide +kernel
theorem dX10_drops_47 : decode cX10_drops 47 = .ok (.ireturn, 1) := by decide +kernel
theorem dX10_learns_0 : decode cX10_learns 0 = .ok (.iload_n 1, 1) := by decide +kernel
theorem dX10_learns_1 : decode cX10_learns 1 = .ok (.iload_n 2, 1) := by decide +kernel
theorem dX10_learns_2 : decode cX10_learns 2 = .ok (.invokestatic 162, 3) := by decide +kernel
theorem dX10_learns_5 : decode cX10_learns 5 = .ok (.ifCond .ne 5, 3) := by decide +kernel
theorem dX10_learns_8 : decode cX10_learns 8 = .ok (.iconst (-1), 1) := by decide +kernel
theorem dX10_learns_9 : decode cX10_learns 9 = .ok (.ireturn, 1) := by decide +kernel
theorem dX10_learns_10 : decode cX10_learns 10 = .ok (.aload_n 0, 1) := by decide +kernel
theorem dX10_learns_11 : decode cX10_learns 11 = .ok (.iload_n 1, 1) := by decide +kernel
theorem dX10_learns_12 : decode cX10_learns 12 = .ok (.iload_n 2, 1) := by decide +kernel
theorem dX10_learns_13 : decode cX10_learns 13 = .ok (.invokevirtual 165, 3) := by decide +kernel
theorem dX10_learns_16 : decode cX10_learns 16 = .ok (.ifCond .ne 6, 3) := by decide +kernel
theorem dX10_learns_19 : decode cX10_learns 19 = .ok (.bipush (-2), 2) := by decide +kernel
theorem dX10_learns_21 : decode cX10_learns 21 = .ok (.ireturn, 1) := by decide +kernel
theorem dX10_learns_22 : decode cX10_learns 22 = .ok (.aload_n 0, 1) := by decide +kernel
theorem dX10_learns_23 : decode cX10_learns 23 = .ok (.getfield 74, 3) := by decide +kernel
theorem dX10_learns_26 : decode cX10_learns 26 = .ok (.invokevirtual 168, 3) := by decide +kernel
theorem dX10_learns_29 : decode cX10_learns 29 = .ok (.aload_n 0, 1) := by decide +kernel
theorem dX10_learns_30 : decode cX10_learns 30 = .ok (.iconst 1, 1) := by decide +kernel
theorem dX10_learns_31 : decode cX10_learns 31 = .ok (.aload_n 0, 1) := by decide +kernel
theorem dX10_learns_32 : decode cX10_learns 32 = .ok (.getfield 74, 3) := by decide +kernel
theorem dX10_learns_35 : decode cX10_learns 35 = .ok (.getfield 171, 3) := by decide +kernel
theorem dX10_learns_38 : decode cX10_learns 38 = .ok (.aload_n 0, 1) := by decide +kernel
theorem dX10_learns_39 : decode cX10_learns 39 = .ok (.getfield 74, 3) := by decide +kernel
theorem dX10_learns_42 : decode cX10_learns 42 = .ok (.getfield 174, 3) := by decide +kernel
theorem dX10_learns_45 : decode cX10_learns 45 = .ok (.aload_n 0, 1) := by decide +kernel
theorem dX10_learns_46 : decode cX10_learns 46 = .ok (.getfield 74, 3) := by decide +kernel
theorem dX10_learns_49 : decode cX10_learns 49 = .ok (.getfield 177, 3) := by decide +kernel
theorem dX10_learns_52 : decode cX10_learns 52 = .ok (.aload_n 0, 1) := by decide +kernel
theorem dX10_learns_53 : decode cX10_learns 53 = .ok (.getfield 74, 3) := by decide +kernel
theorem dX10_learns_56 : decode cX10_learns 56 = .ok (.getfield 180, 3) := by decide +kernel
theorem dX10_learns_59 : decode cX10_learns 59 = .ok (.invokevirtual 132, 3) := by decide +kernel
theorem dX10_learns_62 : decode cX10_learns 62 = .ok (.aload_n 0, 1) := by decide +kernel
theorem dX10_learns_63 : decode cX10_learns 63 = .ok (.aload_n 0, 1) := by decide +kernel
theorem dX10_learns_64 : decode cX10_learns 64 = .ok (.getfield 12, 3) := by decide +kernel
theorem dX10_learns_67 : decode cX10_learns 67 = .ok (.getfield 159, 3) := by decide +kernel
theorem dX10_learns_70 : decode cX10_learns 70 = .ok (.invokevirtual 147, 3) := by decide +kernel
theorem dX10_learns_73 : decode cX10_learns 73 = .ok (.ireturn, 1) := by decide +kernel
theorem dX10_orders_0 : decode cX10_orders 0 = .ok (.aload_n 0, 1) := by decide +kernel
theorem dX10_orders_1 : decode cX10_orders 1 = .ok (.invokevirtual 183, 3) := by decide +kernel
theorem dX10_orders_4 : decode cX10_orders 4 = .ok (.istore_n 1, 1) := by decide +kernel
theorem dX10_orders_5 : decode cX10_orders 5 = .ok (.aload_n 0, 1) := by decide +kernel
theorem dX10_orders_6 : decode cX10_orders 6 = .ok (.getfield 61, 3) := by decide +kernel
theorem dX10_orders_9 : decode cX10_orders 9 = .ok (.invokevirtual 187, 3) := by decide +kernel
theorem dX10_orders_12 : decode cX10_orders 12 = .ok (.ifCond .eq 6, 3) := by decide +kernel
theorem dX10_orders_15 : decode cX10_orders 15 = .ok (.bipush (-2), 2) := by decide +kernel
theorem dX10_orders_17 : decode cX10_orders 17 = .ok (.ireturn, 1) := by decide +kernel
theorem dX10_orders_18 : decode cX10_orders 18 = .ok (.aload_n 0, 1) := by decide +kernel
theorem dX10_orders_19 : decode cX10_orders 19 = .ok (.getfield 30, 3) := by decide +kernel
theorem dX10_orders_22 : decode cX10_orders 22 = .ok (.aload_n 0, 1) := by decide +kernel
theorem dX10_orders_23 : decode cX10_orders 23 = .ok (.getfield 12, 3) := by decide +kernel
theorem dX10_orders_26 : decode cX10_orders 26 = .ok (.invokevirtual 97, 3) := by decide +kernel
theorem dX10_orders_29 : decode cX10_orders 29 = .ok (.aload_n 0, 1) := by decide +kernel
theorem dX10_orders_30 : decode cX10_orders 30 = .ok (.getfield 16, 3) := by decide +kernel
theorem dX10_orders_33 : decode cX10_orders 33 = .ok (.getfield 159, 3) := by decide +kernel
theorem dX10_orders_36 : decode cX10_orders 36 = .ok (.aload_n 0, 1) := by decide +kernel
theorem dX10_orders_37 : decode cX10_orders 37 = .ok (.getfield 12, 3) := by decide +kernel
theorem dX10_orders_40 : decode cX10_orders 40 = .ok (.getfield 159, 3) := by decide +kernel
theorem dX10_orders_43 : decode cX10_orders 43 = .ok (.invokevirtual 191, 3) := by decide +kernel
theorem dX10_orders_46 : decode cX10_orders 46 = .ok (.aload_n 0, 1) := by decide +kernel
theorem dX10_orders_47 : decode cX10_orders 47 = .ok (.getfield 12, 3) := by decide +kernel
theorem dX10_orders_50 : decode cX10_orders 50 = .ok (.getfield 159, 3) := by decide +kernel
theorem dX10_orders_53 : decode cX10_orders 53 = .ok (.aload_n 0, 1) := by decide +kernel
theorem dX10_orders_54 : decode cX10_orders 54 = .ok (.getfield 16, 3) := by decide +kernel
theorem dX10_orders_57 : decode cX10_orders 57 = .ok (.getfield 159, 3) := by decide +kernel
theorem dX10_orders_60 : decode cX10_orders 60 = .ok (.aload_n 0, 1) := by decide +kernel
theorem dX10_orders_61 : decode cX10_orders 61 = .ok (.getfield 61, 3) := by decide +kernel
theorem dX10_orders_64 : decode cX10_orders 64 = .ok (.getfield 194, 3) := by decide +kernel
theorem dX10_orders_67 : decode cX10_orders 67 = .ok (.invokevirtual 197, 3) := by decide +kernel
theorem dX10_orders_70 : decode cX10_orders 70 = .ok (.iload_n 1, 1) := by decide +kernel
theorem dX10_orders_71 : decode cX10_orders 71 = .ok (.ireturn, 1) := by decide +kernel
theorem dX10_hears_0 : decode cX10_hears 0 = .ok (.aload_n 0, 1) := by decide +kernel
theorem dX10_hears_1 : decode cX10_hears 1 = .ok (.aload_n 0, 1) := by decide +kernel
theorem dX10_hears_2 : decode cX10_hears 2 = .ok (.getfield 12, 3) := by decide +kernel
theorem dX10_hears_5 : decode cX10_hears 5 = .ok (.getfield 159, 3) := by decide +kernel
theorem dX10_hears_8 : decode cX10_hears 8 = .ok (.getfield 151, 3) := by decide +kernel
theorem dX10_hears_11 : decode cX10_hears 11 = .ok (.invokevirtual 201, 3) := by decide +kernel
theorem dX10_hears_14 : decode cX10_hears 14 = .ok (.istore_n 1, 1) := by decide +kernel
theorem dX10_hears_15 : decode cX10_hears 15 = .ok (.aload_n 0, 1) := by decide +kernel
theorem dX10_hears_16 : decode cX10_hears 16 = .ok (.getfield 30, 3) := by decide +kernel
theorem dX10_hears_19 : decode cX10_hears 19 = .ok (.aload_n 0, 1) := by decide +kernel
theorem dX10_hears_20 : decode cX10_hears 20 = .ok (.getfield 12, 3) := by decide +kernel
theorem dX10_hears_23 : decode cX10_hears 23 = .ok (.invokevirtual 97, 3) := by decide +kernel
theorem dX10_hears_26 : decode cX10_hears 26 = .ok (.aload_n 0, 1) := by decide +kernel
theorem dX10_hears_27 : decode cX10_hears 27 = .ok (.getfield 12, 3) := by decide +kernel
theorem dX10_hears_30 : decode cX10_hears 30 = .ok (.dup, 1) := by decide +kernel
theorem dX10_hears_31 : decode cX10_hears 31 = .ok (.getfield 204, 3) := by decide +kernel
theorem dX10_hears_34 : decode cX10_hears 34 = .ok (.iconst 1, 1) := by decide +kernel
theorem dX10_hears_35 : decode cX10_hears 35 = .ok (.iadd, 1) := by decide +kernel
theorem dX10_hears_36 : decode cX10_hears 36 = .ok (.putfield 204, 3) := by decide +kernel
theorem dX10_hears_39 : decode cX10_hears 39 = .ok (.aload_n 0, 1) := by decide +kernel
theorem dX10_hears_40 : decode cX10_hears 40 = .ok (.getfield 12, 3) := by decide +kernel
theorem dX10_hears_43 : decode cX10_hears 43 = .ok (.ldc 207, 2) := by decide +kernel
theorem dX10_hears_45 : decode cX10_hears 45 = .ok (.aload_n 0, 1) := by decide +kernel
theorem dX10_hears_46 : decode cX10_hears 46 = .ok (.getfield 12, 3) := by decide +kernel
theorem dX10_hears_49 : decode cX10_hears 49 = .ok (.getfield 208, 3) := by decide +kernel
theorem dX10_hears_52 : decode cX10_hears 52 = .ok (.fmul, 1) := by decide +kernel
theorem dX10_hears_53 : decode cX10_hears 53 = .ok (.ldc 212, 2) := by decide +kernel
theorem dX10_hears_55 : decode cX10_hears 55 = .ok (.iload_n 1, 1) := by decide +kernel
theorem dX10_hears_56 : decode cX10_hears 56 = .ok (.i2f, 1) := by decide +kernel
theorem dX10_hears_57 : decode cX10_hears 57 = .ok (.fmul, 1) := by decide +kernel
theorem dX10_hears_58 : decode cX10_hears 58 = .ok (.fadd, 1) := by decide +kernel
theorem dX10_hears_59 : decode cX10_hears 59 = .ok (.putfield 208, 3) := by decide +kernel
theorem dX10_hears_62 : decode cX10_hears 62 = .ok (.iload_n 1, 1) := by decide +kernel
theorem dX10_hears_63 : decode cX10_hears 63 = .ok (.ireturn, 1) := by decide +kernel
theorem dX10_undo_0 : decode cX10_undo 0 = .ok (.aload_n 0, 1) := by decide +kernel
theorem dX10_undo_1 : decode cX10_undo 1 = .ok (.getfield 30, 3) := by decide +kernel
theorem dX10_undo_4 : decode cX10_undo 4 = .ok (.getfield 213, 3) := by decide +kernel
theorem dX10_undo_7 : decode cX10_undo 7 = .ok (.ifCond .ne 6, 3) := by decide +kernel
theorem dX10_undo_10 : decode cX10_undo 10 = .ok (.bipush (-2), 2) := by decide +kernel
theorem dX10_undo_12 : decode cX10_undo 12 = .ok (.ireturn, 1) := by decide +kernel
theorem dX10_undo_13 : decode cX10_undo 13 = .ok (.aload_n 0, 1) := by decide +kernel
theorem dX10_undo_14 : decode cX10_undo 14 = .ok (.getfield 30, 3) := by decide +kernel
theorem dX10_undo_17 : decode cX10_undo 17 = .ok (.aload_n 0, 1) := by decide +kernel
theorem dX10_undo_18 : decode cX10_undo 18 = .ok (.getfield 12, 3) := by decide +kernel
theorem dX10_undo_21 : decode cX10_undo 21 = .ok (.invokevirtual 214, 3) := by decide +kernel
theorem dX10_undo_24 : decode cX10_undo 24 = .ok (.aload_n 0, 1) := by decide +kernel
theorem dX10_undo_25 : decode cX10_undo 25 = .ok (.getfield 30, 3) := by decide +kernel
theorem dX10_undo_28 : decode cX10_undo 28 = .ok (.getfield 213, 3) := by decide +kernel
theorem dX10_undo_31 : decode cX10_undo 31 = .ok (.ireturn, 1) := by decide +kernel
theorem dX10_at_0 : decode cX10_at 0 = .ok (.iload_n 1, 1) := by decide +kernel
theorem dX10_at_1 : decode cX10_at 1 = .ok (.iload_n 2, 1) := by decide +kernel
theorem dX10_at_2 : decode cX10_at 2 = .ok (.invokestatic 103, 3) := by decide +kernel
theorem dX10_at_5 : decode cX10_at 5 = .ok (.ifCond .eq 12, 3) := by decide +kernel
theorem dX10_at_8 : decode cX10_at 8 = .ok (.iload_n 3, 1) := by decide +kernel
theorem dX10_at_9 : decode cX10_at 9 = .ok (.ifCond .lt 8, 3) := by decide +kernel
theorem dX10_at_12 : decode cX10_at 12 = .ok (.iload_n 3, 1) := by decide +kernel
theorem dX10_at_13 : decode cX10_at 13 = .ok (.iconst 3, 1) := by decide +kernel
theorem dX10_at_14 : decode cX10_at 14 = .ok (.if_icmp .le 5, 3) := by decide +kernel
theorem dX10_at_17 : decode cX10_at 17 = .ok (.iconst (-1), 1) := by decide +kernel
theorem dX10_at_18 : decode cX10_at 18 = .ok (.ireturn, 1) := by decide +kernel
theorem dX10_at_19 : decode cX10_at 19 = .ok (.iload_n 1, 1) := by decide +kernel
theorem dX10_at_20 : decode cX10_at 20 = .ok (.bipush 16, 2) := by decide +kernel
theorem dX10_at_22 : decode cX10_at 22 = .ok (.imul, 1) := by decide +kernel
theorem dX10_at_23 : decode cX10_at 23 = .ok (.iload_n 2, 1) := by decide +kernel
theorem dX10_at_24 : decode cX10_at 24 = .ok (.iadd, 1) := by decide +kernel
theorem dX10_at_25 : decode cX10_at 25 = .ok (.istore 4, 2) := by decide +kernel
theorem dX10_at_27 : decode cX10_at 27 = .ok (.iload_n 3, 1) := by decide +kernel
theorem dX10_at_28 : decode cX10_at 28 = .ok (.ifCond .ne 14, 3) := by decide +kernel
theorem dX10_at_31 : decode cX10_at 31 = .ok (.aload_n 0, 1) := by decide +kernel
theorem dX10_at_32 : decode cX10_at 32 = .ok (.getfield 12, 3) := by decide +kernel
theorem dX10_at_35 : decode cX10_at 35 = .ok (.getfield 110, 3) := by decide +kernel
theorem dX10_at_38 : decode cX10_at 38 = .ok (.iload 4, 2) := by decide +kernel
theorem dX10_at_40 : decode cX10_at 40 = .ok (.iaload, 1) := by decide +kernel
theorem dX10_at_41 : decode cX10_at 41 = .ok (.ireturn, 1) := by decide +kernel
theorem dX10_at_42 : decode cX10_at 42 = .ok (.aload_n 0, 1) := by decide +kernel
theorem dX10_at_43 : decode cX10_at 43 = .ok (.getfield 51, 3) := by decide +kernel
theorem dX10_at_46 : decode cX10_at 46 = .ok (.aload_n 0, 1) := by decide +kernel
theorem dX10_at_47 : decode cX10_at 47 = .ok (.getfield 12, 3) := by decide +kernel
theorem dX10_at_50 : decode cX10_at 50 = .ok (.iload_n 3, 1) := by decide +kernel
theorem dX10_at_51 : decode cX10_at 51 = .ok (.iconst 1, 1) := by decide +kernel
theorem dX10_at_52 : decode cX10_at 52 = .ok (.if_icmp .ne 7, 3) := by decide +kernel
theorem dX10_at_55 : decode cX10_at 55 = .ok (.iconst 0, 1) := by decide +kernel
theorem dX10_at_56 : decode cX10_at 56 = .ok (.goto 13, 3) := by decide +kernel
theorem dX10_at_59 : decode cX10_at 59 = .ok (.aload_n 0, 1) := by decide +kernel
theorem dX10_at_60 : decode cX10_at 60 = .ok (.getfield 12, 3) := by decide +kernel
theorem dX10_at_63 : decode cX10_at 63 = .ok (.getfield 159, 3) := by decide +kernel
theorem dX10_at_66 : decode cX10_at 66 = .ok (.getfield 151, 3) := by decide +kernel
theorem dX10_at_69 : decode cX10_at 69 = .ok (.invokevirtual 217, 3) := by decide +kernel
theorem dX10_at_72 : decode cX10_at 72 = .ok (.aload_n 0, 1) := by decide +kernel
theorem dX10_at_73 : decode cX10_at 73 = .ok (.getfield 51, 3) := by decide +kernel
theorem dX10_at_76 : decode cX10_at 76 = .ok (.getfield 221, 3) := by decide +kernel
theorem dX10_at_79 : decode cX10_at 79 = .ok (.iload 4, 2) := by decide +kernel
theorem dX10_at_81 : decode cX10_at 81 = .ok (.iaload, 1) := by decide +kernel
theorem dX10_at_82 : decode cX10_at 82 = .ok (.istore 5, 2) := by decide +kernel
theorem dX10_at_84 : decode cX10_at 84 = .ok (.iload_n 3, 1) := by decide +kernel
theorem dX10_at_85 : decode cX10_at 85 = .ok (.iconst 3, 1) := by decide +kernel
theorem dX10_at_86 : decode cX10_at 86 = .ok (.if_icmp .ne 11, 3) := by decide +kernel
theorem dX10_at_89 : decode cX10_at 89 = .ok (.iload 5, 2) := by decide +kernel
theorem dX10_at_91 : decode cX10_at 91 = .ok (.invokestatic 224, 3) := by decide +kernel
theorem dX10_at_94 : decode cX10_at 94 = .ok (.goto 5, 3) := by decide +kernel
theorem dX10_at_97 : decode cX10_at 97 = .ok (.iload 5, 2) := by decide +kernel
theorem dX10_at_99 : decode cX10_at 99 = .ok (.ireturn, 1) := by decide +kernel
theorem dX10_deed_0 : decode cX10_deed 0 = .ok (.aload_n 0, 1) := by decide +kernel
theorem dX10_deed_1 : decode cX10_deed 1 = .ok (.getfield 12, 3) := by decide +kernel
theorem dX10_deed_4 : decode cX10_deed 4 = .ok (.getfield 143, 3) := by decide +kernel
theorem dX10_deed_7 : decode cX10_deed 7 = .ok (.iload_n 1, 1) := by decide +kernel
theorem dX10_deed_8 : decode cX10_deed 8 = .ok (.iload_n 2, 1) := by decide +kernel
theorem dX10_deed_9 : decode cX10_deed 9 = .ok (.invokevirtual 229, 3) := by decide +kernel
theorem dX10_deed_12 : decode cX10_deed 12 = .ok (.ireturn, 1) := by decide +kernel
theorem dX10_stage_0 : decode cX10_stage 0 = .ok (.aload_n 0, 1) := by decide +kernel
theorem dX10_stage_1 : decode cX10_stage 1 = .ok (.getfield 12, 3) := by decide +kernel
theorem dX10_stage_4 : decode cX10_stage 4 = .ok (.getfield 159, 3) := by decide +kernel
theorem dX10_stage_7 : decode cX10_stage 7 = .ok (.iload_n 1, 1) := by decide +kernel
theorem dX10_stage_8 : decode cX10_stage 8 = .ok (.iload_n 2, 1) := by decide +kernel
theorem dX10_stage_9 : decode cX10_stage 9 = .ok (.invokevirtual 229, 3) := by decide +kernel
theorem dX10_stage_12 : decode cX10_stage 12 = .ok (.ireturn, 1) := by decide +kernel
theorem dX10_wrong_0 : decode cX10_wrong 0 = .ok (.iload_n 1, 1) := by decide +kernel
theorem dX10_wrong_1 : decode cX10_wrong 1 = .ok (.ifCond .lt 17, 3) := by decide +kernel
theorem dX10_wrong_4 : decode cX10_wrong 4 = .ok (.iload_n 1, 1) := by decide +kernel
theorem dX10_wrong_5 : decode cX10_wrong 5 = .ok (.aload_n 0, 1) := by decide +kernel
theorem dX10_wrong_6 : decode cX10_wrong 6 = .ok (.getfield 12, 3) := by decide +kernel
theorem dX10_wrong_9 : decode cX10_wrong 9 = .ok (.getfield 159, 3) := by decide +kernel
theorem dX10_wrong_12 : decode cX10_wrong 12 = .ok (.getfield 151, 3) := by decide +kernel
theorem dX10_wrong_15 : decode cX10_wrong 15 = .ok (.if_icmp .le 5, 3) := by decide +kernel
theorem dX10_wrong_18 : decode cX10_wrong 18 = .ok (.iconst (-1), 1) := by decide +kernel
theorem dX10_wrong_19 : decode cX10_wrong 19 = .ok (.ireturn, 1) := by decide +kernel
theorem dX10_wrong_20 : decode cX10_wrong 20 = .ok (.aload_n 0, 1) := by decide +kernel
theorem dX10_wrong_21 : decode cX10_wrong 21 = .ok (.iload_n 1, 1) := by decide +kernel
theorem dX10_wrong_22 : decode cX10_wrong 22 = .ok (.invokevirtual 201, 3) := by decide +kernel
theorem dX10_wrong_25 : decode cX10_wrong 25 = .ok (.ireturn, 1) := by decide +kernel
theorem dX10_loss_0 : decode cX10_loss 0 = .ok (.ldc 233, 2) := by decide +kernel
theorem dX10_loss_2 : decode cX10_loss 2 = .ok (.aload_n 0, 1) := by decide +kernel
theorem dX10_loss_3 : decode cX10_loss 3 = .ok (.getfield 12, 3) := by decide +kernel
theorem dX10_loss_6 : decode cX10_loss 6 = .ok (.getfield 208, 3) := by decide +kernel
theorem dX10_loss_9 : decode cX10_loss 9 = .ok (.fmul, 1) := by decide +kernel
theorem dX10_loss_10 : decode cX10_loss 10 = .ok (.f2i, 1) := by decide +kernel
theorem dX10_loss_11 : decode cX10_loss 11 = .ok (.ireturn, 1) := by decide +kernel
theorem dX10_taps_0 : decode cX10_taps 0 = .ok (.iload_n 1, 1) := by decide +kernel
theorem dX10_taps_1 : decode cX10_taps 1 = .ok (.iload_n 2, 1) := by decide +kernel
theorem dX10_taps_2 : decode cX10_taps 2 = .ok (.invokestatic 162, 3) := by decide +kernel
theorem dX10_taps_5 : decode cX10_taps 5 = .ok (.ifCond .eq 12, 3) := by decide +kernel
theorem dX10_taps_8 : decode cX10_taps 8 = .ok (.iload_n 3, 1) := by decide +kernel
theorem dX10_taps_9 : decode cX10_taps 9 = .ok (.ifCond .lt 8, 3) := by decide +kernel
theorem dX10_taps_12 : decode cX10_taps 12 = .ok (.iload_n 3, 1) := by decide +kernel
theorem dX10_taps_13 : decode cX10_taps 13 = .ok (.iconst 3, 1) := by decide +kernel
theorem dX10_taps_14 : decode cX10_taps 14 = .ok (.if_icmp .le 5, 3) := by decide +kernel
theorem dX10_taps_17 : decode cX10_taps 17 = .ok (.iconst (-1), 1) := by decide +kernel
theorem dX10_taps_18 : decode cX10_taps 18 = .ok (.ireturn, 1) := by decide +kernel
theorem dX10_taps_19 : decode cX10_taps 19 = .ok (.aload_n 0, 1) := by decide +kernel
theorem dX10_taps_20 : decode cX10_taps 20 = .ok (.iload_n 1, 1) := by decide +kernel
theorem dX10_taps_21 : decode cX10_taps 21 = .ok (.iload_n 2, 1) := by decide +kernel
theorem dX10_taps_22 : decode cX10_taps 22 = .ok (.invokevirtual 165, 3) := by decide +kernel
theorem dX10_taps_25 : decode cX10_taps 25 = .ok (.ifCond .eq 14, 3) := by decide +kernel
theorem dX10_taps_28 : decode cX10_taps 28 = .ok (.aload_n 0, 1) := by decide +kernel
theorem dX10_taps_29 : decode cX10_taps 29 = .ok (.getfield 74, 3) := by decide +kernel
theorem dX10_taps_32 : decode cX10_taps 32 = .ok (.iload_n 3, 1) := by decide +kernel
theorem dX10_taps_33 : decode cX10_taps 33 = .ok (.invokevirtual 234, 3) := by decide +kernel
theorem dX10_taps_36 : decode cX10_taps 36 = .ok (.goto 5, 3) := by decide +kernel
theorem dX10_taps_39 : decode cX10_taps 39 = .ok (.bipush (-9), 2) := by decide +kernel
theorem dX10_taps_41 : decode cX10_taps 41 = .ok (.ireturn, 1) := by decide +kernel
theorem dX10_skew_0 : decode cX10_skew 0 = .ok (.aload_n 0, 1) := by decide +kernel
theorem dX10_skew_1 : decode cX10_skew 1 = .ok (.getfield 51, 3) := by decide +kernel
theorem dX10_skew_4 : decode cX10_skew 4 = .ok (.aload_n 0, 1) := by decide +kernel
theorem dX10_skew_5 : decode cX10_skew 5 = .ok (.getfield 12, 3) := by decide +kernel
theorem dX10_skew_8 : decode cX10_skew 8 = .ok (.aload_n 0, 1) := by decide +kernel
theorem dX10_skew_9 : decode cX10_skew 9 = .ok (.getfield 12, 3) := by decide +kernel
theorem dX10_skew_12 : decode cX10_skew 12 = .ok (.getfield 159, 3) := by decide +kernel
theorem dX10_skew_15 : decode cX10_skew 15 = .ok (.getfield 151, 3) := by decide +kernel
theorem dX10_skew_18 : decode cX10_skew 18 = .ok (.invokevirtual 217, 3) := by decide +kernel
theorem dX10_skew_21 : decode cX10_skew 21 = .ok (.iconst 0, 1) := by decide +kernel
theorem dX10_skew_22 : decode cX10_skew 22 = .ok (.istore_n 1, 1) := by decide +kernel
theorem dX10_skew_23 : decode cX10_skew 23 = .ok (.bipush 33, 2) := by decide +kernel
theorem dX10_skew_25 : decode cX10_skew 25 = .ok (.istore_n 2, 1) := by decide +kernel
theorem dX10_skew_26 : decode cX10_skew 26 = .ok (.iconst 0, 1) := by decide +kernel
theorem dX10_skew_27 : decode cX10_skew 27 = .ok (.istore_n 3, 1) := by decide +kernel
theorem dX10_skew_28 : decode cX10_skew 28 = .ok (.iload_n 3, 1) := by decide +kernel
theorem dX10_skew_29 : decode cX10_skew 29 = .ok (.bipush 16, 2) := by decide +kernel
theorem dX10_skew_31 : decode cX10_skew 31 = .ok (.if_icmp .ge 55, 3) := by decide +kernel
theorem dX10_skew_34 : decode cX10_skew 34 = .ok (.aload_n 0, 1) := by decide +kernel
theorem dX10_skew_35 : decode cX10_skew 35 = .ok (.getfield 55, 3) := by decide +kernel
theorem dX10_skew_38 : decode cX10_skew 38 = .ok (.aload_n 0, 1) := by decide +kernel
theorem dX10_skew_39 : decode cX10_skew 39 = .ok (.getfield 51, 3) := by decide +kernel
theorem dX10_skew_42 : decode cX10_skew 42 = .ok (.invokevirtual 237, 3) := by decide +kernel
theorem dX10_skew_45 : decode cX10_skew 45 = .ok (.aload_n 0, 1) := by decide +kernel
theorem dX10_skew_46 : decode cX10_skew 46 = .ok (.getfield 55, 3) := by decide +kernel
theorem dX10_skew_49 : decode cX10_skew 49 = .ok (.bipush 16, 2) := by decide +kernel
theorem dX10_skew_51 : decode cX10_skew 51 = .ok (.iload_n 3, 1) := by decide +kernel
theorem dX10_skew_52 : decode cX10_skew 52 = .ok (.isub, 1) := by decide +kernel
theorem dX10_skew_53 : decode cX10_skew 53 = .ok (.invokevirtual 240, 3) := by decide +kernel
theorem dX10_skew_56 : decode cX10_skew 56 = .ok (.aload_n 0, 1) := by decide +kernel
theorem dX10_skew_57 : decode cX10_skew 57 = .ok (.getfield 55, 3) := by decide +kernel
theorem dX10_skew_60 : decode cX10_skew 60 = .ok (.aload_n 0, 1) := by decide +kernel
theorem dX10_skew_61 : decode cX10_skew 61 = .ok (.getfield 12, 3) := by decide +kernel
theorem dX10_skew_64 : decode cX10_skew 64 = .ok (.invokevirtual 243, 3) := by decide +kernel
theorem dX10_skew_67 : decode cX10_skew 67 = .ok (.istore 4, 2) := by decide +kernel
theorem dX10_skew_69 : decode cX10_skew 69 = .ok (.iload 4, 2) := by decide +kernel
theorem dX10_skew_71 : decode cX10_skew 71 = .ok (.iload_n 2, 1) := by decide +kernel
theorem dX10_skew_72 : decode cX10_skew 72 = .ok (.if_icmp .ge 8, 3) := by decide +kernel
theorem dX10_skew_75 : decode cX10_skew 75 = .ok (.iload 4, 2) := by decide +kernel
theorem dX10_skew_77 : decode cX10_skew 77 = .ok (.istore_n 2, 1) := by decide +kernel
theorem dX10_skew_78 : decode cX10_skew 78 = .ok (.iload_n 3, 1) := by decide +kernel
theorem dX10_skew_79 : decode cX10_skew 79 = .ok (.istore_n 1, 1) := by decide +kernel
theorem dX10_skew_80 : decode cX10_skew 80 = .ok (.iinc 3 1, 3) := by decide +kernel
theorem dX10_skew_83 : decode cX10_skew 83 = .ok (.goto (-55), 3) := by decide +kernel
theorem dX10_skew_86 : decode cX10_skew 86 = .ok (.iload_n 1, 1) := by decide +kernel
theorem dX10_skew_87 : decode cX10_skew 87 = .ok (.ireturn, 1) := by decide +kernel
theorem dX10_spreads_0 : decode cX10_spreads 0 = .ok (.iload_n 1, 1) := by decide +kernel
theorem dX10_spreads_1 : decode cX10_spreads 1 = .ok (.ifCond .lt 8, 3) := by decide +kernel
theorem dX10_spreads_4 : decode cX10_spreads 4 = .ok (.iload_n 1, 1) := by decide +kernel
theorem dX10_spreads_5 : decode cX10_spreads 5 = .ok (.iconst 1, 1) := by decide +kernel
theorem dX10_spreads_6 : decode cX10_spreads 6 = .ok (.if_icmp .le 5, 3) := by decide +kernel
theorem dX10_spreads_9 : decode cX10_spreads 9 = .ok (.iconst (-1), 1) := by decide +kernel
theorem dX10_spreads_10 : decode cX10_spreads 10 = .ok (.ireturn, 1) := by decide +kernel
theorem dX10_spreads_11 : decode cX10_spreads 11 = .ok (.aload_n 0, 1) := by decide +kernel
theorem dX10_spreads_12 : decode cX10_spreads 12 = .ok (.getfield 51, 3) := by decide +kernel
theorem dX10_spreads_15 : decode cX10_spreads 15 = .ok (.aload_n 0, 1) := by decide +kernel
theorem dX10_spreads_16 : decode cX10_spreads 16 = .ok (.getfield 12, 3) := by decide +kernel
theorem dX10_spreads_19 : decode cX10_spreads 19 = .ok (.aload_n 0, 1) := by decide +kernel
theorem dX10_spreads_20 : decode cX10_spreads 20 = .ok (.getfield 12, 3) := by decide +kernel
theorem dX10_spreads_23 : decode cX10_spreads 23 = .ok (.getfield 159, 3) := by decide +kernel
theorem dX10_spreads_26 : decode cX10_spreads 26 = .ok (.getfield 151, 3) := by decide +kernel
theorem dX10_spreads_29 : decode cX10_spreads 29 = .ok (.invokevirtual 217, 3) := by decide +kernel
theorem dX10_spreads_32 : decode cX10_spreads 32 = .ok (.iconst 0, 1) := by decide +kernel
theorem dX10_spreads_33 : decode cX10_spreads 33 = .ok (.istore_n 2, 1) := by decide +kernel
theorem dX10_spreads_34 : decode cX10_spreads 34 = .ok (.bipush (-9), 2) := by decide +kernel
theorem dX10_spreads_36 : decode cX10_spreads 36 = .ok (.istore_n 3, 1) := by decide +kernel
theorem dX10_spreads_37 : decode cX10_spreads 37 = .ok (.iconst 1, 1) := by decide +kernel
theorem dX10_spreads_38 : decode cX10_spreads 38 = .ok (.istore 4, 2) := by decide +kernel
theorem dX10_spreads_40 : decode cX10_spreads 40 = .ok (.iload 4, 2) := by decide +kernel
theorem dX10_spreads_42 : decode cX10_spreads 42 = .ok (.bipush 97, 2) := by decide +kernel
theorem dX10_spreads_44 : decode cX10_spreads 44 = .ok (.if_icmp .ge 45, 3) := by decide +kernel
theorem dX10_spreads_47 : decode cX10_spreads 47 = .ok (.iload 4, 2) := by decide +kernel
theorem dX10_spreads_49 : decode cX10_spreads 49 = .ok (.bipush 16, 2) := by decide +kernel
theorem dX10_spreads_51 : decode cX10_spreads 51 = .ok (.invokestatic 246, 3) := by decide +kernel
theorem dX10_spreads_54 : decode cX10_spreads 54 = .ok (.iconst 1, 1) := by decide +kernel
theorem dX10_spreads_55 : decode cX10_spreads 55 = .ok (.if_icmp .eq 28, 3) := by decide +kernel
theorem dX10_spreads_58 : decode cX10_spreads 58 = .ok (.aload_n 0, 1) := by decide +kernel
theorem dX10_spreads_59 : decode cX10_spreads 59 = .ok (.iload 4, 2) := by decide +kernel
theorem dX10_spreads_61 : decode cX10_spreads 61 = .ok (.invokevirtual 249, 3) := by decide +kernel
theorem dX10_spreads_64 : decode cX10_spreads 64 = .ok (.ifCond .eq 19, 3) := by decide +kernel
theorem dX10_spreads_67 : decode cX10_spreads 67 = .ok (.iinc 2 1, 3) := by decide +kernel
theorem dX10_spreads_70 : decode cX10_spreads 70 = .ok (.iload_n 3, 1) := by decide +kernel
theorem dX10_spreads_71 : decode cX10_spreads 71 = .ok (.bipush (-9), 2) := by decide +kernel
theorem dX10_spreads_73 : decode cX10_spreads 73 = .ok (.if_icmp .ne 8, 3) := by decide +kernel
theorem dX10_spreads_76 : decode cX10_spreads 76 = .ok (.iload 4, 2) := by decide +kernel
theorem dX10_spreads_78 : decode cX10_spreads 78 = .ok (.goto 4, 3) := by decide +kernel
theorem dX10_spreads_81 : decode cX10_spreads 81 = .ok (.iload_n 3, 1) := by decide +kernel
theorem dX10_spreads_82 : decode cX10_spreads 82 = .ok (.istore_n 3, 1) := by decide +kernel
theorem dX10_spreads_83 : decode cX10_spreads 83 = .ok (.iinc 4 1, 3) := by decide +kernel
theorem dX10_spreads_86 : decode cX10_spreads 86 = .ok (.goto (-46), 3) := by decide +kernel
theorem dX10_spreads_89 : decode cX10_spreads 89 = .ok (.iload_n 1, 1) := by decide +kernel
theorem dX10_spreads_90 : decode cX10_spreads 90 = .ok (.ifCond .ne 7, 3) := by decide +kernel
theorem dX10_spreads_93 : decode cX10_spreads 93 = .ok (.iload_n 2, 1) := by decide +kernel
theorem dX10_spreads_94 : decode cX10_spreads 94 = .ok (.goto 4, 3) := by decide +kernel
theorem dX10_spreads_97 : decode cX10_spreads 97 = .ok (.iload_n 3, 1) := by decide +kernel
theorem dX10_spreads_98 : decode cX10_spreads 98 = .ok (.ireturn, 1) := by decide +kernel
theorem dX10_order_0 : decode cX10_order 0 = .ok (.iload_n 1, 1) := by decide +kernel
theorem dX10_order_1 : decode cX10_order 1 = .ok (.iconst (-1), 1) := by decide +kernel
theorem dX10_order_2 : decode cX10_order 2 = .ok (.if_icmp .ge 5, 3) := by decide +kernel
theorem dX10_order_5 : decode cX10_order 5 = .ok (.iconst (-1), 1) := by decide +kernel
theorem dX10_order_6 : decode cX10_order 6 = .ok (.ireturn, 1) := by decide +kernel
theorem dX10_order_7 : decode cX10_order 7 = .ok (.iload_n 1, 1) := by decide +kernel
theorem dX10_order_8 : decode cX10_order 8 = .ok (.aload_n 0, 1) := by decide +kernel
theorem dX10_order_9 : decode cX10_order 9 = .ok (.getfield 12, 3) := by decide +kernel
theorem dX10_order_12 : decode cX10_order 12 = .ok (.getfield 159, 3) := by decide +kernel
theorem dX10_order_15 : decode cX10_order 15 = .ok (.getfield 151, 3) := by decide +kernel
theorem dX10_order_18 : decode cX10_order 18 = .ok (.if_icmp .lt 6, 3) := by decide +kernel
theorem dX10_order_21 : decode cX10_order 21 = .ok (.bipush (-9), 2) := by decide +kernel
theorem dX10_order_23 : decode cX10_order 23 = .ok (.ireturn, 1) := by decide +kernel
theorem dX10_order_24 : decode cX10_order 24 = .ok (.aload_n 0, 1) := by decide +kernel
theorem dX10_order_25 : decode cX10_order 25 = .ok (.invokevirtual 183, 3) := by decide +kernel
theorem dX10_order_28 : decode cX10_order 28 = .ok (.istore_n 2, 1) := by decide +kernel
theorem dX10_order_29 : decode cX10_order 29 = .ok (.iload_n 1, 1) := by decide +kernel
theorem dX10_order_30 : decode cX10_order 30 = .ok (.iconst (-1), 1) := by decide +kernel
theorem dX10_order_31 : decode cX10_order 31 = .ok (.if_icmp .ne 7, 3) := by decide +kernel
theorem dX10_order_34 : decode cX10_order 34 = .ok (.iload_n 2, 1) := by decide +kernel
theorem dX10_order_35 : decode cX10_order 35 = .ok (.goto 12, 3) := by decide +kernel
theorem dX10_order_38 : decode cX10_order 38 = .ok (.aload_n 0, 1) := by decide +kernel
theorem dX10_order_39 : decode cX10_order 39 = .ok (.getfield 61, 3) := by decide +kernel
theorem dX10_order_42 : decode cX10_order 42 = .ok (.getfield 194, 3) := by decide +kernel
theorem dX10_order_45 : decode cX10_order 45 = .ok (.iload_n 1, 1) := by decide +kernel
theorem dX10_order_46 : decode cX10_order 46 = .ok (.iaload, 1) := by decide +kernel
theorem dX10_order_47 : decode cX10_order 47 = .ok (.ireturn, 1) := by decide +kernel
theorem dX10_lag_0 : decode cX10_lag 0 = .ok (.iload_n 1, 1) := by decide +kernel
theorem dX10_lag_1 : decode cX10_lag 1 = .ok (.invokestatic 113, 3) := by decide +kernel
theorem dX10_lag_4 : decode cX10_lag 4 = .ok (.ifCond .ne 5, 3) := by decide +kernel
theorem dX10_lag_7 : decode cX10_lag 7 = .ok (.iconst (-1), 1) := by decide +kernel
theorem dX10_lag_8 : decode cX10_lag 8 = .ok (.ireturn, 1) := by decide +kernel
theorem dX10_lag_9 : decode cX10_lag 9 = .ok (.iconst 0, 1) := by decide +kernel
theorem dX10_lag_10 : decode cX10_lag 10 = .ok (.istore_n 2, 1) := by decide +kernel
theorem dX10_lag_11 : decode cX10_lag 11 = .ok (.iload_n 2, 1) := by decide +kernel
theorem dX10_lag_12 : decode cX10_lag 12 = .ok (.bipush 16, 2) := by decide +kernel
theorem dX10_lag_14 : decode cX10_lag 14 = .ok (.if_icmp .ge 25, 3) := by decide +kernel
theorem dX10_lag_17 : decode cX10_lag 17 = .ok (.aload_n 0, 1) := by decide +kernel
theorem dX10_lag_18 : decode cX10_lag 18 = .ok (.getfield 12, 3) := by decide +kernel
theorem dX10_lag_21 : decode cX10_lag 21 = .ok (.iload_n 1, 1) := by decide +kernel
theorem dX10_lag_22 : decode cX10_lag 22 = .ok (.iload_n 2, 1) := by decide +kernel
theorem dX10_lag_23 : decode cX10_lag 23 = .ok (.iadd, 1) := by decide +kernel
theorem dX10_lag_24 : decode cX10_lag 24 = .ok (.bipush 16, 2) := by decide +kernel
theorem dX10_lag_26 : decode cX10_lag 26 = .ok (.irem, 1) := by decide +kernel
theorem dX10_lag_27 : decode cX10_lag 27 = .ok (.invokevirtual 116, 3) := by decide +kernel
theorem dX10_lag_30 : decode cX10_lag 30 = .ok (.ifCond .ne 9, 3) := by decide +kernel
theorem dX10_lag_33 : decode cX10_lag 33 = .ok (.iinc 2 1, 3) := by decide +kernel
theorem dX10_lag_36 : decode cX10_lag 36 = .ok (.goto (-25), 3) := by decide +kernel
theorem dX10_lag_39 : decode cX10_lag 39 = .ok (.iload_n 2, 1) := by decide +kernel
theorem dX10_lag_40 : decode cX10_lag 40 = .ok (.ireturn, 1) := by decide +kernel
theorem dX10_sees_0 : decode cX10_sees 0 = .ok (.iload_n 1, 1) := by decide +kernel
theorem dX10_sees_1 : decode cX10_sees 1 = .ok (.iload_n 2, 1) := by decide +kernel
theorem dX10_sees_2 : decode cX10_sees 2 = .ok (.invokestatic 103, 3) := by decide +kernel
theorem dX10_sees_5 : decode cX10_sees 5 = .ok (.ifCond .eq 10, 3) := by decide +kernel
theorem dX10_sees_8 : decode cX10_sees 8 = .ok (.iload_n 3, 1) := by decide +kernel
theorem dX10_sees_9 : decode cX10_sees 9 = .ok (.invokestatic 107, 3) := by decide +kernel
theorem dX10_sees_12 : decode cX10_sees 12 = .ok (.ifCond .ne 5, 3) := by decide +kernel
theorem dX10_sees_15 : decode cX10_sees 15 = .ok (.iconst (-1), 1) := by decide +kernel
theorem dX10_sees_16 : decode cX10_sees 16 = .ok (.ireturn, 1) := by decide +kernel
theorem dX10_sees_17 : decode cX10_sees 17 = .ok (.aload_n 0, 1) := by decide +kernel
theorem dX10_sees_18 : decode cX10_sees 18 = .ok (.getfield 44, 3) := by decide +kernel
theorem dX10_sees_21 : decode cX10_sees 21 = .ok (.iload_n 1, 1) := by decide +kernel
theorem dX10_sees_22 : decode cX10_sees 22 = .ok (.bipush 16, 2) := by decide +kernel
theorem dX10_sees_24 : decode cX10_sees 24 = .ok (.imul, 1) := by decide +kernel
theorem dX10_sees_25 : decode cX10_sees 25 = .ok (.iload_n 2, 1) := by decide +kernel
theorem dX10_sees_26 : decode cX10_sees 26 = .ok (.iadd, 1) := by decide +kernel
theorem dX10_sees_27 : decode cX10_sees 27 = .ok (.iload_n 3, 1) := by decide +kernel
theorem dX10_sees_28 : decode cX10_sees 28 = .ok (.invokevirtual 252, 3) := by decide +kernel
theorem dX10_sees_31 : decode cX10_sees 31 = .ok (.ifCond .eq 13, 3) := by decide +kernel
theorem dX10_sees_34 : decode cX10_sees 34 = .ok (.aload_n 0, 1) := by decide +kernel
theorem dX10_sees_35 : decode cX10_sees 35 = .ok (.getfield 44, 3) := by decide +kernel
theorem dX10_sees_38 : decode cX10_sees 38 = .ok (.getfield 100, 3) := by decide +kernel
theorem dX10_sees_41 : decode cX10_sees 41 = .ok (.goto 5, 3) := by decide +kernel
theorem dX10_sees_44 : decode cX10_sees 44 = .ok (.bipush (-3), 2) := by decide +kernel
theorem dX10_sees_46 : decode cX10_sees 46 = .ok (.ireturn, 1) := by decide +kernel
theorem dX10_forget_0 : decode cX10_forget 0 = .ok (.aload_n 0, 1) := by decide +kernel
theorem dX10_forget_1 : decode cX10_forget 1 = .ok (.getfield 44, 3) := by decide +kernel
theorem dX10_forget_4 : decode cX10_forget 4 = .ok (.getfield 100, 3) := by decide +kernel
theorem dX10_forget_7 : decode cX10_forget 7 = .ok (.istore_n 1, 1) := by decide +kernel
theorem dX10_forget_8 : decode cX10_forget 8 = .ok (.aload_n 0, 1) := by decide +kernel
theorem dX10_forget_9 : decode cX10_forget 9 = .ok (.getfield 44, 3) := by decide +kernel
theorem dX10_forget_12 : decode cX10_forget 12 = .ok (.iconst 0, 1) := by decide +kernel
theorem dX10_forget_13 : decode cX10_forget 13 = .ok (.putfield 100, 3) := by decide +kernel
theorem dX10_forget_16 : decode cX10_forget 16 = .ok (.iload_n 1, 1) := by decide +kernel
theorem dX10_forget_17 : decode cX10_forget 17 = .ok (.ireturn, 1) := by decide +kernel
theorem dX10_fits_0 : decode cX10_fits 0 = .ok (.iload_n 1, 1) := by decide +kernel
theorem dX10_fits_1 : decode cX10_fits 1 = .ok (.ifCond .lt 8, 3) := by decide +kernel
theorem dX10_fits_4 : decode cX10_fits 4 = .ok (.iload_n 1, 1) := by decide +kernel
theorem dX10_fits_5 : decode cX10_fits 5 = .ok (.iconst 1, 1) := by decide +kernel
theorem dX10_fits_6 : decode cX10_fits 6 = .ok (.if_icmp .le 5, 3) := by decide +kernel
theorem dX10_fits_9 : decode cX10_fits 9 = .ok (.iconst (-1), 1) := by decide +kernel
theorem dX10_fits_10 : decode cX10_fits 10 = .ok (.ireturn, 1) := by decide +kernel
theorem dX10_fits_11 : decode cX10_fits 11 = .ok (.aload_n 0, 1) := by decide +kernel
theorem dX10_fits_12 : decode cX10_fits 12 = .ok (.getfield 51, 3) := by decide +kernel
theorem dX10_fits_15 : decode cX10_fits 15 = .ok (.aload_n 0, 1) := by decide +kernel
theorem dX10_fits_16 : decode cX10_fits 16 = .ok (.getfield 12, 3) := by decide +kernel
theorem dX10_fits_19 : decode cX10_fits 19 = .ok (.iconst 0, 1) := by decide +kernel
theorem dX10_fits_20 : decode cX10_fits 20 = .ok (.invokevirtual 217, 3) := by decide +kernel
theorem dX10_fits_23 : decode cX10_fits 23 = .ok (.iconst 0, 1) := by decide +kernel
theorem dX10_fits_24 : decode cX10_fits 24 = .ok (.istore_n 2, 1) := by decide +kernel
theorem dX10_fits_25 : decode cX10_fits 25 = .ok (.bipush (-9), 2) := by decide +kernel
theorem dX10_fits_27 : decode cX10_fits 27 = .ok (.istore_n 3, 1) := by decide +kernel
theorem dX10_fits_28 : decode cX10_fits 28 = .ok (.iconst 0, 1) := by decide +kernel
theorem dX10_fits_29 : decode cX10_fits 29 = .ok (.istore 4, 2) := by decide +kernel
theorem dX10_fits_31 : decode cX10_fits 31 = .ok (.iload 4, 2) := by decide +kernel
theorem dX10_fits_33 : decode cX10_fits 33 = .ok (.bipush 16, 2) := by decide +kernel
theorem dX10_fits_35 : decode cX10_fits 35 = .ok (.if_icmp .ge 56, 3) := by decide +kernel
theorem dX10_fits_38 : decode cX10_fits 38 = .ok (.iconst 1, 1) := by decide +kernel
theorem dX10_fits_39 : decode cX10_fits 39 = .ok (.istore 5, 2) := by decide +kernel
theorem dX10_fits_41 : decode cX10_fits 41 = .ok (.iload 5, 2) := by decide +kernel
theorem dX10_fits_43 : decode cX10_fits 43 = .ok (.iconst 4, 1) := by decide +kernel
theorem dX10_fits_44 : decode cX10_fits 44 = .ok (.if_icmp .ge 41, 3) := by decide +kernel
theorem dX10_fits_47 : decode cX10_fits 47 = .ok (.aload_n 0, 1) := by decide +kernel
theorem dX10_fits_48 : decode cX10_fits 48 = .ok (.iload 4, 2) := by decide +kernel
theorem dX10_fits_50 : decode cX10_fits 50 = .ok (.iload 5, 2) := by decide +kernel
theorem dX10_fits_52 : decode cX10_fits 52 = .ok (.invokevirtual 254, 3) := by decide +kernel
theorem dX10_fits_55 : decode cX10_fits 55 = .ok (.ifCond .eq 24, 3) := by decide +kernel
theorem dX10_fits_58 : decode cX10_fits 58 = .ok (.iinc 2 1, 3) := by decide +kernel
theorem dX10_fits_61 : decode cX10_fits 61 = .ok (.iload_n 3, 1) := by decide +kernel
theorem dX10_fits_62 : decode cX10_fits 62 = .ok (.bipush (-9), 2) := by decide +kernel
theorem dX10_fits_64 : decode cX10_fits 64 = .ok (.if_icmp .ne 13, 3) := by decide +kernel
theorem dX10_fits_67 : decode cX10_fits 67 = .ok (.iconst 4, 1) := by decide +kernel
theorem dX10_fits_68 : decode cX10_fits 68 = .ok (.iload 4, 2) := by decide +kernel
theorem dX10_fits_70 : decode cX10_fits 70 = .ok (.imul, 1) := by decide +kernel
theorem dX10_fits_71 : decode cX10_fits 71 = .ok (.iload 5, 2) := by decide +kernel
theorem dX10_fits_73 : decode cX10_fits 73 = .ok (.iadd, 1) := by decide +kernel
theorem dX10_fits_74 : decode cX10_fits 74 = .ok (.goto 4, 3) := by decide +kernel
theorem dX10_fits_77 : decode cX10_fits 77 = .ok (.iload_n 3, 1) := by decide +kernel
theorem dX10_fits_78 : decode cX10_fits 78 = .ok (.istore_n 3, 1) := by decide +kernel
theorem dX10_fits_79 : decode cX10_fits 79 = .ok (.iinc 5 1, 3) := by decide +kernel
theorem dX10_fits_82 : decode cX10_fits 82 = .ok (.goto (-41), 3) := by decide +kernel
theorem dX10_fits_85 : decode cX10_fits 85 = .ok (.iinc 4 1, 3) := by decide +kernel
theorem dX10_fits_88 : decode cX10_fits 88 = .ok (.goto (-57), 3) := by decide +kernel
theorem dX10_fits_91 : decode cX10_fits 91 = .ok (.iload_n 1, 1) := by decide +kernel
theorem dX10_fits_92 : decode cX10_fits 92 = .ok (.ifCond .ne 7, 3) := by decide +kernel
theorem dX10_fits_95 : decode cX10_fits 95 = .ok (.iload_n 2, 1) := by decide +kernel
theorem dX10_fits_96 : decode cX10_fits 96 = .ok (.goto 4, 3) := by decide +kernel
theorem dX10_fits_99 : decode cX10_fits 99 = .ok (.iload_n 3, 1) := by decide +kernel
theorem dX10_fits_100 : decode cX10_fits 100 = .ok (.ireturn, 1) := by decide +kernel
theorem dX10_odds_0 : decode cX10_odds 0 = .ok (.iload_n 1, 1) := by decide +kernel
theorem dX10_odds_1 : decode cX10_odds 1 = .ok (.ifCond .lt 40, 3) := by decide +kernel
theorem dX10_odds_4 : decode cX10_odds 4 = .ok (.iload_n 1, 1) := by decide +kernel
theorem dX10_odds_5 : decode cX10_odds 5 = .ok (.bipush 10, 2) := by decide +kernel
theorem dX10_odds_7 : decode cX10_odds 7 = .ok (.if_icmp .gt 34, 3) := by decide +kernel
theorem dX10_odds_10 : decode cX10_odds 10 = .ok (.iload_n 2, 1) := by decide +kernel
theorem dX10_odds_11 : decode cX10_odds 11 = .ok (.ifCond .lt 30, 3) := by decide +kernel
theorem dX10_odds_14 : decode cX10_odds 14 = .ok (.iload_n 2, 1) := by decide +kernel
theorem dX10_odds_15 : decode cX10_odds 15 = .ok (.bipush 8, 2) := by decide +kernel
theorem dX10_odds_17 : decode cX10_odds 17 = .ok (.if_icmp .gt 24, 3) := by decide +kernel
theorem dX10_odds_20 : decode cX10_odds 20 = .ok (.iload_n 3, 1) := by decide +kernel
theorem dX10_odds_21 : decode cX10_odds 21 = .ok (.ifCond .lt 20, 3) := by decide +kernel
theorem dX10_odds_24 : decode cX10_odds 24 = .ok (.iload_n 3, 1) := by decide +kernel
theorem dX10_odds_25 : decode cX10_odds 25 = .ok (.bipush 8, 2) := by decide +kernel
theorem dX10_odds_27 : decode cX10_odds 27 = .ok (.if_icmp .gt 14, 3) := by decide +kernel
theorem dX10_odds_30 : decode cX10_odds 30 = .ok (.iload 4, 2) := by decide +kernel
theorem dX10_odds_32 : decode cX10_odds 32 = .ok (.ifCond .lt 9, 3) := by decide +kernel
theorem dX10_odds_35 : decode cX10_odds 35 = .ok (.iload 4, 2) := by decide +kernel
theorem dX10_odds_37 : decode cX10_odds 37 = .ok (.iconst 1, 1) := by decide +kernel
theorem dX10_odds_38 : decode cX10_odds 38 = .ok (.if_icmp .le 5, 3) := by decide +kernel
theorem dX10_odds_41 : decode cX10_odds 41 = .ok (.iconst (-1), 1) := by decide +kernel
theorem dX10_odds_42 : decode cX10_odds 42 = .ok (.ireturn, 1) := by decide +kernel
theorem dX10_odds_43 : decode cX10_odds 43 = .ok (.bipush 10, 2) := by decide +kernel
theorem dX10_odds_45 : decode cX10_odds 45 = .ok (.iload_n 2, 1) := by decide +kernel
theorem dX10_odds_46 : decode cX10_odds 46 = .ok (.invokestatic 257, 3) := by decide +kernel
theorem dX10_odds_49 : decode cX10_odds 49 = .ok (.istore 5, 2) := by decide +kernel
theorem dX10_odds_51 : decode cX10_odds 51 = .ok (.iload_n 1, 1) := by decide +kernel
theorem dX10_odds_52 : decode cX10_odds 52 = .ok (.iload_n 2, 1) := by decide +kernel
theorem dX10_odds_53 : decode cX10_odds 53 = .ok (.iload_n 3, 1) := by decide +kernel
theorem dX10_odds_54 : decode cX10_odds 54 = .ok (.invokestatic 260, 3) := by decide +kernel
theorem dX10_odds_57 : decode cX10_odds 57 = .ok (.istore 6, 2) := by decide +kernel
theorem dX10_odds_59 : decode cX10_odds 59 = .ok (.iload 6, 2) := by decide +kernel
theorem dX10_odds_61 : decode cX10_odds 61 = .ok (.iload_n 2, 1) := by decide +kernel
theorem dX10_odds_62 : decode cX10_odds 62 = .ok (.invokestatic 264, 3) := by decide +kernel
theorem dX10_odds_65 : decode cX10_odds 65 = .ok (.istore 7, 2) := by decide +kernel
theorem dX10_odds_67 : decode cX10_odds 67 = .ok (.iload 4, 2) := by decide +kernel
theorem dX10_odds_69 : decode cX10_odds 69 = .ok (.ifCond .ne 8, 3) := by decide +kernel
theorem dX10_odds_72 : decode cX10_odds 72 = .ok (.iload 6, 2) := by decide +kernel
theorem dX10_odds_74 : decode cX10_odds 74 = .ok (.goto 5, 3) := by decide +kernel
theorem dX10_odds_77 : decode cX10_odds 77 = .ok (.iload 5, 2) := by decide +kernel
theorem dX10_odds_79 : decode cX10_odds 79 = .ok (.iconst 1, 1) := by decide +kernel
theorem dX10_odds_80 : decode cX10_odds 80 = .ok (.iload 7, 2) := by decide +kernel
theorem dX10_odds_82 : decode cX10_odds 82 = .ok (.invokestatic 267, 3) := by decide +kernel
theorem dX10_odds_85 : decode cX10_odds 85 = .ok (.idiv, 1) := by decide +kernel
theorem dX10_odds_86 : decode cX10_odds 86 = .ok (.ireturn, 1) := by decide +kernel
theorem dX10_keep_0 : decode cX10_keep 0 = .ok (.iload_n 1, 1) := by decide +kernel
theorem dX10_keep_1 : decode cX10_keep 1 = .ok (.ifCond .lt 8, 3) := by decide +kernel
theorem dX10_keep_4 : decode cX10_keep 4 = .ok (.iload_n 1, 1) := by decide +kernel
theorem dX10_keep_5 : decode cX10_keep 5 = .ok (.iconst 2, 1) := by decide +kernel
theorem dX10_keep_6 : decode cX10_keep 6 = .ok (.if_icmp .lt 5, 3) := by decide +kernel
theorem dX10_keep_9 : decode cX10_keep 9 = .ok (.iconst (-1), 1) := by decide +kernel
theorem dX10_keep_10 : decode cX10_keep 10 = .ok (.ireturn, 1) := by decide +kernel
theorem dX10_keep_11 : decode cX10_keep 11 = .ok (.aload_n 0, 1) := by decide +kernel
theorem dX10_keep_12 : decode cX10_keep 12 = .ok (.getfield 19, 3) := by decide +kernel
theorem dX10_keep_15 : decode cX10_keep 15 = .ok (.iload_n 1, 1) := by decide +kernel
theorem dX10_keep_16 : decode cX10_keep 16 = .ok (.aaload, 1) := by decide +kernel
theorem dX10_keep_17 : decode cX10_keep 17 = .ok (.aload_n 0, 1) := by decide +kernel
theorem dX10_keep_18 : decode cX10_keep 18 = .ok (.getfield 12, 3) := by decide +kernel
theorem dX10_keep_21 : decode cX10_keep 21 = .ok (.invokevirtual 89, 3) := by decide +kernel
theorem dX10_keep_24 : decode cX10_keep 24 = .ok (.aload_n 0, 1) := by decide +kernel
theorem dX10_keep_25 : decode cX10_keep 25 = .ok (.getfield 23, 3) := by decide +kernel
theorem dX10_keep_28 : decode cX10_keep 28 = .ok (.iload_n 1, 1) := by decide +kernel
theorem dX10_keep_29 : decode cX10_keep 29 = .ok (.iconst 1, 1) := by decide +kernel
theorem dX10_keep_30 : decode cX10_keep 30 = .ok (.bastore, 1) := by decide +kernel
theorem dX10_keep_31 : decode cX10_keep 31 = .ok (.aload_n 0, 1) := by decide +kernel
theorem dX10_keep_32 : decode cX10_keep 32 = .ok (.getfield 12, 3) := by decide +kernel
theorem dX10_keep_35 : decode cX10_keep 35 = .ok (.getfield 159, 3) := by decide +kernel
theorem dX10_keep_38 : decode cX10_keep 38 = .ok (.getfield 151, 3) := by decide +kernel
theorem dX10_keep_41 : decode cX10_keep 41 = .ok (.ireturn, 1) := by decide +kernel
theorem dX10_back_0 : decode cX10_back 0 = .ok (.iload_n 1, 1) := by decide +kernel
theorem dX10_back_1 : decode cX10_back 1 = .ok (.ifCond .lt 8, 3) := by decide +kernel
theorem dX10_back_4 : decode cX10_back 4 = .ok (.iload_n 1, 1) := by decide +kernel
theorem dX10_back_5 : decode cX10_back 5 = .ok (.iconst 2, 1) := by decide +kernel
theorem dX10_back_6 : decode cX10_back 6 = .ok (.if_icmp .lt 5, 3) := by decide +kernel
theorem dX10_back_9 : decode cX10_back 9 = .ok (.iconst (-1), 1) := by decide +kernel
theorem dX10_back_10 : decode cX10_back 10 = .ok (.ireturn, 1) := by decide +kernel
theorem dX10_back_11 : decode cX10_back 11 = .ok (.aload_n 0, 1) := by decide +kernel
theorem dX10_back_12 : decode cX10_back 12 = .ok (.getfield 23, 3) := by decide +kernel
theorem dX10_back_15 : decode cX10_back 15 = .ok (.iload_n 1, 1) := by decide +kernel
theorem dX10_back_16 : decode cX10_back 16 = .ok (.baload, 1) := by decide +kernel
theorem dX10_back_17 : decode cX10_back 17 = .ok (.ifCond .ne 6, 3) := by decide +kernel
theorem dX10_back_20 : decode cX10_back 20 = .ok (.bipush (-2), 2) := by decide +kernel
theorem dX10_back_22 : decode cX10_back 22 = .ok (.ireturn, 1) := by decide +kernel
theorem dX10_back_23 : decode cX10_back 23 = .ok (.aload_n 0, 1) := by decide +kernel
theorem dX10_back_24 : decode cX10_back 24 = .ok (.getfield 12, 3) := by decide +kernel
theorem dX10_back_27 : decode cX10_back 27 = .ok (.aload_n 0, 1) := by decide +kernel
theorem dX10_back_28 : decode cX10_back 28 = .ok (.getfield 19, 3) := by decide +kernel
theorem dX10_back_31 : decode cX10_back 31 = .ok (.iload_n 1, 1) := by decide +kernel
theorem dX10_back_32 : decode cX10_back 32 = .ok (.aaload, 1) := by decide +kernel
theorem dX10_back_33 : decode cX10_back 33 = .ok (.invokevirtual 89, 3) := by decide +kernel
theorem dX10_back_36 : decode cX10_back 36 = .ok (.aload_n 0, 1) := by decide +kernel
theorem dX10_back_37 : decode cX10_back 37 = .ok (.getfield 30, 3) := by decide +kernel
theorem dX10_back_40 : decode cX10_back 40 = .ok (.iconst 0, 1) := by decide +kernel
theorem dX10_back_41 : decode cX10_back 41 = .ok (.putfield 213, 3) := by decide +kernel
theorem dX10_back_44 : decode cX10_back 44 = .ok (.aload_n 0, 1) := by decide +kernel
theorem dX10_back_45 : decode cX10_back 45 = .ok (.getfield 12, 3) := by decide +kernel
theorem dX10_back_48 : decode cX10_back 48 = .ok (.getfield 159, 3) := by decide +kernel
theorem dX10_back_51 : decode cX10_back 51 = .ok (.getfield 151, 3) := by decide +kernel
theorem dX10_back_54 : decode cX10_back 54 = .ok (.ireturn, 1) := by decide +kernel
theorem dX10_count_0 : decode cX10_count 0 = .ok (.iload_n 1, 1) := by decide +kernel
theorem dX10_count_1 : decode cX10_count 1 = .ok (.tableswitch 127 0 7 #[47, 58, 69, 80, 95, 103, 111, 119], 47) := by decide +kernel
theorem dX10_count_48 : decode cX10_count 48 = .ok (.aload_n 0, 1) := by decide +kernel
theorem dX10_count_49 : decode cX10_count 49 = .ok (.getfield 12, 3) := by decide +kernel
theorem dX10_count_52 : decode cX10_count 52 = .ok (.getfield 143, 3) := by decide +kernel
theorem dX10_count_55 : decode cX10_count 55 = .ok (.getfield 151, 3) := by decide +kernel
theorem dX10_count_58 : decode cX10_count 58 = .ok (.ireturn, 1) := by decide +kernel
theorem dX10_count_59 : decode cX10_count 59 = .ok (.aload_n 0, 1) := by decide +kernel
theorem dX10_count_60 : decode cX10_count 60 = .ok (.getfield 12, 3) := by decide +kernel
theorem dX10_count_63 : decode cX10_count 63 = .ok (.getfield 159, 3) := by decide +kernel
theorem dX10_count_66 : decode cX10_count 66 = .ok (.getfield 151, 3) := by decide +kernel
theorem dX10_count_69 : decode cX10_count 69 = .ok (.ireturn, 1) := by decide +kernel
theorem dX10_count_70 : decode cX10_count 70 = .ok (.aload_n 0, 1) := by decide +kernel
theorem dX10_count_71 : decode cX10_count 71 = .ok (.getfield 12, 3) := by decide +kernel
theorem dX10_count_74 : decode cX10_count 74 = .ok (.getfield 123, 3) := by decide +kernel
theorem dX10_count_77 : decode cX10_count 77 = .ok (.invokestatic 126, 3) := by decide +kernel
theorem dX10_count_80 : decode cX10_count 80 = .ok (.ireturn, 1) := by decide +kernel
theorem dX10_count_81 : decode cX10_count 81 = .ok (.aload_n 0, 1) := by decide +kernel
theorem dX10_count_82 : decode cX10_count 82 = .ok (.aload_n 0, 1) := by decide +kernel
theorem dX10_count_83 : decode cX10_count 83 = .ok (.getfield 12, 3) := by decide +kernel
theorem dX10_count_86 : decode cX10_count 86 = .ok (.getfield 159, 3) := by decide +kernel
theorem dX10_count_89 : decode cX10_count 89 = .ok (.getfield 151, 3) := by decide +kernel
theorem dX10_count_92 : decode cX10_count 92 = .ok (.invokevirtual 201, 3) := by decide +kernel
theorem dX10_count_95 : decode cX10_count 95 = .ok (.ireturn, 1) := by decide +kernel
theorem dX10_count_96 : decode cX10_count 96 = .ok (.aload_n 0, 1) := by decide +kernel
theorem dX10_count_97 : decode cX10_count 97 = .ok (.getfield 12, 3) := by decide +kernel
theorem dX10_count_100 : decode cX10_count 100 = .ok (.getfield 204, 3) := by decide +kernel
theorem dX10_count_103 : decode cX10_count 103 = .ok (.ireturn, 1) := by decide +kernel
theorem dX10_count_104 : decode cX10_count 104 = .ok (.aload_n 0, 1) := by decide +kernel
theorem dX10_count_105 : decode cX10_count 105 = .ok (.getfield 44, 3) := by decide +kernel
theorem dX10_count_108 : decode cX10_count 108 = .ok (.getfield 100, 3) := by decide +kernel
theorem dX10_count_111 : decode cX10_count 111 = .ok (.ireturn, 1) := by decide +kernel
theorem dX10_count_112 : decode cX10_count 112 = .ok (.aload_n 0, 1) := by decide +kernel
theorem dX10_count_113 : decode cX10_count 113 = .ok (.getfield 37, 3) := by decide +kernel
theorem dX10_count_116 : decode cX10_count 116 = .ok (.getfield 85, 3) := by decide +kernel
theorem dX10_count_119 : decode cX10_count 119 = .ok (.ireturn, 1) := by decide +kernel
theorem dX10_count_120 : decode cX10_count 120 = .ok (.aload_n 0, 1) := by decide +kernel
theorem dX10_count_121 : decode cX10_count 121 = .ok (.getfield 30, 3) := by decide +kernel
theorem dX10_count_124 : decode cX10_count 124 = .ok (.getfield 213, 3) := by decide +kernel
theorem dX10_count_127 : decode cX10_count 127 = .ok (.ireturn, 1) := by decide +kernel
theorem dX10_count_128 : decode cX10_count 128 = .ok (.iconst (-1), 1) := by decide +kernel
theorem dX10_count_129 : decode cX10_count 129 = .ok (.ireturn, 1) := by decide +kernel
theorem dX10_isPlace_0 : decode cX10_isPlace 0 = .ok (.iload_n 0, 1) := by decide +kernel
theorem dX10_isPlace_1 : decode cX10_isPlace 1 = .ok (.ifCond .lt 13, 3) := by decide +kernel
theorem dX10_isPlace_4 : decode cX10_isPlace 4 = .ok (.iload_n 0, 1) := by decide +kernel
theorem dX10_isPlace_5 : decode cX10_isPlace 5 = .ok (.bipush 16, 2) := by decide +kernel
theorem dX10_isPlace_7 : decode cX10_isPlace 7 = .ok (.if_icmp .ge 7, 3) := by decide +kernel
theorem dX10_isPlace_10 : decode cX10_isPlace 10 = .ok (.iconst 1, 1) := by decide +kernel
theorem dX10_isPlace_11 : decode cX10_isPlace 11 = .ok (.goto 4, 3) := by decide +kernel
theorem dX10_isPlace_14 : decode cX10_isPlace 14 = .ok (.iconst 0, 1) := by decide +kernel
theorem dX10_isPlace_15 : decode cX10_isPlace 15 = .ok (.ireturn, 1) := by decide +kernel
theorem dX10_isSpot_0 : decode cX10_isSpot 0 = .ok (.iload_n 0, 1) := by decide +kernel
theorem dX10_isSpot_1 : decode cX10_isSpot 1 = .ok (.ifCond .lt 19, 3) := by decide +kernel
theorem dX10_isSpot_4 : decode cX10_isSpot 4 = .ok (.iload_n 0, 1) := by decide +kernel
theorem dX10_isSpot_5 : decode cX10_isSpot 5 = .ok (.iconst 2, 1) := by decide +kernel
theorem dX10_isSpot_6 : decode cX10_isSpot 6 = .ok (.if_icmp .ge 14, 3) := by decide +kernel
theorem dX10_isSpot_9 : decode cX10_isSpot 9 = .ok (.iload_n 1, 1) := by decide +kernel
theorem dX10_isSpot_10 : decode cX10_isSpot 10 = .ok (.invokestatic 113, 3) := by decide +kernel
theorem dX10_isSpot_13 : decode cX10_isSpot 13 = .ok (.ifCond .eq 7, 3) := by decide +kernel
theorem dX10_isSpot_16 : decode cX10_isSpot 16 = .ok (.iconst 1, 1) := by decide +kernel
theorem dX10_isSpot_17 : decode cX10_isSpot 17 = .ok (.goto 4, 3) := by decide +kernel
theorem dX10_isSpot_20 : decode cX10_isSpot 20 = .ok (.iconst 0, 1) := by decide +kernel
theorem dX10_isSpot_21 : decode cX10_isSpot 21 = .ok (.ireturn, 1) := by decide +kernel
theorem dX10_isSymbol_0 : decode cX10_isSymbol 0 = .ok (.iload_n 0, 1) := by decide +kernel
theorem dX10_isSymbol_1 : decode cX10_isSymbol 1 = .ok (.ifCond .lt 12, 3) := by decide +kernel
theorem dX10_isSymbol_4 : decode cX10_isSymbol 4 = .ok (.iload_n 0, 1) := by decide +kernel
theorem dX10_isSymbol_5 : decode cX10_isSymbol 5 = .ok (.iconst 4, 1) := by decide +kernel
theorem dX10_isSymbol_6 : decode cX10_isSymbol 6 = .ok (.if_icmp .ge 7, 3) := by decide +kernel
theorem dX10_isSymbol_9 : decode cX10_isSymbol 9 = .ok (.iconst 1, 1) := by decide +kernel
theorem dX10_isSymbol_10 : decode cX10_isSymbol 10 = .ok (.goto 4, 3) := by decide +kernel
theorem dX10_isSymbol_13 : decode cX10_isSymbol 13 = .ok (.iconst 0, 1) := by decide +kernel
theorem dX10_isSymbol_14 : decode cX10_isSymbol 14 = .ok (.ireturn, 1) := by decide +kernel
theorem dX10_isPair_0 : decode cX10_isPair 0 = .ok (.iload_n 0, 1) := by decide +kernel
theorem dX10_isPair_1 : decode cX10_isPair 1 = .ok (.invokestatic 113, 3) := by decide +kernel
theorem dX10_isPair_4 : decode cX10_isPair 4 = .ok (.ifCond .eq 19, 3) := by decide +kernel
theorem dX10_isPair_7 : decode cX10_isPair 7 = .ok (.iload_n 1, 1) := by decide +kernel
theorem dX10_isPair_8 : decode cX10_isPair 8 = .ok (.invokestatic 113, 3) := by decide +kernel
theorem dX10_isPair_11 : decode cX10_isPair 11 = .ok (.ifCond .eq 12, 3) := by decide +kernel
theorem dX10_isPair_14 : decode cX10_isPair 14 = .ok (.iload_n 0, 1) := by decide +kernel
theorem dX10_isPair_15 : decode cX10_isPair 15 = .ok (.iload_n 1, 1) := by decide +kernel
theorem dX10_isPair_16 : decode cX10_isPair 16 = .ok (.if_icmp .eq 7, 3) := by decide +kernel
theorem dX10_isPair_19 : decode cX10_isPair 19 = .ok (.iconst 1, 1) := by decide +kernel
theorem dX10_isPair_20 : decode cX10_isPair 20 = .ok (.goto 4, 3) := by decide +kernel
theorem dX10_isPair_23 : decode cX10_isPair 23 = .ok (.iconst 0, 1) := by decide +kernel
theorem dX10_isPair_24 : decode cX10_isPair 24 = .ok (.ireturn, 1) := by decide +kernel
theorem dX10_putStep_0 : decode cX10_putStep 0 = .ok (.aload_n 0, 1) := by decide +kernel
theorem dX10_putStep_1 : decode cX10_putStep 1 = .ok (.getfield 67, 3) := by decide +kernel
theorem dX10_putStep_4 : decode cX10_putStep 4 = .ok (.iconst 0, 1) := by decide +kernel
theorem dX10_putStep_5 : decode cX10_putStep 5 = .ok (.iload_n 1, 1) := by decide +kernel
theorem dX10_putStep_6 : decode cX10_putStep 6 = .ok (.iastore, 1) := by decide +kernel
theorem dX10_putStep_7 : decode cX10_putStep 7 = .ok (.aload_n 0, 1) := by decide +kernel
theorem dX10_putStep_8 : decode cX10_putStep 8 = .ok (.getfield 67, 3) := by decide +kernel
theorem dX10_putStep_11 : decode cX10_putStep 11 = .ok (.iconst 1, 1) := by decide +kernel
theorem dX10_putStep_12 : decode cX10_putStep 12 = .ok (.iload_n 2, 1) := by decide +kernel
theorem dX10_putStep_13 : decode cX10_putStep 13 = .ok (.iastore, 1) := by decide +kernel
theorem dX10_putStep_14 : decode cX10_putStep 14 = .ok (.aload_n 0, 1) := by decide +kernel
theorem dX10_putStep_15 : decode cX10_putStep 15 = .ok (.getfield 67, 3) := by decide +kernel
theorem dX10_putStep_18 : decode cX10_putStep 18 = .ok (.iconst 2, 1) := by decide +kernel
theorem dX10_putStep_19 : decode cX10_putStep 19 = .ok (.iload_n 3, 1) := by decide +kernel
theorem dX10_putStep_20 : decode cX10_putStep 20 = .ok (.iastore, 1) := by decide +kernel
theorem dX10_putStep_21 : decode cX10_putStep 21 = .ok (.aload_n 0, 1) := by decide +kernel
theorem dX10_putStep_22 : decode cX10_putStep 22 = .ok (.getfield 67, 3) := by decide +kernel
theorem dX10_putStep_25 : decode cX10_putStep 25 = .ok (.iconst 3, 1) := by decide +kernel
theorem dX10_putStep_26 : decode cX10_putStep 26 = .ok (.iload 4, 2) := by decide +kernel
theorem dX10_putStep_28 : decode cX10_putStep 28 = .ok (.iastore, 1) := by decide +kernel
theorem dX10_putStep_29 : decode cX10_putStep 29 = .ok (.aload_n 0, 1) := by decide +kernel
theorem dX10_putStep_30 : decode cX10_putStep 30 = .ok (.getfield 67, 3) := by decide +kernel
theorem dX10_putStep_33 : decode cX10_putStep 33 = .ok (.iconst 4, 1) := by decide +kernel
theorem dX10_putStep_34 : decode cX10_putStep 34 = .ok (.iload 5, 2) := by decide +kernel
theorem dX10_putStep_36 : decode cX10_putStep 36 = .ok (.iastore, 1) := by decide +kernel
theorem dX10_putStep_37 : decode cX10_putStep 37 = .ok (.return_, 1) := by decide +kernel
theorem dX10_appendStep_0 : decode cX10_appendStep 0 = .ok (.aload_n 1, 1) := by decide +kernel
theorem dX10_appendStep_1 : decode cX10_appendStep 1 = .ok (.invokevirtual 272, 3) := by decide +kernel
theorem dX10_appendStep_4 : decode cX10_appendStep 4 = .ok (.ifCond .eq 6, 3) := by decide +kernel
theorem dX10_appendStep_7 : decode cX10_appendStep 7 = .ok (.bipush (-3), 2) := by decide +kernel
theorem dX10_appendStep_9 : decode cX10_appendStep 9 = .ok (.ireturn, 1) := by decide +kernel
theorem dX10_appendStep_10 : decode cX10_appendStep 10 = .ok (.aload_n 0, 1) := by decide +kernel
theorem dX10_appendStep_11 : decode cX10_appendStep 11 = .ok (.getfield 30, 3) := by decide +kernel
theorem dX10_appendStep_14 : decode cX10_appendStep 14 = .ok (.aload_n 0, 1) := by decide +kernel
theorem dX10_appendStep_15 : decode cX10_appendStep 15 = .ok (.getfield 12, 3) := by decide +kernel
theorem dX10_appendStep_18 : decode cX10_appendStep 18 = .ok (.invokevirtual 97, 3) := by decide +kernel
theorem dX10_appendStep_21 : decode cX10_appendStep 21 = .ok (.aload_n 1, 1) := by decide +kernel
theorem dX10_appendStep_22 : decode cX10_appendStep 22 = .ok (.aload_n 0, 1) := by decide +kernel
theorem dX10_appendStep_23 : decode cX10_appendStep 23 = .ok (.getfield 67, 3) := by decide +kernel
theorem dX10_appendStep_26 : decode cX10_appendStep 26 = .ok (.invokevirtual 275, 3) := by decide +kernel
theorem dX10_appendStep_29 : decode cX10_appendStep 29 = .ok (.aload_n 1, 1) := by decide +kernel
theorem dX10_appendStep_30 : decode cX10_appendStep 30 = .ok (.getfield 151, 3) := by decide +kernel
theorem dX10_appendStep_33 : decode cX10_appendStep 33 = .ok (.ireturn, 1) := by decide +kernel
theorem dX10_errorsAfter_0 : decode cX10_errorsAfter 0 = .ok (.aload_n 0, 1) := by decide +kernel
theorem dX10_errorsAfter_1 : decode cX10_errorsAfter 1 = .ok (.getfield 51, 3) := by decide +kernel
theorem dX10_errorsAfter_4 : decode cX10_errorsAfter 4 = .ok (.aload_n 0, 1) := by decide +kernel
theorem dX10_errorsAfter_5 : decode cX10_errorsAfter 5 = .ok (.getfield 12, 3) := by decide +kernel
theorem dX10_errorsAfter_8 : decode cX10_errorsAfter 8 = .ok (.iload_n 1, 1) := by decide +kernel
theorem dX10_errorsAfter_9 : decode cX10_errorsAfter 9 = .ok (.invokevirtual 217, 3) := by decide +kernel
theorem dX10_errorsAfter_12 : decode cX10_errorsAfter 12 = .ok (.aload_n 0, 1) := by decide +kernel
theorem dX10_errorsAfter_13 : decode cX10_errorsAfter 13 = .ok (.getfield 51, 3) := by decide +kernel
theorem dX10_errorsAfter_16 : decode cX10_errorsAfter 16 = .ok (.aload_n 0, 1) := by decide +kernel
theorem dX10_errorsAfter_17 : decode cX10_errorsAfter 17 = .ok (.getfield 12, 3) := by decide +kernel
theorem dX10_errorsAfter_20 : decode cX10_errorsAfter 20 = .ok (.invokevirtual 278, 3) := by decide +kernel
theorem dX10_errorsAfter_23 : decode cX10_errorsAfter 23 = .ok (.ireturn, 1) := by decide +kernel
theorem dX10_unspreadFits_0 : decode cX10_unspreadFits 0 = .ok (.aload_n 0, 1) := by decide +kernel
theorem dX10_unspreadFits_1 : decode cX10_unspreadFits 1 = .ok (.getfield 55, 3) := by decide +kernel
theorem dX10_unspreadFits_4 : decode cX10_unspreadFits 4 = .ok (.aload_n 0, 1) := by decide +kernel
theorem dX10_unspreadFits_5 : decode cX10_unspreadFits 5 = .ok (.getfield 51, 3) := by decide +kernel
theorem dX10_unspreadFits_8 : decode cX10_unspreadFits 8 = .ok (.invokevirtual 237, 3) := by decide +kernel
theorem dX10_unspreadFits_11 : decode cX10_unspreadFits 11 = .ok (.aload_n 0, 1) := by decide +kernel
theorem dX10_unspreadFits_12 : decode cX10_unspreadFits 12 = .ok (.getfield 55, 3) := by decide +kernel
theorem dX10_unspreadFits_15 : decode cX10_unspreadFits 15 = .ok (.iload_n 1, 1) := by decide +kernel
theorem dX10_unspreadFits_16 : decode cX10_unspreadFits 16 = .ok (.invokevirtual 281, 3) := by decide +kernel
theorem dX10_unspreadFits_19 : decode cX10_unspreadFits 19 = .ok (.aload_n 0, 1) := by decide +kernel
theorem dX10_unspreadFits_20 : decode cX10_unspreadFits 20 = .ok (.getfield 55, 3) := by decide +kernel
theorem dX10_unspreadFits_23 : decode cX10_unspreadFits 23 = .ok (.aload_n 0, 1) := by decide +kernel
theorem dX10_unspreadFits_24 : decode cX10_unspreadFits 24 = .ok (.getfield 12, 3) := by decide +kernel
theorem dX10_unspreadFits_27 : decode cX10_unspreadFits 27 = .ok (.invokevirtual 243, 3) := by decide +kernel
theorem dX10_unspreadFits_30 : decode cX10_unspreadFits 30 = .ok (.ifCond .ne 7, 3) := by decide +kernel
theorem dX10_unspreadFits_33 : decode cX10_unspreadFits 33 = .ok (.iconst 1, 1) := by decide +kernel
theorem dX10_unspreadFits_34 : decode cX10_unspreadFits 34 = .ok (.goto 4, 3) := by decide +kernel
theorem dX10_unspreadFits_37 : decode cX10_unspreadFits 37 = .ok (.iconst 0, 1) := by decide +kernel
theorem dX10_unspreadFits_38 : decode cX10_unspreadFits 38 = .ok (.ireturn, 1) := by decide +kernel
theorem dX10_slipFits_0 : decode cX10_slipFits 0 = .ok (.aload_n 0, 1) := by decide +kernel
theorem dX10_slipFits_1 : decode cX10_slipFits 1 = .ok (.getfield 55, 3) := by decide +kernel
theorem dX10_slipFits_4 : decode cX10_slipFits 4 = .ok (.aload_n 0, 1) := by decide +kernel
theorem dX10_slipFits_5 : decode cX10_slipFits 5 = .ok (.getfield 51, 3) := by decide +kernel
theorem dX10_slipFits_8 : decode cX10_slipFits 8 = .ok (.invokevirtual 237, 3) := by decide +kernel
theorem dX10_slipFits_11 : decode cX10_slipFits 11 = .ok (.aload_n 0, 1) := by decide +kernel
theorem dX10_slipFits_12 : decode cX10_slipFits 12 = .ok (.getfield 55, 3) := by decide +kernel
theorem dX10_slipFits_15 : decode cX10_slipFits 15 = .ok (.iload_n 1, 1) := by decide +kernel
theorem dX10_slipFits_16 : decode cX10_slipFits 16 = .ok (.iload_n 2, 1) := by decide +kernel
theorem dX10_slipFits_17 : decode cX10_slipFits 17 = .ok (.invokevirtual 284, 3) := by decide +kernel
theorem dX10_slipFits_20 : decode cX10_slipFits 20 = .ok (.iconst 0, 1) := by decide +kernel
theorem dX10_slipFits_21 : decode cX10_slipFits 21 = .ok (.istore_n 3, 1) := by decide +kernel
theorem dX10_slipFits_22 : decode cX10_slipFits 22 = .ok (.iload_n 3, 1) := by decide +kernel
theorem dX10_slipFits_23 : decode cX10_slipFits 23 = .ok (.aload_n 0, 1) := by decide +kernel
theorem dX10_slipFits_24 : decode cX10_slipFits 24 = .ok (.getfield 12, 3) := by decide +kernel
theorem dX10_slipFits_27 : decode cX10_slipFits 27 = .ok (.getfield 159, 3) := by decide +kernel
theorem dX10_slipFits_30 : decode cX10_slipFits 30 = .ok (.getfield 151, 3) := by decide +kernel
theorem dX10_slipFits_33 : decode cX10_slipFits 33 = .ok (.if_icmp .ge 21, 3) := by decide +kernel
theorem dX10_slipFits_36 : decode cX10_slipFits 36 = .ok (.aload_n 0, 1) := by decide +kernel
theorem dX10_slipFits_37 : decode cX10_slipFits 37 = .ok (.getfield 55, 3) := by decide +kernel
theorem dX10_slipFits_40 : decode cX10_slipFits 40 = .ok (.aload_n 0, 1) := by decide +kernel
theorem dX10_slipFits_41 : decode cX10_slipFits 41 = .ok (.getfield 12, 3) := by decide +kernel
theorem dX10_slipFits_44 : decode cX10_slipFits 44 = .ok (.iload_n 3, 1) := by decide +kernel
theorem dX10_slipFits_45 : decode cX10_slipFits 45 = .ok (.invokevirtual 288, 3) := by decide +kernel
theorem dX10_slipFits_48 : decode cX10_slipFits 48 = .ok (.iinc 3 1, 3) := by decide +kernel
theorem dX10_slipFits_51 : decode cX10_slipFits 51 = .ok (.goto (-29), 3) := by decide +kernel
theorem dX10_slipFits_54 : decode cX10_slipFits 54 = .ok (.aload_n 0, 1) := by decide +kernel
theorem dX10_slipFits_55 : decode cX10_slipFits 55 = .ok (.getfield 44, 3) := by decide +kernel
theorem dX10_slipFits_58 : decode cX10_slipFits 58 = .ok (.aload_n 0, 1) := by decide +kernel
theorem dX10_slipFits_59 : decode cX10_slipFits 59 = .ok (.getfield 55, 3) := by decide +kernel
theorem dX10_slipFits_62 : decode cX10_slipFits 62 = .ok (.invokevirtual 291, 3) := by decide +kernel
theorem dX10_slipFits_65 : decode cX10_slipFits 65 = .ok (.ireturn, 1) := by decide +kernel
theorem dX10_findTaps_0 : decode cX10_findTaps 0 = .ok (.aload_n 0, 1) := by decide +kernel
theorem dX10_findTaps_1 : decode cX10_findTaps 1 = .ok (.getfield 51, 3) := by decide +kernel
theorem dX10_findTaps_4 : decode cX10_findTaps 4 = .ok (.aload_n 0, 1) := by decide +kernel
theorem dX10_findTaps_5 : decode cX10_findTaps 5 = .ok (.getfield 12, 3) := by decide +kernel
theorem dX10_findTaps_8 : decode cX10_findTaps 8 = .ok (.aload_n 0, 1) := by decide +kernel
theorem dX10_findTaps_9 : decode cX10_findTaps 9 = .ok (.getfield 12, 3) := by decide +kernel
theorem dX10_findTaps_12 : decode cX10_findTaps 12 = .ok (.getfield 159, 3) := by decide +kernel
theorem dX10_findTaps_15 : decode cX10_findTaps 15 = .ok (.getfield 151, 3) := by decide +kernel
theorem dX10_findTaps_18 : decode cX10_findTaps 18 = .ok (.invokevirtual 217, 3) := by decide +kernel
theorem dX10_findTaps_21 : decode cX10_findTaps 21 = .ok (.aload_n 0, 1) := by decide +kernel
theorem dX10_findTaps_22 : decode cX10_findTaps 22 = .ok (.getfield 51, 3) := by decide +kernel
theorem dX10_findTaps_25 : decode cX10_findTaps 25 = .ok (.getfield 221, 3) := by decide +kernel
theorem dX10_findTaps_28 : decode cX10_findTaps 28 = .ok (.astore_n 3, 1) := by decide +kernel
theorem dX10_findTaps_29 : decode cX10_findTaps 29 = .ok (.aload_n 0, 1) := by decide +kernel
theorem dX10_findTaps_30 : decode cX10_findTaps 30 = .ok (.getfield 12, 3) := by decide +kernel
theorem dX10_findTaps_33 : decode cX10_findTaps 33 = .ok (.getfield 110, 3) := by decide +kernel
theorem dX10_findTaps_36 : decode cX10_findTaps 36 = .ok (.astore 4, 2) := by decide +kernel
theorem dX10_findTaps_38 : decode cX10_findTaps 38 = .ok (.aload_n 0, 1) := by decide +kernel
theorem dX10_findTaps_39 : decode cX10_findTaps 39 = .ok (.getfield 74, 3) := by decide +kernel
theorem dX10_findTaps_42 : decode cX10_findTaps 42 = .ok (.aload_n 3, 1) := by decide +kernel
theorem dX10_findTaps_43 : decode cX10_findTaps 43 = .ok (.iload_n 1, 1) := by decide +kernel
theorem dX10_findTaps_44 : decode cX10_findTaps 44 = .ok (.iaload, 1) := by decide +kernel
theorem dX10_findTaps_45 : decode cX10_findTaps 45 = .ok (.aload_n 3, 1) := by decide +kernel
theorem dX10_findTaps_46 : decode cX10_findTaps 46 = .ok (.iload_n 2, 1) := by decide +kernel
theorem dX10_findTaps_47 : decode cX10_findTaps 47 = .ok (.iaload, 1) := by decide +kernel
theorem dX10_findTaps_48 : decode cX10_findTaps 48 = .ok (.aload_n 3, 1) := by decide +kernel
theorem dX10_findTaps_49 : decode cX10_findTaps 49 = .ok (.bipush 16, 2) := by decide +kernel
theorem dX10_findTaps_51 : decode cX10_findTaps 51 = .ok (.iload_n 1, 1) := by decide +kernel
theorem dX10_findTaps_52 : decode cX10_findTaps 52 = .ok (.iadd, 1) := by decide +kernel
theorem dX10_findTaps_53 : decode cX10_findTaps 53 = .ok (.iaload, 1) := by decide +kernel
theorem dX10_findTaps_54 : decode cX10_findTaps 54 = .ok (.aload_n 3, 1) := by decide +kernel
theorem dX10_findTaps_55 : decode cX10_findTaps 55 = .ok (.bipush 16, 2) := by decide +kernel
theorem dX10_findTaps_57 : decode cX10_findTaps 57 = .ok (.iload_n 2, 1) := by decide +kernel
theorem dX10_findTaps_58 : decode cX10_findTaps 58 = .ok (.iadd, 1) := by decide +kernel
theorem dX10_findTaps_59 : decode cX10_findTaps 59 = .ok (.iaload, 1) := by decide +kernel
theorem dX10_findTaps_60 : decode cX10_findTaps 60 = .ok (.invokevirtual 295, 3) := by decide +kernel
theorem dX10_findTaps_63 : decode cX10_findTaps 63 = .ok (.aload_n 0, 1) := by decide +kernel
theorem dX10_findTaps_64 : decode cX10_findTaps 64 = .ok (.getfield 78, 3) := by decide +kernel
theorem dX10_findTaps_67 : decode cX10_findTaps 67 = .ok (.aload 4, 2) := by decide +kernel
theorem dX10_findTaps_69 : decode cX10_findTaps 69 = .ok (.iload_n 1, 1) := by decide +kernel
theorem dX10_findTaps_70 : decode cX10_findTaps 70 = .ok (.iaload, 1) := by decide +kernel
theorem dX10_findTaps_71 : decode cX10_findTaps 71 = .ok (.invokestatic 299, 3) := by decide +kernel
theorem dX10_findTaps_74 : decode cX10_findTaps 74 = .ok (.aload 4, 2) := by decide +kernel
theorem dX10_findTaps_76 : decode cX10_findTaps 76 = .ok (.iload_n 2, 1) := by decide +kernel
theorem dX10_findTaps_77 : decode cX10_findTaps 77 = .ok (.iaload, 1) := by decide +kernel
theorem dX10_findTaps_78 : decode cX10_findTaps 78 = .ok (.invokestatic 299, 3) := by decide +kernel
theorem dX10_findTaps_81 : decode cX10_findTaps 81 = .ok (.aload 4, 2) := by decide +kernel
theorem dX10_findTaps_83 : decode cX10_findTaps 83 = .ok (.bipush 16, 2) := by decide +kernel
theorem dX10_findTaps_85 : decode cX10_findTaps 85 = .ok (.iload_n 1, 1) := by decide +kernel
theorem dX10_findTaps_86 : decode cX10_findTaps 86 = .ok (.iadd, 1) := by decide +kernel
theorem dX10_findTaps_87 : decode cX10_findTaps 87 = .ok (.iaload, 1) := by decide +kernel
theorem dX10_findTaps_88 : decode cX10_findTaps 88 = .ok (.invokestatic 299, 3) := by decide +kernel
theorem dX10_findTaps_91 : decode cX10_findTaps 91 = .ok (.aload 4, 2) := by decide +kernel
theorem dX10_findTaps_93 : decode cX10_findTaps 93 = .ok (.bipush 16, 2) := by decide +kernel
theorem dX10_findTaps_95 : decode cX10_findTaps 95 = .ok (.iload_n 2, 1) := by decide +kernel
theorem dX10_findTaps_96 : decode cX10_findTaps 96 = .ok (.iadd, 1) := by decide +kernel
theorem dX10_findTaps_97 : decode cX10_findTaps 97 = .ok (.iaload, 1) := by decide +kernel
theorem dX10_findTaps_98 : decode cX10_findTaps 98 = .ok (.invokestatic 299, 3) := by decide +kernel
theorem dX10_findTaps_101 : decode cX10_findTaps 101 = .ok (.invokevirtual 295, 3) := by decide +kernel
theorem dX10_findTaps_104 : decode cX10_findTaps 104 = .ok (.aload_n 0, 1) := by decide +kernel
theorem dX10_findTaps_105 : decode cX10_findTaps 105 = .ok (.getfield 74, 3) := by decide +kernel
theorem dX10_findTaps_108 : decode cX10_findTaps 108 = .ok (.invokevirtual 302, 3) := by decide +kernel
theorem dX10_findTaps_111 : decode cX10_findTaps 111 = .ok (.ifCond .eq 13, 3) := by decide +kernel
theorem dX10_findTaps_114 : decode cX10_findTaps 114 = .ok (.aload_n 0, 1) := by decide +kernel
theorem dX10_findTaps_115 : decode cX10_findTaps 115 = .ok (.getfield 78, 3) := by decide +kernel
theorem dX10_findTaps_118 : decode cX10_findTaps 118 = .ok (.invokevirtual 302, 3) := by decide +kernel
theorem dX10_findTaps_121 : decode cX10_findTaps 121 = .ok (.ifCond .ne 5, 3) := by decide +kernel
theorem dX10_findTaps_124 : decode cX10_findTaps 124 = .ok (.iconst 0, 1) := by decide +kernel
theorem dX10_findTaps_125 : decode cX10_findTaps 125 = .ok (.ireturn, 1) := by decide +kernel
theorem dX10_findTaps_126 : decode cX10_findTaps 126 = .ok (.aload_n 0, 1) := by decide +kernel
theorem dX10_findTaps_127 : decode cX10_findTaps 127 = .ok (.getfield 74, 3) := by decide +kernel
theorem dX10_findTaps_130 : decode cX10_findTaps 130 = .ok (.invokevirtual 168, 3) := by decide +kernel
theorem dX10_findTaps_133 : decode cX10_findTaps 133 = .ok (.aload_n 0, 1) := by decide +kernel
theorem dX10_findTaps_134 : decode cX10_findTaps 134 = .ok (.getfield 74, 3) := by decide +kernel
theorem dX10_findTaps_137 : decode cX10_findTaps 137 = .ok (.aload_n 0, 1) := by decide +kernel
theorem dX10_findTaps_138 : decode cX10_findTaps 138 = .ok (.getfield 78, 3) := by decide +kernel
theorem dX10_findTaps_141 : decode cX10_findTaps 141 = .ok (.invokevirtual 305, 3) := by decide +kernel
theorem dX10_findTaps_144 : decode cX10_findTaps 144 = .ok (.iconst 1, 1) := by decide +kernel
theorem dX10_findTaps_145 : decode cX10_findTaps 145 = .ok (.ireturn, 1) := by decide +kernel
theorem dX10_findBestOrder_0 : decode cX10_findBestOrder 0 = .ok (.bipush 33, 2) := by decide +kernel
theorem dX10_findBestOrder_2 : decode cX10_findBestOrder 2 = .ok (.istore_n 1, 1) := by decide +kernel
theorem dX10_findBestOrder_3 : decode cX10_findBestOrder 3 = .ok (.aload_n 0, 1) := by decide +kernel
theorem dX10_findBestOrder_4 : decode cX10_findBestOrder 4 = .ok (.getfield 61, 3) := by decide +kernel
theorem dX10_findBestOrder_7 : decode cX10_findBestOrder 7 = .ok (.aload_n 0, 1) := by decide +kernel
theorem dX10_findBestOrder_8 : decode cX10_findBestOrder 8 = .ok (.getfield 12, 3) := by decide +kernel
theorem dX10_findBestOrder_11 : decode cX10_findBestOrder 11 = .ok (.getfield 159, 3) := by decide +kernel
theorem dX10_findBestOrder_14 : decode cX10_findBestOrder 14 = .ok (.getfield 151, 3) := by decide +kernel
theorem dX10_findBestOrder_17 : decode cX10_findBestOrder 17 = .ok (.invokevirtual 309, 3) := by decide +kernel
theorem dX10_findBestOrder_20 : decode cX10_findBestOrder 20 = .ok (.iconst 0, 1) := by decide +kernel
theorem dX10_findBestOrder_21 : decode cX10_findBestOrder 21 = .ok (.istore_n 2, 1) := by decide +kernel
theorem dX10_findBestOrder_22 : decode cX10_findBestOrder 22 = .ok (.iload_n 2, 1) := by decide +kernel
theorem dX10_findBestOrder_23 : decode cX10_findBestOrder 23 = .ok (.bipush 24, 2) := by decide +kernel
theorem dX10_findBestOrder_25 : decode cX10_findBestOrder 25 = .ok (.if_icmp .ge 48, 3) := by decide +kernel
theorem dX10_findBestOrder_28 : decode cX10_findBestOrder 28 = .ok (.aload_n 0, 1) := by decide +kernel
theorem dX10_findBestOrder_29 : decode cX10_findBestOrder 29 = .ok (.aload_n 0, 1) := by decide +kernel
theorem dX10_findBestOrder_30 : decode cX10_findBestOrder 30 = .ok (.getfield 61, 3) := by decide +kernel
theorem dX10_findBestOrder_33 : decode cX10_findBestOrder 33 = .ok (.getfield 312, 3) := by decide +kernel
theorem dX10_findBestOrder_36 : decode cX10_findBestOrder 36 = .ok (.invokevirtual 315, 3) := by decide +kernel
theorem dX10_findBestOrder_39 : decode cX10_findBestOrder 39 = .ok (.istore_n 3, 1) := by decide +kernel
theorem dX10_findBestOrder_40 : decode cX10_findBestOrder 40 = .ok (.iload_n 3, 1) := by decide +kernel
theorem dX10_findBestOrder_41 : decode cX10_findBestOrder 41 = .ok (.iload_n 1, 1) := by decide +kernel
theorem dX10_findBestOrder_42 : decode cX10_findBestOrder 42 = .ok (.if_icmp .ge 12, 3) := by decide +kernel
theorem dX10_findBestOrder_45 : decode cX10_findBestOrder 45 = .ok (.iload_n 3, 1) := by decide +kernel
theorem dX10_findBestOrder_46 : decode cX10_findBestOrder 46 = .ok (.istore_n 1, 1) := by decide +kernel
theorem dX10_findBestOrder_47 : decode cX10_findBestOrder 47 = .ok (.aload_n 0, 1) := by decide +kernel
theorem dX10_findBestOrder_48 : decode cX10_findBestOrder 48 = .ok (.getfield 61, 3) := by decide +kernel
theorem dX10_findBestOrder_51 : decode cX10_findBestOrder 51 = .ok (.invokevirtual 319, 3) := by decide +kernel
theorem dX10_findBestOrder_54 : decode cX10_findBestOrder 54 = .ok (.aload_n 0, 1) := by decide +kernel
theorem dX10_findBestOrder_55 : decode cX10_findBestOrder 55 = .ok (.getfield 61, 3) := by decide +kernel
theorem dX10_findBestOrder_58 : decode cX10_findBestOrder 58 = .ok (.invokevirtual 322, 3) := by decide +kernel
theorem dX10_findBestOrder_61 : decode cX10_findBestOrder 61 = .ok (.ifCond .ne 6, 3) := by decide +kernel
theorem dX10_findBestOrder_64 : decode cX10_findBestOrder 64 = .ok (.goto 9, 3) := by decide +kernel
theorem dX10_findBestOrder_67 : decode cX10_findBestOrder 67 = .ok (.iinc 2 1, 3) := by decide +kernel
theorem dX10_findBestOrder_70 : decode cX10_findBestOrder 70 = .ok (.goto (-48), 3) := by decide +kernel
theorem dX10_findBestOrder_73 : decode cX10_findBestOrder 73 = .ok (.iload_n 1, 1) := by decide +kernel
theorem dX10_findBestOrder_74 : decode cX10_findBestOrder 74 = .ok (.ireturn, 1) := by decide +kernel
theorem dX10_errorsInOrder_0 : decode cX10_errorsInOrder 0 = .ok (.aload_n 0, 1) := by decide +kernel
theorem dX10_errorsInOrder_1 : decode cX10_errorsInOrder 1 = .ok (.getfield 51, 3) := by decide +kernel
theorem dX10_errorsInOrder_4 : decode cX10_errorsInOrder 4 = .ok (.aload_n 0, 1) := by decide +kernel
theorem dX10_errorsInOrder_5 : decode cX10_errorsInOrder 5 = .ok (.getfield 12, 3) := by decide +kernel
theorem dX10_errorsInOrder_8 : decode cX10_errorsInOrder 8 = .ok (.iconst 0, 1) := by decide +kernel
theorem dX10_errorsInOrder_9 : decode cX10_errorsInOrder 9 = .ok (.invokevirtual 217, 3) := by decide +kernel
theorem dX10_errorsInOrder_12 : decode cX10_errorsInOrder 12 = .ok (.iconst 0, 1) := by decide +kernel
theorem dX10_errorsInOrder_13 : decode cX10_errorsInOrder 13 = .ok (.istore_n 2, 1) := by decide +kernel
theorem dX10_errorsInOrder_14 : decode cX10_errorsInOrder 14 = .ok (.iload_n 2, 1) := by decide +kernel
theorem dX10_errorsInOrder_15 : decode cX10_errorsInOrder 15 = .ok (.aload_n 0, 1) := by decide +kernel
theorem dX10_errorsInOrder_16 : decode cX10_errorsInOrder 16 = .ok (.getfield 12, 3) := by decide +kernel
theorem dX10_errorsInOrder_19 : decode cX10_errorsInOrder 19 = .ok (.getfield 159, 3) := by decide +kernel
theorem dX10_errorsInOrder_22 : decode cX10_errorsInOrder 22 = .ok (.getfield 151, 3) := by decide +kernel
theorem dX10_errorsInOrder_25 : decode cX10_errorsInOrder 25 = .ok (.if_icmp .ge 23, 3) := by decide +kernel
theorem dX10_errorsInOrder_28 : decode cX10_errorsInOrder 28 = .ok (.aload_n 0, 1) := by decide +kernel
theorem dX10_errorsInOrder_29 : decode cX10_errorsInOrder 29 = .ok (.getfield 51, 3) := by decide +kernel
theorem dX10_errorsInOrder_32 : decode cX10_errorsInOrder 32 = .ok (.aload_n 0, 1) := by decide +kernel
theorem dX10_errorsInOrder_33 : decode cX10_errorsInOrder 33 = .ok (.getfield 12, 3) := by decide +kernel
theorem dX10_errorsInOrder_36 : decode cX10_errorsInOrder 36 = .ok (.aload_n 1, 1) := by decide +kernel
theorem dX10_errorsInOrder_37 : decode cX10_errorsInOrder 37 = .ok (.iload_n 2, 1) := by decide +kernel
theorem dX10_errorsInOrder_38 : decode cX10_errorsInOrder 38 = .ok (.iaload, 1) := by decide +kernel
theorem dX10_errorsInOrder_39 : decode cX10_errorsInOrder 39 = .ok (.invokevirtual 288, 3) := by decide +kernel
theorem dX10_errorsInOrder_42 : decode cX10_errorsInOrder 42 = .ok (.iinc 2 1, 3) := by decide +kernel
theorem dX10_errorsInOrder_45 : decode cX10_errorsInOrder 45 = .ok (.goto (-31), 3) := by decide +kernel
theorem dX10_errorsInOrder_48 : decode cX10_errorsInOrder 48 = .ok (.aload_n 0, 1) := by decide +kernel
theorem dX10_errorsInOrder_49 : decode cX10_errorsInOrder 49 = .ok (.getfield 51, 3) := by decide +kernel
theorem dX10_errorsInOrder_52 : decode cX10_errorsInOrder 52 = .ok (.aload_n 0, 1) := by decide +kernel
theorem dX10_errorsInOrder_53 : decode cX10_errorsInOrder 53 = .ok (.getfield 12, 3) := by decide +kernel
theorem dX10_errorsInOrder_56 : decode cX10_errorsInOrder 56 = .ok (.invokevirtual 278, 3) := by decide +kernel
theorem dX10_errorsInOrder_59 : decode cX10_errorsInOrder 59 = .ok (.ireturn, 1) := by decide +kernel
theorem dJ6_bitCount_0f7a4_0 : decode cJ6_bitCount_0f7a4 0 = .ok (.iload_n 0, 1) := by decide +kernel
theorem dJ6_bitCount_0f7a4_1 : decode cJ6_bitCount_0f7a4 1 = .ok (.iload_n 0, 1) := by decide +kernel
theorem dJ6_bitCount_0f7a4_2 : decode cJ6_bitCount_0f7a4 2 = .ok (.iconst 1, 1) := by decide +kernel
theorem dJ6_bitCount_0f7a4_3 : decode cJ6_bitCount_0f7a4 3 = .ok (.iushr, 1) := by decide +kernel
theorem dJ6_bitCount_0f7a4_4 : decode cJ6_bitCount_0f7a4 4 = .ok (.ldc_w 265, 3) := by decide +kernel
theorem dJ6_bitCount_0f7a4_7 : decode cJ6_bitCount_0f7a4 7 = .ok (.iand, 1) := by decide +kernel
theorem dJ6_bitCount_0f7a4_8 : decode cJ6_bitCount_0f7a4 8 = .ok (.isub, 1) := by decide +kernel
theorem dJ6_bitCount_0f7a4_9 : decode cJ6_bitCount_0f7a4 9 = .ok (.istore_n 0, 1) := by decide +kernel
theorem dJ6_bitCount_0f7a4_10 : decode cJ6_bitCount_0f7a4 10 = .ok (.iload_n 0, 1) := by decide +kernel
theorem dJ6_bitCount_0f7a4_11 : decode cJ6_bitCount_0f7a4 11 = .ok (.ldc_w 266, 3) := by decide +kernel
theorem dJ6_bitCount_0f7a4_14 : decode cJ6_bitCount_0f7a4 14 = .ok (.iand, 1) := by decide +kernel
theorem dJ6_bitCount_0f7a4_15 : decode cJ6_bitCount_0f7a4 15 = .ok (.iload_n 0, 1) := by decide +kernel
theorem dJ6_bitCount_0f7a4_16 : decode cJ6_bitCount_0f7a4 16 = .ok (.iconst 2, 1) := by decide +kernel
theorem dJ6_bitCount_0f7a4_17 : decode cJ6_bitCount_0f7a4 17 = .ok (.iushr, 1) := by decide +kernel
theorem dJ6_bitCount_0f7a4_18 : decode cJ6_bitCount_0f7a4 18 = .ok (.ldc_w 266, 3) := by decide +kernel
theorem dJ6_bitCount_0f7a4_21 : decode cJ6_bitCount_0f7a4 21 = .ok (.iand, 1) := by decide +kernel
theorem dJ6_bitCount_0f7a4_22 : decode cJ6_bitCount_0f7a4 22 = .ok (.iadd, 1) := by decide +kernel
theorem dJ6_bitCount_0f7a4_23 : decode cJ6_bitCount_0f7a4 23 = .ok (.istore_n 0, 1) := by decide +kernel
theorem dJ6_bitCount_0f7a4_24 : decode cJ6_bitCount_0f7a4 24 = .ok (.iload_n 0, 1) := by decide +kernel
theorem dJ6_bitCount_0f7a4_25 : decode cJ6_bitCount_0f7a4 25 = .ok (.iload_n 0, 1) := by decide +kernel
theorem dJ6_bitCount_0f7a4_26 : decode cJ6_bitCount_0f7a4 26 = .ok (.iconst 4, 1) := by decide +kernel
theorem dJ6_bitCount_0f7a4_27 : decode cJ6_bitCount_0f7a4 27 = .ok (.iushr, 1) := by decide +kernel
theorem dJ6_bitCount_0f7a4_28 : decode cJ6_bitCount_0f7a4 28 = .ok (.iadd, 1) := by decide +kernel
theorem dJ6_bitCount_0f7a4_29 : decode cJ6_bitCount_0f7a4 29 = .ok (.ldc_w 267, 3) := by decide +kernel
theorem dJ6_bitCount_0f7a4_32 : decode cJ6_bitCount_0f7a4 32 = .ok (.iand, 1) := by decide +kernel
theorem dJ6_bitCount_0f7a4_33 : decode cJ6_bitCount_0f7a4 33 = .ok (.istore_n 0, 1) := by decide +kernel
theorem dJ6_bitCount_0f7a4_34 : decode cJ6_bitCount_0f7a4 34 = .ok (.iload_n 0, 1) := by decide +kernel
theorem dJ6_bitCount_0f7a4_35 : decode cJ6_bitCount_0f7a4 35 = .ok (.iload_n 0, 1) := by decide +kernel
theorem dJ6_bitCount_0f7a4_36 : decode cJ6_bitCount_0f7a4 36 = .ok (.bipush 8, 2) := by decide +kernel
theorem dJ6_bitCount_0f7a4_38 : decode cJ6_bitCount_0f7a4 38 = .ok (.iushr, 1) := by decide +kernel
theorem dJ6_bitCount_0f7a4_39 : decode cJ6_bitCount_0f7a4 39 = .ok (.iadd, 1) := by decide +kernel
theorem dJ6_bitCount_0f7a4_40 : decode cJ6_bitCount_0f7a4 40 = .ok (.istore_n 0, 1) := by decide +kernel
theorem dJ6_bitCount_0f7a4_41 : decode cJ6_bitCount_0f7a4 41 = .ok (.iload_n 0, 1) := by decide +kernel
theorem dJ6_bitCount_0f7a4_42 : decode cJ6_bitCount_0f7a4 42 = .ok (.iload_n 0, 1) := by decide +kernel
theorem dJ6_bitCount_0f7a4_43 : decode cJ6_bitCount_0f7a4 43 = .ok (.bipush 16, 2) := by decide +kernel
theorem dJ6_bitCount_0f7a4_45 : decode cJ6_bitCount_0f7a4 45 = .ok (.iushr, 1) := by decide +kernel
theorem dJ6_bitCount_0f7a4_46 : decode cJ6_bitCount_0f7a4 46 = .ok (.iadd, 1) := by decide +kernel
theorem dJ6_bitCount_0f7a4_47 : decode cJ6_bitCount_0f7a4 47 = .ok (.istore_n 0, 1) := by decide +kernel
theorem dJ6_bitCount_0f7a4_48 : decode cJ6_bitCount_0f7a4 48 = .ok (.iload_n 0, 1) := by decide +kernel
theorem dJ6_bitCount_0f7a4_49 : decode cJ6_bitCount_0f7a4 49 = .ok (.bipush 63, 2) := by decide +kernel
theorem dJ6_bitCount_0f7a4_51 : decode cJ6_bitCount_0f7a4 51 = .ok (.iand, 1) := by decide +kernel
theorem dJ6_bitCount_0f7a4_52 : decode cJ6_bitCount_0f7a4 52 = .ok (.ireturn, 1) := by decide +kernel
theorem dJ9_floorMod_7cf53_0 : decode cJ9_floorMod_7cf53 0 = .ok (.iload_n 0, 1) := by decide +kernel
theorem dJ9_floorMod_7cf53_1 : decode cJ9_floorMod_7cf53 1 = .ok (.iload_n 1, 1) := by decide +kernel
theorem dJ9_floorMod_7cf53_2 : decode cJ9_floorMod_7cf53 2 = .ok (.irem, 1) := by decide +kernel
theorem dJ9_floorMod_7cf53_3 : decode cJ9_floorMod_7cf53 3 = .ok (.istore_n 2, 1) := by decide +kernel
theorem dJ9_floorMod_7cf53_4 : decode cJ9_floorMod_7cf53 4 = .ok (.iload_n 0, 1) := by decide +kernel
theorem dJ9_floorMod_7cf53_5 : decode cJ9_floorMod_7cf53 5 = .ok (.iload_n 1, 1) := by decide +kernel
theorem dJ9_floorMod_7cf53_6 : decode cJ9_floorMod_7cf53 6 = .ok (.ixor, 1) := by decide +kernel
theorem dJ9_floorMod_7cf53_7 : decode cJ9_floorMod_7cf53 7 = .ok (.ifCond .ge 11, 3) := by decide +kernel
theorem dJ9_floorMod_7cf53_10 : decode cJ9_floorMod_7cf53 10 = .ok (.iload_n 2, 1) := by decide +kernel
theorem dJ9_floorMod_7cf53_11 : decode cJ9_floorMod_7cf53 11 = .ok (.ifCond .eq 7, 3) := by decide +kernel
theorem dJ9_floorMod_7cf53_14 : decode cJ9_floorMod_7cf53 14 = .ok (.iload_n 2, 1) := by decide +kernel
theorem dJ9_floorMod_7cf53_15 : decode cJ9_floorMod_7cf53 15 = .ok (.iload_n 1, 1) := by decide +kernel
theorem dJ9_floorMod_7cf53_16 : decode cJ9_floorMod_7cf53 16 = .ok (.iadd, 1) := by decide +kernel
theorem dJ9_floorMod_7cf53_17 : decode cJ9_floorMod_7cf53 17 = .ok (.ireturn, 1) := by decide +kernel
theorem dJ9_floorMod_7cf53_18 : decode cJ9_floorMod_7cf53 18 = .ok (.iload_n 2, 1) := by decide +kernel
theorem dJ9_floorMod_7cf53_19 : decode cJ9_floorMod_7cf53 19 = .ok (.ireturn, 1) := by decide +kernel
theorem dJ9_max_7cf53_0 : decode cJ9_max_7cf53 0 = .ok (.iload_n 0, 1) := by decide +kernel
theorem dJ9_max_7cf53_1 : decode cJ9_max_7cf53 1 = .ok (.iload_n 1, 1) := by decide +kernel
theorem dJ9_max_7cf53_2 : decode cJ9_max_7cf53 2 = .ok (.if_icmp .lt 7, 3) := by decide +kernel
theorem dJ9_max_7cf53_5 : decode cJ9_max_7cf53 5 = .ok (.iload_n 0, 1) := by decide +kernel
theorem dJ9_max_7cf53_6 : decode cJ9_max_7cf53 6 = .ok (.goto 4, 3) := by decide +kernel
theorem dJ9_max_7cf53_9 : decode cJ9_max_7cf53 9 = .ok (.iload_n 1, 1) := by decide +kernel
theorem dJ9_max_7cf53_10 : decode cJ9_max_7cf53 10 = .ok (.ireturn, 1) := by decide +kernel
theorem dJ9_min_7cf53_0 : decode cJ9_min_7cf53 0 = .ok (.iload_n 0, 1) := by decide +kernel
theorem dJ9_min_7cf53_1 : decode cJ9_min_7cf53 1 = .ok (.iload_n 1, 1) := by decide +kernel
theorem dJ9_min_7cf53_2 : decode cJ9_min_7cf53 2 = .ok (.if_icmp .gt 7, 3) := by decide +kernel
theorem dJ9_min_7cf53_5 : decode cJ9_min_7cf53 5 = .ok (.iload_n 0, 1) := by decide +kernel
theorem dJ9_min_7cf53_6 : decode cJ9_min_7cf53 6 = .ok (.goto 4, 3) := by decide +kernel
theorem dJ9_min_7cf53_9 : decode cJ9_min_7cf53 9 = .ok (.iload_n 1, 1) := by decide +kernel
theorem dJ9_min_7cf53_10 : decode cJ9_min_7cf53 10 = .ok (.ireturn, 1) := by decide +kernel
theorem dJ7_fill_53178_0 : decode cJ7_fill_53178 0 = .ok (.iconst 0, 1) := by decide +kernel
theorem dJ7_fill_53178_1 : decode cJ7_fill_53178 1 = .ok (.istore_n 2, 1) := by decide +kernel
theorem dJ7_fill_53178_2 : decode cJ7_fill_53178 2 = .ok (.aload_n 0, 1) := by decide +kernel
theorem dJ7_fill_53178_3 : decode cJ7_fill_53178 3 = .ok (.arraylength, 1) := by decide +kernel
theorem dJ7_fill_53178_4 : decode cJ7_fill_53178 4 = .ok (.istore_n 3, 1) := by decide +kernel
theorem dJ7_fill_53178_5 : decode cJ7_fill_53178 5 = .ok (.iload_n 2, 1) := by decide +kernel
theorem dJ7_fill_53178_6 : decode cJ7_fill_53178 6 = .ok (.iload_n 3, 1) := by decide +kernel
theorem dJ7_fill_53178_7 : decode cJ7_fill_53178 7 = .ok (.if_icmp .ge 13, 3) := by decide +kernel
theorem dJ7_fill_53178_10 : decode cJ7_fill_53178 10 = .ok (.aload_n 0, 1) := by decide +kernel
theorem dJ7_fill_53178_11 : decode cJ7_fill_53178 11 = .ok (.iload_n 2, 1) := by decide +kernel
theorem dJ7_fill_53178_12 : decode cJ7_fill_53178 12 = .ok (.iload_n 1, 1) := by decide +kernel
theorem dJ7_fill_53178_13 : decode cJ7_fill_53178 13 = .ok (.iastore, 1) := by decide +kernel
theorem dJ7_fill_53178_14 : decode cJ7_fill_53178 14 = .ok (.iinc 2 1, 3) := by decide +kernel
theorem dJ7_fill_53178_17 : decode cJ7_fill_53178 17 = .ok (.goto (-12), 3) := by decide +kernel
theorem dJ7_fill_53178_20 : decode cJ7_fill_53178 20 = .ok (.return_, 1) := by decide +kernel
end
section
/-! decode rows, printed: the reference and the law -/
theorem dX11_init_0 : decode cX11_init 0 = .ok (.aload_n 0, 1) := by decide +kernel
theorem dX11_init_1 : decode cX11_init 1 = .ok (.invokespecial 1, 3) := by decide +kernel
theorem dX11_init_4 : decode cX11_init 4 = .ok (.aload_n 0, 1) := by decide +kernel
theorem dX11_init_5 : decode cX11_init 5 = .ok (.bipush 86, 2) := by decide +kernel
theorem dX11_init_7 : decode cX11_init 7 = .ok (.newarray .int, 2) := by decide +kernel
theorem dX11_init_9 : decode cX11_init 9 = .ok (.putfield 7, 3) := by decide +kernel
theorem dX11_init_12 : decode cX11_init 12 = .ok (.aload_n 0, 1) := by decide +kernel
theorem dX11_init_13 : decode cX11_init 13 = .ok (.sipush 516, 3) := by decide +kernel
theorem dX11_init_16 : decode cX11_init 16 = .ok (.newarray .int, 2) := by decide +kernel
theorem dX11_init_18 : decode cX11_init 18 = .ok (.putfield 13, 3) := by decide +kernel
theorem dX11_init_21 : decode cX11_init 21 = .ok (.aload_n 0, 1) := by decide +kernel
theorem dX11_init_22 : decode cX11_init 22 = .ok (.bipush 6, 2) := by decide +kernel
theorem dX11_init_24 : decode cX11_init 24 = .ok (.newarray .float, 2) := by decide +kernel
theorem dX11_init_26 : decode cX11_init 26 = .ok (.putfield 16, 3) := by decide +kernel
theorem dX11_init_29 : decode cX11_init 29 = .ok (.aload_n 0, 1) := by decide +kernel
theorem dX11_init_30 : decode cX11_init 30 = .ok (.sipush 172, 3) := by decide +kernel
theorem dX11_init_33 : decode cX11_init 33 = .ok (.newarray .int, 2) := by decide +kernel
theorem dX11_init_35 : decode cX11_init 35 = .ok (.putfield 20, 3) := by decide +kernel
theorem dX11_init_38 : decode cX11_init 38 = .ok (.aload_n 0, 1) := by decide +kernel
theorem dX11_init_39 : decode cX11_init 39 = .ok (.iconst 2, 1) := by decide +kernel
theorem dX11_init_40 : decode cX11_init 40 = .ok (.newarray .float, 2) := by decide +kernel
theorem dX11_init_42 : decode cX11_init 42 = .ok (.putfield 23, 3) := by decide +kernel
theorem dX11_init_45 : decode cX11_init 45 = .ok (.aload_n 0, 1) := by decide +kernel
theorem dX11_init_46 : decode cX11_init 46 = .ok (.iconst 2, 1) := by decide +kernel
theorem dX11_init_47 : decode cX11_init 47 = .ok (.newarray .boolean, 2) := by decide +kernel
theorem dX11_init_49 : decode cX11_init 49 = .ok (.putfield 26, 3) := by decide +kernel
theorem dX11_init_52 : decode cX11_init 52 = .ok (.aload_n 0, 1) := by decide +kernel
theorem dX11_init_53 : decode cX11_init 53 = .ok (.sipush 160, 3) := by decide +kernel
theorem dX11_init_56 : decode cX11_init 56 = .ok (.newarray .int, 2) := by decide +kernel
theorem dX11_init_58 : decode cX11_init 58 = .ok (.putfield 30, 3) := by decide +kernel
theorem dX11_init_61 : decode cX11_init 61 = .ok (.aload_n 0, 1) := by decide +kernel
theorem dX11_init_62 : decode cX11_init 62 = .ok (.bipush 86, 2) := by decide +kernel
theorem dX11_init_64 : decode cX11_init 64 = .ok (.newarray .int, 2) := by decide +kernel
theorem dX11_init_66 : decode cX11_init 66 = .ok (.putfield 33, 3) := by decide +kernel
theorem dX11_init_69 : decode cX11_init 69 = .ok (.aload_n 0, 1) := by decide +kernel
theorem dX11_init_70 : decode cX11_init 70 = .ok (.bipush 32, 2) := by decide +kernel
theorem dX11_init_72 : decode cX11_init 72 = .ok (.newarray .int, 2) := by decide +kernel
theorem dX11_init_74 : decode cX11_init 74 = .ok (.putfield 36, 3) := by decide +kernel
theorem dX11_init_77 : decode cX11_init 77 = .ok (.aload_n 0, 1) := by decide +kernel
theorem dX11_init_78 : decode cX11_init 78 = .ok (.bipush 32, 2) := by decide +kernel
theorem dX11_init_80 : decode cX11_init 80 = .ok (.newarray .int, 2) := by decide +kernel
theorem dX11_init_82 : decode cX11_init 82 = .ok (.putfield 39, 3) := by decide +kernel
theorem dX11_init_85 : decode cX11_init 85 = .ok (.aload_n 0, 1) := by decide +kernel
theorem dX11_init_86 : decode cX11_init 86 = .ok (.iconst 4, 1) := by decide +kernel
theorem dX11_init_87 : decode cX11_init 87 = .ok (.newarray .int, 2) := by decide +kernel
theorem dX11_init_89 : decode cX11_init 89 = .ok (.putfield 42, 3) := by decide +kernel
theorem dX11_init_92 : decode cX11_init 92 = .ok (.aload_n 0, 1) := by decide +kernel
theorem dX11_init_93 : decode cX11_init 93 = .ok (.iconst 4, 1) := by decide +kernel
theorem dX11_init_94 : decode cX11_init 94 = .ok (.newarray .int, 2) := by decide +kernel
theorem dX11_init_96 : decode cX11_init 96 = .ok (.putfield 45, 3) := by decide +kernel
theorem dX11_init_99 : decode cX11_init 99 = .ok (.aload_n 0, 1) := by decide +kernel
theorem dX11_init_100 : decode cX11_init 100 = .ok (.iconst 4, 1) := by decide +kernel
theorem dX11_init_101 : decode cX11_init 101 = .ok (.newarray .int, 2) := by decide +kernel
theorem dX11_init_103 : decode cX11_init 103 = .ok (.putfield 48, 3) := by decide +kernel
theorem dX11_init_106 : decode cX11_init 106 = .ok (.aload_n 0, 1) := by decide +kernel
theorem dX11_init_107 : decode cX11_init 107 = .ok (.bipush 20, 2) := by decide +kernel
theorem dX11_init_109 : decode cX11_init 109 = .ok (.newarray .int, 2) := by decide +kernel
theorem dX11_init_111 : decode cX11_init 111 = .ok (.putfield 51, 3) := by decide +kernel
theorem dX11_init_114 : decode cX11_init 114 = .ok (.aload_n 0, 1) := by decide +kernel
theorem dX11_init_115 : decode cX11_init 115 = .ok (.bipush 32, 2) := by decide +kernel
theorem dX11_init_117 : decode cX11_init 117 = .ok (.newarray .int, 2) := by decide +kernel
theorem dX11_init_119 : decode cX11_init 119 = .ok (.putfield 54, 3) := by decide +kernel
theorem dX11_init_122 : decode cX11_init 122 = .ok (.aload_n 0, 1) := by decide +kernel
theorem dX11_init_123 : decode cX11_init 123 = .ok (.bipush 6, 2) := by decide +kernel
theorem dX11_init_125 : decode cX11_init 125 = .ok (.newarray .int, 2) := by decide +kernel
theorem dX11_init_127 : decode cX11_init 127 = .ok (.putfield 57, 3) := by decide +kernel
theorem dX11_init_130 : decode cX11_init 130 = .ok (.aload_n 0, 1) := by decide +kernel
theorem dX11_init_131 : decode cX11_init 131 = .ok (.bipush 6, 2) := by decide +kernel
theorem dX11_init_133 : decode cX11_init 133 = .ok (.newarray .int, 2) := by decide +kernel
theorem dX11_init_135 : decode cX11_init 135 = .ok (.putfield 60, 3) := by decide +kernel
theorem dX11_init_138 : decode cX11_init 138 = .ok (.aload_n 0, 1) := by decide +kernel
theorem dX11_init_139 : decode cX11_init 139 = .ok (.getfield 7, 3) := by decide +kernel
theorem dX11_init_142 : decode cX11_init 142 = .ok (.bipush 32, 2) := by decide +kernel
theorem dX11_init_144 : decode cX11_init 144 = .ok (.sipush 4369, 3) := by decide +kernel
theorem dX11_init_147 : decode cX11_init 147 = .ok (.iastore, 1) := by decide +kernel
theorem dX11_init_148 : decode cX11_init 148 = .ok (.return_, 1) := by decide +kernel
theorem dX11_in_0 : decode cX11_in 0 = .ok (.iload_n 0, 1) := by decide +kernel
theorem dX11_in_1 : decode cX11_in 1 = .ok (.iload_n 1, 1) := by decide +kernel
theorem dX11_in_2 : decode cX11_in 2 = .ok (.if_icmp .lt 12, 3) := by decide +kernel
theorem dX11_in_5 : decode cX11_in 5 = .ok (.iload_n 0, 1) := by decide +kernel
theorem dX11_in_6 : decode cX11_in 6 = .ok (.iload_n 2, 1) := by decide +kernel
theorem dX11_in_7 : decode cX11_in 7 = .ok (.if_icmp .gt 7, 3) := by decide +kernel
theorem dX11_in_10 : decode cX11_in 10 = .ok (.iconst 1, 1) := by decide +kernel
theorem dX11_in_11 : decode cX11_in 11 = .ok (.goto 4, 3) := by decide +kernel
theorem dX11_in_14 : decode cX11_in 14 = .ok (.iconst 0, 1) := by decide +kernel
theorem dX11_in_15 : decode cX11_in 15 = .ok (.ireturn, 1) := by decide +kernel
theorem dX11_has_0 : decode cX11_has 0 = .ok (.iload_n 0, 1) := by decide +kernel
theorem dX11_has_1 : decode cX11_has 1 = .ok (.iload_n 1, 1) := by decide +kernel
theorem dX11_has_2 : decode cX11_has 2 = .ok (.ishr, 1) := by decide +kernel
theorem dX11_has_3 : decode cX11_has 3 = .ok (.iconst 1, 1) := by decide +kernel
theorem dX11_has_4 : decode cX11_has 4 = .ok (.iand, 1) := by decide +kernel
theorem dX11_has_5 : decode cX11_has 5 = .ok (.iconst 1, 1) := by decide +kernel
theorem dX11_has_6 : decode cX11_has 6 = .ok (.if_icmp .ne 7, 3) := by decide +kernel
theorem dX11_has_9 : decode cX11_has 9 = .ok (.iconst 1, 1) := by decide +kernel
theorem dX11_has_10 : decode cX11_has 10 = .ok (.goto 4, 3) := by decide +kernel
theorem dX11_has_13 : decode cX11_has 13 = .ok (.iconst 0, 1) := by decide +kernel
theorem dX11_has_14 : decode cX11_has 14 = .ok (.ireturn, 1) := by decide +kernel
theorem dX11_left_0 : decode cX11_left 0 = .ok (.iload_n 0, 1) := by decide +kernel
theorem dX11_left_1 : decode cX11_left 1 = .ok (.bipush 97, 2) := by decide +kernel
theorem dX11_left_3 : decode cX11_left 3 = .ok (.irem, 1) := by decide +kernel
theorem dX11_left_4 : decode cX11_left 4 = .ok (.bipush 97, 2) := by decide +kernel
theorem dX11_left_6 : decode cX11_left 6 = .ok (.iadd, 1) := by decide +kernel
theorem dX11_left_7 : decode cX11_left 7 = .ok (.bipush 97, 2) := by decide +kernel
theorem dX11_left_9 : decode cX11_left 9 = .ok (.irem, 1) := by decide +kernel
theorem dX11_left_10 : decode cX11_left 10 = .ok (.ireturn, 1) := by decide +kernel
theorem dX11_power_0 : decode cX11_power 0 = .ok (.iconst 1, 1) := by decide +kernel
theorem dX11_power_1 : decode cX11_power 1 = .ok (.istore_n 2, 1) := by decide +kernel
theorem dX11_power_2 : decode cX11_power 2 = .ok (.iconst 0, 1) := by decide +kernel
theorem dX11_power_3 : decode cX11_power 3 = .ok (.istore_n 3, 1) := by decide +kernel
theorem dX11_power_4 : decode cX11_power 4 = .ok (.iload_n 3, 1) := by decide +kernel
theorem dX11_power_5 : decode cX11_power 5 = .ok (.iload_n 1, 1) := by decide +kernel
theorem dX11_power_6 : decode cX11_power 6 = .ok (.if_icmp .ge 16, 3) := by decide +kernel
theorem dX11_power_9 : decode cX11_power 9 = .ok (.iload_n 2, 1) := by decide +kernel
theorem dX11_power_10 : decode cX11_power 10 = .ok (.iload_n 0, 1) := by decide +kernel
theorem dX11_power_11 : decode cX11_power 11 = .ok (.imul, 1) := by decide +kernel
theorem dX11_power_12 : decode cX11_power 12 = .ok (.bipush 97, 2) := by decide +kernel
theorem dX11_power_14 : decode cX11_power 14 = .ok (.irem, 1) := by decide +kernel
theorem dX11_power_15 : decode cX11_power 15 = .ok (.istore_n 2, 1) := by decide +kernel
theorem dX11_power_16 : decode cX11_power 16 = .ok (.iinc 3 1, 3) := by decide +kernel
theorem dX11_power_19 : decode cX11_power 19 = .ok (.goto (-15), 3) := by decide +kernel
theorem dX11_power_22 : decode cX11_power 22 = .ok (.iload_n 2, 1) := by decide +kernel
theorem dX11_power_23 : decode cX11_power 23 = .ok (.ireturn, 1) := by decide +kernel
theorem dX11_inverse_0 : decode cX11_inverse 0 = .ok (.iload_n 0, 1) := by decide +kernel
theorem dX11_inverse_1 : decode cX11_inverse 1 = .ok (.bipush 95, 2) := by decide +kernel
theorem dX11_inverse_3 : decode cX11_inverse 3 = .ok (.invokestatic 63, 3) := by decide +kernel
theorem dX11_inverse_6 : decode cX11_inverse 6 = .ok (.ireturn, 1) := by decide +kernel
theorem dX11_light_0 : decode cX11_light 0 = .ok (.iload_n 0, 1) := by decide +kernel
theorem dX11_light_1 : decode cX11_light 1 = .ok (.ifCond .ne 7, 3) := by decide +kernel
theorem dX11_light_4 : decode cX11_light 4 = .ok (.iconst 1, 1) := by decide +kernel
theorem dX11_light_5 : decode cX11_light 5 = .ok (.goto 25, 3) := by decide +kernel
theorem dX11_light_8 : decode cX11_light 8 = .ok (.iload_n 0, 1) := by decide +kernel
theorem dX11_light_9 : decode cX11_light 9 = .ok (.iconst 1, 1) := by decide +kernel
theorem dX11_light_10 : decode cX11_light 10 = .ok (.if_icmp .ne 8, 3) := by decide +kernel
theorem dX11_light_13 : decode cX11_light 13 = .ok (.bipush 22, 2) := by decide +kernel
theorem dX11_light_15 : decode cX11_light 15 = .ok (.goto 15, 3) := by decide +kernel
theorem dX11_light_18 : decode cX11_light 18 = .ok (.iload_n 0, 1) := by decide +kernel
theorem dX11_light_19 : decode cX11_light 19 = .ok (.iconst 2, 1) := by decide +kernel
theorem dX11_light_20 : decode cX11_light 20 = .ok (.if_icmp .ne 8, 3) := by decide +kernel
theorem dX11_light_23 : decode cX11_light 23 = .ok (.bipush 96, 2) := by decide +kernel
theorem dX11_light_25 : decode cX11_light 25 = .ok (.goto 5, 3) := by decide +kernel
theorem dX11_light_28 : decode cX11_light 28 = .ok (.bipush 75, 2) := by decide +kernel
theorem dX11_light_30 : decode cX11_light 30 = .ok (.ireturn, 1) := by decide +kernel
theorem dX11_decided_0 : decode cX11_decided 0 = .ok (.iconst 0, 1) := by decide +kernel
theorem dX11_decided_1 : decode cX11_decided 1 = .ok (.istore_n 1, 1) := by decide +kernel
theorem dX11_decided_2 : decode cX11_decided 2 = .ok (.bipush 97, 2) := by decide +kernel
theorem dX11_decided_4 : decode cX11_decided 4 = .ok (.istore_n 2, 1) := by decide +kernel
theorem dX11_decided_5 : decode cX11_decided 5 = .ok (.iconst 0, 1) := by decide +kernel
theorem dX11_decided_6 : decode cX11_decided 6 = .ok (.istore_n 3, 1) := by decide +kernel
theorem dX11_decided_7 : decode cX11_decided 7 = .ok (.iload_n 3, 1) := by decide +kernel
theorem dX11_decided_8 : decode cX11_decided 8 = .ok (.iconst 4, 1) := by decide +kernel
theorem dX11_decided_9 : decode cX11_decided 9 = .ok (.if_icmp .ge 72, 3) := by decide +kernel
theorem dX11_decided_12 : decode cX11_decided 12 = .ok (.iload_n 0, 1) := by decide +kernel
theorem dX11_decided_13 : decode cX11_decided 13 = .ok (.iload_n 3, 1) := by decide +kernel
theorem dX11_decided_14 : decode cX11_decided 14 = .ok (.invokestatic 67, 3) := by decide +kernel
theorem dX11_decided_17 : decode cX11_decided 17 = .ok (.isub, 1) := by decide +kernel
theorem dX11_decided_18 : decode cX11_decided 18 = .ok (.invokestatic 71, 3) := by decide +kernel
theorem dX11_decided_21 : decode cX11_decided 21 = .ok (.istore 4, 2) := by decide +kernel
theorem dX11_decided_23 : decode cX11_decided 23 = .ok (.iload_n 3, 1) := by decide +kernel
theorem dX11_decided_24 : decode cX11_decided 24 = .ok (.invokestatic 67, 3) := by decide +kernel
theorem dX11_decided_27 : decode cX11_decided 27 = .ok (.iload_n 0, 1) := by decide +kernel
theorem dX11_decided_28 : decode cX11_decided 28 = .ok (.isub, 1) := by decide +kernel
theorem dX11_decided_29 : decode cX11_decided 29 = .ok (.invokestatic 71, 3) := by decide +kernel
theorem dX11_decided_32 : decode cX11_decided 32 = .ok (.istore 5, 2) := by decide +kernel
theorem dX11_decided_34 : decode cX11_decided 34 = .ok (.iload 4, 2) := by decide +kernel
theorem dX11_decided_36 : decode cX11_decided 36 = .ok (.iload 5, 2) := by decide +kernel
theorem dX11_decided_38 : decode cX11_decided 38 = .ok (.if_icmp .ge 8, 3) := by decide +kernel
theorem dX11_decided_41 : decode cX11_decided 41 = .ok (.iload 4, 2) := by decide +kernel
theorem dX11_decided_43 : decode cX11_decided 43 = .ok (.goto 5, 3) := by decide +kernel
theorem dX11_decided_46 : decode cX11_decided 46 = .ok (.iload 5, 2) := by decide +kernel
theorem dX11_decided_48 : decode cX11_decided 48 = .ok (.istore 6, 2) := by decide +kernel
theorem dX11_decided_50 : decode cX11_decided 50 = .ok (.iload 6, 2) := by decide +kernel
theorem dX11_decided_52 : decode cX11_decided 52 = .ok (.iload_n 2, 1) := by decide +kernel
theorem dX11_decided_53 : decode cX11_decided 53 = .ok (.if_icmp .ge 7, 3) := by decide +kernel
theorem dX11_decided_56 : decode cX11_decided 56 = .ok (.iload_n 3, 1) := by decide +kernel
theorem dX11_decided_57 : decode cX11_decided 57 = .ok (.goto 4, 3) := by decide +kernel
theorem dX11_decided_60 : decode cX11_decided 60 = .ok (.iload_n 1, 1) := by decide +kernel
theorem dX11_decided_61 : decode cX11_decided 61 = .ok (.istore_n 1, 1) := by decide +kernel
theorem dX11_decided_62 : decode cX11_decided 62 = .ok (.iload 6, 2) := by decide +kernel
theorem dX11_decided_64 : decode cX11_decided 64 = .ok (.iload_n 2, 1) := by decide +kernel
theorem dX11_decided_65 : decode cX11_decided 65 = .ok (.if_icmp .ge 8, 3) := by decide +kernel
theorem dX11_decided_68 : decode cX11_decided 68 = .ok (.iload 6, 2) := by decide +kernel
theorem dX11_decided_70 : decode cX11_decided 70 = .ok (.goto 4, 3) := by decide +kernel
theorem dX11_decided_73 : decode cX11_decided 73 = .ok (.iload_n 2, 1) := by decide +kernel
theorem dX11_decided_74 : decode cX11_decided 74 = .ok (.istore_n 2, 1) := by decide +kernel
theorem dX11_decided_75 : decode cX11_decided 75 = .ok (.iinc 3 1, 3) := by decide +kernel
theorem dX11_decided_78 : decode cX11_decided 78 = .ok (.goto (-71), 3) := by decide +kernel
theorem dX11_decided_81 : decode cX11_decided 81 = .ok (.iload_n 1, 1) := by decide +kernel
theorem dX11_decided_82 : decode cX11_decided 82 = .ok (.ireturn, 1) := by decide +kernel
theorem dX11_note_0 : decode cX11_note 0 = .ok (.aload_n 0, 1) := by decide +kernel
theorem dX11_note_1 : decode cX11_note 1 = .ok (.getfield 74, 3) := by decide +kernel
theorem dX11_note_4 : decode cX11_note 4 = .ok (.bipush 6, 2) := by decide +kernel
theorem dX11_note_6 : decode cX11_note 6 = .ok (.if_icmp .ne 70, 3) := by decide +kernel
theorem dX11_note_9 : decode cX11_note 9 = .ok (.iconst 0, 1) := by decide +kernel
theorem dX11_note_10 : decode cX11_note 10 = .ok (.istore_n 1, 1) := by decide +kernel
theorem dX11_note_11 : decode cX11_note 11 = .ok (.iload_n 1, 1) := by decide +kernel
theorem dX11_note_12 : decode cX11_note 12 = .ok (.sipush 430, 3) := by decide +kernel
theorem dX11_note_15 : decode cX11_note 15 = .ok (.if_icmp .ge 24, 3) := by decide +kernel
theorem dX11_note_18 : decode cX11_note 18 = .ok (.aload_n 0, 1) := by decide +kernel
theorem dX11_note_19 : decode cX11_note 19 = .ok (.getfield 13, 3) := by decide +kernel
theorem dX11_note_22 : decode cX11_note 22 = .ok (.iload_n 1, 1) := by decide +kernel
theorem dX11_note_23 : decode cX11_note 23 = .ok (.aload_n 0, 1) := by decide +kernel
theorem dX11_note_24 : decode cX11_note 24 = .ok (.getfield 13, 3) := by decide +kernel
theorem dX11_note_27 : decode cX11_note 27 = .ok (.iload_n 1, 1) := by decide +kernel
theorem dX11_note_28 : decode cX11_note 28 = .ok (.bipush 86, 2) := by decide +kernel
theorem dX11_note_30 : decode cX11_note 30 = .ok (.iadd, 1) := by decide +kernel
theorem dX11_note_31 : decode cX11_note 31 = .ok (.iaload, 1) := by decide +kernel
theorem dX11_note_32 : decode cX11_note 32 = .ok (.iastore, 1) := by decide +kernel
theorem dX11_note_33 : decode cX11_note 33 = .ok (.iinc 1 1, 3) := by decide +kernel
theorem dX11_note_36 : decode cX11_note 36 = .ok (.goto (-25), 3) := by decide +kernel
theorem dX11_note_39 : decode cX11_note 39 = .ok (.iconst 0, 1) := by decide +kernel
theorem dX11_note_40 : decode cX11_note 40 = .ok (.istore_n 1, 1) := by decide +kernel
theorem dX11_note_41 : decode cX11_note 41 = .ok (.iload_n 1, 1) := by decide +kernel
theorem dX11_note_42 : decode cX11_note 42 = .ok (.iconst 5, 1) := by decide +kernel
theorem dX11_note_43 : decode cX11_note 43 = .ok (.if_icmp .ge 23, 3) := by decide +kernel
theorem dX11_note_46 : decode cX11_note 46 = .ok (.aload_n 0, 1) := by decide +kernel
theorem dX11_note_47 : decode cX11_note 47 = .ok (.getfield 16, 3) := by decide +kernel
theorem dX11_note_50 : decode cX11_note 50 = .ok (.iload_n 1, 1) := by decide +kernel
theorem dX11_note_51 : decode cX11_note 51 = .ok (.aload_n 0, 1) := by decide +kernel
theorem dX11_note_52 : decode cX11_note 52 = .ok (.getfield 16, 3) := by decide +kernel
theorem dX11_note_55 : decode cX11_note 55 = .ok (.iload_n 1, 1) := by decide +kernel
theorem dX11_note_56 : decode cX11_note 56 = .ok (.iconst 1, 1) := by decide +kernel
theorem dX11_note_57 : decode cX11_note 57 = .ok (.iadd, 1) := by decide +kernel
theorem dX11_note_58 : decode cX11_note 58 = .ok (.faload, 1) := by decide +kernel
theorem dX11_note_59 : decode cX11_note 59 = .ok (.fastore, 1) := by decide +kernel
theorem dX11_note_60 : decode cX11_note 60 = .ok (.iinc 1 1, 3) := by decide +kernel
theorem dX11_note_63 : decode cX11_note 63 = .ok (.goto (-22), 3) := by decide +kernel
theorem dX11_note_66 : decode cX11_note 66 = .ok (.aload_n 0, 1) := by decide +kernel
theorem dX11_note_67 : decode cX11_note 67 = .ok (.dup, 1) := by decide +kernel
theorem dX11_note_68 : decode cX11_note 68 = .ok (.getfield 74, 3) := by decide +kernel
theorem dX11_note_71 : decode cX11_note 71 = .ok (.iconst 1, 1) := by decide +kernel
theorem dX11_note_72 : decode cX11_note 72 = .ok (.isub, 1) := by decide +kernel
theorem dX11_note_73 : decode cX11_note 73 = .ok (.putfield 74, 3) := by decide +kernel
theorem dX11_note_76 : decode cX11_note 76 = .ok (.iconst 0, 1) := by decide +kernel
theorem dX11_note_77 : decode cX11_note 77 = .ok (.istore_n 1, 1) := by decide +kernel
theorem dX11_note_78 : decode cX11_note 78 = .ok (.iload_n 1, 1) := by decide +kernel
theorem dX11_note_79 : decode cX11_note 79 = .ok (.bipush 86, 2) := by decide +kernel
theorem dX11_note_81 : decode cX11_note 81 = .ok (.if_icmp .ge 29, 3) := by decide +kernel
theorem dX11_note_84 : decode cX11_note 84 = .ok (.aload_n 0, 1) := by decide +kernel
theorem dX11_note_85 : decode cX11_note 85 = .ok (.getfield 13, 3) := by decide +kernel
theorem dX11_note_88 : decode cX11_note 88 = .ok (.bipush 86, 2) := by decide +kernel
theorem dX11_note_90 : decode cX11_note 90 = .ok (.aload_n 0, 1) := by decide +kernel
theorem dX11_note_91 : decode cX11_note 91 = .ok (.getfield 74, 3) := by decide +kernel
theorem dX11_note_94 : decode cX11_note 94 = .ok (.imul, 1) := by decide +kernel
theorem dX11_note_95 : decode cX11_note 95 = .ok (.iload_n 1, 1) := by decide +kernel
theorem dX11_note_96 : decode cX11_note 96 = .ok (.iadd, 1) := by decide +kernel
theorem dX11_note_97 : decode cX11_note 97 = .ok (.aload_n 0, 1) := by decide +kernel
theorem dX11_note_98 : decode cX11_note 98 = .ok (.getfield 7, 3) := by decide +kernel
theorem dX11_note_101 : decode cX11_note 101 = .ok (.iload_n 1, 1) := by decide +kernel
theorem dX11_note_102 : decode cX11_note 102 = .ok (.iaload, 1) := by decide +kernel
theorem dX11_note_103 : decode cX11_note 103 = .ok (.iastore, 1) := by decide +kernel
theorem dX11_note_104 : decode cX11_note 104 = .ok (.iinc 1 1, 3) := by decide +kernel
theorem dX11_note_107 : decode cX11_note 107 = .ok (.goto (-29), 3) := by decide +kernel
theorem dX11_note_110 : decode cX11_note 110 = .ok (.aload_n 0, 1) := by decide +kernel
theorem dX11_note_111 : decode cX11_note 111 = .ok (.getfield 16, 3) := by decide +kernel
theorem dX11_note_114 : decode cX11_note 114 = .ok (.aload_n 0, 1) := by decide +kernel
theorem dX11_note_115 : decode cX11_note 115 = .ok (.getfield 74, 3) := by decide +kernel
theorem dX11_note_118 : decode cX11_note 118 = .ok (.aload_n 0, 1) := by decide +kernel
theorem dX11_note_119 : decode cX11_note 119 = .ok (.getfield 78, 3) := by decide +kernel
theorem dX11_note_122 : decode cX11_note 122 = .ok (.fastore, 1) := by decide +kernel
theorem dX11_note_123 : decode cX11_note 123 = .ok (.aload_n 0, 1) := by decide +kernel
theorem dX11_note_124 : decode cX11_note 124 = .ok (.dup, 1) := by decide +kernel
theorem dX11_note_125 : decode cX11_note 125 = .ok (.getfield 74, 3) := by decide +kernel
theorem dX11_note_128 : decode cX11_note 128 = .ok (.iconst 1, 1) := by decide +kernel
theorem dX11_note_129 : decode cX11_note 129 = .ok (.iadd, 1) := by decide +kernel
theorem dX11_note_130 : decode cX11_note 130 = .ok (.putfield 74, 3) := by decide +kernel
theorem dX11_note_133 : decode cX11_note 133 = .ok (.return_, 1) := by decide +kernel
theorem dX11_undo_0 : decode cX11_undo 0 = .ok (.aload_n 0, 1) := by decide +kernel
theorem dX11_undo_1 : decode cX11_undo 1 = .ok (.getfield 74, 3) := by decide +kernel
theorem dX11_undo_4 : decode cX11_undo 4 = .ok (.ifCond .ne 6, 3) := by decide +kernel
theorem dX11_undo_7 : decode cX11_undo 7 = .ok (.bipush (-2), 2) := by decide +kernel
theorem dX11_undo_9 : decode cX11_undo 9 = .ok (.ireturn, 1) := by decide +kernel
theorem dX11_undo_10 : decode cX11_undo 10 = .ok (.aload_n 0, 1) := by decide +kernel
theorem dX11_undo_11 : decode cX11_undo 11 = .ok (.dup, 1) := by decide +kernel
theorem dX11_undo_12 : decode cX11_undo 12 = .ok (.getfield 74, 3) := by decide +kernel
theorem dX11_undo_15 : decode cX11_undo 15 = .ok (.iconst 1, 1) := by decide +kernel
theorem dX11_undo_16 : decode cX11_undo 16 = .ok (.isub, 1) := by decide +kernel
theorem dX11_undo_17 : decode cX11_undo 17 = .ok (.putfield 74, 3) := by decide +kernel
theorem dX11_undo_20 : decode cX11_undo 20 = .ok (.iconst 0, 1) := by decide +kernel
theorem dX11_undo_21 : decode cX11_undo 21 = .ok (.istore_n 1, 1) := by decide +kernel
theorem dX11_undo_22 : decode cX11_undo 22 = .ok (.iload_n 1, 1) := by decide +kernel
theorem dX11_undo_23 : decode cX11_undo 23 = .ok (.bipush 86, 2) := by decide +kernel
theorem dX11_undo_25 : decode cX11_undo 25 = .ok (.if_icmp .ge 29, 3) := by decide +kernel
theorem dX11_undo_28 : decode cX11_undo 28 = .ok (.aload_n 0, 1) := by decide +kernel
theorem dX11_undo_29 : decode cX11_undo 29 = .ok (.getfield 7, 3) := by decide +kernel
theorem dX11_undo_32 : decode cX11_undo 32 = .ok (.iload_n 1, 1) := by decide +kernel
theorem dX11_undo_33 : decode cX11_undo 33 = .ok (.aload_n 0, 1) := by decide +kernel
theorem dX11_undo_34 : decode cX11_undo 34 = .ok (.getfield 13, 3) := by decide +kernel
theorem dX11_undo_37 : decode cX11_undo 37 = .ok (.bipush 86, 2) := by decide +kernel
theorem dX11_undo_39 : decode cX11_undo 39 = .ok (.aload_n 0, 1) := by decide +kernel
theorem dX11_undo_40 : decode cX11_undo 40 = .ok (.getfield 74, 3) := by decide +kernel
theorem dX11_undo_43 : decode cX11_undo 43 = .ok (.imul, 1) := by decide +kernel
theorem dX11_undo_44 : decode cX11_undo 44 = .ok (.iload_n 1, 1) := by decide +kernel
theorem dX11_undo_45 : decode cX11_undo 45 = .ok (.iadd, 1) := by decide +kernel
theorem dX11_undo_46 : decode cX11_undo 46 = .ok (.iaload, 1) := by decide +kernel
theorem dX11_undo_47 : decode cX11_undo 47 = .ok (.iastore, 1) := by decide +kernel
theorem dX11_undo_48 : decode cX11_undo 48 = .ok (.iinc 1 1, 3) := by decide +kernel
theorem dX11_undo_51 : decode cX11_undo 51 = .ok (.goto (-29), 3) := by decide +kernel
theorem dX11_undo_54 : decode cX11_undo 54 = .ok (.aload_n 0, 1) := by decide +kernel
theorem dX11_undo_55 : decode cX11_undo 55 = .ok (.aload_n 0, 1) := by decide +kernel
theorem dX11_undo_56 : decode cX11_undo 56 = .ok (.getfield 16, 3) := by decide +kernel
theorem dX11_undo_59 : decode cX11_undo 59 = .ok (.aload_n 0, 1) := by decide +kernel
theorem dX11_undo_60 : decode cX11_undo 60 = .ok (.getfield 74, 3) := by decide +kernel
theorem dX11_undo_63 : decode cX11_undo 63 = .ok (.faload, 1) := by decide +kernel
theorem dX11_undo_64 : decode cX11_undo 64 = .ok (.putfield 78, 3) := by decide +kernel
theorem dX11_undo_67 : decode cX11_undo 67 = .ok (.aload_n 0, 1) := by decide +kernel
theorem dX11_undo_68 : decode cX11_undo 68 = .ok (.getfield 74, 3) := by decide +kernel
theorem dX11_undo_71 : decode cX11_undo 71 = .ok (.ireturn, 1) := by decide +kernel
theorem dX11_mayBe_0 : decode cX11_mayBe 0 = .ok (.iload_n 0, 1) := by decide +kernel
theorem dX11_mayBe_1 : decode cX11_mayBe 1 = .ok (.tableswitch 174 0 3 #[31, 74, 110, 149], 31) := by decide +kernel
theorem dX11_mayBe_32 : decode cX11_mayBe 32 = .ok (.iload_n 1, 1) := by decide +kernel
theorem dX11_mayBe_33 : decode cX11_mayBe 33 = .ok (.iconst 1, 1) := by decide +kernel
theorem dX11_mayBe_34 : decode cX11_mayBe 34 = .ok (.if_icmp .ne 31, 3) := by decide +kernel
theorem dX11_mayBe_37 : decode cX11_mayBe 37 = .ok (.iload_n 2, 1) := by decide +kernel
theorem dX11_mayBe_38 : decode cX11_mayBe 38 = .ok (.iconst 1, 1) := by decide +kernel
theorem dX11_mayBe_39 : decode cX11_mayBe 39 = .ok (.bipush 96, 2) := by decide +kernel
theorem dX11_mayBe_41 : decode cX11_mayBe 41 = .ok (.invokestatic 82, 3) := by decide +kernel
theorem dX11_mayBe_44 : decode cX11_mayBe 44 = .ok (.ifCond .eq 17, 3) := by decide +kernel
theorem dX11_mayBe_47 : decode cX11_mayBe 47 = .ok (.iload_n 2, 1) := by decide +kernel
theorem dX11_mayBe_48 : decode cX11_mayBe 48 = .ok (.bipush 16, 2) := by decide +kernel
theorem dX11_mayBe_50 : decode cX11_mayBe 50 = .ok (.invokestatic 63, 3) := by decide +kernel
theorem dX11_mayBe_53 : decode cX11_mayBe 53 = .ok (.iconst 1, 1) := by decide +kernel
theorem dX11_mayBe_54 : decode cX11_mayBe 54 = .ok (.if_icmp .eq 7, 3) := by decide +kernel
theorem dX11_mayBe_57 : decode cX11_mayBe 57 = .ok (.iconst 1, 1) := by decide +kernel
theorem dX11_mayBe_58 : decode cX11_mayBe 58 = .ok (.goto 16, 3) := by decide +kernel
theorem dX11_mayBe_61 : decode cX11_mayBe 61 = .ok (.iconst 0, 1) := by decide +kernel
theorem dX11_mayBe_62 : decode cX11_mayBe 62 = .ok (.goto 12, 3) := by decide +kernel
theorem dX11_mayBe_65 : decode cX11_mayBe 65 = .ok (.iload_n 2, 1) := by decide +kernel
theorem dX11_mayBe_66 : decode cX11_mayBe 66 = .ok (.ifCond .ne 7, 3) := by decide +kernel
theorem dX11_mayBe_69 : decode cX11_mayBe 69 = .ok (.iconst 1, 1) := by decide +kernel
theorem dX11_mayBe_70 : decode cX11_mayBe 70 = .ok (.goto 4, 3) := by decide +kernel
theorem dX11_mayBe_73 : decode cX11_mayBe 73 = .ok (.iconst 0, 1) := by decide +kernel
theorem dX11_mayBe_74 : decode cX11_mayBe 74 = .ok (.ireturn, 1) := by decide +kernel
theorem dX11_mayBe_75 : decode cX11_mayBe 75 = .ok (.iload_n 2, 1) := by decide +kernel
theorem dX11_mayBe_76 : decode cX11_mayBe 76 = .ok (.iconst 0, 1) := by decide +kernel
theorem dX11_mayBe_77 : decode cX11_mayBe 77 = .ok (.bipush 96, 2) := by decide +kernel
theorem dX11_mayBe_79 : decode cX11_mayBe 79 = .ok (.invokestatic 82, 3) := by decide +kernel
theorem dX11_mayBe_82 : decode cX11_mayBe 82 = .ok (.ifCond .eq 27, 3) := by decide +kernel
theorem dX11_mayBe_85 : decode cX11_mayBe 85 = .ok (.iload_n 1, 1) := by decide +kernel
theorem dX11_mayBe_86 : decode cX11_mayBe 86 = .ok (.iconst 4, 1) := by decide +kernel
theorem dX11_mayBe_87 : decode cX11_mayBe 87 = .ok (.if_icmp .lt 18, 3) := by decide +kernel
theorem dX11_mayBe_90 : decode cX11_mayBe 90 = .ok (.iload_n 3, 1) := by decide +kernel
theorem dX11_mayBe_91 : decode cX11_mayBe 91 = .ok (.iload_n 2, 1) := by decide +kernel
theorem dX11_mayBe_92 : decode cX11_mayBe 92 = .ok (.imul, 1) := by decide +kernel
theorem dX11_mayBe_93 : decode cX11_mayBe 93 = .ok (.iload 4, 2) := by decide +kernel
theorem dX11_mayBe_95 : decode cX11_mayBe 95 = .ok (.iload 5, 2) := by decide +kernel
theorem dX11_mayBe_97 : decode cX11_mayBe 97 = .ok (.imul, 1) := by decide +kernel
theorem dX11_mayBe_98 : decode cX11_mayBe 98 = .ok (.isub, 1) := by decide +kernel
theorem dX11_mayBe_99 : decode cX11_mayBe 99 = .ok (.invokestatic 71, 3) := by decide +kernel
theorem dX11_mayBe_102 : decode cX11_mayBe 102 = .ok (.ifCond .eq 7, 3) := by decide +kernel
theorem dX11_mayBe_105 : decode cX11_mayBe 105 = .ok (.iconst 1, 1) := by decide +kernel
theorem dX11_mayBe_106 : decode cX11_mayBe 106 = .ok (.goto 4, 3) := by decide +kernel
theorem dX11_mayBe_109 : decode cX11_mayBe 109 = .ok (.iconst 0, 1) := by decide +kernel
theorem dX11_mayBe_110 : decode cX11_mayBe 110 = .ok (.ireturn, 1) := by decide +kernel
theorem dX11_mayBe_111 : decode cX11_mayBe 111 = .ok (.iload_n 1, 1) := by decide +kernel
theorem dX11_mayBe_112 : decode cX11_mayBe 112 = .ok (.iconst 1, 1) := by decide +kernel
theorem dX11_mayBe_113 : decode cX11_mayBe 113 = .ok (.if_icmp .ne 13, 3) := by decide +kernel
theorem dX11_mayBe_116 : decode cX11_mayBe 116 = .ok (.iload_n 2, 1) := by decide +kernel
theorem dX11_mayBe_117 : decode cX11_mayBe 117 = .ok (.iconst 0, 1) := by decide +kernel
theorem dX11_mayBe_118 : decode cX11_mayBe 118 = .ok (.bipush 15, 2) := by decide +kernel
theorem dX11_mayBe_120 : decode cX11_mayBe 120 = .ok (.invokestatic 82, 3) := by decide +kernel
theorem dX11_mayBe_123 : decode cX11_mayBe 123 = .ok (.goto 26, 3) := by decide +kernel
theorem dX11_mayBe_126 : decode cX11_mayBe 126 = .ok (.iload_n 1, 1) := by decide +kernel
theorem dX11_mayBe_127 : decode cX11_mayBe 127 = .ok (.iconst 2, 1) := by decide +kernel
theorem dX11_mayBe_128 : decode cX11_mayBe 128 = .ok (.if_icmp .ne 12, 3) := by decide +kernel
theorem dX11_mayBe_131 : decode cX11_mayBe 131 = .ok (.iload_n 2, 1) := by decide +kernel
theorem dX11_mayBe_132 : decode cX11_mayBe 132 = .ok (.iconst 1, 1) := by decide +kernel
theorem dX11_mayBe_133 : decode cX11_mayBe 133 = .ok (.iconst 3, 1) := by decide +kernel
theorem dX11_mayBe_134 : decode cX11_mayBe 134 = .ok (.invokestatic 82, 3) := by decide +kernel
theorem dX11_mayBe_137 : decode cX11_mayBe 137 = .ok (.goto 12, 3) := by decide +kernel
theorem dX11_mayBe_140 : decode cX11_mayBe 140 = .ok (.iload_n 2, 1) := by decide +kernel
theorem dX11_mayBe_141 : decode cX11_mayBe 141 = .ok (.ifCond .ne 7, 3) := by decide +kernel
theorem dX11_mayBe_144 : decode cX11_mayBe 144 = .ok (.iconst 1, 1) := by decide +kernel
theorem dX11_mayBe_145 : decode cX11_mayBe 145 = .ok (.goto 4, 3) := by decide +kernel
theorem dX11_mayBe_148 : decode cX11_mayBe 148 = .ok (.iconst 0, 1) := by decide +kernel
theorem dX11_mayBe_149 : decode cX11_mayBe 149 = .ok (.ireturn, 1) := by decide +kernel
theorem dX11_mayBe_150 : decode cX11_mayBe 150 = .ok (.iload_n 1, 1) := by decide +kernel
theorem dX11_mayBe_151 : decode cX11_mayBe 151 = .ok (.iconst 1, 1) := by decide +kernel
theorem dX11_mayBe_152 : decode cX11_mayBe 152 = .ok (.if_icmp .ne 13, 3) := by decide +kernel
theorem dX11_mayBe_155 : decode cX11_mayBe 155 = .ok (.iload_n 2, 1) := by decide +kernel
theorem dX11_mayBe_156 : decode cX11_mayBe 156 = .ok (.iconst 1, 1) := by decide +kernel
theorem dX11_mayBe_157 : decode cX11_mayBe 157 = .ok (.bipush 15, 2) := by decide +kernel
theorem dX11_mayBe_159 : decode cX11_mayBe 159 = .ok (.invokestatic 82, 3) := by decide +kernel
theorem dX11_mayBe_162 : decode cX11_mayBe 162 = .ok (.goto 12, 3) := by decide +kernel
theorem dX11_mayBe_165 : decode cX11_mayBe 165 = .ok (.iload_n 2, 1) := by decide +kernel
theorem dX11_mayBe_166 : decode cX11_mayBe 166 = .ok (.ifCond .ne 7, 3) := by decide +kernel
theorem dX11_mayBe_169 : decode cX11_mayBe 169 = .ok (.iconst 1, 1) := by decide +kernel
theorem dX11_mayBe_170 : decode cX11_mayBe 170 = .ok (.goto 4, 3) := by decide +kernel
theorem dX11_mayBe_173 : decode cX11_mayBe 173 = .ok (.iconst 0, 1) := by decide +kernel
theorem dX11_mayBe_174 : decode cX11_mayBe 174 = .ok (.ireturn, 1) := by decide +kernel
theorem dX11_mayBe_175 : decode cX11_mayBe 175 = .ok (.iload_n 1, 1) := by decide +kernel
theorem dX11_mayBe_176 : decode cX11_mayBe 176 = .ok (.iconst 1, 1) := by decide +kernel
theorem dX11_mayBe_177 : decode cX11_mayBe 177 = .ok (.if_icmp .ne 12, 3) := by decide +kernel
theorem dX11_mayBe_180 : decode cX11_mayBe 180 = .ok (.iload_n 2, 1) := by decide +kernel
theorem dX11_mayBe_181 : decode cX11_mayBe 181 = .ok (.iconst 0, 1) := by decide +kernel
theorem dX11_mayBe_182 : decode cX11_mayBe 182 = .ok (.iconst 1, 1) := by decide +kernel
theorem dX11_mayBe_183 : decode cX11_mayBe 183 = .ok (.invokestatic 82, 3) := by decide +kernel
theorem dX11_mayBe_186 : decode cX11_mayBe 186 = .ok (.goto 42, 3) := by decide +kernel
theorem dX11_mayBe_189 : decode cX11_mayBe 189 = .ok (.iload_n 1, 1) := by decide +kernel
theorem dX11_mayBe_190 : decode cX11_mayBe 190 = .ok (.iconst 2, 1) := by decide +kernel
theorem dX11_mayBe_191 : decode cX11_mayBe 191 = .ok (.if_icmp .ne 13, 3) := by decide +kernel
theorem dX11_mayBe_194 : decode cX11_mayBe 194 = .ok (.iload_n 2, 1) := by decide +kernel
theorem dX11_mayBe_195 : decode cX11_mayBe 195 = .ok (.iconst 0, 1) := by decide +kernel
theorem dX11_mayBe_196 : decode cX11_mayBe 196 = .ok (.bipush 15, 2) := by decide +kernel
theorem dX11_mayBe_198 : decode cX11_mayBe 198 = .ok (.invokestatic 82, 3) := by decide +kernel
theorem dX11_mayBe_201 : decode cX11_mayBe 201 = .ok (.goto 27, 3) := by decide +kernel
theorem dX11_mayBe_204 : decode cX11_mayBe 204 = .ok (.iload_n 1, 1) := by decide +kernel
theorem dX11_mayBe_205 : decode cX11_mayBe 205 = .ok (.iconst 3, 1) := by decide +kernel
theorem dX11_mayBe_206 : decode cX11_mayBe 206 = .ok (.if_icmp .ne 13, 3) := by decide +kernel
theorem dX11_mayBe_209 : decode cX11_mayBe 209 = .ok (.iload_n 2, 1) := by decide +kernel
theorem dX11_mayBe_210 : decode cX11_mayBe 210 = .ok (.iconst 1, 1) := by decide +kernel
theorem dX11_mayBe_211 : decode cX11_mayBe 211 = .ok (.bipush 96, 2) := by decide +kernel
theorem dX11_mayBe_213 : decode cX11_mayBe 213 = .ok (.invokestatic 82, 3) := by decide +kernel
theorem dX11_mayBe_216 : decode cX11_mayBe 216 = .ok (.goto 12, 3) := by decide +kernel
theorem dX11_mayBe_219 : decode cX11_mayBe 219 = .ok (.iload_n 2, 1) := by decide +kernel
theorem dX11_mayBe_220 : decode cX11_mayBe 220 = .ok (.ifCond .ne 7, 3) := by decide +kernel
theorem dX11_mayBe_223 : decode cX11_mayBe 223 = .ok (.iconst 1, 1) := by decide +kernel
theorem dX11_mayBe_224 : decode cX11_mayBe 224 = .ok (.goto 4, 3) := by decide +kernel
theorem dX11_mayBe_227 : decode cX11_mayBe 227 = .ok (.iconst 0, 1) := by decide +kernel
theorem dX11_mayBe_228 : decode cX11_mayBe 228 = .ok (.ireturn, 1) := by decide +kernel
theorem dX11_isDeed_0 : decode cX11_isDeed 0 = .ok (.iload_n 0, 1) := by decide +kernel
theorem dX11_isDeed_1 : decode cX11_isDeed 1 = .ok (.iconst 0, 1) := by decide +kernel
theorem dX11_isDeed_2 : decode cX11_isDeed 2 = .ok (.iconst 4, 1) := by decide +kernel
theorem dX11_isDeed_3 : decode cX11_isDeed 3 = .ok (.invokestatic 82, 3) := by decide +kernel
theorem dX11_isDeed_6 : decode cX11_isDeed 6 = .ok (.ifCond .eq 56, 3) := by decide +kernel
theorem dX11_isDeed_9 : decode cX11_isDeed 9 = .ok (.iload_n 0, 1) := by decide +kernel
theorem dX11_isDeed_10 : decode cX11_isDeed 10 = .ok (.iconst 1, 1) := by decide +kernel
theorem dX11_isDeed_11 : decode cX11_isDeed 11 = .ok (.iload_n 1, 1) := by decide +kernel
theorem dX11_isDeed_12 : decode cX11_isDeed 12 = .ok (.iconst 0, 1) := by decide +kernel
theorem dX11_isDeed_13 : decode cX11_isDeed 13 = .ok (.iconst 0, 1) := by decide +kernel
theorem dX11_isDeed_14 : decode cX11_isDeed 14 = .ok (.iconst 0, 1) := by decide +kernel
theorem dX11_isDeed_15 : decode cX11_isDeed 15 = .ok (.invokestatic 86, 3) := by decide +kernel
theorem dX11_isDeed_18 : decode cX11_isDeed 18 = .ok (.ifCond .eq 44, 3) := by decide +kernel
theorem dX11_isDeed_21 : decode cX11_isDeed 21 = .ok (.iload_n 0, 1) := by decide +kernel
theorem dX11_isDeed_22 : decode cX11_isDeed 22 = .ok (.iconst 2, 1) := by decide +kernel
theorem dX11_isDeed_23 : decode cX11_isDeed 23 = .ok (.iload_n 2, 1) := by decide +kernel
theorem dX11_isDeed_24 : decode cX11_isDeed 24 = .ok (.iload_n 1, 1) := by decide +kernel
theorem dX11_isDeed_25 : decode cX11_isDeed 25 = .ok (.iconst 0, 1) := by decide +kernel
theorem dX11_isDeed_26 : decode cX11_isDeed 26 = .ok (.iconst 0, 1) := by decide +kernel
theorem dX11_isDeed_27 : decode cX11_isDeed 27 = .ok (.invokestatic 86, 3) := by decide +kernel
theorem dX11_isDeed_30 : decode cX11_isDeed 30 = .ok (.ifCond .eq 32, 3) := by decide +kernel
theorem dX11_isDeed_33 : decode cX11_isDeed 33 = .ok (.iload_n 0, 1) := by decide +kernel
theorem dX11_isDeed_34 : decode cX11_isDeed 34 = .ok (.iconst 3, 1) := by decide +kernel
theorem dX11_isDeed_35 : decode cX11_isDeed 35 = .ok (.iload_n 3, 1) := by decide +kernel
theorem dX11_isDeed_36 : decode cX11_isDeed 36 = .ok (.iload_n 1, 1) := by decide +kernel
theorem dX11_isDeed_37 : decode cX11_isDeed 37 = .ok (.iload_n 2, 1) := by decide +kernel
theorem dX11_isDeed_38 : decode cX11_isDeed 38 = .ok (.iconst 0, 1) := by decide +kernel
theorem dX11_isDeed_39 : decode cX11_isDeed 39 = .ok (.invokestatic 86, 3) := by decide +kernel
theorem dX11_isDeed_42 : decode cX11_isDeed 42 = .ok (.ifCond .eq 20, 3) := by decide +kernel
theorem dX11_isDeed_45 : decode cX11_isDeed 45 = .ok (.iload_n 0, 1) := by decide +kernel
theorem dX11_isDeed_46 : decode cX11_isDeed 46 = .ok (.iconst 4, 1) := by decide +kernel
theorem dX11_isDeed_47 : decode cX11_isDeed 47 = .ok (.iload 4, 2) := by decide +kernel
theorem dX11_isDeed_49 : decode cX11_isDeed 49 = .ok (.iload_n 1, 1) := by decide +kernel
theorem dX11_isDeed_50 : decode cX11_isDeed 50 = .ok (.iload_n 2, 1) := by decide +kernel
theorem dX11_isDeed_51 : decode cX11_isDeed 51 = .ok (.iload_n 3, 1) := by decide +kernel
theorem dX11_isDeed_52 : decode cX11_isDeed 52 = .ok (.invokestatic 86, 3) := by decide +kernel
theorem dX11_isDeed_55 : decode cX11_isDeed 55 = .ok (.ifCond .eq 7, 3) := by decide +kernel
theorem dX11_isDeed_58 : decode cX11_isDeed 58 = .ok (.iconst 1, 1) := by decide +kernel
theorem dX11_isDeed_59 : decode cX11_isDeed 59 = .ok (.goto 4, 3) := by decide +kernel
theorem dX11_isDeed_62 : decode cX11_isDeed 62 = .ok (.iconst 0, 1) := by decide +kernel
theorem dX11_isDeed_63 : decode cX11_isDeed 63 = .ok (.ireturn, 1) := by decide +kernel
theorem dX11_isStage_0 : decode cX11_isStage 0 = .ok (.iload_n 0, 1) := by decide +kernel
theorem dX11_isStage_1 : decode cX11_isStage 1 = .ok (.iconst 3, 1) := by decide +kernel
theorem dX11_isStage_2 : decode cX11_isStage 2 = .ok (.if_icmp .eq 8, 3) := by decide +kernel
theorem dX11_isStage_5 : decode cX11_isStage 5 = .ok (.iload_n 0, 1) := by decide +kernel
theorem dX11_isStage_6 : decode cX11_isStage 6 = .ok (.iconst 4, 1) := by decide +kernel
theorem dX11_isStage_7 : decode cX11_isStage 7 = .ok (.if_icmp .ne 26, 3) := by decide +kernel
theorem dX11_isStage_10 : decode cX11_isStage 10 = .ok (.iload_n 1, 1) := by decide +kernel
theorem dX11_isStage_11 : decode cX11_isStage 11 = .ok (.ifCond .ne 20, 3) := by decide +kernel
theorem dX11_isStage_14 : decode cX11_isStage 14 = .ok (.iload_n 2, 1) := by decide +kernel
theorem dX11_isStage_15 : decode cX11_isStage 15 = .ok (.ifCond .ne 16, 3) := by decide +kernel
theorem dX11_isStage_18 : decode cX11_isStage 18 = .ok (.iload_n 3, 1) := by decide +kernel
theorem dX11_isStage_19 : decode cX11_isStage 19 = .ok (.ifCond .ne 12, 3) := by decide +kernel
theorem dX11_isStage_22 : decode cX11_isStage 22 = .ok (.iload 4, 2) := by decide +kernel
theorem dX11_isStage_24 : decode cX11_isStage 24 = .ok (.ifCond .ne 7, 3) := by decide +kernel
theorem dX11_isStage_27 : decode cX11_isStage 27 = .ok (.iconst 1, 1) := by decide +kernel
theorem dX11_isStage_28 : decode cX11_isStage 28 = .ok (.goto 4, 3) := by decide +kernel
theorem dX11_isStage_31 : decode cX11_isStage 31 = .ok (.iconst 0, 1) := by decide +kernel
theorem dX11_isStage_32 : decode cX11_isStage 32 = .ok (.ireturn, 1) := by decide +kernel
theorem dX11_isStage_33 : decode cX11_isStage 33 = .ok (.iload_n 0, 1) := by decide +kernel
theorem dX11_isStage_34 : decode cX11_isStage 34 = .ok (.iconst 0, 1) := by decide +kernel
theorem dX11_isStage_35 : decode cX11_isStage 35 = .ok (.iconst 2, 1) := by decide +kernel
theorem dX11_isStage_36 : decode cX11_isStage 36 = .ok (.invokestatic 82, 3) := by decide +kernel
theorem dX11_isStage_39 : decode cX11_isStage 39 = .ok (.ifCond .eq 28, 3) := by decide +kernel
theorem dX11_isStage_42 : decode cX11_isStage 42 = .ok (.iload_n 0, 1) := by decide +kernel
theorem dX11_isStage_43 : decode cX11_isStage 43 = .ok (.iconst 2, 1) := by decide +kernel
theorem dX11_isStage_44 : decode cX11_isStage 44 = .ok (.if_icmp .ne 7, 3) := by decide +kernel
theorem dX11_isStage_47 : decode cX11_isStage 47 = .ok (.iconst 3, 1) := by decide +kernel
theorem dX11_isStage_48 : decode cX11_isStage 48 = .ok (.goto 4, 3) := by decide +kernel
theorem dX11_isStage_51 : decode cX11_isStage 51 = .ok (.iload_n 0, 1) := by decide +kernel
theorem dX11_isStage_52 : decode cX11_isStage 52 = .ok (.iload_n 1, 1) := by decide +kernel
theorem dX11_isStage_53 : decode cX11_isStage 53 = .ok (.iload_n 2, 1) := by decide +kernel
theorem dX11_isStage_54 : decode cX11_isStage 54 = .ok (.iload_n 3, 1) := by decide +kernel
theorem dX11_isStage_55 : decode cX11_isStage 55 = .ok (.iload 4, 2) := by decide +kernel
theorem dX11_isStage_57 : decode cX11_isStage 57 = .ok (.invokestatic 90, 3) := by decide +kernel
theorem dX11_isStage_60 : decode cX11_isStage 60 = .ok (.ifCond .eq 7, 3) := by decide +kernel
theorem dX11_isStage_63 : decode cX11_isStage 63 = .ok (.iconst 1, 1) := by decide +kernel
theorem dX11_isStage_64 : decode cX11_isStage 64 = .ok (.goto 4, 3) := by decide +kernel
theorem dX11_isStage_67 : decode cX11_isStage 67 = .ok (.iconst 0, 1) := by decide +kernel
theorem dX11_isStage_68 : decode cX11_isStage 68 = .ok (.ireturn, 1) := by decide +kernel
theorem dX11_type_0 : decode cX11_type 0 = .ok (.iload_n 1, 1) := by decide +kernel
theorem dX11_type_1 : decode cX11_type 1 = .ok (.iconst 0, 1) := by decide +kernel
theorem dX11_type_2 : decode cX11_type 2 = .ok (.sipush 255, 3) := by decide +kernel
theorem dX11_type_5 : decode cX11_type 5 = .ok (.invokestatic 82, 3) := by decide +kernel
theorem dX11_type_8 : decode cX11_type 8 = .ok (.ifCond .ne 5, 3) := by decide +kernel
theorem dX11_type_11 : decode cX11_type 11 = .ok (.iconst (-1), 1) := by decide +kernel
theorem dX11_type_12 : decode cX11_type 12 = .ok (.ireturn, 1) := by decide +kernel
theorem dX11_type_13 : decode cX11_type 13 = .ok (.aload_n 0, 1) := by decide +kernel
theorem dX11_type_14 : decode cX11_type 14 = .ok (.getfield 94, 3) := by decide +kernel
theorem dX11_type_17 : decode cX11_type 17 = .ok (.sipush 160, 3) := by decide +kernel
theorem dX11_type_20 : decode cX11_type 20 = .ok (.if_icmp .ne 6, 3) := by decide +kernel
theorem dX11_type_23 : decode cX11_type 23 = .ok (.bipush (-3), 2) := by decide +kernel
theorem dX11_type_25 : decode cX11_type 25 = .ok (.ireturn, 1) := by decide +kernel
theorem dX11_type_26 : decode cX11_type 26 = .ok (.aload_n 0, 1) := by decide +kernel
theorem dX11_type_27 : decode cX11_type 27 = .ok (.getfield 30, 3) := by decide +kernel
theorem dX11_type_30 : decode cX11_type 30 = .ok (.aload_n 0, 1) := by decide +kernel
theorem dX11_type_31 : decode cX11_type 31 = .ok (.getfield 94, 3) := by decide +kernel
theorem dX11_type_34 : decode cX11_type 34 = .ok (.iload_n 1, 1) := by decide +kernel
theorem dX11_type_35 : decode cX11_type 35 = .ok (.iastore, 1) := by decide +kernel
theorem dX11_type_36 : decode cX11_type 36 = .ok (.aload_n 0, 1) := by decide +kernel
theorem dX11_type_37 : decode cX11_type 37 = .ok (.dup, 1) := by decide +kernel
theorem dX11_type_38 : decode cX11_type 38 = .ok (.getfield 94, 3) := by decide +kernel
theorem dX11_type_41 : decode cX11_type 41 = .ok (.iconst 1, 1) := by decide +kernel
theorem dX11_type_42 : decode cX11_type 42 = .ok (.iadd, 1) := by decide +kernel
theorem dX11_type_43 : decode cX11_type 43 = .ok (.putfield 94, 3) := by decide +kernel
theorem dX11_type_46 : decode cX11_type 46 = .ok (.aload_n 0, 1) := by decide +kernel
theorem dX11_type_47 : decode cX11_type 47 = .ok (.getfield 94, 3) := by decide +kernel
theorem dX11_type_50 : decode cX11_type 50 = .ok (.ireturn, 1) := by decide +kernel
theorem dX11_clear_0 : decode cX11_clear 0 = .ok (.aload_n 0, 1) := by decide +kernel
theorem dX11_clear_1 : decode cX11_clear 1 = .ok (.getfield 94, 3) := by decide +kernel
theorem dX11_clear_4 : decode cX11_clear 4 = .ok (.istore_n 1, 1) := by decide +kernel
theorem dX11_clear_5 : decode cX11_clear 5 = .ok (.aload_n 0, 1) := by decide +kernel
theorem dX11_clear_6 : decode cX11_clear 6 = .ok (.iconst 0, 1) := by decide +kernel
theorem dX11_clear_7 : decode cX11_clear 7 = .ok (.putfield 94, 3) := by decide +kernel
theorem dX11_clear_10 : decode cX11_clear 10 = .ok (.iload_n 1, 1) := by decide +kernel
theorem dX11_clear_11 : decode cX11_clear 11 = .ok (.ireturn, 1) := by decide +kernel
theorem dX11_next_0 : decode cX11_next 0 = .ok (.aload_n 0, 1) := by decide +kernel
theorem dX11_next_1 : decode cX11_next 1 = .ok (.getfield 97, 3) := by decide +kernel
theorem dX11_next_4 : decode cX11_next 4 = .ok (.aload_n 0, 1) := by decide +kernel
theorem dX11_next_5 : decode cX11_next 5 = .ok (.getfield 94, 3) := by decide +kernel
theorem dX11_next_8 : decode cX11_next 8 = .ok (.if_icmp .ge 30, 3) := by decide +kernel
theorem dX11_next_11 : decode cX11_next 11 = .ok (.aload_n 0, 1) := by decide +kernel
theorem dX11_next_12 : decode cX11_next 12 = .ok (.getfield 30, 3) := by decide +kernel
theorem dX11_next_15 : decode cX11_next 15 = .ok (.aload_n 0, 1) := by decide +kernel
theorem dX11_next_16 : decode cX11_next 16 = .ok (.getfield 97, 3) := by decide +kernel
theorem dX11_next_19 : decode cX11_next 19 = .ok (.iaload, 1) := by decide +kernel
theorem dX11_next_20 : decode cX11_next 20 = .ok (.bipush 32, 2) := by decide +kernel
theorem dX11_next_22 : decode cX11_next 22 = .ok (.if_icmp .ne 16, 3) := by decide +kernel
theorem dX11_next_25 : decode cX11_next 25 = .ok (.aload_n 0, 1) := by decide +kernel
theorem dX11_next_26 : decode cX11_next 26 = .ok (.dup, 1) := by decide +kernel
theorem dX11_next_27 : decode cX11_next 27 = .ok (.getfield 97, 3) := by decide +kernel
theorem dX11_next_30 : decode cX11_next 30 = .ok (.iconst 1, 1) := by decide +kernel
theorem dX11_next_31 : decode cX11_next 31 = .ok (.iadd, 1) := by decide +kernel
theorem dX11_next_32 : decode cX11_next 32 = .ok (.putfield 97, 3) := by decide +kernel
theorem dX11_next_35 : decode cX11_next 35 = .ok (.goto (-35), 3) := by decide +kernel
theorem dX11_next_38 : decode cX11_next 38 = .ok (.aload_n 0, 1) := by decide +kernel
theorem dX11_next_39 : decode cX11_next 39 = .ok (.aload_n 0, 1) := by decide +kernel
theorem dX11_next_40 : decode cX11_next 40 = .ok (.getfield 97, 3) := by decide +kernel
theorem dX11_next_43 : decode cX11_next 43 = .ok (.putfield 100, 3) := by decide +kernel
theorem dX11_next_46 : decode cX11_next 46 = .ok (.aload_n 0, 1) := by decide +kernel
theorem dX11_next_47 : decode cX11_next 47 = .ok (.iconst 0, 1) := by decide +kernel
theorem dX11_next_48 : decode cX11_next 48 = .ok (.putfield 103, 3) := by decide +kernel
theorem dX11_next_51 : decode cX11_next 51 = .ok (.aload_n 0, 1) := by decide +kernel
theorem dX11_next_52 : decode cX11_next 52 = .ok (.getfield 97, 3) := by decide +kernel
theorem dX11_next_55 : decode cX11_next 55 = .ok (.aload_n 0, 1) := by decide +kernel
theorem dX11_next_56 : decode cX11_next 56 = .ok (.getfield 94, 3) := by decide +kernel
theorem dX11_next_59 : decode cX11_next 59 = .ok (.if_icmp .ne 11, 3) := by decide +kernel
theorem dX11_next_62 : decode cX11_next 62 = .ok (.aload_n 0, 1) := by decide +kernel
theorem dX11_next_63 : decode cX11_next 63 = .ok (.iconst 0, 1) := by decide +kernel
theorem dX11_next_64 : decode cX11_next 64 = .ok (.putfield 106, 3) := by decide +kernel
theorem dX11_next_67 : decode cX11_next 67 = .ok (.goto 212, 3) := by decide +kernel
theorem dX11_next_70 : decode cX11_next 70 = .ok (.aload_n 0, 1) := by decide +kernel
theorem dX11_next_71 : decode cX11_next 71 = .ok (.getfield 30, 3) := by decide +kernel
theorem dX11_next_74 : decode cX11_next 74 = .ok (.aload_n 0, 1) := by decide +kernel
theorem dX11_next_75 : decode cX11_next 75 = .ok (.getfield 97, 3) := by decide +kernel
theorem dX11_next_78 : decode cX11_next 78 = .ok (.iaload, 1) := by decide +kernel
theorem dX11_next_79 : decode cX11_next 79 = .ok (.bipush 48, 2) := by decide +kernel
theorem dX11_next_81 : decode cX11_next 81 = .ok (.bipush 57, 2) := by decide +kernel
theorem dX11_next_83 : decode cX11_next 83 = .ok (.invokestatic 82, 3) := by decide +kernel
theorem dX11_next_86 : decode cX11_next 86 = .ok (.ifCond .eq 134, 3) := by decide +kernel
theorem dX11_next_89 : decode cX11_next 89 = .ok (.aload_n 0, 1) := by decide +kernel
theorem dX11_next_90 : decode cX11_next 90 = .ok (.getfield 97, 3) := by decide +kernel
theorem dX11_next_93 : decode cX11_next 93 = .ok (.aload_n 0, 1) := by decide +kernel
theorem dX11_next_94 : decode cX11_next 94 = .ok (.getfield 94, 3) := by decide +kernel
theorem dX11_next_97 : decode cX11_next 97 = .ok (.if_icmp .ge 75, 3) := by decide +kernel
theorem dX11_next_100 : decode cX11_next 100 = .ok (.aload_n 0, 1) := by decide +kernel
theorem dX11_next_101 : decode cX11_next 101 = .ok (.getfield 30, 3) := by decide +kernel
theorem dX11_next_104 : decode cX11_next 104 = .ok (.aload_n 0, 1) := by decide +kernel
theorem dX11_next_105 : decode cX11_next 105 = .ok (.getfield 97, 3) := by decide +kernel
theorem dX11_next_108 : decode cX11_next 108 = .ok (.iaload, 1) := by decide +kernel
theorem dX11_next_109 : decode cX11_next 109 = .ok (.bipush 48, 2) := by decide +kernel
theorem dX11_next_111 : decode cX11_next 111 = .ok (.bipush 57, 2) := by decide +kernel
theorem dX11_next_113 : decode cX11_next 113 = .ok (.invokestatic 82, 3) := by decide +kernel
theorem dX11_next_116 : decode cX11_next 116 = .ok (.ifCond .eq 56, 3) := by decide +kernel
theorem dX11_next_119 : decode cX11_next 119 = .ok (.aload_n 0, 1) := by decide +kernel
theorem dX11_next_120 : decode cX11_next 120 = .ok (.aload_n 0, 1) := by decide +kernel
theorem dX11_next_121 : decode cX11_next 121 = .ok (.getfield 103, 3) := by decide +kernel
theorem dX11_next_124 : decode cX11_next 124 = .ok (.bipush 99, 2) := by decide +kernel
theorem dX11_next_126 : decode cX11_next 126 = .ok (.if_icmp .le 10, 3) := by decide +kernel
theorem dX11_next_129 : decode cX11_next 129 = .ok (.aload_n 0, 1) := by decide +kernel
theorem dX11_next_130 : decode cX11_next 130 = .ok (.getfield 103, 3) := by decide +kernel
theorem dX11_next_133 : decode cX11_next 133 = .ok (.goto 23, 3) := by decide +kernel
theorem dX11_next_136 : decode cX11_next 136 = .ok (.bipush 10, 2) := by decide +kernel
theorem dX11_next_138 : decode cX11_next 138 = .ok (.aload_n 0, 1) := by decide +kernel
theorem dX11_next_139 : decode cX11_next 139 = .ok (.getfield 103, 3) := by decide +kernel
theorem dX11_next_142 : decode cX11_next 142 = .ok (.imul, 1) := by decide +kernel
theorem dX11_next_143 : decode cX11_next 143 = .ok (.aload_n 0, 1) := by decide +kernel
theorem dX11_next_144 : decode cX11_next 144 = .ok (.getfield 30, 3) := by decide +kernel
theorem dX11_next_147 : decode cX11_next 147 = .ok (.aload_n 0, 1) := by decide +kernel
theorem dX11_next_148 : decode cX11_next 148 = .ok (.getfield 97, 3) := by decide +kernel
theorem dX11_next_151 : decode cX11_next 151 = .ok (.iaload, 1) := by decide +kernel
theorem dX11_next_152 : decode cX11_next 152 = .ok (.iadd, 1) := by decide +kernel
theorem dX11_next_153 : decode cX11_next 153 = .ok (.bipush 48, 2) := by decide +kernel
theorem dX11_next_155 : decode cX11_next 155 = .ok (.isub, 1) := by decide +kernel
theorem dX11_next_156 : decode cX11_next 156 = .ok (.putfield 103, 3) := by decide +kernel
theorem dX11_next_159 : decode cX11_next 159 = .ok (.aload_n 0, 1) := by decide +kernel
theorem dX11_next_160 : decode cX11_next 160 = .ok (.dup, 1) := by decide +kernel
theorem dX11_next_161 : decode cX11_next 161 = .ok (.getfield 97, 3) := by decide +kernel
theorem dX11_next_164 : decode cX11_next 164 = .ok (.iconst 1, 1) := by decide +kernel
theorem dX11_next_165 : decode cX11_next 165 = .ok (.iadd, 1) := by decide +kernel
theorem dX11_next_166 : decode cX11_next 166 = .ok (.putfield 97, 3) := by decide +kernel
theorem dX11_next_169 : decode cX11_next 169 = .ok (.goto (-80), 3) := by decide +kernel
theorem dX11_next_172 : decode cX11_next 172 = .ok (.aload_n 0, 1) := by decide +kernel
theorem dX11_next_173 : decode cX11_next 173 = .ok (.aload_n 0, 1) := by decide +kernel
theorem dX11_next_174 : decode cX11_next 174 = .ok (.getfield 103, 3) := by decide +kernel
theorem dX11_next_177 : decode cX11_next 177 = .ok (.bipush 99, 2) := by decide +kernel
theorem dX11_next_179 : decode cX11_next 179 = .ok (.if_icmp .gt 30, 3) := by decide +kernel
theorem dX11_next_182 : decode cX11_next 182 = .ok (.aload_n 0, 1) := by decide +kernel
theorem dX11_next_183 : decode cX11_next 183 = .ok (.getfield 30, 3) := by decide +kernel
theorem dX11_next_186 : decode cX11_next 186 = .ok (.aload_n 0, 1) := by decide +kernel
theorem dX11_next_187 : decode cX11_next 187 = .ok (.getfield 100, 3) := by decide +kernel
theorem dX11_next_190 : decode cX11_next 190 = .ok (.iaload, 1) := by decide +kernel
theorem dX11_next_191 : decode cX11_next 191 = .ok (.bipush 48, 2) := by decide +kernel
theorem dX11_next_193 : decode cX11_next 193 = .ok (.if_icmp .ne 20, 3) := by decide +kernel
theorem dX11_next_196 : decode cX11_next 196 = .ok (.aload_n 0, 1) := by decide +kernel
theorem dX11_next_197 : decode cX11_next 197 = .ok (.getfield 97, 3) := by decide +kernel
theorem dX11_next_200 : decode cX11_next 200 = .ok (.aload_n 0, 1) := by decide +kernel
theorem dX11_next_201 : decode cX11_next 201 = .ok (.getfield 100, 3) := by decide +kernel
theorem dX11_next_204 : decode cX11_next 204 = .ok (.isub, 1) := by decide +kernel
theorem dX11_next_205 : decode cX11_next 205 = .ok (.iconst 1, 1) := by decide +kernel
theorem dX11_next_206 : decode cX11_next 206 = .ok (.if_icmp .le 7, 3) := by decide +kernel
theorem dX11_next_209 : decode cX11_next 209 = .ok (.iconst 2, 1) := by decide +kernel
theorem dX11_next_210 : decode cX11_next 210 = .ok (.goto 4, 3) := by decide +kernel
theorem dX11_next_213 : decode cX11_next 213 = .ok (.iconst 1, 1) := by decide +kernel
theorem dX11_next_214 : decode cX11_next 214 = .ok (.putfield 106, 3) := by decide +kernel
theorem dX11_next_217 : decode cX11_next 217 = .ok (.goto 62, 3) := by decide +kernel
theorem dX11_next_220 : decode cX11_next 220 = .ok (.aload_n 0, 1) := by decide +kernel
theorem dX11_next_221 : decode cX11_next 221 = .ok (.getfield 30, 3) := by decide +kernel
theorem dX11_next_224 : decode cX11_next 224 = .ok (.aload_n 0, 1) := by decide +kernel
theorem dX11_next_225 : decode cX11_next 225 = .ok (.getfield 97, 3) := by decide +kernel
theorem dX11_next_228 : decode cX11_next 228 = .ok (.iaload, 1) := by decide +kernel
theorem dX11_next_229 : decode cX11_next 229 = .ok (.istore_n 1, 1) := by decide +kernel
theorem dX11_next_230 : decode cX11_next 230 = .ok (.aload_n 0, 1) := by decide +kernel
theorem dX11_next_231 : decode cX11_next 231 = .ok (.iload_n 1, 1) := by decide +kernel
theorem dX11_next_232 : decode cX11_next 232 = .ok (.bipush 120, 2) := by decide +kernel
theorem dX11_next_234 : decode cX11_next 234 = .ok (.if_icmp .eq 27, 3) := by decide +kernel
theorem dX11_next_237 : decode cX11_next 237 = .ok (.iload_n 1, 1) := by decide +kernel
theorem dX11_next_238 : decode cX11_next 238 = .ok (.bipush 121, 2) := by decide +kernel
theorem dX11_next_240 : decode cX11_next 240 = .ok (.if_icmp .eq 21, 3) := by decide +kernel
theorem dX11_next_243 : decode cX11_next 243 = .ok (.iload_n 1, 1) := by decide +kernel
theorem dX11_next_244 : decode cX11_next 244 = .ok (.bipush 109, 2) := by decide +kernel
theorem dX11_next_246 : decode cX11_next 246 = .ok (.if_icmp .eq 15, 3) := by decide +kernel
theorem dX11_next_249 : decode cX11_next 249 = .ok (.iload_n 1, 1) := by decide +kernel
theorem dX11_next_250 : decode cX11_next 250 = .ok (.bipush 100, 2) := by decide +kernel
theorem dX11_next_252 : decode cX11_next 252 = .ok (.if_icmp .eq 9, 3) := by decide +kernel
theorem dX11_next_255 : decode cX11_next 255 = .ok (.iload_n 1, 1) := by decide +kernel
theorem dX11_next_256 : decode cX11_next 256 = .ok (.bipush 59, 2) := by decide +kernel
theorem dX11_next_258 : decode cX11_next 258 = .ok (.if_icmp .ne 7, 3) := by decide +kernel
theorem dX11_next_261 : decode cX11_next 261 = .ok (.iload_n 1, 1) := by decide +kernel
theorem dX11_next_262 : decode cX11_next 262 = .ok (.goto 4, 3) := by decide +kernel
theorem dX11_next_265 : decode cX11_next 265 = .ok (.iconst 2, 1) := by decide +kernel
theorem dX11_next_266 : decode cX11_next 266 = .ok (.putfield 106, 3) := by decide +kernel
theorem dX11_next_269 : decode cX11_next 269 = .ok (.aload_n 0, 1) := by decide +kernel
theorem dX11_next_270 : decode cX11_next 270 = .ok (.dup, 1) := by decide +kernel
theorem dX11_next_271 : decode cX11_next 271 = .ok (.getfield 97, 3) := by decide +kernel
theorem dX11_next_274 : decode cX11_next 274 = .ok (.iconst 1, 1) := by decide +kernel
theorem dX11_next_275 : decode cX11_next 275 = .ok (.iadd, 1) := by decide +kernel
theorem dX11_next_276 : decode cX11_next 276 = .ok (.putfield 97, 3) := by decide +kernel
theorem dX11_next_279 : decode cX11_next 279 = .ok (.return_, 1) := by decide +kernel
theorem dX11_must_0 : decode cX11_must 0 = .ok (.aload_n 0, 1) := by decide +kernel
theorem dX11_must_1 : decode cX11_must 1 = .ok (.getfield 109, 3) := by decide +kernel
theorem dX11_must_4 : decode cX11_must 4 = .ok (.bipush (-9), 2) := by decide +kernel
theorem dX11_must_6 : decode cX11_must 6 = .ok (.if_icmp .ne 22, 3) := by decide +kernel
theorem dX11_must_9 : decode cX11_must 9 = .ok (.iload_n 1, 1) := by decide +kernel
theorem dX11_must_10 : decode cX11_must 10 = .ok (.ifCond .eq 10, 3) := by decide +kernel
theorem dX11_must_13 : decode cX11_must 13 = .ok (.aload_n 0, 1) := by decide +kernel
theorem dX11_must_14 : decode cX11_must 14 = .ok (.invokevirtual 112, 3) := by decide +kernel
theorem dX11_must_17 : decode cX11_must 17 = .ok (.goto 11, 3) := by decide +kernel
theorem dX11_must_20 : decode cX11_must 20 = .ok (.aload_n 0, 1) := by decide +kernel
theorem dX11_must_21 : decode cX11_must 21 = .ok (.aload_n 0, 1) := by decide +kernel
theorem dX11_must_22 : decode cX11_must 22 = .ok (.getfield 100, 3) := by decide +kernel
theorem dX11_must_25 : decode cX11_must 25 = .ok (.putfield 109, 3) := by decide +kernel
theorem dX11_must_28 : decode cX11_must 28 = .ok (.return_, 1) := by decide +kernel
theorem dX11_readRow_0 : decode cX11_readRow 0 = .ok (.iconst 0, 1) := by decide +kernel
theorem dX11_readRow_1 : decode cX11_readRow 1 = .ok (.istore_n 2, 1) := by decide +kernel
theorem dX11_readRow_2 : decode cX11_readRow 2 = .ok (.iload_n 2, 1) := by decide +kernel
theorem dX11_readRow_3 : decode cX11_readRow 3 = .ok (.bipush 16, 2) := by decide +kernel
theorem dX11_readRow_5 : decode cX11_readRow 5 = .ok (.if_icmp .ge 21, 3) := by decide +kernel
theorem dX11_readRow_8 : decode cX11_readRow 8 = .ok (.aload_n 0, 1) := by decide +kernel
theorem dX11_readRow_9 : decode cX11_readRow 9 = .ok (.getfield 33, 3) := by decide +kernel
theorem dX11_readRow_12 : decode cX11_readRow 12 = .ok (.bipush 16, 2) := by decide +kernel
theorem dX11_readRow_14 : decode cX11_readRow 14 = .ok (.iload_n 1, 1) := by decide +kernel
theorem dX11_readRow_15 : decode cX11_readRow 15 = .ok (.imul, 1) := by decide +kernel
theorem dX11_readRow_16 : decode cX11_readRow 16 = .ok (.iload_n 2, 1) := by decide +kernel
theorem dX11_readRow_17 : decode cX11_readRow 17 = .ok (.iadd, 1) := by decide +kernel
theorem dX11_readRow_18 : decode cX11_readRow 18 = .ok (.iconst 0, 1) := by decide +kernel
theorem dX11_readRow_19 : decode cX11_readRow 19 = .ok (.iastore, 1) := by decide +kernel
theorem dX11_readRow_20 : decode cX11_readRow 20 = .ok (.iinc 2 1, 3) := by decide +kernel
theorem dX11_readRow_23 : decode cX11_readRow 23 = .ok (.goto (-21), 3) := by decide +kernel
theorem dX11_readRow_26 : decode cX11_readRow 26 = .ok (.iconst 0, 1) := by decide +kernel
theorem dX11_readRow_27 : decode cX11_readRow 27 = .ok (.istore_n 2, 1) := by decide +kernel
theorem dX11_readRow_28 : decode cX11_readRow 28 = .ok (.aload_n 0, 1) := by decide +kernel
theorem dX11_readRow_29 : decode cX11_readRow 29 = .ok (.getfield 109, 3) := by decide +kernel
theorem dX11_readRow_32 : decode cX11_readRow 32 = .ok (.bipush (-9), 2) := by decide +kernel
theorem dX11_readRow_34 : decode cX11_readRow 34 = .ok (.if_icmp .ne 61, 3) := by decide +kernel
theorem dX11_readRow_37 : decode cX11_readRow 37 = .ok (.aload_n 0, 1) := by decide +kernel
theorem dX11_readRow_38 : decode cX11_readRow 38 = .ok (.getfield 106, 3) := by decide +kernel
theorem dX11_readRow_41 : decode cX11_readRow 41 = .ok (.iconst 1, 1) := by decide +kernel
theorem dX11_readRow_42 : decode cX11_readRow 42 = .ok (.if_icmp .ne 53, 3) := by decide +kernel
theorem dX11_readRow_45 : decode cX11_readRow 45 = .ok (.iload_n 2, 1) := by decide +kernel
theorem dX11_readRow_46 : decode cX11_readRow 46 = .ok (.bipush 16, 2) := by decide +kernel
theorem dX11_readRow_48 : decode cX11_readRow 48 = .ok (.if_icmp .ge 36, 3) := by decide +kernel
theorem dX11_readRow_51 : decode cX11_readRow 51 = .ok (.aload_n 0, 1) := by decide +kernel
theorem dX11_readRow_52 : decode cX11_readRow 52 = .ok (.getfield 103, 3) := by decide +kernel
theorem dX11_readRow_55 : decode cX11_readRow 55 = .ok (.iconst 4, 1) := by decide +kernel
theorem dX11_readRow_56 : decode cX11_readRow 56 = .ok (.if_icmp .ge 28, 3) := by decide +kernel
theorem dX11_readRow_59 : decode cX11_readRow 59 = .ok (.aload_n 0, 1) := by decide +kernel
theorem dX11_readRow_60 : decode cX11_readRow 60 = .ok (.getfield 33, 3) := by decide +kernel
theorem dX11_readRow_63 : decode cX11_readRow 63 = .ok (.bipush 16, 2) := by decide +kernel
theorem dX11_readRow_65 : decode cX11_readRow 65 = .ok (.iload_n 1, 1) := by decide +kernel
theorem dX11_readRow_66 : decode cX11_readRow 66 = .ok (.imul, 1) := by decide +kernel
theorem dX11_readRow_67 : decode cX11_readRow 67 = .ok (.iload_n 2, 1) := by decide +kernel
theorem dX11_readRow_68 : decode cX11_readRow 68 = .ok (.iadd, 1) := by decide +kernel
theorem dX11_readRow_69 : decode cX11_readRow 69 = .ok (.aload_n 0, 1) := by decide +kernel
theorem dX11_readRow_70 : decode cX11_readRow 70 = .ok (.getfield 103, 3) := by decide +kernel
theorem dX11_readRow_73 : decode cX11_readRow 73 = .ok (.iastore, 1) := by decide +kernel
theorem dX11_readRow_74 : decode cX11_readRow 74 = .ok (.iinc 2 1, 3) := by decide +kernel
theorem dX11_readRow_77 : decode cX11_readRow 77 = .ok (.aload_n 0, 1) := by decide +kernel
theorem dX11_readRow_78 : decode cX11_readRow 78 = .ok (.invokevirtual 112, 3) := by decide +kernel
theorem dX11_readRow_81 : decode cX11_readRow 81 = .ok (.goto (-53), 3) := by decide +kernel
theorem dX11_readRow_84 : decode cX11_readRow 84 = .ok (.aload_n 0, 1) := by decide +kernel
theorem dX11_readRow_85 : decode cX11_readRow 85 = .ok (.aload_n 0, 1) := by decide +kernel
theorem dX11_readRow_86 : decode cX11_readRow 86 = .ok (.getfield 100, 3) := by decide +kernel
theorem dX11_readRow_89 : decode cX11_readRow 89 = .ok (.putfield 109, 3) := by decide +kernel
theorem dX11_readRow_92 : decode cX11_readRow 92 = .ok (.goto (-64), 3) := by decide +kernel
theorem dX11_readRow_95 : decode cX11_readRow 95 = .ok (.aload_n 0, 1) := by decide +kernel
theorem dX11_readRow_96 : decode cX11_readRow 96 = .ok (.iload_n 2, 1) := by decide +kernel
theorem dX11_readRow_97 : decode cX11_readRow 97 = .ok (.ifCond .le 16, 3) := by decide +kernel
theorem dX11_readRow_100 : decode cX11_readRow 100 = .ok (.aload_n 0, 1) := by decide +kernel
theorem dX11_readRow_101 : decode cX11_readRow 101 = .ok (.getfield 106, 3) := by decide +kernel
theorem dX11_readRow_104 : decode cX11_readRow 104 = .ok (.bipush 59, 2) := by decide +kernel
theorem dX11_readRow_106 : decode cX11_readRow 106 = .ok (.if_icmp .ne 7, 3) := by decide +kernel
theorem dX11_readRow_109 : decode cX11_readRow 109 = .ok (.iconst 1, 1) := by decide +kernel
theorem dX11_readRow_110 : decode cX11_readRow 110 = .ok (.goto 4, 3) := by decide +kernel
theorem dX11_readRow_113 : decode cX11_readRow 113 = .ok (.iconst 0, 1) := by decide +kernel
theorem dX11_readRow_114 : decode cX11_readRow 114 = .ok (.invokevirtual 115, 3) := by decide +kernel
theorem dX11_readRow_117 : decode cX11_readRow 117 = .ok (.return_, 1) := by decide +kernel
theorem dX11_readMarks_0 : decode cX11_readMarks 0 = .ok (.aload_n 0, 1) := by decide +kernel
theorem dX11_readMarks_1 : decode cX11_readMarks 1 = .ok (.getfield 33, 3) := by decide +kernel
theorem dX11_readMarks_4 : decode cX11_readMarks 4 = .ok (.bipush 32, 2) := by decide +kernel
theorem dX11_readMarks_6 : decode cX11_readMarks 6 = .ok (.iconst 0, 1) := by decide +kernel
theorem dX11_readMarks_7 : decode cX11_readMarks 7 = .ok (.iastore, 1) := by decide +kernel
theorem dX11_readMarks_8 : decode cX11_readMarks 8 = .ok (.aload_n 0, 1) := by decide +kernel
theorem dX11_readMarks_9 : decode cX11_readMarks 9 = .ok (.iconst 1, 1) := by decide +kernel
theorem dX11_readMarks_10 : decode cX11_readMarks 10 = .ok (.putfield 119, 3) := by decide +kernel
theorem dX11_readMarks_13 : decode cX11_readMarks 13 = .ok (.aload_n 0, 1) := by decide +kernel
theorem dX11_readMarks_14 : decode cX11_readMarks 14 = .ok (.getfield 109, 3) := by decide +kernel
theorem dX11_readMarks_17 : decode cX11_readMarks 17 = .ok (.bipush (-9), 2) := by decide +kernel
theorem dX11_readMarks_19 : decode cX11_readMarks 19 = .ok (.if_icmp .ne 71, 3) := by decide +kernel
theorem dX11_readMarks_22 : decode cX11_readMarks 22 = .ok (.aload_n 0, 1) := by decide +kernel
theorem dX11_readMarks_23 : decode cX11_readMarks 23 = .ok (.getfield 106, 3) := by decide +kernel
theorem dX11_readMarks_26 : decode cX11_readMarks 26 = .ok (.iconst 1, 1) := by decide +kernel
theorem dX11_readMarks_27 : decode cX11_readMarks 27 = .ok (.if_icmp .ne 63, 3) := by decide +kernel
theorem dX11_readMarks_30 : decode cX11_readMarks 30 = .ok (.aload_n 0, 1) := by decide +kernel
theorem dX11_readMarks_31 : decode cX11_readMarks 31 = .ok (.getfield 103, 3) := by decide +kernel
theorem dX11_readMarks_34 : decode cX11_readMarks 34 = .ok (.bipush 16, 2) := by decide +kernel
theorem dX11_readMarks_36 : decode cX11_readMarks 36 = .ok (.if_icmp .ge 43, 3) := by decide +kernel
theorem dX11_readMarks_39 : decode cX11_readMarks 39 = .ok (.aload_n 0, 1) := by decide +kernel
theorem dX11_readMarks_40 : decode cX11_readMarks 40 = .ok (.getfield 33, 3) := by decide +kernel
theorem dX11_readMarks_43 : decode cX11_readMarks 43 = .ok (.bipush 32, 2) := by decide +kernel
theorem dX11_readMarks_45 : decode cX11_readMarks 45 = .ok (.iaload, 1) := by decide +kernel
theorem dX11_readMarks_46 : decode cX11_readMarks 46 = .ok (.aload_n 0, 1) := by decide +kernel
theorem dX11_readMarks_47 : decode cX11_readMarks 47 = .ok (.getfield 103, 3) := by decide +kernel
theorem dX11_readMarks_50 : decode cX11_readMarks 50 = .ok (.invokestatic 123, 3) := by decide +kernel
theorem dX11_readMarks_53 : decode cX11_readMarks 53 = .ok (.ifCond .ne 26, 3) := by decide +kernel
theorem dX11_readMarks_56 : decode cX11_readMarks 56 = .ok (.aload_n 0, 1) := by decide +kernel
theorem dX11_readMarks_57 : decode cX11_readMarks 57 = .ok (.getfield 33, 3) := by decide +kernel
theorem dX11_readMarks_60 : decode cX11_readMarks 60 = .ok (.bipush 32, 2) := by decide +kernel
theorem dX11_readMarks_62 : decode cX11_readMarks 62 = .ok (.dup2, 1) := by decide +kernel
theorem dX11_readMarks_63 : decode cX11_readMarks 63 = .ok (.iaload, 1) := by decide +kernel
theorem dX11_readMarks_64 : decode cX11_readMarks 64 = .ok (.iconst 1, 1) := by decide +kernel
theorem dX11_readMarks_65 : decode cX11_readMarks 65 = .ok (.aload_n 0, 1) := by decide +kernel
theorem dX11_readMarks_66 : decode cX11_readMarks 66 = .ok (.getfield 103, 3) := by decide +kernel
theorem dX11_readMarks_69 : decode cX11_readMarks 69 = .ok (.ishl, 1) := by decide +kernel
theorem dX11_readMarks_70 : decode cX11_readMarks 70 = .ok (.ior, 1) := by decide +kernel
theorem dX11_readMarks_71 : decode cX11_readMarks 71 = .ok (.iastore, 1) := by decide +kernel
theorem dX11_readMarks_72 : decode cX11_readMarks 72 = .ok (.aload_n 0, 1) := by decide +kernel
theorem dX11_readMarks_73 : decode cX11_readMarks 73 = .ok (.invokevirtual 112, 3) := by decide +kernel
theorem dX11_readMarks_76 : decode cX11_readMarks 76 = .ok (.goto (-63), 3) := by decide +kernel
theorem dX11_readMarks_79 : decode cX11_readMarks 79 = .ok (.aload_n 0, 1) := by decide +kernel
theorem dX11_readMarks_80 : decode cX11_readMarks 80 = .ok (.aload_n 0, 1) := by decide +kernel
theorem dX11_readMarks_81 : decode cX11_readMarks 81 = .ok (.getfield 100, 3) := by decide +kernel
theorem dX11_readMarks_84 : decode cX11_readMarks 84 = .ok (.putfield 109, 3) := by decide +kernel
theorem dX11_readMarks_87 : decode cX11_readMarks 87 = .ok (.goto (-74), 3) := by decide +kernel
theorem dX11_readMarks_90 : decode cX11_readMarks 90 = .ok (.aload_n 0, 1) := by decide +kernel
theorem dX11_readMarks_91 : decode cX11_readMarks 91 = .ok (.aload_n 0, 1) := by decide +kernel
theorem dX11_readMarks_92 : decode cX11_readMarks 92 = .ok (.getfield 106, 3) := by decide +kernel
theorem dX11_readMarks_95 : decode cX11_readMarks 95 = .ok (.bipush 59, 2) := by decide +kernel
theorem dX11_readMarks_97 : decode cX11_readMarks 97 = .ok (.if_icmp .ne 7, 3) := by decide +kernel
theorem dX11_readMarks_100 : decode cX11_readMarks 100 = .ok (.iconst 1, 1) := by decide +kernel
theorem dX11_readMarks_101 : decode cX11_readMarks 101 = .ok (.goto 4, 3) := by decide +kernel
theorem dX11_readMarks_104 : decode cX11_readMarks 104 = .ok (.iconst 0, 1) := by decide +kernel
theorem dX11_readMarks_105 : decode cX11_readMarks 105 = .ok (.invokevirtual 115, 3) := by decide +kernel
theorem dX11_readMarks_108 : decode cX11_readMarks 108 = .ok (.return_, 1) := by decide +kernel
theorem dX11_readDeed_0 : decode cX11_readDeed 0 = .ok (.bipush 34, 2) := by decide +kernel
theorem dX11_readDeed_2 : decode cX11_readDeed 2 = .ok (.iconst 5, 1) := by decide +kernel
theorem dX11_readDeed_3 : decode cX11_readDeed 3 = .ok (.aload_n 0, 1) := by decide +kernel
theorem dX11_readDeed_4 : decode cX11_readDeed 4 = .ok (.getfield 33, 3) := by decide +kernel
theorem dX11_readDeed_7 : decode cX11_readDeed 7 = .ok (.bipush 33, 2) := by decide +kernel
theorem dX11_readDeed_9 : decode cX11_readDeed 9 = .ok (.iaload, 1) := by decide +kernel
theorem dX11_readDeed_10 : decode cX11_readDeed 10 = .ok (.imul, 1) := by decide +kernel
theorem dX11_readDeed_11 : decode cX11_readDeed 11 = .ok (.iadd, 1) := by decide +kernel
theorem dX11_readDeed_12 : decode cX11_readDeed 12 = .ok (.istore_n 1, 1) := by decide +kernel
theorem dX11_readDeed_13 : decode cX11_readDeed 13 = .ok (.aload_n 0, 1) := by decide +kernel
theorem dX11_readDeed_14 : decode cX11_readDeed 14 = .ok (.getfield 33, 3) := by decide +kernel
theorem dX11_readDeed_17 : decode cX11_readDeed 17 = .ok (.iload_n 1, 1) := by decide +kernel
theorem dX11_readDeed_18 : decode cX11_readDeed 18 = .ok (.aload_n 0, 1) := by decide +kernel
theorem dX11_readDeed_19 : decode cX11_readDeed 19 = .ok (.getfield 103, 3) := by decide +kernel
theorem dX11_readDeed_22 : decode cX11_readDeed 22 = .ok (.iastore, 1) := by decide +kernel
theorem dX11_readDeed_23 : decode cX11_readDeed 23 = .ok (.aload_n 0, 1) := by decide +kernel
theorem dX11_readDeed_24 : decode cX11_readDeed 24 = .ok (.aload_n 0, 1) := by decide +kernel
theorem dX11_readDeed_25 : decode cX11_readDeed 25 = .ok (.getfield 106, 3) := by decide +kernel
theorem dX11_readDeed_28 : decode cX11_readDeed 28 = .ok (.iconst 1, 1) := by decide +kernel
theorem dX11_readDeed_29 : decode cX11_readDeed 29 = .ok (.if_icmp .ne 15, 3) := by decide +kernel
theorem dX11_readDeed_32 : decode cX11_readDeed 32 = .ok (.aload_n 0, 1) := by decide +kernel
theorem dX11_readDeed_33 : decode cX11_readDeed 33 = .ok (.getfield 103, 3) := by decide +kernel
theorem dX11_readDeed_36 : decode cX11_readDeed 36 = .ok (.iconst 5, 1) := by decide +kernel
theorem dX11_readDeed_37 : decode cX11_readDeed 37 = .ok (.if_icmp .ge 7, 3) := by decide +kernel
theorem dX11_readDeed_40 : decode cX11_readDeed 40 = .ok (.iconst 1, 1) := by decide +kernel
theorem dX11_readDeed_41 : decode cX11_readDeed 41 = .ok (.goto 4, 3) := by decide +kernel
theorem dX11_readDeed_44 : decode cX11_readDeed 44 = .ok (.iconst 0, 1) := by decide +kernel
theorem dX11_readDeed_45 : decode cX11_readDeed 45 = .ok (.invokevirtual 115, 3) := by decide +kernel
theorem dX11_readDeed_48 : decode cX11_readDeed 48 = .ok (.iconst 1, 1) := by decide +kernel
theorem dX11_readDeed_49 : decode cX11_readDeed 49 = .ok (.istore_n 2, 1) := by decide +kernel
theorem dX11_readDeed_50 : decode cX11_readDeed 50 = .ok (.iload_n 2, 1) := by decide +kernel
theorem dX11_readDeed_51 : decode cX11_readDeed 51 = .ok (.iconst 5, 1) := by decide +kernel
theorem dX11_readDeed_52 : decode cX11_readDeed 52 = .ok (.if_icmp .ge 88, 3) := by decide +kernel
theorem dX11_readDeed_55 : decode cX11_readDeed 55 = .ok (.aload_n 0, 1) := by decide +kernel
theorem dX11_readDeed_56 : decode cX11_readDeed 56 = .ok (.getfield 109, 3) := by decide +kernel
theorem dX11_readDeed_59 : decode cX11_readDeed 59 = .ok (.bipush (-9), 2) := by decide +kernel
theorem dX11_readDeed_61 : decode cX11_readDeed 61 = .ok (.if_icmp .ne 79, 3) := by decide +kernel
theorem dX11_readDeed_64 : decode cX11_readDeed 64 = .ok (.aload_n 0, 1) := by decide +kernel
theorem dX11_readDeed_65 : decode cX11_readDeed 65 = .ok (.getfield 33, 3) := by decide +kernel
theorem dX11_readDeed_68 : decode cX11_readDeed 68 = .ok (.iload_n 1, 1) := by decide +kernel
theorem dX11_readDeed_69 : decode cX11_readDeed 69 = .ok (.iload_n 2, 1) := by decide +kernel
theorem dX11_readDeed_70 : decode cX11_readDeed 70 = .ok (.iadd, 1) := by decide +kernel
theorem dX11_readDeed_71 : decode cX11_readDeed 71 = .ok (.aload_n 0, 1) := by decide +kernel
theorem dX11_readDeed_72 : decode cX11_readDeed 72 = .ok (.getfield 103, 3) := by decide +kernel
theorem dX11_readDeed_75 : decode cX11_readDeed 75 = .ok (.iastore, 1) := by decide +kernel
theorem dX11_readDeed_76 : decode cX11_readDeed 76 = .ok (.aload_n 0, 1) := by decide +kernel
theorem dX11_readDeed_77 : decode cX11_readDeed 77 = .ok (.aload_n 0, 1) := by decide +kernel
theorem dX11_readDeed_78 : decode cX11_readDeed 78 = .ok (.getfield 106, 3) := by decide +kernel
theorem dX11_readDeed_81 : decode cX11_readDeed 81 = .ok (.iconst 1, 1) := by decide +kernel
theorem dX11_readDeed_82 : decode cX11_readDeed 82 = .ok (.if_icmp .ne 48, 3) := by decide +kernel
theorem dX11_readDeed_85 : decode cX11_readDeed 85 = .ok (.aload_n 0, 1) := by decide +kernel
theorem dX11_readDeed_86 : decode cX11_readDeed 86 = .ok (.getfield 33, 3) := by decide +kernel
theorem dX11_readDeed_89 : decode cX11_readDeed 89 = .ok (.iload_n 1, 1) := by decide +kernel
theorem dX11_readDeed_90 : decode cX11_readDeed 90 = .ok (.iaload, 1) := by decide +kernel
theorem dX11_readDeed_91 : decode cX11_readDeed 91 = .ok (.iload_n 2, 1) := by decide +kernel
theorem dX11_readDeed_92 : decode cX11_readDeed 92 = .ok (.aload_n 0, 1) := by decide +kernel
theorem dX11_readDeed_93 : decode cX11_readDeed 93 = .ok (.getfield 103, 3) := by decide +kernel
theorem dX11_readDeed_96 : decode cX11_readDeed 96 = .ok (.aload_n 0, 1) := by decide +kernel
theorem dX11_readDeed_97 : decode cX11_readDeed 97 = .ok (.getfield 33, 3) := by decide +kernel
theorem dX11_readDeed_100 : decode cX11_readDeed 100 = .ok (.iload_n 1, 1) := by decide +kernel
theorem dX11_readDeed_101 : decode cX11_readDeed 101 = .ok (.iconst 1, 1) := by decide +kernel
theorem dX11_readDeed_102 : decode cX11_readDeed 102 = .ok (.iadd, 1) := by decide +kernel
theorem dX11_readDeed_103 : decode cX11_readDeed 103 = .ok (.iaload, 1) := by decide +kernel
theorem dX11_readDeed_104 : decode cX11_readDeed 104 = .ok (.aload_n 0, 1) := by decide +kernel
theorem dX11_readDeed_105 : decode cX11_readDeed 105 = .ok (.getfield 33, 3) := by decide +kernel
theorem dX11_readDeed_108 : decode cX11_readDeed 108 = .ok (.iload_n 1, 1) := by decide +kernel
theorem dX11_readDeed_109 : decode cX11_readDeed 109 = .ok (.iconst 2, 1) := by decide +kernel
theorem dX11_readDeed_110 : decode cX11_readDeed 110 = .ok (.iadd, 1) := by decide +kernel
theorem dX11_readDeed_111 : decode cX11_readDeed 111 = .ok (.iaload, 1) := by decide +kernel
theorem dX11_readDeed_112 : decode cX11_readDeed 112 = .ok (.aload_n 0, 1) := by decide +kernel
theorem dX11_readDeed_113 : decode cX11_readDeed 113 = .ok (.getfield 33, 3) := by decide +kernel
theorem dX11_readDeed_116 : decode cX11_readDeed 116 = .ok (.iload_n 1, 1) := by decide +kernel
theorem dX11_readDeed_117 : decode cX11_readDeed 117 = .ok (.iconst 3, 1) := by decide +kernel
theorem dX11_readDeed_118 : decode cX11_readDeed 118 = .ok (.iadd, 1) := by decide +kernel
theorem dX11_readDeed_119 : decode cX11_readDeed 119 = .ok (.iaload, 1) := by decide +kernel
theorem dX11_readDeed_120 : decode cX11_readDeed 120 = .ok (.invokestatic 86, 3) := by decide +kernel
theorem dX11_readDeed_123 : decode cX11_readDeed 123 = .ok (.ifCond .eq 7, 3) := by decide +kernel
theorem dX11_readDeed_126 : decode cX11_readDeed 126 = .ok (.iconst 1, 1) := by decide +kernel
theorem dX11_readDeed_127 : decode cX11_readDeed 127 = .ok (.goto 4, 3) := by decide +kernel
theorem dX11_readDeed_130 : decode cX11_readDeed 130 = .ok (.iconst 0, 1) := by decide +kernel
theorem dX11_readDeed_131 : decode cX11_readDeed 131 = .ok (.invokevirtual 115, 3) := by decide +kernel
theorem dX11_readDeed_134 : decode cX11_readDeed 134 = .ok (.iinc 2 1, 3) := by decide +kernel
theorem dX11_readDeed_137 : decode cX11_readDeed 137 = .ok (.goto (-87), 3) := by decide +kernel
theorem dX11_readDeed_140 : decode cX11_readDeed 140 = .ok (.aload_n 0, 1) := by decide +kernel
theorem dX11_readDeed_141 : decode cX11_readDeed 141 = .ok (.aload_n 0, 1) := by decide +kernel
theorem dX11_readDeed_142 : decode cX11_readDeed 142 = .ok (.getfield 106, 3) := by decide +kernel
theorem dX11_readDeed_145 : decode cX11_readDeed 145 = .ok (.bipush 59, 2) := by decide +kernel
theorem dX11_readDeed_147 : decode cX11_readDeed 147 = .ok (.if_icmp .ne 7, 3) := by decide +kernel
theorem dX11_readDeed_150 : decode cX11_readDeed 150 = .ok (.iconst 1, 1) := by decide +kernel
theorem dX11_readDeed_151 : decode cX11_readDeed 151 = .ok (.goto 4, 3) := by decide +kernel
theorem dX11_readDeed_154 : decode cX11_readDeed 154 = .ok (.iconst 0, 1) := by decide +kernel
theorem dX11_readDeed_155 : decode cX11_readDeed 155 = .ok (.invokevirtual 115, 3) := by decide +kernel
theorem dX11_readDeed_158 : decode cX11_readDeed 158 = .ok (.aload_n 0, 1) := by decide +kernel
theorem dX11_readDeed_159 : decode cX11_readDeed 159 = .ok (.getfield 33, 3) := by decide +kernel
theorem dX11_readDeed_162 : decode cX11_readDeed 162 = .ok (.bipush 33, 2) := by decide +kernel
theorem dX11_readDeed_164 : decode cX11_readDeed 164 = .ok (.dup2, 1) := by decide +kernel
theorem dX11_readDeed_165 : decode cX11_readDeed 165 = .ok (.iaload, 1) := by decide +kernel
theorem dX11_readDeed_166 : decode cX11_readDeed 166 = .ok (.iconst 1, 1) := by decide +kernel
theorem dX11_readDeed_167 : decode cX11_readDeed 167 = .ok (.iadd, 1) := by decide +kernel
theorem dX11_readDeed_168 : decode cX11_readDeed 168 = .ok (.iastore, 1) := by decide +kernel
theorem dX11_readDeed_169 : decode cX11_readDeed 169 = .ok (.return_, 1) := by decide +kernel
theorem dX11_readItem_0 : decode cX11_readItem 0 = .ok (.aload_n 0, 1) := by decide +kernel
theorem dX11_readItem_1 : decode cX11_readItem 1 = .ok (.getfield 106, 3) := by decide +kernel
theorem dX11_readItem_4 : decode cX11_readItem 4 = .ok (.istore_n 1, 1) := by decide +kernel
theorem dX11_readItem_5 : decode cX11_readItem 5 = .ok (.iload_n 1, 1) := by decide +kernel
theorem dX11_readItem_6 : decode cX11_readItem 6 = .ok (.bipush 120, 2) := by decide +kernel
theorem dX11_readItem_8 : decode cX11_readItem 8 = .ok (.if_icmp .eq 40, 3) := by decide +kernel
theorem dX11_readItem_11 : decode cX11_readItem 11 = .ok (.iload_n 1, 1) := by decide +kernel
theorem dX11_readItem_12 : decode cX11_readItem 12 = .ok (.bipush 121, 2) := by decide +kernel
theorem dX11_readItem_14 : decode cX11_readItem 14 = .ok (.if_icmp .eq 34, 3) := by decide +kernel
theorem dX11_readItem_17 : decode cX11_readItem 17 = .ok (.iload_n 1, 1) := by decide +kernel
theorem dX11_readItem_18 : decode cX11_readItem 18 = .ok (.bipush 109, 2) := by decide +kernel
theorem dX11_readItem_20 : decode cX11_readItem 20 = .ok (.if_icmp .ne 10, 3) := by decide +kernel
theorem dX11_readItem_23 : decode cX11_readItem 23 = .ok (.aload_n 0, 1) := by decide +kernel
theorem dX11_readItem_24 : decode cX11_readItem 24 = .ok (.getfield 119, 3) := by decide +kernel
theorem dX11_readItem_27 : decode cX11_readItem 27 = .ok (.ifCond .eq 21, 3) := by decide +kernel
theorem dX11_readItem_30 : decode cX11_readItem 30 = .ok (.iload_n 1, 1) := by decide +kernel
theorem dX11_readItem_31 : decode cX11_readItem 31 = .ok (.bipush 100, 2) := by decide +kernel
theorem dX11_readItem_33 : decode cX11_readItem 33 = .ok (.if_icmp .ne 19, 3) := by decide +kernel
theorem dX11_readItem_36 : decode cX11_readItem 36 = .ok (.aload_n 0, 1) := by decide +kernel
theorem dX11_readItem_37 : decode cX11_readItem 37 = .ok (.getfield 33, 3) := by decide +kernel
theorem dX11_readItem_40 : decode cX11_readItem 40 = .ok (.bipush 33, 2) := by decide +kernel
theorem dX11_readItem_42 : decode cX11_readItem 42 = .ok (.iaload, 1) := by decide +kernel
theorem dX11_readItem_43 : decode cX11_readItem 43 = .ok (.bipush 6, 2) := by decide +kernel
theorem dX11_readItem_45 : decode cX11_readItem 45 = .ok (.if_icmp .ge 7, 3) := by decide +kernel
theorem dX11_readItem_48 : decode cX11_readItem 48 = .ok (.iconst 1, 1) := by decide +kernel
theorem dX11_readItem_49 : decode cX11_readItem 49 = .ok (.goto 4, 3) := by decide +kernel
theorem dX11_readItem_52 : decode cX11_readItem 52 = .ok (.iconst 0, 1) := by decide +kernel
theorem dX11_readItem_53 : decode cX11_readItem 53 = .ok (.istore_n 2, 1) := by decide +kernel
theorem dX11_readItem_54 : decode cX11_readItem 54 = .ok (.aload_n 0, 1) := by decide +kernel
theorem dX11_readItem_55 : decode cX11_readItem 55 = .ok (.iload_n 2, 1) := by decide +kernel
theorem dX11_readItem_56 : decode cX11_readItem 56 = .ok (.invokevirtual 115, 3) := by decide +kernel
theorem dX11_readItem_59 : decode cX11_readItem 59 = .ok (.iload_n 2, 1) := by decide +kernel
theorem dX11_readItem_60 : decode cX11_readItem 60 = .ok (.ifCond .ne 4, 3) := by decide +kernel
theorem dX11_readItem_63 : decode cX11_readItem 63 = .ok (.return_, 1) := by decide +kernel
theorem dX11_readItem_64 : decode cX11_readItem 64 = .ok (.iload_n 1, 1) := by decide +kernel
theorem dX11_readItem_65 : decode cX11_readItem 65 = .ok (.bipush 109, 2) := by decide +kernel
theorem dX11_readItem_67 : decode cX11_readItem 67 = .ok (.if_icmp .ne 10, 3) := by decide +kernel
theorem dX11_readItem_70 : decode cX11_readItem 70 = .ok (.aload_n 0, 1) := by decide +kernel
theorem dX11_readItem_71 : decode cX11_readItem 71 = .ok (.invokevirtual 127, 3) := by decide +kernel
theorem dX11_readItem_74 : decode cX11_readItem 74 = .ok (.goto 24, 3) := by decide +kernel
theorem dX11_readItem_77 : decode cX11_readItem 77 = .ok (.iload_n 1, 1) := by decide +kernel
theorem dX11_readItem_78 : decode cX11_readItem 78 = .ok (.bipush 100, 2) := by decide +kernel
theorem dX11_readItem_80 : decode cX11_readItem 80 = .ok (.if_icmp .ne 10, 3) := by decide +kernel
theorem dX11_readItem_83 : decode cX11_readItem 83 = .ok (.aload_n 0, 1) := by decide +kernel
theorem dX11_readItem_84 : decode cX11_readItem 84 = .ok (.invokevirtual 130, 3) := by decide +kernel
theorem dX11_readItem_87 : decode cX11_readItem 87 = .ok (.goto 11, 3) := by decide +kernel
theorem dX11_readItem_90 : decode cX11_readItem 90 = .ok (.aload_n 0, 1) := by decide +kernel
theorem dX11_readItem_91 : decode cX11_readItem 91 = .ok (.iload_n 1, 1) := by decide +kernel
theorem dX11_readItem_92 : decode cX11_readItem 92 = .ok (.bipush 120, 2) := by decide +kernel
theorem dX11_readItem_94 : decode cX11_readItem 94 = .ok (.isub, 1) := by decide +kernel
theorem dX11_readItem_95 : decode cX11_readItem 95 = .ok (.invokevirtual 133, 3) := by decide +kernel
theorem dX11_readItem_98 : decode cX11_readItem 98 = .ok (.return_, 1) := by decide +kernel
theorem dX11_block_0 : decode cX11_block 0 = .ok (.iconst 0, 1) := by decide +kernel
theorem dX11_block_1 : decode cX11_block 1 = .ok (.istore_n 1, 1) := by decide +kernel
theorem dX11_block_2 : decode cX11_block 2 = .ok (.iload_n 1, 1) := by decide +kernel
theorem dX11_block_3 : decode cX11_block 3 = .ok (.bipush 86, 2) := by decide +kernel
theorem dX11_block_5 : decode cX11_block 5 = .ok (.if_icmp .ge 31, 3) := by decide +kernel
theorem dX11_block_8 : decode cX11_block 8 = .ok (.aload_n 0, 1) := by decide +kernel
theorem dX11_block_9 : decode cX11_block 9 = .ok (.getfield 33, 3) := by decide +kernel
theorem dX11_block_12 : decode cX11_block 12 = .ok (.iload_n 1, 1) := by decide +kernel
theorem dX11_block_13 : decode cX11_block 13 = .ok (.iload_n 1, 1) := by decide +kernel
theorem dX11_block_14 : decode cX11_block 14 = .ok (.bipush 32, 2) := by decide +kernel
theorem dX11_block_16 : decode cX11_block 16 = .ok (.if_icmp .ge 7, 3) := by decide +kernel
theorem dX11_block_19 : decode cX11_block 19 = .ok (.iconst 0, 1) := by decide +kernel
theorem dX11_block_20 : decode cX11_block 20 = .ok (.goto 9, 3) := by decide +kernel
theorem dX11_block_23 : decode cX11_block 23 = .ok (.aload_n 0, 1) := by decide +kernel
theorem dX11_block_24 : decode cX11_block 24 = .ok (.getfield 7, 3) := by decide +kernel
theorem dX11_block_27 : decode cX11_block 27 = .ok (.iload_n 1, 1) := by decide +kernel
theorem dX11_block_28 : decode cX11_block 28 = .ok (.iaload, 1) := by decide +kernel
theorem dX11_block_29 : decode cX11_block 29 = .ok (.iastore, 1) := by decide +kernel
theorem dX11_block_30 : decode cX11_block 30 = .ok (.iinc 1 1, 3) := by decide +kernel
theorem dX11_block_33 : decode cX11_block 33 = .ok (.goto (-31), 3) := by decide +kernel
theorem dX11_block_36 : decode cX11_block 36 = .ok (.aload_n 0, 1) := by decide +kernel
theorem dX11_block_37 : decode cX11_block 37 = .ok (.getfield 33, 3) := by decide +kernel
theorem dX11_block_40 : decode cX11_block 40 = .ok (.bipush 32, 2) := by decide +kernel
theorem dX11_block_42 : decode cX11_block 42 = .ok (.sipush 4369, 3) := by decide +kernel
theorem dX11_block_45 : decode cX11_block 45 = .ok (.iastore, 1) := by decide +kernel
theorem dX11_block_46 : decode cX11_block 46 = .ok (.aload_n 0, 1) := by decide +kernel
theorem dX11_block_47 : decode cX11_block 47 = .ok (.getfield 33, 3) := by decide +kernel
theorem dX11_block_50 : decode cX11_block 50 = .ok (.bipush 33, 2) := by decide +kernel
theorem dX11_block_52 : decode cX11_block 52 = .ok (.iconst 0, 1) := by decide +kernel
theorem dX11_block_53 : decode cX11_block 53 = .ok (.iastore, 1) := by decide +kernel
theorem dX11_block_54 : decode cX11_block 54 = .ok (.aload_n 0, 1) := by decide +kernel
theorem dX11_block_55 : decode cX11_block 55 = .ok (.iconst 0, 1) := by decide +kernel
theorem dX11_block_56 : decode cX11_block 56 = .ok (.putfield 119, 3) := by decide +kernel
theorem dX11_block_59 : decode cX11_block 59 = .ok (.aload_n 0, 1) := by decide +kernel
theorem dX11_block_60 : decode cX11_block 60 = .ok (.iconst 0, 1) := by decide +kernel
theorem dX11_block_61 : decode cX11_block 61 = .ok (.putfield 97, 3) := by decide +kernel
theorem dX11_block_64 : decode cX11_block 64 = .ok (.aload_n 0, 1) := by decide +kernel
theorem dX11_block_65 : decode cX11_block 65 = .ok (.bipush (-9), 2) := by decide +kernel
theorem dX11_block_67 : decode cX11_block 67 = .ok (.putfield 109, 3) := by decide +kernel
theorem dX11_block_70 : decode cX11_block 70 = .ok (.iconst 0, 1) := by decide +kernel
theorem dX11_block_71 : decode cX11_block 71 = .ok (.istore_n 1, 1) := by decide +kernel
theorem dX11_block_72 : decode cX11_block 72 = .ok (.aload_n 0, 1) := by decide +kernel
theorem dX11_block_73 : decode cX11_block 73 = .ok (.invokevirtual 112, 3) := by decide +kernel
theorem dX11_block_76 : decode cX11_block 76 = .ok (.aload_n 0, 1) := by decide +kernel
theorem dX11_block_77 : decode cX11_block 77 = .ok (.getfield 109, 3) := by decide +kernel
theorem dX11_block_80 : decode cX11_block 80 = .ok (.bipush (-9), 2) := by decide +kernel
theorem dX11_block_82 : decode cX11_block 82 = .ok (.if_icmp .ne 20, 3) := by decide +kernel
theorem dX11_block_85 : decode cX11_block 85 = .ok (.aload_n 0, 1) := by decide +kernel
theorem dX11_block_86 : decode cX11_block 86 = .ok (.getfield 106, 3) := by decide +kernel
theorem dX11_block_89 : decode cX11_block 89 = .ok (.ifCond .eq 13, 3) := by decide +kernel
theorem dX11_block_92 : decode cX11_block 92 = .ok (.aload_n 0, 1) := by decide +kernel
theorem dX11_block_93 : decode cX11_block 93 = .ok (.invokevirtual 137, 3) := by decide +kernel
theorem dX11_block_96 : decode cX11_block 96 = .ok (.iinc 1 1, 3) := by decide +kernel
theorem dX11_block_99 : decode cX11_block 99 = .ok (.goto (-23), 3) := by decide +kernel
theorem dX11_block_102 : decode cX11_block 102 = .ok (.aload_n 0, 1) := by decide +kernel
theorem dX11_block_103 : decode cX11_block 103 = .ok (.getfield 109, 3) := by decide +kernel
theorem dX11_block_106 : decode cX11_block 106 = .ok (.bipush (-9), 2) := by decide +kernel
theorem dX11_block_108 : decode cX11_block 108 = .ok (.if_icmp .eq 11, 3) := by decide +kernel
theorem dX11_block_111 : decode cX11_block 111 = .ok (.bipush (-10), 2) := by decide +kernel
theorem dX11_block_113 : decode cX11_block 113 = .ok (.aload_n 0, 1) := by decide +kernel
theorem dX11_block_114 : decode cX11_block 114 = .ok (.getfield 109, 3) := by decide +kernel
theorem dX11_block_117 : decode cX11_block 117 = .ok (.isub, 1) := by decide +kernel
theorem dX11_block_118 : decode cX11_block 118 = .ok (.ireturn, 1) := by decide +kernel
theorem dX11_block_119 : decode cX11_block 119 = .ok (.aload_n 0, 1) := by decide +kernel
theorem dX11_block_120 : decode cX11_block 120 = .ok (.invokevirtual 140, 3) := by decide +kernel
theorem dX11_block_123 : decode cX11_block 123 = .ok (.iconst 0, 1) := by decide +kernel
theorem dX11_block_124 : decode cX11_block 124 = .ok (.istore_n 2, 1) := by decide +kernel
theorem dX11_block_125 : decode cX11_block 125 = .ok (.iload_n 2, 1) := by decide +kernel
theorem dX11_block_126 : decode cX11_block 126 = .ok (.bipush 86, 2) := by decide +kernel
theorem dX11_block_128 : decode cX11_block 128 = .ok (.if_icmp .ge 21, 3) := by decide +kernel
theorem dX11_block_131 : decode cX11_block 131 = .ok (.aload_n 0, 1) := by decide +kernel
theorem dX11_block_132 : decode cX11_block 132 = .ok (.getfield 7, 3) := by decide +kernel
theorem dX11_block_135 : decode cX11_block 135 = .ok (.iload_n 2, 1) := by decide +kernel
theorem dX11_block_136 : decode cX11_block 136 = .ok (.aload_n 0, 1) := by decide +kernel
theorem dX11_block_137 : decode cX11_block 137 = .ok (.getfield 33, 3) := by decide +kernel
theorem dX11_block_140 : decode cX11_block 140 = .ok (.iload_n 2, 1) := by decide +kernel
theorem dX11_block_141 : decode cX11_block 141 = .ok (.iaload, 1) := by decide +kernel
theorem dX11_block_142 : decode cX11_block 142 = .ok (.iastore, 1) := by decide +kernel
theorem dX11_block_143 : decode cX11_block 143 = .ok (.iinc 2 1, 3) := by decide +kernel
theorem dX11_block_146 : decode cX11_block 146 = .ok (.goto (-21), 3) := by decide +kernel
theorem dX11_block_149 : decode cX11_block 149 = .ok (.aload_n 0, 1) := by decide +kernel
theorem dX11_block_150 : decode cX11_block 150 = .ok (.iconst 0, 1) := by decide +kernel
theorem dX11_block_151 : decode cX11_block 151 = .ok (.putfield 94, 3) := by decide +kernel
theorem dX11_block_154 : decode cX11_block 154 = .ok (.aload_n 0, 1) := by decide +kernel
theorem dX11_block_155 : decode cX11_block 155 = .ok (.iconst 0, 1) := by decide +kernel
theorem dX11_block_156 : decode cX11_block 156 = .ok (.putfield 143, 3) := by decide +kernel
theorem dX11_block_159 : decode cX11_block 159 = .ok (.iload_n 1, 1) := by decide +kernel
theorem dX11_block_160 : decode cX11_block 160 = .ok (.ireturn, 1) := by decide +kernel
theorem dX11_sends_0 : decode cX11_sends 0 = .ok (.iload_n 1, 1) := by decide +kernel
theorem dX11_sends_1 : decode cX11_sends 1 = .ok (.iconst 0, 1) := by decide +kernel
theorem dX11_sends_2 : decode cX11_sends 2 = .ok (.iconst 1, 1) := by decide +kernel
theorem dX11_sends_3 : decode cX11_sends 3 = .ok (.invokestatic 82, 3) := by decide +kernel
theorem dX11_sends_6 : decode cX11_sends 6 = .ok (.ifCond .eq 22, 3) := by decide +kernel
theorem dX11_sends_9 : decode cX11_sends 9 = .ok (.iload_n 2, 1) := by decide +kernel
theorem dX11_sends_10 : decode cX11_sends 10 = .ok (.iconst 0, 1) := by decide +kernel
theorem dX11_sends_11 : decode cX11_sends 11 = .ok (.bipush 15, 2) := by decide +kernel
theorem dX11_sends_13 : decode cX11_sends 13 = .ok (.invokestatic 82, 3) := by decide +kernel
theorem dX11_sends_16 : decode cX11_sends 16 = .ok (.ifCond .eq 12, 3) := by decide +kernel
theorem dX11_sends_19 : decode cX11_sends 19 = .ok (.iload_n 3, 1) := by decide +kernel
theorem dX11_sends_20 : decode cX11_sends 20 = .ok (.iconst 0, 1) := by decide +kernel
theorem dX11_sends_21 : decode cX11_sends 21 = .ok (.iconst 3, 1) := by decide +kernel
theorem dX11_sends_22 : decode cX11_sends 22 = .ok (.invokestatic 82, 3) := by decide +kernel
theorem dX11_sends_25 : decode cX11_sends 25 = .ok (.ifCond .ne 5, 3) := by decide +kernel
theorem dX11_sends_28 : decode cX11_sends 28 = .ok (.iconst (-1), 1) := by decide +kernel
theorem dX11_sends_29 : decode cX11_sends 29 = .ok (.ireturn, 1) := by decide +kernel
theorem dX11_sends_30 : decode cX11_sends 30 = .ok (.aload_n 0, 1) := by decide +kernel
theorem dX11_sends_31 : decode cX11_sends 31 = .ok (.getfield 7, 3) := by decide +kernel
theorem dX11_sends_34 : decode cX11_sends 34 = .ok (.bipush 16, 2) := by decide +kernel
theorem dX11_sends_36 : decode cX11_sends 36 = .ok (.iload_n 1, 1) := by decide +kernel
theorem dX11_sends_37 : decode cX11_sends 37 = .ok (.imul, 1) := by decide +kernel
theorem dX11_sends_38 : decode cX11_sends 38 = .ok (.iload_n 2, 1) := by decide +kernel
theorem dX11_sends_39 : decode cX11_sends 39 = .ok (.iadd, 1) := by decide +kernel
theorem dX11_sends_40 : decode cX11_sends 40 = .ok (.iaload, 1) := by decide +kernel
theorem dX11_sends_41 : decode cX11_sends 41 = .ok (.istore 4, 2) := by decide +kernel
theorem dX11_sends_43 : decode cX11_sends 43 = .ok (.iload 4, 2) := by decide +kernel
theorem dX11_sends_45 : decode cX11_sends 45 = .ok (.iload_n 3, 1) := by decide +kernel
theorem dX11_sends_46 : decode cX11_sends 46 = .ok (.if_icmp .ne 6, 3) := by decide +kernel
theorem dX11_sends_49 : decode cX11_sends 49 = .ok (.bipush (-2), 2) := by decide +kernel
theorem dX11_sends_51 : decode cX11_sends 51 = .ok (.ireturn, 1) := by decide +kernel
theorem dX11_sends_52 : decode cX11_sends 52 = .ok (.aload_n 0, 1) := by decide +kernel
theorem dX11_sends_53 : decode cX11_sends 53 = .ok (.invokevirtual 140, 3) := by decide +kernel
theorem dX11_sends_56 : decode cX11_sends 56 = .ok (.aload_n 0, 1) := by decide +kernel
theorem dX11_sends_57 : decode cX11_sends 57 = .ok (.getfield 7, 3) := by decide +kernel
theorem dX11_sends_60 : decode cX11_sends 60 = .ok (.bipush 16, 2) := by decide +kernel
theorem dX11_sends_62 : decode cX11_sends 62 = .ok (.iload_n 1, 1) := by decide +kernel
theorem dX11_sends_63 : decode cX11_sends 63 = .ok (.imul, 1) := by decide +kernel
theorem dX11_sends_64 : decode cX11_sends 64 = .ok (.iload_n 2, 1) := by decide +kernel
theorem dX11_sends_65 : decode cX11_sends 65 = .ok (.iadd, 1) := by decide +kernel
theorem dX11_sends_66 : decode cX11_sends 66 = .ok (.iload_n 3, 1) := by decide +kernel
theorem dX11_sends_67 : decode cX11_sends 67 = .ok (.iastore, 1) := by decide +kernel
theorem dX11_sends_68 : decode cX11_sends 68 = .ok (.iload 4, 2) := by decide +kernel
theorem dX11_sends_70 : decode cX11_sends 70 = .ok (.ireturn, 1) := by decide +kernel
theorem dX11_marksMany_0 : decode cX11_marksMany 0 = .ok (.iconst 0, 1) := by decide +kernel
theorem dX11_marksMany_1 : decode cX11_marksMany 1 = .ok (.istore_n 1, 1) := by decide +kernel
theorem dX11_marksMany_2 : decode cX11_marksMany 2 = .ok (.iconst 0, 1) := by decide +kernel
theorem dX11_marksMany_3 : decode cX11_marksMany 3 = .ok (.istore_n 2, 1) := by decide +kernel
theorem dX11_marksMany_4 : decode cX11_marksMany 4 = .ok (.iload_n 2, 1) := by decide +kernel
theorem dX11_marksMany_5 : decode cX11_marksMany 5 = .ok (.bipush 16, 2) := by decide +kernel
theorem dX11_marksMany_7 : decode cX11_marksMany 7 = .ok (.if_icmp .ge 23, 3) := by decide +kernel
theorem dX11_marksMany_10 : decode cX11_marksMany 10 = .ok (.iload_n 1, 1) := by decide +kernel
theorem dX11_marksMany_11 : decode cX11_marksMany 11 = .ok (.aload_n 0, 1) := by decide +kernel
theorem dX11_marksMany_12 : decode cX11_marksMany 12 = .ok (.getfield 7, 3) := by decide +kernel
theorem dX11_marksMany_15 : decode cX11_marksMany 15 = .ok (.bipush 32, 2) := by decide +kernel
theorem dX11_marksMany_17 : decode cX11_marksMany 17 = .ok (.iaload, 1) := by decide +kernel
theorem dX11_marksMany_18 : decode cX11_marksMany 18 = .ok (.iload_n 2, 1) := by decide +kernel
theorem dX11_marksMany_19 : decode cX11_marksMany 19 = .ok (.ishr, 1) := by decide +kernel
theorem dX11_marksMany_20 : decode cX11_marksMany 20 = .ok (.iconst 1, 1) := by decide +kernel
theorem dX11_marksMany_21 : decode cX11_marksMany 21 = .ok (.iand, 1) := by decide +kernel
theorem dX11_marksMany_22 : decode cX11_marksMany 22 = .ok (.iadd, 1) := by decide +kernel
theorem dX11_marksMany_23 : decode cX11_marksMany 23 = .ok (.istore_n 1, 1) := by decide +kernel
theorem dX11_marksMany_24 : decode cX11_marksMany 24 = .ok (.iinc 2 1, 3) := by decide +kernel
theorem dX11_marksMany_27 : decode cX11_marksMany 27 = .ok (.goto (-23), 3) := by decide +kernel
theorem dX11_marksMany_30 : decode cX11_marksMany 30 = .ok (.iload_n 1, 1) := by decide +kernel
theorem dX11_marksMany_31 : decode cX11_marksMany 31 = .ok (.ireturn, 1) := by decide +kernel
theorem dX11_marks_0 : decode cX11_marks 0 = .ok (.iload_n 1, 1) := by decide +kernel
theorem dX11_marks_1 : decode cX11_marks 1 = .ok (.iconst 0, 1) := by decide +kernel
theorem dX11_marks_2 : decode cX11_marks 2 = .ok (.bipush 15, 2) := by decide +kernel
theorem dX11_marks_4 : decode cX11_marks 4 = .ok (.invokestatic 82, 3) := by decide +kernel
theorem dX11_marks_7 : decode cX11_marks 7 = .ok (.ifCond .eq 12, 3) := by decide +kernel
theorem dX11_marks_10 : decode cX11_marks 10 = .ok (.iload_n 2, 1) := by decide +kernel
theorem dX11_marks_11 : decode cX11_marks 11 = .ok (.iconst 0, 1) := by decide +kernel
theorem dX11_marks_12 : decode cX11_marks 12 = .ok (.iconst 1, 1) := by decide +kernel
theorem dX11_marks_13 : decode cX11_marks 13 = .ok (.invokestatic 82, 3) := by decide +kernel
theorem dX11_marks_16 : decode cX11_marks 16 = .ok (.ifCond .ne 5, 3) := by decide +kernel
theorem dX11_marks_19 : decode cX11_marks 19 = .ok (.iconst (-1), 1) := by decide +kernel
theorem dX11_marks_20 : decode cX11_marks 20 = .ok (.ireturn, 1) := by decide +kernel
theorem dX11_marks_21 : decode cX11_marks 21 = .ok (.aload_n 0, 1) := by decide +kernel
theorem dX11_marks_22 : decode cX11_marks 22 = .ok (.getfield 7, 3) := by decide +kernel
theorem dX11_marks_25 : decode cX11_marks 25 = .ok (.bipush 32, 2) := by decide +kernel
theorem dX11_marks_27 : decode cX11_marks 27 = .ok (.iaload, 1) := by decide +kernel
theorem dX11_marks_28 : decode cX11_marks 28 = .ok (.iload_n 1, 1) := by decide +kernel
theorem dX11_marks_29 : decode cX11_marks 29 = .ok (.ishr, 1) := by decide +kernel
theorem dX11_marks_30 : decode cX11_marks 30 = .ok (.iconst 1, 1) := by decide +kernel
theorem dX11_marks_31 : decode cX11_marks 31 = .ok (.iand, 1) := by decide +kernel
theorem dX11_marks_32 : decode cX11_marks 32 = .ok (.iload_n 2, 1) := by decide +kernel
theorem dX11_marks_33 : decode cX11_marks 33 = .ok (.if_icmp .ne 6, 3) := by decide +kernel
theorem dX11_marks_36 : decode cX11_marks 36 = .ok (.bipush (-2), 2) := by decide +kernel
theorem dX11_marks_38 : decode cX11_marks 38 = .ok (.ireturn, 1) := by decide +kernel
theorem dX11_marks_39 : decode cX11_marks 39 = .ok (.aload_n 0, 1) := by decide +kernel
theorem dX11_marks_40 : decode cX11_marks 40 = .ok (.invokevirtual 140, 3) := by decide +kernel
theorem dX11_marks_43 : decode cX11_marks 43 = .ok (.aload_n 0, 1) := by decide +kernel
theorem dX11_marks_44 : decode cX11_marks 44 = .ok (.getfield 7, 3) := by decide +kernel
theorem dX11_marks_47 : decode cX11_marks 47 = .ok (.bipush 32, 2) := by decide +kernel
theorem dX11_marks_49 : decode cX11_marks 49 = .ok (.dup2, 1) := by decide +kernel
theorem dX11_marks_50 : decode cX11_marks 50 = .ok (.iaload, 1) := by decide +kernel
theorem dX11_marks_51 : decode cX11_marks 51 = .ok (.iconst 1, 1) := by decide +kernel
theorem dX11_marks_52 : decode cX11_marks 52 = .ok (.iload_n 1, 1) := by decide +kernel
theorem dX11_marks_53 : decode cX11_marks 53 = .ok (.ishl, 1) := by decide +kernel
theorem dX11_marks_54 : decode cX11_marks 54 = .ok (.ixor, 1) := by decide +kernel
theorem dX11_marks_55 : decode cX11_marks 55 = .ok (.iastore, 1) := by decide +kernel
theorem dX11_marks_56 : decode cX11_marks 56 = .ok (.aload_n 0, 1) := by decide +kernel
theorem dX11_marks_57 : decode cX11_marks 57 = .ok (.invokevirtual 146, 3) := by decide +kernel
theorem dX11_marks_60 : decode cX11_marks 60 = .ok (.ireturn, 1) := by decide +kernel
theorem dX11_lay_0 : decode cX11_lay 0 = .ok (.aload_n 0, 1) := by decide +kernel
theorem dX11_lay_1 : decode cX11_lay 1 = .ok (.getfield 7, 3) := by decide +kernel
theorem dX11_lay_4 : decode cX11_lay 4 = .ok (.iload_n 1, 1) := by decide +kernel
theorem dX11_lay_5 : decode cX11_lay 5 = .ok (.iload_n 2, 1) := by decide +kernel
theorem dX11_lay_6 : decode cX11_lay 6 = .ok (.iastore, 1) := by decide +kernel
theorem dX11_lay_7 : decode cX11_lay 7 = .ok (.aload_n 0, 1) := by decide +kernel
theorem dX11_lay_8 : decode cX11_lay 8 = .ok (.getfield 7, 3) := by decide +kernel
theorem dX11_lay_11 : decode cX11_lay 11 = .ok (.iload_n 1, 1) := by decide +kernel
theorem dX11_lay_12 : decode cX11_lay 12 = .ok (.iconst 1, 1) := by decide +kernel
theorem dX11_lay_13 : decode cX11_lay 13 = .ok (.iadd, 1) := by decide +kernel
theorem dX11_lay_14 : decode cX11_lay 14 = .ok (.iload_n 3, 1) := by decide +kernel
theorem dX11_lay_15 : decode cX11_lay 15 = .ok (.iastore, 1) := by decide +kernel
theorem dX11_lay_16 : decode cX11_lay 16 = .ok (.aload_n 0, 1) := by decide +kernel
theorem dX11_lay_17 : decode cX11_lay 17 = .ok (.getfield 7, 3) := by decide +kernel
theorem dX11_lay_20 : decode cX11_lay 20 = .ok (.iload_n 1, 1) := by decide +kernel
theorem dX11_lay_21 : decode cX11_lay 21 = .ok (.iconst 2, 1) := by decide +kernel
theorem dX11_lay_22 : decode cX11_lay 22 = .ok (.iadd, 1) := by decide +kernel
theorem dX11_lay_23 : decode cX11_lay 23 = .ok (.iload 4, 2) := by decide +kernel
theorem dX11_lay_25 : decode cX11_lay 25 = .ok (.iastore, 1) := by decide +kernel
theorem dX11_lay_26 : decode cX11_lay 26 = .ok (.aload_n 0, 1) := by decide +kernel
theorem dX11_lay_27 : decode cX11_lay 27 = .ok (.getfield 7, 3) := by decide +kernel
theorem dX11_lay_30 : decode cX11_lay 30 = .ok (.iload_n 1, 1) := by decide +kernel
theorem dX11_lay_31 : decode cX11_lay 31 = .ok (.iconst 3, 1) := by decide +kernel
theorem dX11_lay_32 : decode cX11_lay 32 = .ok (.iadd, 1) := by decide +kernel
theorem dX11_lay_33 : decode cX11_lay 33 = .ok (.iload 5, 2) := by decide +kernel
theorem dX11_lay_35 : decode cX11_lay 35 = .ok (.iastore, 1) := by decide +kernel
theorem dX11_lay_36 : decode cX11_lay 36 = .ok (.aload_n 0, 1) := by decide +kernel
theorem dX11_lay_37 : decode cX11_lay 37 = .ok (.getfield 7, 3) := by decide +kernel
theorem dX11_lay_40 : decode cX11_lay 40 = .ok (.iload_n 1, 1) := by decide +kernel
theorem dX11_lay_41 : decode cX11_lay 41 = .ok (.iconst 4, 1) := by decide +kernel
theorem dX11_lay_42 : decode cX11_lay 42 = .ok (.iadd, 1) := by decide +kernel
theorem dX11_lay_43 : decode cX11_lay 43 = .ok (.iload 6, 2) := by decide +kernel
theorem dX11_lay_45 : decode cX11_lay 45 = .ok (.iastore, 1) := by decide +kernel
theorem dX11_lay_46 : decode cX11_lay 46 = .ok (.return_, 1) := by decide +kernel
theorem dX11_adds_0 : decode cX11_adds 0 = .ok (.iload_n 1, 1) := by decide +kernel
theorem dX11_adds_1 : decode cX11_adds 1 = .ok (.iload_n 2, 1) := by decide +kernel
theorem dX11_adds_2 : decode cX11_adds 2 = .ok (.iload_n 3, 1) := by decide +kernel
theorem dX11_adds_3 : decode cX11_adds 3 = .ok (.iload 4, 2) := by decide +kernel
theorem dX11_adds_5 : decode cX11_adds 5 = .ok (.iload 5, 2) := by decide +kernel
theorem dX11_adds_7 : decode cX11_adds 7 = .ok (.invokestatic 90, 3) := by decide +kernel
theorem dX11_adds_10 : decode cX11_adds 10 = .ok (.ifCond .ne 5, 3) := by decide +kernel
theorem dX11_adds_13 : decode cX11_adds 13 = .ok (.iconst (-1), 1) := by decide +kernel
theorem dX11_adds_14 : decode cX11_adds 14 = .ok (.ireturn, 1) := by decide +kernel
theorem dX11_adds_15 : decode cX11_adds 15 = .ok (.aload_n 0, 1) := by decide +kernel
theorem dX11_adds_16 : decode cX11_adds 16 = .ok (.getfield 7, 3) := by decide +kernel
theorem dX11_adds_19 : decode cX11_adds 19 = .ok (.bipush 33, 2) := by decide +kernel
theorem dX11_adds_21 : decode cX11_adds 21 = .ok (.iaload, 1) := by decide +kernel
theorem dX11_adds_22 : decode cX11_adds 22 = .ok (.bipush 6, 2) := by decide +kernel
theorem dX11_adds_24 : decode cX11_adds 24 = .ok (.if_icmp .ne 6, 3) := by decide +kernel
theorem dX11_adds_27 : decode cX11_adds 27 = .ok (.bipush (-3), 2) := by decide +kernel
theorem dX11_adds_29 : decode cX11_adds 29 = .ok (.ireturn, 1) := by decide +kernel
theorem dX11_adds_30 : decode cX11_adds 30 = .ok (.aload_n 0, 1) := by decide +kernel
theorem dX11_adds_31 : decode cX11_adds 31 = .ok (.invokevirtual 140, 3) := by decide +kernel
theorem dX11_adds_34 : decode cX11_adds 34 = .ok (.aload_n 0, 1) := by decide +kernel
theorem dX11_adds_35 : decode cX11_adds 35 = .ok (.bipush 34, 2) := by decide +kernel
theorem dX11_adds_37 : decode cX11_adds 37 = .ok (.iconst 5, 1) := by decide +kernel
theorem dX11_adds_38 : decode cX11_adds 38 = .ok (.aload_n 0, 1) := by decide +kernel
theorem dX11_adds_39 : decode cX11_adds 39 = .ok (.getfield 7, 3) := by decide +kernel
theorem dX11_adds_42 : decode cX11_adds 42 = .ok (.bipush 33, 2) := by decide +kernel
theorem dX11_adds_44 : decode cX11_adds 44 = .ok (.iaload, 1) := by decide +kernel
theorem dX11_adds_45 : decode cX11_adds 45 = .ok (.imul, 1) := by decide +kernel
theorem dX11_adds_46 : decode cX11_adds 46 = .ok (.iadd, 1) := by decide +kernel
theorem dX11_adds_47 : decode cX11_adds 47 = .ok (.iload_n 1, 1) := by decide +kernel
theorem dX11_adds_48 : decode cX11_adds 48 = .ok (.iload_n 2, 1) := by decide +kernel
theorem dX11_adds_49 : decode cX11_adds 49 = .ok (.iload_n 3, 1) := by decide +kernel
theorem dX11_adds_50 : decode cX11_adds 50 = .ok (.iload 4, 2) := by decide +kernel
theorem dX11_adds_52 : decode cX11_adds 52 = .ok (.iload 5, 2) := by decide +kernel
theorem dX11_adds_54 : decode cX11_adds 54 = .ok (.invokevirtual 150, 3) := by decide +kernel
theorem dX11_adds_57 : decode cX11_adds 57 = .ok (.aload_n 0, 1) := by decide +kernel
theorem dX11_adds_58 : decode cX11_adds 58 = .ok (.getfield 7, 3) := by decide +kernel
theorem dX11_adds_61 : decode cX11_adds 61 = .ok (.bipush 33, 2) := by decide +kernel
theorem dX11_adds_63 : decode cX11_adds 63 = .ok (.dup2, 1) := by decide +kernel
theorem dX11_adds_64 : decode cX11_adds 64 = .ok (.iaload, 1) := by decide +kernel
theorem dX11_adds_65 : decode cX11_adds 65 = .ok (.iconst 1, 1) := by decide +kernel
theorem dX11_adds_66 : decode cX11_adds 66 = .ok (.iadd, 1) := by decide +kernel
theorem dX11_adds_67 : decode cX11_adds 67 = .ok (.iastore, 1) := by decide +kernel
theorem dX11_adds_68 : decode cX11_adds 68 = .ok (.aload_n 0, 1) := by decide +kernel
theorem dX11_adds_69 : decode cX11_adds 69 = .ok (.getfield 7, 3) := by decide +kernel
theorem dX11_adds_72 : decode cX11_adds 72 = .ok (.bipush 33, 2) := by decide +kernel
theorem dX11_adds_74 : decode cX11_adds 74 = .ok (.iaload, 1) := by decide +kernel
theorem dX11_adds_75 : decode cX11_adds 75 = .ok (.ireturn, 1) := by decide +kernel
theorem dX11_cuts_0 : decode cX11_cuts 0 = .ok (.aload_n 0, 1) := by decide +kernel
theorem dX11_cuts_1 : decode cX11_cuts 1 = .ok (.getfield 7, 3) := by decide +kernel
theorem dX11_cuts_4 : decode cX11_cuts 4 = .ok (.bipush 33, 2) := by decide +kernel
theorem dX11_cuts_6 : decode cX11_cuts 6 = .ok (.iaload, 1) := by decide +kernel
theorem dX11_cuts_7 : decode cX11_cuts 7 = .ok (.ifCond .ne 6, 3) := by decide +kernel
theorem dX11_cuts_10 : decode cX11_cuts 10 = .ok (.bipush (-2), 2) := by decide +kernel
theorem dX11_cuts_12 : decode cX11_cuts 12 = .ok (.ireturn, 1) := by decide +kernel
theorem dX11_cuts_13 : decode cX11_cuts 13 = .ok (.aload_n 0, 1) := by decide +kernel
theorem dX11_cuts_14 : decode cX11_cuts 14 = .ok (.invokevirtual 140, 3) := by decide +kernel
theorem dX11_cuts_17 : decode cX11_cuts 17 = .ok (.aload_n 0, 1) := by decide +kernel
theorem dX11_cuts_18 : decode cX11_cuts 18 = .ok (.getfield 7, 3) := by decide +kernel
theorem dX11_cuts_21 : decode cX11_cuts 21 = .ok (.bipush 33, 2) := by decide +kernel
theorem dX11_cuts_23 : decode cX11_cuts 23 = .ok (.dup2, 1) := by decide +kernel
theorem dX11_cuts_24 : decode cX11_cuts 24 = .ok (.iaload, 1) := by decide +kernel
theorem dX11_cuts_25 : decode cX11_cuts 25 = .ok (.iconst 1, 1) := by decide +kernel
theorem dX11_cuts_26 : decode cX11_cuts 26 = .ok (.isub, 1) := by decide +kernel
theorem dX11_cuts_27 : decode cX11_cuts 27 = .ok (.iastore, 1) := by decide +kernel
theorem dX11_cuts_28 : decode cX11_cuts 28 = .ok (.aload_n 0, 1) := by decide +kernel
theorem dX11_cuts_29 : decode cX11_cuts 29 = .ok (.getfield 7, 3) := by decide +kernel
theorem dX11_cuts_32 : decode cX11_cuts 32 = .ok (.bipush 33, 2) := by decide +kernel
theorem dX11_cuts_34 : decode cX11_cuts 34 = .ok (.iaload, 1) := by decide +kernel
theorem dX11_cuts_35 : decode cX11_cuts 35 = .ok (.ireturn, 1) := by decide +kernel
theorem dX11_takeMade_0 : decode cX11_takeMade 0 = .ok (.iconst 0, 1) := by decide +kernel
theorem dX11_takeMade_1 : decode cX11_takeMade 1 = .ok (.istore_n 1, 1) := by decide +kernel
theorem dX11_takeMade_2 : decode cX11_takeMade 2 = .ok (.iload_n 1, 1) := by decide +kernel
theorem dX11_takeMade_3 : decode cX11_takeMade 3 = .ok (.bipush 32, 2) := by decide +kernel
theorem dX11_takeMade_5 : decode cX11_takeMade 5 = .ok (.if_icmp .ge 21, 3) := by decide +kernel
theorem dX11_takeMade_8 : decode cX11_takeMade 8 = .ok (.aload_n 0, 1) := by decide +kernel
theorem dX11_takeMade_9 : decode cX11_takeMade 9 = .ok (.getfield 36, 3) := by decide +kernel
theorem dX11_takeMade_12 : decode cX11_takeMade 12 = .ok (.iload_n 1, 1) := by decide +kernel
theorem dX11_takeMade_13 : decode cX11_takeMade 13 = .ok (.aload_n 0, 1) := by decide +kernel
theorem dX11_takeMade_14 : decode cX11_takeMade 14 = .ok (.getfield 39, 3) := by decide +kernel
theorem dX11_takeMade_17 : decode cX11_takeMade 17 = .ok (.iload_n 1, 1) := by decide +kernel
theorem dX11_takeMade_18 : decode cX11_takeMade 18 = .ok (.iaload, 1) := by decide +kernel
theorem dX11_takeMade_19 : decode cX11_takeMade 19 = .ok (.iastore, 1) := by decide +kernel
theorem dX11_takeMade_20 : decode cX11_takeMade 20 = .ok (.iinc 1 1, 3) := by decide +kernel
theorem dX11_takeMade_23 : decode cX11_takeMade 23 = .ok (.goto (-21), 3) := by decide +kernel
theorem dX11_takeMade_26 : decode cX11_takeMade 26 = .ok (.return_, 1) := by decide +kernel
theorem dX11_spread_0 : decode cX11_spread 0 = .ok (.iconst 0, 1) := by decide +kernel
theorem dX11_spread_1 : decode cX11_spread 1 = .ok (.istore_n 2, 1) := by decide +kernel
theorem dX11_spread_2 : decode cX11_spread 2 = .ok (.iload_n 2, 1) := by decide +kernel
theorem dX11_spread_3 : decode cX11_spread 3 = .ok (.bipush 32, 2) := by decide +kernel
theorem dX11_spread_5 : decode cX11_spread 5 = .ok (.if_icmp .ge 51, 3) := by decide +kernel
theorem dX11_spread_8 : decode cX11_spread 8 = .ok (.iload_n 2, 1) := by decide +kernel
theorem dX11_spread_9 : decode cX11_spread 9 = .ok (.bipush 16, 2) := by decide +kernel
theorem dX11_spread_11 : decode cX11_spread 11 = .ok (.irem, 1) := by decide +kernel
theorem dX11_spread_12 : decode cX11_spread 12 = .ok (.ifCond .ne 10, 3) := by decide +kernel
theorem dX11_spread_15 : decode cX11_spread 15 = .ok (.iload_n 2, 1) := by decide +kernel
theorem dX11_spread_16 : decode cX11_spread 16 = .ok (.bipush 15, 2) := by decide +kernel
theorem dX11_spread_18 : decode cX11_spread 18 = .ok (.iadd, 1) := by decide +kernel
theorem dX11_spread_19 : decode cX11_spread 19 = .ok (.goto 6, 3) := by decide +kernel
theorem dX11_spread_22 : decode cX11_spread 22 = .ok (.iload_n 2, 1) := by decide +kernel
theorem dX11_spread_23 : decode cX11_spread 23 = .ok (.iconst 1, 1) := by decide +kernel
theorem dX11_spread_24 : decode cX11_spread 24 = .ok (.isub, 1) := by decide +kernel
theorem dX11_spread_25 : decode cX11_spread 25 = .ok (.istore_n 3, 1) := by decide +kernel
theorem dX11_spread_26 : decode cX11_spread 26 = .ok (.aload_n 0, 1) := by decide +kernel
theorem dX11_spread_27 : decode cX11_spread 27 = .ok (.getfield 39, 3) := by decide +kernel
theorem dX11_spread_30 : decode cX11_spread 30 = .ok (.iload_n 2, 1) := by decide +kernel
theorem dX11_spread_31 : decode cX11_spread 31 = .ok (.aload_n 0, 1) := by decide +kernel
theorem dX11_spread_32 : decode cX11_spread 32 = .ok (.getfield 36, 3) := by decide +kernel
theorem dX11_spread_35 : decode cX11_spread 35 = .ok (.iload_n 2, 1) := by decide +kernel
theorem dX11_spread_36 : decode cX11_spread 36 = .ok (.iaload, 1) := by decide +kernel
theorem dX11_spread_37 : decode cX11_spread 37 = .ok (.iload_n 1, 1) := by decide +kernel
theorem dX11_spread_38 : decode cX11_spread 38 = .ok (.aload_n 0, 1) := by decide +kernel
theorem dX11_spread_39 : decode cX11_spread 39 = .ok (.getfield 36, 3) := by decide +kernel
theorem dX11_spread_42 : decode cX11_spread 42 = .ok (.iload_n 3, 1) := by decide +kernel
theorem dX11_spread_43 : decode cX11_spread 43 = .ok (.iaload, 1) := by decide +kernel
theorem dX11_spread_44 : decode cX11_spread 44 = .ok (.imul, 1) := by decide +kernel
theorem dX11_spread_45 : decode cX11_spread 45 = .ok (.iadd, 1) := by decide +kernel
theorem dX11_spread_46 : decode cX11_spread 46 = .ok (.bipush 97, 2) := by decide +kernel
theorem dX11_spread_48 : decode cX11_spread 48 = .ok (.irem, 1) := by decide +kernel
theorem dX11_spread_49 : decode cX11_spread 49 = .ok (.iastore, 1) := by decide +kernel
theorem dX11_spread_50 : decode cX11_spread 50 = .ok (.iinc 2 1, 3) := by decide +kernel
theorem dX11_spread_53 : decode cX11_spread 53 = .ok (.goto (-51), 3) := by decide +kernel
theorem dX11_spread_56 : decode cX11_spread 56 = .ok (.aload_n 0, 1) := by decide +kernel
theorem dX11_spread_57 : decode cX11_spread 57 = .ok (.invokevirtual 154, 3) := by decide +kernel
theorem dX11_spread_60 : decode cX11_spread 60 = .ok (.return_, 1) := by decide +kernel
theorem dX11_unspread_0 : decode cX11_unspread 0 = .ok (.iconst 1, 1) := by decide +kernel
theorem dX11_unspread_1 : decode cX11_unspread 1 = .ok (.iload_n 1, 1) := by decide +kernel
theorem dX11_unspread_2 : decode cX11_unspread 2 = .ok (.bipush 16, 2) := by decide +kernel
theorem dX11_unspread_4 : decode cX11_unspread 4 = .ok (.invokestatic 63, 3) := by decide +kernel
theorem dX11_unspread_7 : decode cX11_unspread 7 = .ok (.isub, 1) := by decide +kernel
theorem dX11_unspread_8 : decode cX11_unspread 8 = .ok (.invokestatic 71, 3) := by decide +kernel
theorem dX11_unspread_11 : decode cX11_unspread 11 = .ok (.invokestatic 157, 3) := by decide +kernel
theorem dX11_unspread_14 : decode cX11_unspread 14 = .ok (.istore_n 2, 1) := by decide +kernel
theorem dX11_unspread_15 : decode cX11_unspread 15 = .ok (.iload_n 1, 1) := by decide +kernel
theorem dX11_unspread_16 : decode cX11_unspread 16 = .ok (.ineg, 1) := by decide +kernel
theorem dX11_unspread_17 : decode cX11_unspread 17 = .ok (.invokestatic 71, 3) := by decide +kernel
theorem dX11_unspread_20 : decode cX11_unspread 20 = .ok (.istore_n 3, 1) := by decide +kernel
theorem dX11_unspread_21 : decode cX11_unspread 21 = .ok (.iconst 0, 1) := by decide +kernel
theorem dX11_unspread_22 : decode cX11_unspread 22 = .ok (.istore 4, 2) := by decide +kernel
theorem dX11_unspread_24 : decode cX11_unspread 24 = .ok (.iload 4, 2) := by decide +kernel
theorem dX11_unspread_26 : decode cX11_unspread 26 = .ok (.bipush 32, 2) := by decide +kernel
theorem dX11_unspread_28 : decode cX11_unspread 28 = .ok (.if_icmp .ge 90, 3) := by decide +kernel
theorem dX11_unspread_31 : decode cX11_unspread 31 = .ok (.iconst 0, 1) := by decide +kernel
theorem dX11_unspread_32 : decode cX11_unspread 32 = .ok (.istore 5, 2) := by decide +kernel
theorem dX11_unspread_34 : decode cX11_unspread 34 = .ok (.iconst 1, 1) := by decide +kernel
theorem dX11_unspread_35 : decode cX11_unspread 35 = .ok (.istore 6, 2) := by decide +kernel
theorem dX11_unspread_37 : decode cX11_unspread 37 = .ok (.iconst 0, 1) := by decide +kernel
theorem dX11_unspread_38 : decode cX11_unspread 38 = .ok (.istore 7, 2) := by decide +kernel
theorem dX11_unspread_40 : decode cX11_unspread 40 = .ok (.iload 7, 2) := by decide +kernel
theorem dX11_unspread_42 : decode cX11_unspread 42 = .ok (.bipush 16, 2) := by decide +kernel
theorem dX11_unspread_44 : decode cX11_unspread 44 = .ok (.if_icmp .ge 54, 3) := by decide +kernel
theorem dX11_unspread_47 : decode cX11_unspread 47 = .ok (.iload 5, 2) := by decide +kernel
theorem dX11_unspread_49 : decode cX11_unspread 49 = .ok (.iload 6, 2) := by decide +kernel
theorem dX11_unspread_51 : decode cX11_unspread 51 = .ok (.aload_n 0, 1) := by decide +kernel
theorem dX11_unspread_52 : decode cX11_unspread 52 = .ok (.getfield 36, 3) := by decide +kernel
theorem dX11_unspread_55 : decode cX11_unspread 55 = .ok (.iload 4, 2) := by decide +kernel
theorem dX11_unspread_57 : decode cX11_unspread 57 = .ok (.bipush 16, 2) := by decide +kernel
theorem dX11_unspread_59 : decode cX11_unspread 59 = .ok (.idiv, 1) := by decide +kernel
theorem dX11_unspread_60 : decode cX11_unspread 60 = .ok (.bipush 16, 2) := by decide +kernel
theorem dX11_unspread_62 : decode cX11_unspread 62 = .ok (.imul, 1) := by decide +kernel
theorem dX11_unspread_63 : decode cX11_unspread 63 = .ok (.iload 4, 2) := by decide +kernel
theorem dX11_unspread_65 : decode cX11_unspread 65 = .ok (.bipush 16, 2) := by decide +kernel
theorem dX11_unspread_67 : decode cX11_unspread 67 = .ok (.iadd, 1) := by decide +kernel
theorem dX11_unspread_68 : decode cX11_unspread 68 = .ok (.iload 7, 2) := by decide +kernel
theorem dX11_unspread_70 : decode cX11_unspread 70 = .ok (.isub, 1) := by decide +kernel
theorem dX11_unspread_71 : decode cX11_unspread 71 = .ok (.bipush 16, 2) := by decide +kernel
theorem dX11_unspread_73 : decode cX11_unspread 73 = .ok (.irem, 1) := by decide +kernel
theorem dX11_unspread_74 : decode cX11_unspread 74 = .ok (.iadd, 1) := by decide +kernel
theorem dX11_unspread_75 : decode cX11_unspread 75 = .ok (.iaload, 1) := by decide +kernel
theorem dX11_unspread_76 : decode cX11_unspread 76 = .ok (.imul, 1) := by decide +kernel
theorem dX11_unspread_77 : decode cX11_unspread 77 = .ok (.iadd, 1) := by decide +kernel
theorem dX11_unspread_78 : decode cX11_unspread 78 = .ok (.bipush 97, 2) := by decide +kernel
theorem dX11_unspread_80 : decode cX11_unspread 80 = .ok (.irem, 1) := by decide +kernel
theorem dX11_unspread_81 : decode cX11_unspread 81 = .ok (.istore 5, 2) := by decide +kernel
theorem dX11_unspread_83 : decode cX11_unspread 83 = .ok (.iload 6, 2) := by decide +kernel
theorem dX11_unspread_85 : decode cX11_unspread 85 = .ok (.iload_n 3, 1) := by decide +kernel
theorem dX11_unspread_86 : decode cX11_unspread 86 = .ok (.imul, 1) := by decide +kernel
theorem dX11_unspread_87 : decode cX11_unspread 87 = .ok (.bipush 97, 2) := by decide +kernel
theorem dX11_unspread_89 : decode cX11_unspread 89 = .ok (.irem, 1) := by decide +kernel
theorem dX11_unspread_90 : decode cX11_unspread 90 = .ok (.istore 6, 2) := by decide +kernel
theorem dX11_unspread_92 : decode cX11_unspread 92 = .ok (.iinc 7 1, 3) := by decide +kernel
theorem dX11_unspread_95 : decode cX11_unspread 95 = .ok (.goto (-55), 3) := by decide +kernel
theorem dX11_unspread_98 : decode cX11_unspread 98 = .ok (.aload_n 0, 1) := by decide +kernel
theorem dX11_unspread_99 : decode cX11_unspread 99 = .ok (.getfield 39, 3) := by decide +kernel
theorem dX11_unspread_102 : decode cX11_unspread 102 = .ok (.iload 4, 2) := by decide +kernel
theorem dX11_unspread_104 : decode cX11_unspread 104 = .ok (.iload 5, 2) := by decide +kernel
theorem dX11_unspread_106 : decode cX11_unspread 106 = .ok (.iload_n 2, 1) := by decide +kernel
theorem dX11_unspread_107 : decode cX11_unspread 107 = .ok (.imul, 1) := by decide +kernel
theorem dX11_unspread_108 : decode cX11_unspread 108 = .ok (.bipush 97, 2) := by decide +kernel
theorem dX11_unspread_110 : decode cX11_unspread 110 = .ok (.irem, 1) := by decide +kernel
theorem dX11_unspread_111 : decode cX11_unspread 111 = .ok (.iastore, 1) := by decide +kernel
theorem dX11_unspread_112 : decode cX11_unspread 112 = .ok (.iinc 4 1, 3) := by decide +kernel
theorem dX11_unspread_115 : decode cX11_unspread 115 = .ok (.goto (-91), 3) := by decide +kernel
theorem dX11_unspread_118 : decode cX11_unspread 118 = .ok (.aload_n 0, 1) := by decide +kernel
theorem dX11_unspread_119 : decode cX11_unspread 119 = .ok (.invokevirtual 154, 3) := by decide +kernel
theorem dX11_unspread_122 : decode cX11_unspread 122 = .ok (.return_, 1) := by decide +kernel
theorem dX11_twist_0 : decode cX11_twist 0 = .ok (.iconst 0, 1) := by decide +kernel
theorem dX11_twist_1 : decode cX11_twist 1 = .ok (.istore 5, 2) := by decide +kernel
theorem dX11_twist_3 : decode cX11_twist 3 = .ok (.iload 5, 2) := by decide +kernel
theorem dX11_twist_5 : decode cX11_twist 5 = .ok (.bipush 16, 2) := by decide +kernel
theorem dX11_twist_7 : decode cX11_twist 7 = .ok (.if_icmp .ge 72, 3) := by decide +kernel
theorem dX11_twist_10 : decode cX11_twist 10 = .ok (.aload_n 0, 1) := by decide +kernel
theorem dX11_twist_11 : decode cX11_twist 11 = .ok (.getfield 36, 3) := by decide +kernel
theorem dX11_twist_14 : decode cX11_twist 14 = .ok (.iload 5, 2) := by decide +kernel
theorem dX11_twist_16 : decode cX11_twist 16 = .ok (.iaload, 1) := by decide +kernel
theorem dX11_twist_17 : decode cX11_twist 17 = .ok (.istore 6, 2) := by decide +kernel
theorem dX11_twist_19 : decode cX11_twist 19 = .ok (.aload_n 0, 1) := by decide +kernel
theorem dX11_twist_20 : decode cX11_twist 20 = .ok (.getfield 36, 3) := by decide +kernel
theorem dX11_twist_23 : decode cX11_twist 23 = .ok (.bipush 16, 2) := by decide +kernel
theorem dX11_twist_25 : decode cX11_twist 25 = .ok (.iload 5, 2) := by decide +kernel
theorem dX11_twist_27 : decode cX11_twist 27 = .ok (.iadd, 1) := by decide +kernel
theorem dX11_twist_28 : decode cX11_twist 28 = .ok (.iaload, 1) := by decide +kernel
theorem dX11_twist_29 : decode cX11_twist 29 = .ok (.istore 7, 2) := by decide +kernel
theorem dX11_twist_31 : decode cX11_twist 31 = .ok (.aload_n 0, 1) := by decide +kernel
theorem dX11_twist_32 : decode cX11_twist 32 = .ok (.getfield 36, 3) := by decide +kernel
theorem dX11_twist_35 : decode cX11_twist 35 = .ok (.iload 5, 2) := by decide +kernel
theorem dX11_twist_37 : decode cX11_twist 37 = .ok (.iload_n 1, 1) := by decide +kernel
theorem dX11_twist_38 : decode cX11_twist 38 = .ok (.iload 6, 2) := by decide +kernel
theorem dX11_twist_40 : decode cX11_twist 40 = .ok (.imul, 1) := by decide +kernel
theorem dX11_twist_41 : decode cX11_twist 41 = .ok (.iload_n 2, 1) := by decide +kernel
theorem dX11_twist_42 : decode cX11_twist 42 = .ok (.iload 7, 2) := by decide +kernel
theorem dX11_twist_44 : decode cX11_twist 44 = .ok (.imul, 1) := by decide +kernel
theorem dX11_twist_45 : decode cX11_twist 45 = .ok (.iadd, 1) := by decide +kernel
theorem dX11_twist_46 : decode cX11_twist 46 = .ok (.bipush 97, 2) := by decide +kernel
theorem dX11_twist_48 : decode cX11_twist 48 = .ok (.irem, 1) := by decide +kernel
theorem dX11_twist_49 : decode cX11_twist 49 = .ok (.iastore, 1) := by decide +kernel
theorem dX11_twist_50 : decode cX11_twist 50 = .ok (.aload_n 0, 1) := by decide +kernel
theorem dX11_twist_51 : decode cX11_twist 51 = .ok (.getfield 36, 3) := by decide +kernel
theorem dX11_twist_54 : decode cX11_twist 54 = .ok (.bipush 16, 2) := by decide +kernel
theorem dX11_twist_56 : decode cX11_twist 56 = .ok (.iload 5, 2) := by decide +kernel
theorem dX11_twist_58 : decode cX11_twist 58 = .ok (.iadd, 1) := by decide +kernel
theorem dX11_twist_59 : decode cX11_twist 59 = .ok (.iload_n 3, 1) := by decide +kernel
theorem dX11_twist_60 : decode cX11_twist 60 = .ok (.iload 6, 2) := by decide +kernel
theorem dX11_twist_62 : decode cX11_twist 62 = .ok (.imul, 1) := by decide +kernel
theorem dX11_twist_63 : decode cX11_twist 63 = .ok (.iload 4, 2) := by decide +kernel
theorem dX11_twist_65 : decode cX11_twist 65 = .ok (.iload 7, 2) := by decide +kernel
theorem dX11_twist_67 : decode cX11_twist 67 = .ok (.imul, 1) := by decide +kernel
theorem dX11_twist_68 : decode cX11_twist 68 = .ok (.iadd, 1) := by decide +kernel
theorem dX11_twist_69 : decode cX11_twist 69 = .ok (.bipush 97, 2) := by decide +kernel
theorem dX11_twist_71 : decode cX11_twist 71 = .ok (.irem, 1) := by decide +kernel
theorem dX11_twist_72 : decode cX11_twist 72 = .ok (.iastore, 1) := by decide +kernel
theorem dX11_twist_73 : decode cX11_twist 73 = .ok (.iinc 5 1, 3) := by decide +kernel
theorem dX11_twist_76 : decode cX11_twist 76 = .ok (.goto (-73), 3) := by decide +kernel
theorem dX11_twist_79 : decode cX11_twist 79 = .ok (.return_, 1) := by decide +kernel
theorem dX11_untwist_0 : decode cX11_untwist 0 = .ok (.iload_n 1, 1) := by decide +kernel
theorem dX11_untwist_1 : decode cX11_untwist 1 = .ok (.iload 4, 2) := by decide +kernel
theorem dX11_untwist_3 : decode cX11_untwist 3 = .ok (.imul, 1) := by decide +kernel
theorem dX11_untwist_4 : decode cX11_untwist 4 = .ok (.iload_n 2, 1) := by decide +kernel
theorem dX11_untwist_5 : decode cX11_untwist 5 = .ok (.iload_n 3, 1) := by decide +kernel
theorem dX11_untwist_6 : decode cX11_untwist 6 = .ok (.imul, 1) := by decide +kernel
theorem dX11_untwist_7 : decode cX11_untwist 7 = .ok (.isub, 1) := by decide +kernel
theorem dX11_untwist_8 : decode cX11_untwist 8 = .ok (.invokestatic 71, 3) := by decide +kernel
theorem dX11_untwist_11 : decode cX11_untwist 11 = .ok (.invokestatic 157, 3) := by decide +kernel
theorem dX11_untwist_14 : decode cX11_untwist 14 = .ok (.istore 5, 2) := by decide +kernel
theorem dX11_untwist_16 : decode cX11_untwist 16 = .ok (.aload_n 0, 1) := by decide +kernel
theorem dX11_untwist_17 : decode cX11_untwist 17 = .ok (.iload 4, 2) := by decide +kernel
theorem dX11_untwist_19 : decode cX11_untwist 19 = .ok (.iload 5, 2) := by decide +kernel
theorem dX11_untwist_21 : decode cX11_untwist 21 = .ok (.imul, 1) := by decide +kernel
theorem dX11_untwist_22 : decode cX11_untwist 22 = .ok (.bipush 97, 2) := by decide +kernel
theorem dX11_untwist_24 : decode cX11_untwist 24 = .ok (.irem, 1) := by decide +kernel
theorem dX11_untwist_25 : decode cX11_untwist 25 = .ok (.iload_n 2, 1) := by decide +kernel
theorem dX11_untwist_26 : decode cX11_untwist 26 = .ok (.ineg, 1) := by decide +kernel
theorem dX11_untwist_27 : decode cX11_untwist 27 = .ok (.iload 5, 2) := by decide +kernel
theorem dX11_untwist_29 : decode cX11_untwist 29 = .ok (.imul, 1) := by decide +kernel
theorem dX11_untwist_30 : decode cX11_untwist 30 = .ok (.invokestatic 71, 3) := by decide +kernel
theorem dX11_untwist_33 : decode cX11_untwist 33 = .ok (.iload_n 3, 1) := by decide +kernel
theorem dX11_untwist_34 : decode cX11_untwist 34 = .ok (.ineg, 1) := by decide +kernel
theorem dX11_untwist_35 : decode cX11_untwist 35 = .ok (.iload 5, 2) := by decide +kernel
theorem dX11_untwist_37 : decode cX11_untwist 37 = .ok (.imul, 1) := by decide +kernel
theorem dX11_untwist_38 : decode cX11_untwist 38 = .ok (.invokestatic 71, 3) := by decide +kernel
theorem dX11_untwist_41 : decode cX11_untwist 41 = .ok (.iload_n 1, 1) := by decide +kernel
theorem dX11_untwist_42 : decode cX11_untwist 42 = .ok (.iload 5, 2) := by decide +kernel
theorem dX11_untwist_44 : decode cX11_untwist 44 = .ok (.imul, 1) := by decide +kernel
theorem dX11_untwist_45 : decode cX11_untwist 45 = .ok (.bipush 97, 2) := by decide +kernel
theorem dX11_untwist_47 : decode cX11_untwist 47 = .ok (.irem, 1) := by decide +kernel
theorem dX11_untwist_48 : decode cX11_untwist 48 = .ok (.invokevirtual 160, 3) := by decide +kernel
theorem dX11_untwist_51 : decode cX11_untwist 51 = .ok (.return_, 1) := by decide +kernel
theorem dX11_slip_0 : decode cX11_slip 0 = .ok (.iload_n 1, 1) := by decide +kernel
theorem dX11_slip_1 : decode cX11_slip 1 = .ok (.istore_n 3, 1) := by decide +kernel
theorem dX11_slip_2 : decode cX11_slip 2 = .ok (.iload_n 3, 1) := by decide +kernel
theorem dX11_slip_3 : decode cX11_slip 3 = .ok (.bipush 16, 2) := by decide +kernel
theorem dX11_slip_5 : decode cX11_slip 5 = .ok (.if_icmp .ge 55, 3) := by decide +kernel
theorem dX11_slip_8 : decode cX11_slip 8 = .ok (.aload_n 0, 1) := by decide +kernel
theorem dX11_slip_9 : decode cX11_slip 9 = .ok (.getfield 36, 3) := by decide +kernel
theorem dX11_slip_12 : decode cX11_slip 12 = .ok (.iload_n 3, 1) := by decide +kernel
theorem dX11_slip_13 : decode cX11_slip 13 = .ok (.aload_n 0, 1) := by decide +kernel
theorem dX11_slip_14 : decode cX11_slip 14 = .ok (.getfield 36, 3) := by decide +kernel
theorem dX11_slip_17 : decode cX11_slip 17 = .ok (.iload_n 3, 1) := by decide +kernel
theorem dX11_slip_18 : decode cX11_slip 18 = .ok (.iaload, 1) := by decide +kernel
theorem dX11_slip_19 : decode cX11_slip 19 = .ok (.iload_n 2, 1) := by decide +kernel
theorem dX11_slip_20 : decode cX11_slip 20 = .ok (.invokestatic 67, 3) := by decide +kernel
theorem dX11_slip_23 : decode cX11_slip 23 = .ok (.imul, 1) := by decide +kernel
theorem dX11_slip_24 : decode cX11_slip 24 = .ok (.bipush 97, 2) := by decide +kernel
theorem dX11_slip_26 : decode cX11_slip 26 = .ok (.irem, 1) := by decide +kernel
theorem dX11_slip_27 : decode cX11_slip 27 = .ok (.iastore, 1) := by decide +kernel
theorem dX11_slip_28 : decode cX11_slip 28 = .ok (.aload_n 0, 1) := by decide +kernel
theorem dX11_slip_29 : decode cX11_slip 29 = .ok (.getfield 36, 3) := by decide +kernel
theorem dX11_slip_32 : decode cX11_slip 32 = .ok (.bipush 16, 2) := by decide +kernel
theorem dX11_slip_34 : decode cX11_slip 34 = .ok (.iload_n 3, 1) := by decide +kernel
theorem dX11_slip_35 : decode cX11_slip 35 = .ok (.iadd, 1) := by decide +kernel
theorem dX11_slip_36 : decode cX11_slip 36 = .ok (.aload_n 0, 1) := by decide +kernel
theorem dX11_slip_37 : decode cX11_slip 37 = .ok (.getfield 36, 3) := by decide +kernel
theorem dX11_slip_40 : decode cX11_slip 40 = .ok (.bipush 16, 2) := by decide +kernel
theorem dX11_slip_42 : decode cX11_slip 42 = .ok (.iload_n 3, 1) := by decide +kernel
theorem dX11_slip_43 : decode cX11_slip 43 = .ok (.iadd, 1) := by decide +kernel
theorem dX11_slip_44 : decode cX11_slip 44 = .ok (.iaload, 1) := by decide +kernel
theorem dX11_slip_45 : decode cX11_slip 45 = .ok (.iload_n 2, 1) := by decide +kernel
theorem dX11_slip_46 : decode cX11_slip 46 = .ok (.invokestatic 67, 3) := by decide +kernel
theorem dX11_slip_49 : decode cX11_slip 49 = .ok (.imul, 1) := by decide +kernel
theorem dX11_slip_50 : decode cX11_slip 50 = .ok (.bipush 97, 2) := by decide +kernel
theorem dX11_slip_52 : decode cX11_slip 52 = .ok (.irem, 1) := by decide +kernel
theorem dX11_slip_53 : decode cX11_slip 53 = .ok (.iastore, 1) := by decide +kernel
theorem dX11_slip_54 : decode cX11_slip 54 = .ok (.iinc 3 1, 3) := by decide +kernel
theorem dX11_slip_57 : decode cX11_slip 57 = .ok (.goto (-55), 3) := by decide +kernel
theorem dX11_slip_60 : decode cX11_slip 60 = .ok (.return_, 1) := by decide +kernel
theorem dX11_late_0 : decode cX11_late 0 = .ok (.iconst 0, 1) := by decide +kernel
theorem dX11_late_1 : decode cX11_late 1 = .ok (.istore_n 2, 1) := by decide +kernel
theorem dX11_late_2 : decode cX11_late 2 = .ok (.iload_n 2, 1) := by decide +kernel
theorem dX11_late_3 : decode cX11_late 3 = .ok (.bipush 32, 2) := by decide +kernel
theorem dX11_late_5 : decode cX11_late 5 = .ok (.if_icmp .ge 21, 3) := by decide +kernel
theorem dX11_late_8 : decode cX11_late 8 = .ok (.aload_n 0, 1) := by decide +kernel
theorem dX11_late_9 : decode cX11_late 9 = .ok (.getfield 39, 3) := by decide +kernel
theorem dX11_late_12 : decode cX11_late 12 = .ok (.iload_n 2, 1) := by decide +kernel
theorem dX11_late_13 : decode cX11_late 13 = .ok (.aload_n 0, 1) := by decide +kernel
theorem dX11_late_14 : decode cX11_late 14 = .ok (.getfield 36, 3) := by decide +kernel
theorem dX11_late_17 : decode cX11_late 17 = .ok (.iload_n 2, 1) := by decide +kernel
theorem dX11_late_18 : decode cX11_late 18 = .ok (.iaload, 1) := by decide +kernel
theorem dX11_late_19 : decode cX11_late 19 = .ok (.iastore, 1) := by decide +kernel
theorem dX11_late_20 : decode cX11_late 20 = .ok (.iinc 2 1, 3) := by decide +kernel
theorem dX11_late_23 : decode cX11_late 23 = .ok (.goto (-21), 3) := by decide +kernel
theorem dX11_late_26 : decode cX11_late 26 = .ok (.iconst 0, 1) := by decide +kernel
theorem dX11_late_27 : decode cX11_late 27 = .ok (.istore_n 2, 1) := by decide +kernel
theorem dX11_late_28 : decode cX11_late 28 = .ok (.iload_n 2, 1) := by decide +kernel
theorem dX11_late_29 : decode cX11_late 29 = .ok (.bipush 16, 2) := by decide +kernel
theorem dX11_late_31 : decode cX11_late 31 = .ok (.if_icmp .ge 32, 3) := by decide +kernel
theorem dX11_late_34 : decode cX11_late 34 = .ok (.aload_n 0, 1) := by decide +kernel
theorem dX11_late_35 : decode cX11_late 35 = .ok (.getfield 39, 3) := by decide +kernel
theorem dX11_late_38 : decode cX11_late 38 = .ok (.bipush 16, 2) := by decide +kernel
theorem dX11_late_40 : decode cX11_late 40 = .ok (.iload_n 2, 1) := by decide +kernel
theorem dX11_late_41 : decode cX11_late 41 = .ok (.iload_n 1, 1) := by decide +kernel
theorem dX11_late_42 : decode cX11_late 42 = .ok (.iadd, 1) := by decide +kernel
theorem dX11_late_43 : decode cX11_late 43 = .ok (.bipush 16, 2) := by decide +kernel
theorem dX11_late_45 : decode cX11_late 45 = .ok (.irem, 1) := by decide +kernel
theorem dX11_late_46 : decode cX11_late 46 = .ok (.iadd, 1) := by decide +kernel
theorem dX11_late_47 : decode cX11_late 47 = .ok (.aload_n 0, 1) := by decide +kernel
theorem dX11_late_48 : decode cX11_late 48 = .ok (.getfield 36, 3) := by decide +kernel
theorem dX11_late_51 : decode cX11_late 51 = .ok (.bipush 16, 2) := by decide +kernel
theorem dX11_late_53 : decode cX11_late 53 = .ok (.iload_n 2, 1) := by decide +kernel
theorem dX11_late_54 : decode cX11_late 54 = .ok (.iadd, 1) := by decide +kernel
theorem dX11_late_55 : decode cX11_late 55 = .ok (.iaload, 1) := by decide +kernel
theorem dX11_late_56 : decode cX11_late 56 = .ok (.iastore, 1) := by decide +kernel
theorem dX11_late_57 : decode cX11_late 57 = .ok (.iinc 2 1, 3) := by decide +kernel
theorem dX11_late_60 : decode cX11_late 60 = .ok (.goto (-32), 3) := by decide +kernel
theorem dX11_late_63 : decode cX11_late 63 = .ok (.aload_n 0, 1) := by decide +kernel
theorem dX11_late_64 : decode cX11_late 64 = .ok (.invokevirtual 154, 3) := by decide +kernel
theorem dX11_late_67 : decode cX11_late 67 = .ok (.return_, 1) := by decide +kernel
theorem dX11_isLight_0 : decode cX11_isLight 0 = .ok (.iload_n 0, 1) := by decide +kernel
theorem dX11_isLight_1 : decode cX11_isLight 1 = .ok (.iconst 1, 1) := by decide +kernel
theorem dX11_isLight_2 : decode cX11_isLight 2 = .ok (.if_icmp .eq 21, 3) := by decide +kernel
theorem dX11_isLight_5 : decode cX11_isLight 5 = .ok (.iload_n 0, 1) := by decide +kernel
theorem dX11_isLight_6 : decode cX11_isLight 6 = .ok (.bipush 22, 2) := by decide +kernel
theorem dX11_isLight_8 : decode cX11_isLight 8 = .ok (.if_icmp .eq 15, 3) := by decide +kernel
theorem dX11_isLight_11 : decode cX11_isLight 11 = .ok (.iload_n 0, 1) := by decide +kernel
theorem dX11_isLight_12 : decode cX11_isLight 12 = .ok (.bipush 96, 2) := by decide +kernel
theorem dX11_isLight_14 : decode cX11_isLight 14 = .ok (.if_icmp .eq 9, 3) := by decide +kernel
theorem dX11_isLight_17 : decode cX11_isLight 17 = .ok (.iload_n 0, 1) := by decide +kernel
theorem dX11_isLight_18 : decode cX11_isLight 18 = .ok (.bipush 75, 2) := by decide +kernel
theorem dX11_isLight_20 : decode cX11_isLight 20 = .ok (.if_icmp .ne 7, 3) := by decide +kernel
theorem dX11_isLight_23 : decode cX11_isLight 23 = .ok (.iconst 1, 1) := by decide +kernel
theorem dX11_isLight_24 : decode cX11_isLight 24 = .ok (.goto 4, 3) := by decide +kernel
theorem dX11_isLight_27 : decode cX11_isLight 27 = .ok (.iconst 0, 1) := by decide +kernel
theorem dX11_isLight_28 : decode cX11_isLight 28 = .ok (.ireturn, 1) := by decide +kernel
theorem dX11_blind_0 : decode cX11_blind 0 = .ok (.iconst 1, 1) := by decide +kernel
theorem dX11_blind_1 : decode cX11_blind 1 = .ok (.istore_n 1, 1) := by decide +kernel
theorem dX11_blind_2 : decode cX11_blind 2 = .ok (.iconst (-1), 1) := by decide +kernel
theorem dX11_blind_3 : decode cX11_blind 3 = .ok (.istore_n 2, 1) := by decide +kernel
theorem dX11_blind_4 : decode cX11_blind 4 = .ok (.iconst 1, 1) := by decide +kernel
theorem dX11_blind_5 : decode cX11_blind 5 = .ok (.istore_n 3, 1) := by decide +kernel
theorem dX11_blind_6 : decode cX11_blind 6 = .ok (.iload_n 3, 1) := by decide +kernel
theorem dX11_blind_7 : decode cX11_blind 7 = .ok (.bipush 97, 2) := by decide +kernel
theorem dX11_blind_9 : decode cX11_blind 9 = .ok (.if_icmp .ge 81, 3) := by decide +kernel
theorem dX11_blind_12 : decode cX11_blind 12 = .ok (.iconst 0, 1) := by decide +kernel
theorem dX11_blind_13 : decode cX11_blind 13 = .ok (.istore 4, 2) := by decide +kernel
theorem dX11_blind_15 : decode cX11_blind 15 = .ok (.iconst 0, 1) := by decide +kernel
theorem dX11_blind_16 : decode cX11_blind 16 = .ok (.istore 5, 2) := by decide +kernel
theorem dX11_blind_18 : decode cX11_blind 18 = .ok (.iload 5, 2) := by decide +kernel
theorem dX11_blind_20 : decode cX11_blind 20 = .ok (.bipush 32, 2) := by decide +kernel
theorem dX11_blind_22 : decode cX11_blind 22 = .ok (.if_icmp .ge 37, 3) := by decide +kernel
theorem dX11_blind_25 : decode cX11_blind 25 = .ok (.iload 4, 2) := by decide +kernel
theorem dX11_blind_27 : decode cX11_blind 27 = .ok (.iload_n 3, 1) := by decide +kernel
theorem dX11_blind_28 : decode cX11_blind 28 = .ok (.aload_n 0, 1) := by decide +kernel
theorem dX11_blind_29 : decode cX11_blind 29 = .ok (.getfield 36, 3) := by decide +kernel
theorem dX11_blind_32 : decode cX11_blind 32 = .ok (.iload 5, 2) := by decide +kernel
theorem dX11_blind_34 : decode cX11_blind 34 = .ok (.iaload, 1) := by decide +kernel
theorem dX11_blind_35 : decode cX11_blind 35 = .ok (.imul, 1) := by decide +kernel
theorem dX11_blind_36 : decode cX11_blind 36 = .ok (.bipush 97, 2) := by decide +kernel
theorem dX11_blind_38 : decode cX11_blind 38 = .ok (.irem, 1) := by decide +kernel
theorem dX11_blind_39 : decode cX11_blind 39 = .ok (.invokestatic 164, 3) := by decide +kernel
theorem dX11_blind_42 : decode cX11_blind 42 = .ok (.ifCond .eq 7, 3) := by decide +kernel
theorem dX11_blind_45 : decode cX11_blind 45 = .ok (.iconst 1, 1) := by decide +kernel
theorem dX11_blind_46 : decode cX11_blind 46 = .ok (.goto 4, 3) := by decide +kernel
theorem dX11_blind_49 : decode cX11_blind 49 = .ok (.iconst 0, 1) := by decide +kernel
theorem dX11_blind_50 : decode cX11_blind 50 = .ok (.iadd, 1) := by decide +kernel
theorem dX11_blind_51 : decode cX11_blind 51 = .ok (.istore 4, 2) := by decide +kernel
theorem dX11_blind_53 : decode cX11_blind 53 = .ok (.iinc 5 1, 3) := by decide +kernel
theorem dX11_blind_56 : decode cX11_blind 56 = .ok (.goto (-38), 3) := by decide +kernel
theorem dX11_blind_59 : decode cX11_blind 59 = .ok (.iload 4, 2) := by decide +kernel
theorem dX11_blind_61 : decode cX11_blind 61 = .ok (.iload_n 2, 1) := by decide +kernel
theorem dX11_blind_62 : decode cX11_blind 62 = .ok (.if_icmp .le 7, 3) := by decide +kernel
theorem dX11_blind_65 : decode cX11_blind 65 = .ok (.iload_n 3, 1) := by decide +kernel
theorem dX11_blind_66 : decode cX11_blind 66 = .ok (.goto 4, 3) := by decide +kernel
theorem dX11_blind_69 : decode cX11_blind 69 = .ok (.iload_n 1, 1) := by decide +kernel
theorem dX11_blind_70 : decode cX11_blind 70 = .ok (.istore_n 1, 1) := by decide +kernel
theorem dX11_blind_71 : decode cX11_blind 71 = .ok (.iload 4, 2) := by decide +kernel
theorem dX11_blind_73 : decode cX11_blind 73 = .ok (.iload_n 2, 1) := by decide +kernel
theorem dX11_blind_74 : decode cX11_blind 74 = .ok (.if_icmp .le 8, 3) := by decide +kernel
theorem dX11_blind_77 : decode cX11_blind 77 = .ok (.iload 4, 2) := by decide +kernel
theorem dX11_blind_79 : decode cX11_blind 79 = .ok (.goto 4, 3) := by decide +kernel
theorem dX11_blind_82 : decode cX11_blind 82 = .ok (.iload_n 2, 1) := by decide +kernel
theorem dX11_blind_83 : decode cX11_blind 83 = .ok (.istore_n 2, 1) := by decide +kernel
theorem dX11_blind_84 : decode cX11_blind 84 = .ok (.iinc 3 1, 3) := by decide +kernel
theorem dX11_blind_87 : decode cX11_blind 87 = .ok (.goto (-81), 3) := by decide +kernel
theorem dX11_blind_90 : decode cX11_blind 90 = .ok (.iconst 0, 1) := by decide +kernel
theorem dX11_blind_91 : decode cX11_blind 91 = .ok (.istore_n 3, 1) := by decide +kernel
theorem dX11_blind_92 : decode cX11_blind 92 = .ok (.iload_n 3, 1) := by decide +kernel
theorem dX11_blind_93 : decode cX11_blind 93 = .ok (.bipush 32, 2) := by decide +kernel
theorem dX11_blind_95 : decode cX11_blind 95 = .ok (.if_icmp .ge 26, 3) := by decide +kernel
theorem dX11_blind_98 : decode cX11_blind 98 = .ok (.aload_n 0, 1) := by decide +kernel
theorem dX11_blind_99 : decode cX11_blind 99 = .ok (.getfield 36, 3) := by decide +kernel
theorem dX11_blind_102 : decode cX11_blind 102 = .ok (.iload_n 3, 1) := by decide +kernel
theorem dX11_blind_103 : decode cX11_blind 103 = .ok (.iload_n 1, 1) := by decide +kernel
theorem dX11_blind_104 : decode cX11_blind 104 = .ok (.aload_n 0, 1) := by decide +kernel
theorem dX11_blind_105 : decode cX11_blind 105 = .ok (.getfield 36, 3) := by decide +kernel
theorem dX11_blind_108 : decode cX11_blind 108 = .ok (.iload_n 3, 1) := by decide +kernel
theorem dX11_blind_109 : decode cX11_blind 109 = .ok (.iaload, 1) := by decide +kernel
theorem dX11_blind_110 : decode cX11_blind 110 = .ok (.imul, 1) := by decide +kernel
theorem dX11_blind_111 : decode cX11_blind 111 = .ok (.bipush 97, 2) := by decide +kernel
theorem dX11_blind_113 : decode cX11_blind 113 = .ok (.irem, 1) := by decide +kernel
theorem dX11_blind_114 : decode cX11_blind 114 = .ok (.iastore, 1) := by decide +kernel
theorem dX11_blind_115 : decode cX11_blind 115 = .ok (.iinc 3 1, 3) := by decide +kernel
theorem dX11_blind_118 : decode cX11_blind 118 = .ok (.goto (-26), 3) := by decide +kernel
theorem dX11_blind_121 : decode cX11_blind 121 = .ok (.return_, 1) := by decide +kernel
theorem dX11_mend_0 : decode cX11_mend 0 = .ok (.iconst 0, 1) := by decide +kernel
theorem dX11_mend_1 : decode cX11_mend 1 = .ok (.istore_n 1, 1) := by decide +kernel
theorem dX11_mend_2 : decode cX11_mend 2 = .ok (.iload_n 1, 1) := by decide +kernel
theorem dX11_mend_3 : decode cX11_mend 3 = .ok (.bipush 16, 2) := by decide +kernel
theorem dX11_mend_5 : decode cX11_mend 5 = .ok (.if_icmp .ge 151, 3) := by decide +kernel
theorem dX11_mend_8 : decode cX11_mend 8 = .ok (.aload_n 0, 1) := by decide +kernel
theorem dX11_mend_9 : decode cX11_mend 9 = .ok (.getfield 7, 3) := by decide +kernel
theorem dX11_mend_12 : decode cX11_mend 12 = .ok (.bipush 32, 2) := by decide +kernel
theorem dX11_mend_14 : decode cX11_mend 14 = .ok (.iaload, 1) := by decide +kernel
theorem dX11_mend_15 : decode cX11_mend 15 = .ok (.iload_n 1, 1) := by decide +kernel
theorem dX11_mend_16 : decode cX11_mend 16 = .ok (.invokestatic 123, 3) := by decide +kernel
theorem dX11_mend_19 : decode cX11_mend 19 = .ok (.ifCond .eq 131, 3) := by decide +kernel
theorem dX11_mend_22 : decode cX11_mend 22 = .ok (.iconst 0, 1) := by decide +kernel
theorem dX11_mend_23 : decode cX11_mend 23 = .ok (.istore_n 2, 1) := by decide +kernel
theorem dX11_mend_24 : decode cX11_mend 24 = .ok (.iconst (-1), 1) := by decide +kernel
theorem dX11_mend_25 : decode cX11_mend 25 = .ok (.istore_n 3, 1) := by decide +kernel
theorem dX11_mend_26 : decode cX11_mend 26 = .ok (.iconst 0, 1) := by decide +kernel
theorem dX11_mend_27 : decode cX11_mend 27 = .ok (.istore 4, 2) := by decide +kernel
theorem dX11_mend_29 : decode cX11_mend 29 = .ok (.iload 4, 2) := by decide +kernel
theorem dX11_mend_31 : decode cX11_mend 31 = .ok (.iconst 4, 1) := by decide +kernel
theorem dX11_mend_32 : decode cX11_mend 32 = .ok (.if_icmp .ge 112, 3) := by decide +kernel
theorem dX11_mend_35 : decode cX11_mend 35 = .ok (.aload_n 0, 1) := by decide +kernel
theorem dX11_mend_36 : decode cX11_mend 36 = .ok (.getfield 36, 3) := by decide +kernel
theorem dX11_mend_39 : decode cX11_mend 39 = .ok (.iload_n 1, 1) := by decide +kernel
theorem dX11_mend_40 : decode cX11_mend 40 = .ok (.iaload, 1) := by decide +kernel
theorem dX11_mend_41 : decode cX11_mend 41 = .ok (.iload 4, 2) := by decide +kernel
theorem dX11_mend_43 : decode cX11_mend 43 = .ok (.invokestatic 67, 3) := by decide +kernel
theorem dX11_mend_46 : decode cX11_mend 46 = .ok (.imul, 1) := by decide +kernel
theorem dX11_mend_47 : decode cX11_mend 47 = .ok (.bipush 97, 2) := by decide +kernel
theorem dX11_mend_49 : decode cX11_mend 49 = .ok (.irem, 1) := by decide +kernel
theorem dX11_mend_50 : decode cX11_mend 50 = .ok (.invokestatic 168, 3) := by decide +kernel
theorem dX11_mend_53 : decode cX11_mend 53 = .ok (.aload_n 0, 1) := by decide +kernel
theorem dX11_mend_54 : decode cX11_mend 54 = .ok (.getfield 7, 3) := by decide +kernel
theorem dX11_mend_57 : decode cX11_mend 57 = .ok (.iload_n 1, 1) := by decide +kernel
theorem dX11_mend_58 : decode cX11_mend 58 = .ok (.iaload, 1) := by decide +kernel
theorem dX11_mend_59 : decode cX11_mend 59 = .ok (.if_icmp .ne 7, 3) := by decide +kernel
theorem dX11_mend_62 : decode cX11_mend 62 = .ok (.iconst 1, 1) := by decide +kernel
theorem dX11_mend_63 : decode cX11_mend 63 = .ok (.goto 4, 3) := by decide +kernel
theorem dX11_mend_66 : decode cX11_mend 66 = .ok (.iconst 0, 1) := by decide +kernel
theorem dX11_mend_67 : decode cX11_mend 67 = .ok (.istore 5, 2) := by decide +kernel
theorem dX11_mend_69 : decode cX11_mend 69 = .ok (.iload 5, 2) := by decide +kernel
theorem dX11_mend_71 : decode cX11_mend 71 = .ok (.aload_n 0, 1) := by decide +kernel
theorem dX11_mend_72 : decode cX11_mend 72 = .ok (.getfield 36, 3) := by decide +kernel
theorem dX11_mend_75 : decode cX11_mend 75 = .ok (.bipush 16, 2) := by decide +kernel
theorem dX11_mend_77 : decode cX11_mend 77 = .ok (.iload_n 1, 1) := by decide +kernel
theorem dX11_mend_78 : decode cX11_mend 78 = .ok (.iadd, 1) := by decide +kernel
theorem dX11_mend_79 : decode cX11_mend 79 = .ok (.iaload, 1) := by decide +kernel
theorem dX11_mend_80 : decode cX11_mend 80 = .ok (.iload 4, 2) := by decide +kernel
theorem dX11_mend_82 : decode cX11_mend 82 = .ok (.invokestatic 67, 3) := by decide +kernel
theorem dX11_mend_85 : decode cX11_mend 85 = .ok (.imul, 1) := by decide +kernel
theorem dX11_mend_86 : decode cX11_mend 86 = .ok (.bipush 97, 2) := by decide +kernel
theorem dX11_mend_88 : decode cX11_mend 88 = .ok (.irem, 1) := by decide +kernel
theorem dX11_mend_89 : decode cX11_mend 89 = .ok (.invokestatic 168, 3) := by decide +kernel
theorem dX11_mend_92 : decode cX11_mend 92 = .ok (.aload_n 0, 1) := by decide +kernel
theorem dX11_mend_93 : decode cX11_mend 93 = .ok (.getfield 7, 3) := by decide +kernel
theorem dX11_mend_96 : decode cX11_mend 96 = .ok (.bipush 16, 2) := by decide +kernel
theorem dX11_mend_98 : decode cX11_mend 98 = .ok (.iload_n 1, 1) := by decide +kernel
theorem dX11_mend_99 : decode cX11_mend 99 = .ok (.iadd, 1) := by decide +kernel
theorem dX11_mend_100 : decode cX11_mend 100 = .ok (.iaload, 1) := by decide +kernel
theorem dX11_mend_101 : decode cX11_mend 101 = .ok (.if_icmp .ne 7, 3) := by decide +kernel
theorem dX11_mend_104 : decode cX11_mend 104 = .ok (.iconst 1, 1) := by decide +kernel
theorem dX11_mend_105 : decode cX11_mend 105 = .ok (.goto 4, 3) := by decide +kernel
theorem dX11_mend_108 : decode cX11_mend 108 = .ok (.iconst 0, 1) := by decide +kernel
theorem dX11_mend_109 : decode cX11_mend 109 = .ok (.iadd, 1) := by decide +kernel
theorem dX11_mend_110 : decode cX11_mend 110 = .ok (.istore 5, 2) := by decide +kernel
theorem dX11_mend_112 : decode cX11_mend 112 = .ok (.iload 5, 2) := by decide +kernel
theorem dX11_mend_114 : decode cX11_mend 114 = .ok (.iload_n 3, 1) := by decide +kernel
theorem dX11_mend_115 : decode cX11_mend 115 = .ok (.if_icmp .le 8, 3) := by decide +kernel
theorem dX11_mend_118 : decode cX11_mend 118 = .ok (.iload 4, 2) := by decide +kernel
theorem dX11_mend_120 : decode cX11_mend 120 = .ok (.goto 4, 3) := by decide +kernel
theorem dX11_mend_123 : decode cX11_mend 123 = .ok (.iload_n 2, 1) := by decide +kernel
theorem dX11_mend_124 : decode cX11_mend 124 = .ok (.istore_n 2, 1) := by decide +kernel
theorem dX11_mend_125 : decode cX11_mend 125 = .ok (.iload 5, 2) := by decide +kernel
theorem dX11_mend_127 : decode cX11_mend 127 = .ok (.iload_n 3, 1) := by decide +kernel
theorem dX11_mend_128 : decode cX11_mend 128 = .ok (.if_icmp .le 8, 3) := by decide +kernel
theorem dX11_mend_131 : decode cX11_mend 131 = .ok (.iload 5, 2) := by decide +kernel
theorem dX11_mend_133 : decode cX11_mend 133 = .ok (.goto 4, 3) := by decide +kernel
theorem dX11_mend_136 : decode cX11_mend 136 = .ok (.iload_n 3, 1) := by decide +kernel
theorem dX11_mend_137 : decode cX11_mend 137 = .ok (.istore_n 3, 1) := by decide +kernel
theorem dX11_mend_138 : decode cX11_mend 138 = .ok (.iinc 4 1, 3) := by decide +kernel
theorem dX11_mend_141 : decode cX11_mend 141 = .ok (.goto (-112), 3) := by decide +kernel
theorem dX11_mend_144 : decode cX11_mend 144 = .ok (.aload_n 0, 1) := by decide +kernel
theorem dX11_mend_145 : decode cX11_mend 145 = .ok (.iload_n 1, 1) := by decide +kernel
theorem dX11_mend_146 : decode cX11_mend 146 = .ok (.iload_n 2, 1) := by decide +kernel
theorem dX11_mend_147 : decode cX11_mend 147 = .ok (.invokevirtual 171, 3) := by decide +kernel
theorem dX11_mend_150 : decode cX11_mend 150 = .ok (.iinc 1 1, 3) := by decide +kernel
theorem dX11_mend_153 : decode cX11_mend 153 = .ok (.goto (-151), 3) := by decide +kernel
theorem dX11_mend_156 : decode cX11_mend 156 = .ok (.return_, 1) := by decide +kernel
theorem dX11_mendFrom_0 : decode cX11_mendFrom 0 = .ok (.iload_n 1, 1) := by decide +kernel
theorem dX11_mendFrom_1 : decode cX11_mendFrom 1 = .ok (.istore_n 3, 1) := by decide +kernel
theorem dX11_mendFrom_2 : decode cX11_mendFrom 2 = .ok (.iconst 1, 1) := by decide +kernel
theorem dX11_mendFrom_3 : decode cX11_mendFrom 3 = .ok (.istore 4, 2) := by decide +kernel
theorem dX11_mendFrom_5 : decode cX11_mendFrom 5 = .ok (.iload 4, 2) := by decide +kernel
theorem dX11_mendFrom_7 : decode cX11_mendFrom 7 = .ok (.ifCond .eq 80, 3) := by decide +kernel
theorem dX11_mendFrom_10 : decode cX11_mendFrom 10 = .ok (.aload_n 0, 1) := by decide +kernel
theorem dX11_mendFrom_11 : decode cX11_mendFrom 11 = .ok (.getfield 36, 3) := by decide +kernel
theorem dX11_mendFrom_14 : decode cX11_mendFrom 14 = .ok (.iload_n 3, 1) := by decide +kernel
theorem dX11_mendFrom_15 : decode cX11_mendFrom 15 = .ok (.aload_n 0, 1) := by decide +kernel
theorem dX11_mendFrom_16 : decode cX11_mendFrom 16 = .ok (.getfield 36, 3) := by decide +kernel
theorem dX11_mendFrom_19 : decode cX11_mendFrom 19 = .ok (.iload_n 3, 1) := by decide +kernel
theorem dX11_mendFrom_20 : decode cX11_mendFrom 20 = .ok (.iaload, 1) := by decide +kernel
theorem dX11_mendFrom_21 : decode cX11_mendFrom 21 = .ok (.iload_n 2, 1) := by decide +kernel
theorem dX11_mendFrom_22 : decode cX11_mendFrom 22 = .ok (.invokestatic 67, 3) := by decide +kernel
theorem dX11_mendFrom_25 : decode cX11_mendFrom 25 = .ok (.imul, 1) := by decide +kernel
theorem dX11_mendFrom_26 : decode cX11_mendFrom 26 = .ok (.bipush 97, 2) := by decide +kernel
theorem dX11_mendFrom_28 : decode cX11_mendFrom 28 = .ok (.irem, 1) := by decide +kernel
theorem dX11_mendFrom_29 : decode cX11_mendFrom 29 = .ok (.iastore, 1) := by decide +kernel
theorem dX11_mendFrom_30 : decode cX11_mendFrom 30 = .ok (.aload_n 0, 1) := by decide +kernel
theorem dX11_mendFrom_31 : decode cX11_mendFrom 31 = .ok (.getfield 36, 3) := by decide +kernel
theorem dX11_mendFrom_34 : decode cX11_mendFrom 34 = .ok (.bipush 16, 2) := by decide +kernel
theorem dX11_mendFrom_36 : decode cX11_mendFrom 36 = .ok (.iload_n 3, 1) := by decide +kernel
theorem dX11_mendFrom_37 : decode cX11_mendFrom 37 = .ok (.iadd, 1) := by decide +kernel
theorem dX11_mendFrom_38 : decode cX11_mendFrom 38 = .ok (.aload_n 0, 1) := by decide +kernel
theorem dX11_mendFrom_39 : decode cX11_mendFrom 39 = .ok (.getfield 36, 3) := by decide +kernel
theorem dX11_mendFrom_42 : decode cX11_mendFrom 42 = .ok (.bipush 16, 2) := by decide +kernel
theorem dX11_mendFrom_44 : decode cX11_mendFrom 44 = .ok (.iload_n 3, 1) := by decide +kernel
theorem dX11_mendFrom_45 : decode cX11_mendFrom 45 = .ok (.iadd, 1) := by decide +kernel
theorem dX11_mendFrom_46 : decode cX11_mendFrom 46 = .ok (.iaload, 1) := by decide +kernel
theorem dX11_mendFrom_47 : decode cX11_mendFrom 47 = .ok (.iload_n 2, 1) := by decide +kernel
theorem dX11_mendFrom_48 : decode cX11_mendFrom 48 = .ok (.invokestatic 67, 3) := by decide +kernel
theorem dX11_mendFrom_51 : decode cX11_mendFrom 51 = .ok (.imul, 1) := by decide +kernel
theorem dX11_mendFrom_52 : decode cX11_mendFrom 52 = .ok (.bipush 97, 2) := by decide +kernel
theorem dX11_mendFrom_54 : decode cX11_mendFrom 54 = .ok (.irem, 1) := by decide +kernel
theorem dX11_mendFrom_55 : decode cX11_mendFrom 55 = .ok (.iastore, 1) := by decide +kernel
theorem dX11_mendFrom_56 : decode cX11_mendFrom 56 = .ok (.iload_n 3, 1) := by decide +kernel
theorem dX11_mendFrom_57 : decode cX11_mendFrom 57 = .ok (.iconst 1, 1) := by decide +kernel
theorem dX11_mendFrom_58 : decode cX11_mendFrom 58 = .ok (.iadd, 1) := by decide +kernel
theorem dX11_mendFrom_59 : decode cX11_mendFrom 59 = .ok (.bipush 16, 2) := by decide +kernel
theorem dX11_mendFrom_61 : decode cX11_mendFrom 61 = .ok (.irem, 1) := by decide +kernel
theorem dX11_mendFrom_62 : decode cX11_mendFrom 62 = .ok (.istore_n 3, 1) := by decide +kernel
theorem dX11_mendFrom_63 : decode cX11_mendFrom 63 = .ok (.aload_n 0, 1) := by decide +kernel
theorem dX11_mendFrom_64 : decode cX11_mendFrom 64 = .ok (.getfield 7, 3) := by decide +kernel
theorem dX11_mendFrom_67 : decode cX11_mendFrom 67 = .ok (.bipush 32, 2) := by decide +kernel
theorem dX11_mendFrom_69 : decode cX11_mendFrom 69 = .ok (.iaload, 1) := by decide +kernel
theorem dX11_mendFrom_70 : decode cX11_mendFrom 70 = .ok (.iload_n 3, 1) := by decide +kernel
theorem dX11_mendFrom_71 : decode cX11_mendFrom 71 = .ok (.invokestatic 123, 3) := by decide +kernel
theorem dX11_mendFrom_74 : decode cX11_mendFrom 74 = .ok (.ifCond .ne 7, 3) := by decide +kernel
theorem dX11_mendFrom_77 : decode cX11_mendFrom 77 = .ok (.iconst 1, 1) := by decide +kernel
theorem dX11_mendFrom_78 : decode cX11_mendFrom 78 = .ok (.goto 4, 3) := by decide +kernel
theorem dX11_mendFrom_81 : decode cX11_mendFrom 81 = .ok (.iconst 0, 1) := by decide +kernel
theorem dX11_mendFrom_82 : decode cX11_mendFrom 82 = .ok (.istore 4, 2) := by decide +kernel
theorem dX11_mendFrom_84 : decode cX11_mendFrom 84 = .ok (.goto (-79), 3) := by decide +kernel
theorem dX11_mendFrom_87 : decode cX11_mendFrom 87 = .ok (.return_, 1) := by decide +kernel
theorem dX11_doDeed_0 : decode cX11_doDeed 0 = .ok (.aload_n 0, 1) := by decide +kernel
theorem dX11_doDeed_1 : decode cX11_doDeed 1 = .ok (.getfield 7, 3) := by decide +kernel
theorem dX11_doDeed_4 : decode cX11_doDeed 4 = .ok (.iload_n 1, 1) := by decide +kernel
theorem dX11_doDeed_5 : decode cX11_doDeed 5 = .ok (.iconst 1, 1) := by decide +kernel
theorem dX11_doDeed_6 : decode cX11_doDeed 6 = .ok (.iadd, 1) := by decide +kernel
theorem dX11_doDeed_7 : decode cX11_doDeed 7 = .ok (.iaload, 1) := by decide +kernel
theorem dX11_doDeed_8 : decode cX11_doDeed 8 = .ok (.istore_n 2, 1) := by decide +kernel
theorem dX11_doDeed_9 : decode cX11_doDeed 9 = .ok (.aload_n 0, 1) := by decide +kernel
theorem dX11_doDeed_10 : decode cX11_doDeed 10 = .ok (.getfield 7, 3) := by decide +kernel
theorem dX11_doDeed_13 : decode cX11_doDeed 13 = .ok (.iload_n 1, 1) := by decide +kernel
theorem dX11_doDeed_14 : decode cX11_doDeed 14 = .ok (.iconst 2, 1) := by decide +kernel
theorem dX11_doDeed_15 : decode cX11_doDeed 15 = .ok (.iadd, 1) := by decide +kernel
theorem dX11_doDeed_16 : decode cX11_doDeed 16 = .ok (.iaload, 1) := by decide +kernel
theorem dX11_doDeed_17 : decode cX11_doDeed 17 = .ok (.istore_n 3, 1) := by decide +kernel
theorem dX11_doDeed_18 : decode cX11_doDeed 18 = .ok (.aload_n 0, 1) := by decide +kernel
theorem dX11_doDeed_19 : decode cX11_doDeed 19 = .ok (.getfield 7, 3) := by decide +kernel
theorem dX11_doDeed_22 : decode cX11_doDeed 22 = .ok (.iload_n 1, 1) := by decide +kernel
theorem dX11_doDeed_23 : decode cX11_doDeed 23 = .ok (.iaload, 1) := by decide +kernel
theorem dX11_doDeed_24 : decode cX11_doDeed 24 = .ok (.tableswitch 82 0 3 #[32, 40, 65, 74], 32) := by decide +kernel
theorem dX11_doDeed_56 : decode cX11_doDeed 56 = .ok (.aload_n 0, 1) := by decide +kernel
theorem dX11_doDeed_57 : decode cX11_doDeed 57 = .ok (.iload_n 2, 1) := by decide +kernel
theorem dX11_doDeed_58 : decode cX11_doDeed 58 = .ok (.invokevirtual 175, 3) := by decide +kernel
theorem dX11_doDeed_61 : decode cX11_doDeed 61 = .ok (.goto 79, 3) := by decide +kernel
theorem dX11_doDeed_64 : decode cX11_doDeed 64 = .ok (.aload_n 0, 1) := by decide +kernel
theorem dX11_doDeed_65 : decode cX11_doDeed 65 = .ok (.iload_n 2, 1) := by decide +kernel
theorem dX11_doDeed_66 : decode cX11_doDeed 66 = .ok (.iload_n 3, 1) := by decide +kernel
theorem dX11_doDeed_67 : decode cX11_doDeed 67 = .ok (.aload_n 0, 1) := by decide +kernel
theorem dX11_doDeed_68 : decode cX11_doDeed 68 = .ok (.getfield 7, 3) := by decide +kernel
theorem dX11_doDeed_71 : decode cX11_doDeed 71 = .ok (.iload_n 1, 1) := by decide +kernel
theorem dX11_doDeed_72 : decode cX11_doDeed 72 = .ok (.iconst 3, 1) := by decide +kernel
theorem dX11_doDeed_73 : decode cX11_doDeed 73 = .ok (.iadd, 1) := by decide +kernel
theorem dX11_doDeed_74 : decode cX11_doDeed 74 = .ok (.iaload, 1) := by decide +kernel
theorem dX11_doDeed_75 : decode cX11_doDeed 75 = .ok (.aload_n 0, 1) := by decide +kernel
theorem dX11_doDeed_76 : decode cX11_doDeed 76 = .ok (.getfield 7, 3) := by decide +kernel
theorem dX11_doDeed_79 : decode cX11_doDeed 79 = .ok (.iload_n 1, 1) := by decide +kernel
theorem dX11_doDeed_80 : decode cX11_doDeed 80 = .ok (.iconst 4, 1) := by decide +kernel
theorem dX11_doDeed_81 : decode cX11_doDeed 81 = .ok (.iadd, 1) := by decide +kernel
theorem dX11_doDeed_82 : decode cX11_doDeed 82 = .ok (.iaload, 1) := by decide +kernel
theorem dX11_doDeed_83 : decode cX11_doDeed 83 = .ok (.invokevirtual 160, 3) := by decide +kernel
theorem dX11_doDeed_86 : decode cX11_doDeed 86 = .ok (.goto 54, 3) := by decide +kernel
theorem dX11_doDeed_89 : decode cX11_doDeed 89 = .ok (.aload_n 0, 1) := by decide +kernel
theorem dX11_doDeed_90 : decode cX11_doDeed 90 = .ok (.iload_n 2, 1) := by decide +kernel
theorem dX11_doDeed_91 : decode cX11_doDeed 91 = .ok (.iload_n 3, 1) := by decide +kernel
theorem dX11_doDeed_92 : decode cX11_doDeed 92 = .ok (.invokevirtual 178, 3) := by decide +kernel
theorem dX11_doDeed_95 : decode cX11_doDeed 95 = .ok (.goto 45, 3) := by decide +kernel
theorem dX11_doDeed_98 : decode cX11_doDeed 98 = .ok (.aload_n 0, 1) := by decide +kernel
theorem dX11_doDeed_99 : decode cX11_doDeed 99 = .ok (.iload_n 2, 1) := by decide +kernel
theorem dX11_doDeed_100 : decode cX11_doDeed 100 = .ok (.invokevirtual 181, 3) := by decide +kernel
theorem dX11_doDeed_103 : decode cX11_doDeed 103 = .ok (.goto 37, 3) := by decide +kernel
theorem dX11_doDeed_106 : decode cX11_doDeed 106 = .ok (.aload_n 0, 1) := by decide +kernel
theorem dX11_doDeed_107 : decode cX11_doDeed 107 = .ok (.getfield 36, 3) := by decide +kernel
theorem dX11_doDeed_110 : decode cX11_doDeed 110 = .ok (.bipush 16, 2) := by decide +kernel
theorem dX11_doDeed_112 : decode cX11_doDeed 112 = .ok (.iload_n 2, 1) := by decide +kernel
theorem dX11_doDeed_113 : decode cX11_doDeed 113 = .ok (.imul, 1) := by decide +kernel
theorem dX11_doDeed_114 : decode cX11_doDeed 114 = .ok (.iload_n 3, 1) := by decide +kernel
theorem dX11_doDeed_115 : decode cX11_doDeed 115 = .ok (.iadd, 1) := by decide +kernel
theorem dX11_doDeed_116 : decode cX11_doDeed 116 = .ok (.aload_n 0, 1) := by decide +kernel
theorem dX11_doDeed_117 : decode cX11_doDeed 117 = .ok (.getfield 36, 3) := by decide +kernel
theorem dX11_doDeed_120 : decode cX11_doDeed 120 = .ok (.bipush 16, 2) := by decide +kernel
theorem dX11_doDeed_122 : decode cX11_doDeed 122 = .ok (.iload_n 2, 1) := by decide +kernel
theorem dX11_doDeed_123 : decode cX11_doDeed 123 = .ok (.imul, 1) := by decide +kernel
theorem dX11_doDeed_124 : decode cX11_doDeed 124 = .ok (.iload_n 3, 1) := by decide +kernel
theorem dX11_doDeed_125 : decode cX11_doDeed 125 = .ok (.iadd, 1) := by decide +kernel
theorem dX11_doDeed_126 : decode cX11_doDeed 126 = .ok (.iaload, 1) := by decide +kernel
theorem dX11_doDeed_127 : decode cX11_doDeed 127 = .ok (.aload_n 0, 1) := by decide +kernel
theorem dX11_doDeed_128 : decode cX11_doDeed 128 = .ok (.getfield 7, 3) := by decide +kernel
theorem dX11_doDeed_131 : decode cX11_doDeed 131 = .ok (.iload_n 1, 1) := by decide +kernel
theorem dX11_doDeed_132 : decode cX11_doDeed 132 = .ok (.iconst 3, 1) := by decide +kernel
theorem dX11_doDeed_133 : decode cX11_doDeed 133 = .ok (.iadd, 1) := by decide +kernel
theorem dX11_doDeed_134 : decode cX11_doDeed 134 = .ok (.iaload, 1) := by decide +kernel
theorem dX11_doDeed_135 : decode cX11_doDeed 135 = .ok (.iadd, 1) := by decide +kernel
theorem dX11_doDeed_136 : decode cX11_doDeed 136 = .ok (.bipush 97, 2) := by decide +kernel
theorem dX11_doDeed_138 : decode cX11_doDeed 138 = .ok (.irem, 1) := by decide +kernel
theorem dX11_doDeed_139 : decode cX11_doDeed 139 = .ok (.iastore, 1) := by decide +kernel
theorem dX11_doDeed_140 : decode cX11_doDeed 140 = .ok (.return_, 1) := by decide +kernel
theorem dX11_doStage_0 : decode cX11_doStage 0 = .ok (.aload_n 0, 1) := by decide +kernel
theorem dX11_doStage_1 : decode cX11_doStage 1 = .ok (.getfield 7, 3) := by decide +kernel
theorem dX11_doStage_4 : decode cX11_doStage 4 = .ok (.iload_n 1, 1) := by decide +kernel
theorem dX11_doStage_5 : decode cX11_doStage 5 = .ok (.iaload, 1) := by decide +kernel
theorem dX11_doStage_6 : decode cX11_doStage 6 = .ok (.tableswitch 109 0 3 #[30, 45, 84, 102], 30) := by decide +kernel
theorem dX11_doStage_36 : decode cX11_doStage 36 = .ok (.aload_n 0, 1) := by decide +kernel
theorem dX11_doStage_37 : decode cX11_doStage 37 = .ok (.aload_n 0, 1) := by decide +kernel
theorem dX11_doStage_38 : decode cX11_doStage 38 = .ok (.getfield 7, 3) := by decide +kernel
theorem dX11_doStage_41 : decode cX11_doStage 41 = .ok (.iload_n 1, 1) := by decide +kernel
theorem dX11_doStage_42 : decode cX11_doStage 42 = .ok (.iconst 1, 1) := by decide +kernel
theorem dX11_doStage_43 : decode cX11_doStage 43 = .ok (.iadd, 1) := by decide +kernel
theorem dX11_doStage_44 : decode cX11_doStage 44 = .ok (.iaload, 1) := by decide +kernel
theorem dX11_doStage_45 : decode cX11_doStage 45 = .ok (.invokevirtual 184, 3) := by decide +kernel
theorem dX11_doStage_48 : decode cX11_doStage 48 = .ok (.goto 71, 3) := by decide +kernel
theorem dX11_doStage_51 : decode cX11_doStage 51 = .ok (.aload_n 0, 1) := by decide +kernel
theorem dX11_doStage_52 : decode cX11_doStage 52 = .ok (.aload_n 0, 1) := by decide +kernel
theorem dX11_doStage_53 : decode cX11_doStage 53 = .ok (.getfield 7, 3) := by decide +kernel
theorem dX11_doStage_56 : decode cX11_doStage 56 = .ok (.iload_n 1, 1) := by decide +kernel
theorem dX11_doStage_57 : decode cX11_doStage 57 = .ok (.iconst 1, 1) := by decide +kernel
theorem dX11_doStage_58 : decode cX11_doStage 58 = .ok (.iadd, 1) := by decide +kernel
theorem dX11_doStage_59 : decode cX11_doStage 59 = .ok (.iaload, 1) := by decide +kernel
theorem dX11_doStage_60 : decode cX11_doStage 60 = .ok (.aload_n 0, 1) := by decide +kernel
theorem dX11_doStage_61 : decode cX11_doStage 61 = .ok (.getfield 7, 3) := by decide +kernel
theorem dX11_doStage_64 : decode cX11_doStage 64 = .ok (.iload_n 1, 1) := by decide +kernel
theorem dX11_doStage_65 : decode cX11_doStage 65 = .ok (.iconst 2, 1) := by decide +kernel
theorem dX11_doStage_66 : decode cX11_doStage 66 = .ok (.iadd, 1) := by decide +kernel
theorem dX11_doStage_67 : decode cX11_doStage 67 = .ok (.iaload, 1) := by decide +kernel
theorem dX11_doStage_68 : decode cX11_doStage 68 = .ok (.aload_n 0, 1) := by decide +kernel
theorem dX11_doStage_69 : decode cX11_doStage 69 = .ok (.getfield 7, 3) := by decide +kernel
theorem dX11_doStage_72 : decode cX11_doStage 72 = .ok (.iload_n 1, 1) := by decide +kernel
theorem dX11_doStage_73 : decode cX11_doStage 73 = .ok (.iconst 3, 1) := by decide +kernel
theorem dX11_doStage_74 : decode cX11_doStage 74 = .ok (.iadd, 1) := by decide +kernel
theorem dX11_doStage_75 : decode cX11_doStage 75 = .ok (.iaload, 1) := by decide +kernel
theorem dX11_doStage_76 : decode cX11_doStage 76 = .ok (.aload_n 0, 1) := by decide +kernel
theorem dX11_doStage_77 : decode cX11_doStage 77 = .ok (.getfield 7, 3) := by decide +kernel
theorem dX11_doStage_80 : decode cX11_doStage 80 = .ok (.iload_n 1, 1) := by decide +kernel
theorem dX11_doStage_81 : decode cX11_doStage 81 = .ok (.iconst 4, 1) := by decide +kernel
theorem dX11_doStage_82 : decode cX11_doStage 82 = .ok (.iadd, 1) := by decide +kernel
theorem dX11_doStage_83 : decode cX11_doStage 83 = .ok (.iaload, 1) := by decide +kernel
theorem dX11_doStage_84 : decode cX11_doStage 84 = .ok (.invokevirtual 187, 3) := by decide +kernel
theorem dX11_doStage_87 : decode cX11_doStage 87 = .ok (.goto 32, 3) := by decide +kernel
theorem dX11_doStage_90 : decode cX11_doStage 90 = .ok (.aload_n 0, 1) := by decide +kernel
theorem dX11_doStage_91 : decode cX11_doStage 91 = .ok (.bipush 16, 2) := by decide +kernel
theorem dX11_doStage_93 : decode cX11_doStage 93 = .ok (.aload_n 0, 1) := by decide +kernel
theorem dX11_doStage_94 : decode cX11_doStage 94 = .ok (.getfield 7, 3) := by decide +kernel
theorem dX11_doStage_97 : decode cX11_doStage 97 = .ok (.iload_n 1, 1) := by decide +kernel
theorem dX11_doStage_98 : decode cX11_doStage 98 = .ok (.iconst 1, 1) := by decide +kernel
theorem dX11_doStage_99 : decode cX11_doStage 99 = .ok (.iadd, 1) := by decide +kernel
theorem dX11_doStage_100 : decode cX11_doStage 100 = .ok (.iaload, 1) := by decide +kernel
theorem dX11_doStage_101 : decode cX11_doStage 101 = .ok (.isub, 1) := by decide +kernel
theorem dX11_doStage_102 : decode cX11_doStage 102 = .ok (.invokevirtual 181, 3) := by decide +kernel
theorem dX11_doStage_105 : decode cX11_doStage 105 = .ok (.goto 14, 3) := by decide +kernel
theorem dX11_doStage_108 : decode cX11_doStage 108 = .ok (.aload_n 0, 1) := by decide +kernel
theorem dX11_doStage_109 : decode cX11_doStage 109 = .ok (.invokevirtual 190, 3) := by decide +kernel
theorem dX11_doStage_112 : decode cX11_doStage 112 = .ok (.goto 7, 3) := by decide +kernel
theorem dX11_doStage_115 : decode cX11_doStage 115 = .ok (.aload_n 0, 1) := by decide +kernel
theorem dX11_doStage_116 : decode cX11_doStage 116 = .ok (.invokevirtual 193, 3) := by decide +kernel
theorem dX11_doStage_119 : decode cX11_doStage 119 = .ok (.return_, 1) := by decide +kernel
theorem dX11_layAir_0 : decode cX11_layAir 0 = .ok (.iconst 0, 1) := by decide +kernel
theorem dX11_layAir_1 : decode cX11_layAir 1 = .ok (.istore_n 1, 1) := by decide +kernel
theorem dX11_layAir_2 : decode cX11_layAir 2 = .ok (.iload_n 1, 1) := by decide +kernel
theorem dX11_layAir_3 : decode cX11_layAir 3 = .ok (.bipush 32, 2) := by decide +kernel
theorem dX11_layAir_5 : decode cX11_layAir 5 = .ok (.if_icmp .ge 24, 3) := by decide +kernel
theorem dX11_layAir_8 : decode cX11_layAir 8 = .ok (.aload_n 0, 1) := by decide +kernel
theorem dX11_layAir_9 : decode cX11_layAir 9 = .ok (.getfield 36, 3) := by decide +kernel
theorem dX11_layAir_12 : decode cX11_layAir 12 = .ok (.iload_n 1, 1) := by decide +kernel
theorem dX11_layAir_13 : decode cX11_layAir 13 = .ok (.aload_n 0, 1) := by decide +kernel
theorem dX11_layAir_14 : decode cX11_layAir 14 = .ok (.getfield 7, 3) := by decide +kernel
theorem dX11_layAir_17 : decode cX11_layAir 17 = .ok (.iload_n 1, 1) := by decide +kernel
theorem dX11_layAir_18 : decode cX11_layAir 18 = .ok (.iaload, 1) := by decide +kernel
theorem dX11_layAir_19 : decode cX11_layAir 19 = .ok (.invokestatic 67, 3) := by decide +kernel
theorem dX11_layAir_22 : decode cX11_layAir 22 = .ok (.iastore, 1) := by decide +kernel
theorem dX11_layAir_23 : decode cX11_layAir 23 = .ok (.iinc 1 1, 3) := by decide +kernel
theorem dX11_layAir_26 : decode cX11_layAir 26 = .ok (.goto (-24), 3) := by decide +kernel
theorem dX11_layAir_29 : decode cX11_layAir 29 = .ok (.iconst 0, 1) := by decide +kernel
theorem dX11_layAir_30 : decode cX11_layAir 30 = .ok (.istore_n 1, 1) := by decide +kernel
theorem dX11_layAir_31 : decode cX11_layAir 31 = .ok (.iload_n 1, 1) := by decide +kernel
theorem dX11_layAir_32 : decode cX11_layAir 32 = .ok (.aload_n 0, 1) := by decide +kernel
theorem dX11_layAir_33 : decode cX11_layAir 33 = .ok (.getfield 7, 3) := by decide +kernel
theorem dX11_layAir_36 : decode cX11_layAir 36 = .ok (.bipush 33, 2) := by decide +kernel
theorem dX11_layAir_38 : decode cX11_layAir 38 = .ok (.iaload, 1) := by decide +kernel
theorem dX11_layAir_39 : decode cX11_layAir 39 = .ok (.if_icmp .ge 19, 3) := by decide +kernel
theorem dX11_layAir_42 : decode cX11_layAir 42 = .ok (.aload_n 0, 1) := by decide +kernel
theorem dX11_layAir_43 : decode cX11_layAir 43 = .ok (.bipush 34, 2) := by decide +kernel
theorem dX11_layAir_45 : decode cX11_layAir 45 = .ok (.iconst 5, 1) := by decide +kernel
theorem dX11_layAir_46 : decode cX11_layAir 46 = .ok (.iload_n 1, 1) := by decide +kernel
theorem dX11_layAir_47 : decode cX11_layAir 47 = .ok (.imul, 1) := by decide +kernel
theorem dX11_layAir_48 : decode cX11_layAir 48 = .ok (.iadd, 1) := by decide +kernel
theorem dX11_layAir_49 : decode cX11_layAir 49 = .ok (.invokevirtual 196, 3) := by decide +kernel
theorem dX11_layAir_52 : decode cX11_layAir 52 = .ok (.iinc 1 1, 3) := by decide +kernel
theorem dX11_layAir_55 : decode cX11_layAir 55 = .ok (.goto (-24), 3) := by decide +kernel
theorem dX11_layAir_58 : decode cX11_layAir 58 = .ok (.return_, 1) := by decide +kernel
theorem dX11_goThrough_0 : decode cX11_goThrough 0 = .ok (.iconst 0, 1) := by decide +kernel
theorem dX11_goThrough_1 : decode cX11_goThrough 1 = .ok (.istore_n 2, 1) := by decide +kernel
theorem dX11_goThrough_2 : decode cX11_goThrough 2 = .ok (.iload_n 2, 1) := by decide +kernel
theorem dX11_goThrough_3 : decode cX11_goThrough 3 = .ok (.iload_n 1, 1) := by decide +kernel
theorem dX11_goThrough_4 : decode cX11_goThrough 4 = .ok (.if_icmp .ge 19, 3) := by decide +kernel
theorem dX11_goThrough_7 : decode cX11_goThrough 7 = .ok (.aload_n 0, 1) := by decide +kernel
theorem dX11_goThrough_8 : decode cX11_goThrough 8 = .ok (.bipush 65, 2) := by decide +kernel
theorem dX11_goThrough_10 : decode cX11_goThrough 10 = .ok (.iconst 5, 1) := by decide +kernel
theorem dX11_goThrough_11 : decode cX11_goThrough 11 = .ok (.iload_n 2, 1) := by decide +kernel
theorem dX11_goThrough_12 : decode cX11_goThrough 12 = .ok (.imul, 1) := by decide +kernel
theorem dX11_goThrough_13 : decode cX11_goThrough 13 = .ok (.iadd, 1) := by decide +kernel
theorem dX11_goThrough_14 : decode cX11_goThrough 14 = .ok (.invokevirtual 199, 3) := by decide +kernel
theorem dX11_goThrough_17 : decode cX11_goThrough 17 = .ok (.iinc 2 1, 3) := by decide +kernel
theorem dX11_goThrough_20 : decode cX11_goThrough 20 = .ok (.goto (-18), 3) := by decide +kernel
theorem dX11_goThrough_23 : decode cX11_goThrough 23 = .ok (.return_, 1) := by decide +kernel
theorem dX11_layReceived_0 : decode cX11_layReceived 0 = .ok (.aload_n 0, 1) := by decide +kernel
theorem dX11_layReceived_1 : decode cX11_layReceived 1 = .ok (.invokevirtual 202, 3) := by decide +kernel
theorem dX11_layReceived_4 : decode cX11_layReceived 4 = .ok (.aload_n 0, 1) := by decide +kernel
theorem dX11_layReceived_5 : decode cX11_layReceived 5 = .ok (.aload_n 0, 1) := by decide +kernel
theorem dX11_layReceived_6 : decode cX11_layReceived 6 = .ok (.getfield 7, 3) := by decide +kernel
theorem dX11_layReceived_9 : decode cX11_layReceived 9 = .ok (.bipush 64, 2) := by decide +kernel
theorem dX11_layReceived_11 : decode cX11_layReceived 11 = .ok (.iaload, 1) := by decide +kernel
theorem dX11_layReceived_12 : decode cX11_layReceived 12 = .ok (.invokevirtual 205, 3) := by decide +kernel
theorem dX11_layReceived_15 : decode cX11_layReceived 15 = .ok (.return_, 1) := by decide +kernel
theorem dX11_wrongNow_0 : decode cX11_wrongNow 0 = .ok (.iconst 0, 1) := by decide +kernel
theorem dX11_wrongNow_1 : decode cX11_wrongNow 1 = .ok (.istore_n 1, 1) := by decide +kernel
theorem dX11_wrongNow_2 : decode cX11_wrongNow 2 = .ok (.iconst 0, 1) := by decide +kernel
theorem dX11_wrongNow_3 : decode cX11_wrongNow 3 = .ok (.istore_n 2, 1) := by decide +kernel
theorem dX11_wrongNow_4 : decode cX11_wrongNow 4 = .ok (.iload_n 2, 1) := by decide +kernel
theorem dX11_wrongNow_5 : decode cX11_wrongNow 5 = .ok (.bipush 32, 2) := by decide +kernel
theorem dX11_wrongNow_7 : decode cX11_wrongNow 7 = .ok (.if_icmp .ge 35, 3) := by decide +kernel
theorem dX11_wrongNow_10 : decode cX11_wrongNow 10 = .ok (.iload_n 1, 1) := by decide +kernel
theorem dX11_wrongNow_11 : decode cX11_wrongNow 11 = .ok (.aload_n 0, 1) := by decide +kernel
theorem dX11_wrongNow_12 : decode cX11_wrongNow 12 = .ok (.getfield 36, 3) := by decide +kernel
theorem dX11_wrongNow_15 : decode cX11_wrongNow 15 = .ok (.iload_n 2, 1) := by decide +kernel
theorem dX11_wrongNow_16 : decode cX11_wrongNow 16 = .ok (.iaload, 1) := by decide +kernel
theorem dX11_wrongNow_17 : decode cX11_wrongNow 17 = .ok (.invokestatic 168, 3) := by decide +kernel
theorem dX11_wrongNow_20 : decode cX11_wrongNow 20 = .ok (.aload_n 0, 1) := by decide +kernel
theorem dX11_wrongNow_21 : decode cX11_wrongNow 21 = .ok (.getfield 7, 3) := by decide +kernel
theorem dX11_wrongNow_24 : decode cX11_wrongNow 24 = .ok (.iload_n 2, 1) := by decide +kernel
theorem dX11_wrongNow_25 : decode cX11_wrongNow 25 = .ok (.iaload, 1) := by decide +kernel
theorem dX11_wrongNow_26 : decode cX11_wrongNow 26 = .ok (.if_icmp .ne 7, 3) := by decide +kernel
theorem dX11_wrongNow_29 : decode cX11_wrongNow 29 = .ok (.iconst 0, 1) := by decide +kernel
theorem dX11_wrongNow_30 : decode cX11_wrongNow 30 = .ok (.goto 4, 3) := by decide +kernel
theorem dX11_wrongNow_33 : decode cX11_wrongNow 33 = .ok (.iconst 1, 1) := by decide +kernel
theorem dX11_wrongNow_34 : decode cX11_wrongNow 34 = .ok (.iadd, 1) := by decide +kernel
theorem dX11_wrongNow_35 : decode cX11_wrongNow 35 = .ok (.istore_n 1, 1) := by decide +kernel
theorem dX11_wrongNow_36 : decode cX11_wrongNow 36 = .ok (.iinc 2 1, 3) := by decide +kernel
theorem dX11_wrongNow_39 : decode cX11_wrongNow 39 = .ok (.goto (-35), 3) := by decide +kernel
theorem dX11_wrongNow_42 : decode cX11_wrongNow 42 = .ok (.iload_n 1, 1) := by decide +kernel
theorem dX11_wrongNow_43 : decode cX11_wrongNow 43 = .ok (.ireturn, 1) := by decide +kernel
theorem dX11_wrongAtMarks_0 : decode cX11_wrongAtMarks 0 = .ok (.iconst 0, 1) := by decide +kernel
theorem dX11_wrongAtMarks_1 : decode cX11_wrongAtMarks 1 = .ok (.istore_n 1, 1) := by decide +kernel
theorem dX11_wrongAtMarks_2 : decode cX11_wrongAtMarks 2 = .ok (.iconst 0, 1) := by decide +kernel
theorem dX11_wrongAtMarks_3 : decode cX11_wrongAtMarks 3 = .ok (.istore_n 2, 1) := by decide +kernel
theorem dX11_wrongAtMarks_4 : decode cX11_wrongAtMarks 4 = .ok (.iload_n 2, 1) := by decide +kernel
theorem dX11_wrongAtMarks_5 : decode cX11_wrongAtMarks 5 = .ok (.bipush 32, 2) := by decide +kernel
theorem dX11_wrongAtMarks_7 : decode cX11_wrongAtMarks 7 = .ok (.if_icmp .ge 52, 3) := by decide +kernel
theorem dX11_wrongAtMarks_10 : decode cX11_wrongAtMarks 10 = .ok (.iload_n 1, 1) := by decide +kernel
theorem dX11_wrongAtMarks_11 : decode cX11_wrongAtMarks 11 = .ok (.aload_n 0, 1) := by decide +kernel
theorem dX11_wrongAtMarks_12 : decode cX11_wrongAtMarks 12 = .ok (.getfield 7, 3) := by decide +kernel
theorem dX11_wrongAtMarks_15 : decode cX11_wrongAtMarks 15 = .ok (.bipush 32, 2) := by decide +kernel
theorem dX11_wrongAtMarks_17 : decode cX11_wrongAtMarks 17 = .ok (.iaload, 1) := by decide +kernel
theorem dX11_wrongAtMarks_18 : decode cX11_wrongAtMarks 18 = .ok (.iload_n 2, 1) := by decide +kernel
theorem dX11_wrongAtMarks_19 : decode cX11_wrongAtMarks 19 = .ok (.bipush 16, 2) := by decide +kernel
theorem dX11_wrongAtMarks_21 : decode cX11_wrongAtMarks 21 = .ok (.irem, 1) := by decide +kernel
theorem dX11_wrongAtMarks_22 : decode cX11_wrongAtMarks 22 = .ok (.invokestatic 123, 3) := by decide +kernel
theorem dX11_wrongAtMarks_25 : decode cX11_wrongAtMarks 25 = .ok (.ifCond .eq 25, 3) := by decide +kernel
theorem dX11_wrongAtMarks_28 : decode cX11_wrongAtMarks 28 = .ok (.aload_n 0, 1) := by decide +kernel
theorem dX11_wrongAtMarks_29 : decode cX11_wrongAtMarks 29 = .ok (.getfield 36, 3) := by decide +kernel
theorem dX11_wrongAtMarks_32 : decode cX11_wrongAtMarks 32 = .ok (.iload_n 2, 1) := by decide +kernel
theorem dX11_wrongAtMarks_33 : decode cX11_wrongAtMarks 33 = .ok (.iaload, 1) := by decide +kernel
theorem dX11_wrongAtMarks_34 : decode cX11_wrongAtMarks 34 = .ok (.invokestatic 168, 3) := by decide +kernel
theorem dX11_wrongAtMarks_37 : decode cX11_wrongAtMarks 37 = .ok (.aload_n 0, 1) := by decide +kernel
theorem dX11_wrongAtMarks_38 : decode cX11_wrongAtMarks 38 = .ok (.getfield 7, 3) := by decide +kernel
theorem dX11_wrongAtMarks_41 : decode cX11_wrongAtMarks 41 = .ok (.iload_n 2, 1) := by decide +kernel
theorem dX11_wrongAtMarks_42 : decode cX11_wrongAtMarks 42 = .ok (.iaload, 1) := by decide +kernel
theorem dX11_wrongAtMarks_43 : decode cX11_wrongAtMarks 43 = .ok (.if_icmp .eq 7, 3) := by decide +kernel
theorem dX11_wrongAtMarks_46 : decode cX11_wrongAtMarks 46 = .ok (.iconst 1, 1) := by decide +kernel
theorem dX11_wrongAtMarks_47 : decode cX11_wrongAtMarks 47 = .ok (.goto 4, 3) := by decide +kernel
theorem dX11_wrongAtMarks_50 : decode cX11_wrongAtMarks 50 = .ok (.iconst 0, 1) := by decide +kernel
theorem dX11_wrongAtMarks_51 : decode cX11_wrongAtMarks 51 = .ok (.iadd, 1) := by decide +kernel
theorem dX11_wrongAtMarks_52 : decode cX11_wrongAtMarks 52 = .ok (.istore_n 1, 1) := by decide +kernel
theorem dX11_wrongAtMarks_53 : decode cX11_wrongAtMarks 53 = .ok (.iinc 2 1, 3) := by decide +kernel
theorem dX11_wrongAtMarks_56 : decode cX11_wrongAtMarks 56 = .ok (.goto (-52), 3) := by decide +kernel
theorem dX11_wrongAtMarks_59 : decode cX11_wrongAtMarks 59 = .ok (.iload_n 1, 1) := by decide +kernel
theorem dX11_wrongAtMarks_60 : decode cX11_wrongAtMarks 60 = .ok (.ireturn, 1) := by decide +kernel
theorem dX11_wrongReceived_0 : decode cX11_wrongReceived 0 = .ok (.aload_n 0, 1) := by decide +kernel
theorem dX11_wrongReceived_1 : decode cX11_wrongReceived 1 = .ok (.invokevirtual 208, 3) := by decide +kernel
theorem dX11_wrongReceived_4 : decode cX11_wrongReceived 4 = .ok (.aload_n 0, 1) := by decide +kernel
theorem dX11_wrongReceived_5 : decode cX11_wrongReceived 5 = .ok (.invokevirtual 211, 3) := by decide +kernel
theorem dX11_wrongReceived_8 : decode cX11_wrongReceived 8 = .ok (.ireturn, 1) := by decide +kernel
theorem dX11_stages_0 : decode cX11_stages 0 = .ok (.iload_n 1, 1) := by decide +kernel
theorem dX11_stages_1 : decode cX11_stages 1 = .ok (.iload_n 2, 1) := by decide +kernel
theorem dX11_stages_2 : decode cX11_stages 2 = .ok (.iload_n 3, 1) := by decide +kernel
theorem dX11_stages_3 : decode cX11_stages 3 = .ok (.iload 4, 2) := by decide +kernel
theorem dX11_stages_5 : decode cX11_stages 5 = .ok (.iload 5, 2) := by decide +kernel
theorem dX11_stages_7 : decode cX11_stages 7 = .ok (.invokestatic 214, 3) := by decide +kernel
theorem dX11_stages_10 : decode cX11_stages 10 = .ok (.ifCond .ne 5, 3) := by decide +kernel
theorem dX11_stages_13 : decode cX11_stages 13 = .ok (.iconst (-1), 1) := by decide +kernel
theorem dX11_stages_14 : decode cX11_stages 14 = .ok (.ireturn, 1) := by decide +kernel
theorem dX11_stages_15 : decode cX11_stages 15 = .ok (.aload_n 0, 1) := by decide +kernel
theorem dX11_stages_16 : decode cX11_stages 16 = .ok (.getfield 7, 3) := by decide +kernel
theorem dX11_stages_19 : decode cX11_stages 19 = .ok (.bipush 64, 2) := by decide +kernel
theorem dX11_stages_21 : decode cX11_stages 21 = .ok (.iaload, 1) := by decide +kernel
theorem dX11_stages_22 : decode cX11_stages 22 = .ok (.iconst 4, 1) := by decide +kernel
theorem dX11_stages_23 : decode cX11_stages 23 = .ok (.if_icmp .ne 6, 3) := by decide +kernel
theorem dX11_stages_26 : decode cX11_stages 26 = .ok (.bipush (-3), 2) := by decide +kernel
theorem dX11_stages_28 : decode cX11_stages 28 = .ok (.ireturn, 1) := by decide +kernel
theorem dX11_stages_29 : decode cX11_stages 29 = .ok (.aload_n 0, 1) := by decide +kernel
theorem dX11_stages_30 : decode cX11_stages 30 = .ok (.invokevirtual 140, 3) := by decide +kernel
theorem dX11_stages_33 : decode cX11_stages 33 = .ok (.aload_n 0, 1) := by decide +kernel
theorem dX11_stages_34 : decode cX11_stages 34 = .ok (.bipush 65, 2) := by decide +kernel
theorem dX11_stages_36 : decode cX11_stages 36 = .ok (.iconst 5, 1) := by decide +kernel
theorem dX11_stages_37 : decode cX11_stages 37 = .ok (.aload_n 0, 1) := by decide +kernel
theorem dX11_stages_38 : decode cX11_stages 38 = .ok (.getfield 7, 3) := by decide +kernel
theorem dX11_stages_41 : decode cX11_stages 41 = .ok (.bipush 64, 2) := by decide +kernel
theorem dX11_stages_43 : decode cX11_stages 43 = .ok (.iaload, 1) := by decide +kernel
theorem dX11_stages_44 : decode cX11_stages 44 = .ok (.imul, 1) := by decide +kernel
theorem dX11_stages_45 : decode cX11_stages 45 = .ok (.iadd, 1) := by decide +kernel
theorem dX11_stages_46 : decode cX11_stages 46 = .ok (.iload_n 1, 1) := by decide +kernel
theorem dX11_stages_47 : decode cX11_stages 47 = .ok (.iload_n 2, 1) := by decide +kernel
theorem dX11_stages_48 : decode cX11_stages 48 = .ok (.iload_n 3, 1) := by decide +kernel
theorem dX11_stages_49 : decode cX11_stages 49 = .ok (.iload 4, 2) := by decide +kernel
theorem dX11_stages_51 : decode cX11_stages 51 = .ok (.iload 5, 2) := by decide +kernel
theorem dX11_stages_53 : decode cX11_stages 53 = .ok (.invokevirtual 150, 3) := by decide +kernel
theorem dX11_stages_56 : decode cX11_stages 56 = .ok (.aload_n 0, 1) := by decide +kernel
theorem dX11_stages_57 : decode cX11_stages 57 = .ok (.getfield 7, 3) := by decide +kernel
theorem dX11_stages_60 : decode cX11_stages 60 = .ok (.bipush 64, 2) := by decide +kernel
theorem dX11_stages_62 : decode cX11_stages 62 = .ok (.dup2, 1) := by decide +kernel
theorem dX11_stages_63 : decode cX11_stages 63 = .ok (.iaload, 1) := by decide +kernel
theorem dX11_stages_64 : decode cX11_stages 64 = .ok (.iconst 1, 1) := by decide +kernel
theorem dX11_stages_65 : decode cX11_stages 65 = .ok (.iadd, 1) := by decide +kernel
theorem dX11_stages_66 : decode cX11_stages 66 = .ok (.iastore, 1) := by decide +kernel
theorem dX11_stages_67 : decode cX11_stages 67 = .ok (.aload_n 0, 1) := by decide +kernel
theorem dX11_stages_68 : decode cX11_stages 68 = .ok (.getfield 7, 3) := by decide +kernel
theorem dX11_stages_71 : decode cX11_stages 71 = .ok (.bipush 64, 2) := by decide +kernel
theorem dX11_stages_73 : decode cX11_stages 73 = .ok (.iaload, 1) := by decide +kernel
theorem dX11_stages_74 : decode cX11_stages 74 = .ok (.ireturn, 1) := by decide +kernel
theorem dX11_drops_0 : decode cX11_drops 0 = .ok (.iload_n 1, 1) := by decide +kernel
theorem dX11_drops_1 : decode cX11_drops 1 = .ok (.iconst 0, 1) := by decide +kernel
theorem dX11_drops_2 : decode cX11_drops 2 = .ok (.aload_n 0, 1) := by decide +kernel
theorem dX11_drops_3 : decode cX11_drops 3 = .ok (.getfield 7, 3) := by decide +kernel
theorem dX11_drops_6 : decode cX11_drops 6 = .ok (.bipush 64, 2) := by decide +kernel
theorem dX11_drops_8 : decode cX11_drops 8 = .ok (.iaload, 1) := by decide +kernel
theorem dX11_drops_9 : decode cX11_drops 9 = .ok (.iconst 1, 1) := by decide +kernel
theorem dX11_drops_10 : decode cX11_drops 10 = .ok (.isub, 1) := by decide +kernel
theorem dX11_drops_11 : decode cX11_drops 11 = .ok (.invokestatic 82, 3) := by decide +kernel
theorem dX11_drops_14 : decode cX11_drops 14 = .ok (.ifCond .ne 5, 3) := by decide +kernel
theorem dX11_drops_17 : decode cX11_drops 17 = .ok (.iconst (-1), 1) := by decide +kernel
theorem dX11_drops_18 : decode cX11_drops 18 = .ok (.ireturn, 1) := by decide +kernel
theorem dX11_drops_19 : decode cX11_drops 19 = .ok (.aload_n 0, 1) := by decide +kernel
theorem dX11_drops_20 : decode cX11_drops 20 = .ok (.invokevirtual 140, 3) := by decide +kernel
theorem dX11_drops_23 : decode cX11_drops 23 = .ok (.bipush 65, 2) := by decide +kernel
theorem dX11_drops_25 : decode cX11_drops 25 = .ok (.iconst 5, 1) := by decide +kernel
theorem dX11_drops_26 : decode cX11_drops 26 = .ok (.iload_n 1, 1) := by decide +kernel
theorem dX11_drops_27 : decode cX11_drops 27 = .ok (.imul, 1) := by decide +kernel
theorem dX11_drops_28 : decode cX11_drops 28 = .ok (.iadd, 1) := by decide +kernel
theorem dX11_drops_29 : decode cX11_drops 29 = .ok (.istore_n 2, 1) := by decide +kernel
theorem dX11_drops_30 : decode cX11_drops 30 = .ok (.iload_n 2, 1) := by decide +kernel
theorem dX11_drops_31 : decode cX11_drops 31 = .ok (.bipush 80, 2) := by decide +kernel
theorem dX11_drops_33 : decode cX11_drops 33 = .ok (.if_icmp .ge 23, 3) := by decide +kernel
theorem dX11_drops_36 : decode cX11_drops 36 = .ok (.aload_n 0, 1) := by decide +kernel
theorem dX11_drops_37 : decode cX11_drops 37 = .ok (.getfield 7, 3) := by decide +kernel
theorem dX11_drops_40 : decode cX11_drops 40 = .ok (.iload_n 2, 1) := by decide +kernel
theorem dX11_drops_41 : decode cX11_drops 41 = .ok (.aload_n 0, 1) := by decide +kernel
theorem dX11_drops_42 : decode cX11_drops 42 = .ok (.getfield 7, 3) := by decide +kernel
theorem dX11_drops_45 : decode cX11_drops 45 = .ok (.iload_n 2, 1) := by decide +kernel
theorem dX11_drops_46 : decode cX11_drops 46 = .ok (.iconst 5, 1) := by decide +kernel
theorem dX11_drops_47 : decode cX11_drops 47 = .ok (.iadd, 1) := by decide +kernel
theorem dX11_drops_48 : decode cX11_drops 48 = .ok (.iaload, 1) := by decide +kernel
theorem dX11_drops_49 : decode cX11_drops 49 = .ok (.iastore, 1) := by decide +kernel
theorem dX11_drops_50 : decode cX11_drops 50 = .ok (.iinc 2 1, 3) := by decide +kernel
theorem dX11_drops_53 : decode cX11_drops 53 = .ok (.goto (-23), 3) := by decide +kernel
theorem dX11_drops_56 : decode cX11_drops 56 = .ok (.aload_n 0, 1) := by decide +kernel
theorem dX11_drops_57 : decode cX11_drops 57 = .ok (.getfield 7, 3) := by decide +kernel
theorem dX11_drops_60 : decode cX11_drops 60 = .ok (.bipush 64, 2) := by decide +kernel
theorem dX11_drops_62 : decode cX11_drops 62 = .ok (.dup2, 1) := by decide +kernel
theorem dX11_drops_63 : decode cX11_drops 63 = .ok (.iaload, 1) := by decide +kernel
theorem dX11_drops_64 : decode cX11_drops 64 = .ok (.iconst 1, 1) := by decide +kernel
theorem dX11_drops_65 : decode cX11_drops 65 = .ok (.isub, 1) := by decide +kernel
theorem dX11_drops_66 : decode cX11_drops 66 = .ok (.iastore, 1) := by decide +kernel
theorem dX11_drops_67 : decode cX11_drops 67 = .ok (.aload_n 0, 1) := by decide +kernel
theorem dX11_drops_68 : decode cX11_drops 68 = .ok (.getfield 7, 3) := by decide +kernel
theorem dX11_drops_71 : decode cX11_drops 71 = .ok (.bipush 64, 2) := by decide +kernel
theorem dX11_drops_73 : decode cX11_drops 73 = .ok (.iaload, 1) := by decide +kernel
theorem dX11_drops_74 : decode cX11_drops 74 = .ok (.ireturn, 1) := by decide +kernel
theorem dX11_findTaps_0 : decode cX11_findTaps 0 = .ok (.aload_n 0, 1) := by decide +kernel
theorem dX11_findTaps_1 : decode cX11_findTaps 1 = .ok (.getfield 36, 3) := by decide +kernel
theorem dX11_findTaps_4 : decode cX11_findTaps 4 = .ok (.iload_n 1, 1) := by decide +kernel
theorem dX11_findTaps_5 : decode cX11_findTaps 5 = .ok (.iaload, 1) := by decide +kernel
theorem dX11_findTaps_6 : decode cX11_findTaps 6 = .ok (.aload_n 0, 1) := by decide +kernel
theorem dX11_findTaps_7 : decode cX11_findTaps 7 = .ok (.getfield 36, 3) := by decide +kernel
theorem dX11_findTaps_10 : decode cX11_findTaps 10 = .ok (.bipush 16, 2) := by decide +kernel
theorem dX11_findTaps_12 : decode cX11_findTaps 12 = .ok (.iload_n 2, 1) := by decide +kernel
theorem dX11_findTaps_13 : decode cX11_findTaps 13 = .ok (.iadd, 1) := by decide +kernel
theorem dX11_findTaps_14 : decode cX11_findTaps 14 = .ok (.iaload, 1) := by decide +kernel
theorem dX11_findTaps_15 : decode cX11_findTaps 15 = .ok (.imul, 1) := by decide +kernel
theorem dX11_findTaps_16 : decode cX11_findTaps 16 = .ok (.aload_n 0, 1) := by decide +kernel
theorem dX11_findTaps_17 : decode cX11_findTaps 17 = .ok (.getfield 36, 3) := by decide +kernel
theorem dX11_findTaps_20 : decode cX11_findTaps 20 = .ok (.iload_n 2, 1) := by decide +kernel
theorem dX11_findTaps_21 : decode cX11_findTaps 21 = .ok (.iaload, 1) := by decide +kernel
theorem dX11_findTaps_22 : decode cX11_findTaps 22 = .ok (.aload_n 0, 1) := by decide +kernel
theorem dX11_findTaps_23 : decode cX11_findTaps 23 = .ok (.getfield 36, 3) := by decide +kernel
theorem dX11_findTaps_26 : decode cX11_findTaps 26 = .ok (.bipush 16, 2) := by decide +kernel
theorem dX11_findTaps_28 : decode cX11_findTaps 28 = .ok (.iload_n 1, 1) := by decide +kernel
theorem dX11_findTaps_29 : decode cX11_findTaps 29 = .ok (.iadd, 1) := by decide +kernel
theorem dX11_findTaps_30 : decode cX11_findTaps 30 = .ok (.iaload, 1) := by decide +kernel
theorem dX11_findTaps_31 : decode cX11_findTaps 31 = .ok (.imul, 1) := by decide +kernel
theorem dX11_findTaps_32 : decode cX11_findTaps 32 = .ok (.isub, 1) := by decide +kernel
theorem dX11_findTaps_33 : decode cX11_findTaps 33 = .ok (.invokestatic 71, 3) := by decide +kernel
theorem dX11_findTaps_36 : decode cX11_findTaps 36 = .ok (.istore 4, 2) := by decide +kernel
theorem dX11_findTaps_38 : decode cX11_findTaps 38 = .ok (.iload 4, 2) := by decide +kernel
theorem dX11_findTaps_40 : decode cX11_findTaps 40 = .ok (.ifCond .ne 5, 3) := by decide +kernel
theorem dX11_findTaps_43 : decode cX11_findTaps 43 = .ok (.iconst 0, 1) := by decide +kernel
theorem dX11_findTaps_44 : decode cX11_findTaps 44 = .ok (.ireturn, 1) := by decide +kernel
theorem dX11_findTaps_45 : decode cX11_findTaps 45 = .ok (.aload_n 0, 1) := by decide +kernel
theorem dX11_findTaps_46 : decode cX11_findTaps 46 = .ok (.getfield 7, 3) := by decide +kernel
theorem dX11_findTaps_49 : decode cX11_findTaps 49 = .ok (.bipush 16, 2) := by decide +kernel
theorem dX11_findTaps_51 : decode cX11_findTaps 51 = .ok (.iload_n 3, 1) := by decide +kernel
theorem dX11_findTaps_52 : decode cX11_findTaps 52 = .ok (.imul, 1) := by decide +kernel
theorem dX11_findTaps_53 : decode cX11_findTaps 53 = .ok (.iload_n 1, 1) := by decide +kernel
theorem dX11_findTaps_54 : decode cX11_findTaps 54 = .ok (.iadd, 1) := by decide +kernel
theorem dX11_findTaps_55 : decode cX11_findTaps 55 = .ok (.iaload, 1) := by decide +kernel
theorem dX11_findTaps_56 : decode cX11_findTaps 56 = .ok (.invokestatic 67, 3) := by decide +kernel
theorem dX11_findTaps_59 : decode cX11_findTaps 59 = .ok (.istore 5, 2) := by decide +kernel
theorem dX11_findTaps_61 : decode cX11_findTaps 61 = .ok (.aload_n 0, 1) := by decide +kernel
theorem dX11_findTaps_62 : decode cX11_findTaps 62 = .ok (.getfield 7, 3) := by decide +kernel
theorem dX11_findTaps_65 : decode cX11_findTaps 65 = .ok (.bipush 16, 2) := by decide +kernel
theorem dX11_findTaps_67 : decode cX11_findTaps 67 = .ok (.iload_n 3, 1) := by decide +kernel
theorem dX11_findTaps_68 : decode cX11_findTaps 68 = .ok (.imul, 1) := by decide +kernel
theorem dX11_findTaps_69 : decode cX11_findTaps 69 = .ok (.iload_n 2, 1) := by decide +kernel
theorem dX11_findTaps_70 : decode cX11_findTaps 70 = .ok (.iadd, 1) := by decide +kernel
theorem dX11_findTaps_71 : decode cX11_findTaps 71 = .ok (.iaload, 1) := by decide +kernel
theorem dX11_findTaps_72 : decode cX11_findTaps 72 = .ok (.invokestatic 67, 3) := by decide +kernel
theorem dX11_findTaps_75 : decode cX11_findTaps 75 = .ok (.istore 6, 2) := by decide +kernel
theorem dX11_findTaps_77 : decode cX11_findTaps 77 = .ok (.iload 4, 2) := by decide +kernel
theorem dX11_findTaps_79 : decode cX11_findTaps 79 = .ok (.invokestatic 157, 3) := by decide +kernel
theorem dX11_findTaps_82 : decode cX11_findTaps 82 = .ok (.istore 4, 2) := by decide +kernel
theorem dX11_findTaps_84 : decode cX11_findTaps 84 = .ok (.aload_n 0, 1) := by decide +kernel
theorem dX11_findTaps_85 : decode cX11_findTaps 85 = .ok (.iload 5, 2) := by decide +kernel
theorem dX11_findTaps_87 : decode cX11_findTaps 87 = .ok (.aload_n 0, 1) := by decide +kernel
theorem dX11_findTaps_88 : decode cX11_findTaps 88 = .ok (.getfield 36, 3) := by decide +kernel
theorem dX11_findTaps_91 : decode cX11_findTaps 91 = .ok (.bipush 16, 2) := by decide +kernel
theorem dX11_findTaps_93 : decode cX11_findTaps 93 = .ok (.iload_n 2, 1) := by decide +kernel
theorem dX11_findTaps_94 : decode cX11_findTaps 94 = .ok (.iadd, 1) := by decide +kernel
theorem dX11_findTaps_95 : decode cX11_findTaps 95 = .ok (.iaload, 1) := by decide +kernel
theorem dX11_findTaps_96 : decode cX11_findTaps 96 = .ok (.imul, 1) := by decide +kernel
theorem dX11_findTaps_97 : decode cX11_findTaps 97 = .ok (.iload 6, 2) := by decide +kernel
theorem dX11_findTaps_99 : decode cX11_findTaps 99 = .ok (.aload_n 0, 1) := by decide +kernel
theorem dX11_findTaps_100 : decode cX11_findTaps 100 = .ok (.getfield 36, 3) := by decide +kernel
theorem dX11_findTaps_103 : decode cX11_findTaps 103 = .ok (.bipush 16, 2) := by decide +kernel
theorem dX11_findTaps_105 : decode cX11_findTaps 105 = .ok (.iload_n 1, 1) := by decide +kernel
theorem dX11_findTaps_106 : decode cX11_findTaps 106 = .ok (.iadd, 1) := by decide +kernel
theorem dX11_findTaps_107 : decode cX11_findTaps 107 = .ok (.iaload, 1) := by decide +kernel
theorem dX11_findTaps_108 : decode cX11_findTaps 108 = .ok (.imul, 1) := by decide +kernel
theorem dX11_findTaps_109 : decode cX11_findTaps 109 = .ok (.isub, 1) := by decide +kernel
theorem dX11_findTaps_110 : decode cX11_findTaps 110 = .ok (.invokestatic 71, 3) := by decide +kernel
theorem dX11_findTaps_113 : decode cX11_findTaps 113 = .ok (.iload 4, 2) := by decide +kernel
theorem dX11_findTaps_115 : decode cX11_findTaps 115 = .ok (.imul, 1) := by decide +kernel
theorem dX11_findTaps_116 : decode cX11_findTaps 116 = .ok (.bipush 97, 2) := by decide +kernel
theorem dX11_findTaps_118 : decode cX11_findTaps 118 = .ok (.irem, 1) := by decide +kernel
theorem dX11_findTaps_119 : decode cX11_findTaps 119 = .ok (.putfield 217, 3) := by decide +kernel
theorem dX11_findTaps_122 : decode cX11_findTaps 122 = .ok (.aload_n 0, 1) := by decide +kernel
theorem dX11_findTaps_123 : decode cX11_findTaps 123 = .ok (.iload 6, 2) := by decide +kernel
theorem dX11_findTaps_125 : decode cX11_findTaps 125 = .ok (.aload_n 0, 1) := by decide +kernel
theorem dX11_findTaps_126 : decode cX11_findTaps 126 = .ok (.getfield 36, 3) := by decide +kernel
theorem dX11_findTaps_129 : decode cX11_findTaps 129 = .ok (.iload_n 1, 1) := by decide +kernel
theorem dX11_findTaps_130 : decode cX11_findTaps 130 = .ok (.iaload, 1) := by decide +kernel
theorem dX11_findTaps_131 : decode cX11_findTaps 131 = .ok (.imul, 1) := by decide +kernel
theorem dX11_findTaps_132 : decode cX11_findTaps 132 = .ok (.iload 5, 2) := by decide +kernel
theorem dX11_findTaps_134 : decode cX11_findTaps 134 = .ok (.aload_n 0, 1) := by decide +kernel
theorem dX11_findTaps_135 : decode cX11_findTaps 135 = .ok (.getfield 36, 3) := by decide +kernel
theorem dX11_findTaps_138 : decode cX11_findTaps 138 = .ok (.iload_n 2, 1) := by decide +kernel
theorem dX11_findTaps_139 : decode cX11_findTaps 139 = .ok (.iaload, 1) := by decide +kernel
theorem dX11_findTaps_140 : decode cX11_findTaps 140 = .ok (.imul, 1) := by decide +kernel
theorem dX11_findTaps_141 : decode cX11_findTaps 141 = .ok (.isub, 1) := by decide +kernel
theorem dX11_findTaps_142 : decode cX11_findTaps 142 = .ok (.invokestatic 71, 3) := by decide +kernel
theorem dX11_findTaps_145 : decode cX11_findTaps 145 = .ok (.iload 4, 2) := by decide +kernel
theorem dX11_findTaps_147 : decode cX11_findTaps 147 = .ok (.imul, 1) := by decide +kernel
theorem dX11_findTaps_148 : decode cX11_findTaps 148 = .ok (.bipush 97, 2) := by decide +kernel
theorem dX11_findTaps_150 : decode cX11_findTaps 150 = .ok (.irem, 1) := by decide +kernel
theorem dX11_findTaps_151 : decode cX11_findTaps 151 = .ok (.putfield 220, 3) := by decide +kernel
theorem dX11_findTaps_154 : decode cX11_findTaps 154 = .ok (.iconst 1, 1) := by decide +kernel
theorem dX11_findTaps_155 : decode cX11_findTaps 155 = .ok (.ireturn, 1) := by decide +kernel
theorem dX11_areTaps_0 : decode cX11_areTaps 0 = .ok (.aload_n 0, 1) := by decide +kernel
theorem dX11_areTaps_1 : decode cX11_areTaps 1 = .ok (.invokevirtual 208, 3) := by decide +kernel
theorem dX11_areTaps_4 : decode cX11_areTaps 4 = .ok (.iconst 0, 1) := by decide +kernel
theorem dX11_areTaps_5 : decode cX11_areTaps 5 = .ok (.istore_n 3, 1) := by decide +kernel
theorem dX11_areTaps_6 : decode cX11_areTaps 6 = .ok (.iload_n 3, 1) := by decide +kernel
theorem dX11_areTaps_7 : decode cX11_areTaps 7 = .ok (.iconst 2, 1) := by decide +kernel
theorem dX11_areTaps_8 : decode cX11_areTaps 8 = .ok (.if_icmp .ge 47, 3) := by decide +kernel
theorem dX11_areTaps_11 : decode cX11_areTaps 11 = .ok (.aload_n 0, 1) := by decide +kernel
theorem dX11_areTaps_12 : decode cX11_areTaps 12 = .ok (.iload_n 1, 1) := by decide +kernel
theorem dX11_areTaps_13 : decode cX11_areTaps 13 = .ok (.iload_n 2, 1) := by decide +kernel
theorem dX11_areTaps_14 : decode cX11_areTaps 14 = .ok (.iload_n 3, 1) := by decide +kernel
theorem dX11_areTaps_15 : decode cX11_areTaps 15 = .ok (.invokevirtual 223, 3) := by decide +kernel
theorem dX11_areTaps_18 : decode cX11_areTaps 18 = .ok (.ifCond .ne 5, 3) := by decide +kernel
theorem dX11_areTaps_21 : decode cX11_areTaps 21 = .ok (.iconst 0, 1) := by decide +kernel
theorem dX11_areTaps_22 : decode cX11_areTaps 22 = .ok (.ireturn, 1) := by decide +kernel
theorem dX11_areTaps_23 : decode cX11_areTaps 23 = .ok (.aload_n 0, 1) := by decide +kernel
theorem dX11_areTaps_24 : decode cX11_areTaps 24 = .ok (.getfield 42, 3) := by decide +kernel
theorem dX11_areTaps_27 : decode cX11_areTaps 27 = .ok (.iconst 2, 1) := by decide +kernel
theorem dX11_areTaps_28 : decode cX11_areTaps 28 = .ok (.iload_n 3, 1) := by decide +kernel
theorem dX11_areTaps_29 : decode cX11_areTaps 29 = .ok (.imul, 1) := by decide +kernel
theorem dX11_areTaps_30 : decode cX11_areTaps 30 = .ok (.aload_n 0, 1) := by decide +kernel
theorem dX11_areTaps_31 : decode cX11_areTaps 31 = .ok (.getfield 217, 3) := by decide +kernel
theorem dX11_areTaps_34 : decode cX11_areTaps 34 = .ok (.iastore, 1) := by decide +kernel
theorem dX11_areTaps_35 : decode cX11_areTaps 35 = .ok (.aload_n 0, 1) := by decide +kernel
theorem dX11_areTaps_36 : decode cX11_areTaps 36 = .ok (.getfield 42, 3) := by decide +kernel
theorem dX11_areTaps_39 : decode cX11_areTaps 39 = .ok (.iconst 2, 1) := by decide +kernel
theorem dX11_areTaps_40 : decode cX11_areTaps 40 = .ok (.iload_n 3, 1) := by decide +kernel
theorem dX11_areTaps_41 : decode cX11_areTaps 41 = .ok (.imul, 1) := by decide +kernel
theorem dX11_areTaps_42 : decode cX11_areTaps 42 = .ok (.iconst 1, 1) := by decide +kernel
theorem dX11_areTaps_43 : decode cX11_areTaps 43 = .ok (.iadd, 1) := by decide +kernel
theorem dX11_areTaps_44 : decode cX11_areTaps 44 = .ok (.aload_n 0, 1) := by decide +kernel
theorem dX11_areTaps_45 : decode cX11_areTaps 45 = .ok (.getfield 220, 3) := by decide +kernel
theorem dX11_areTaps_48 : decode cX11_areTaps 48 = .ok (.iastore, 1) := by decide +kernel
theorem dX11_areTaps_49 : decode cX11_areTaps 49 = .ok (.iinc 3 1, 3) := by decide +kernel
theorem dX11_areTaps_52 : decode cX11_areTaps 52 = .ok (.goto (-46), 3) := by decide +kernel
theorem dX11_areTaps_55 : decode cX11_areTaps 55 = .ok (.aload_n 0, 1) := by decide +kernel
theorem dX11_areTaps_56 : decode cX11_areTaps 56 = .ok (.getfield 42, 3) := by decide +kernel
theorem dX11_areTaps_59 : decode cX11_areTaps 59 = .ok (.iconst 0, 1) := by decide +kernel
theorem dX11_areTaps_60 : decode cX11_areTaps 60 = .ok (.iaload, 1) := by decide +kernel
theorem dX11_areTaps_61 : decode cX11_areTaps 61 = .ok (.aload_n 0, 1) := by decide +kernel
theorem dX11_areTaps_62 : decode cX11_areTaps 62 = .ok (.getfield 42, 3) := by decide +kernel
theorem dX11_areTaps_65 : decode cX11_areTaps 65 = .ok (.iconst 3, 1) := by decide +kernel
theorem dX11_areTaps_66 : decode cX11_areTaps 66 = .ok (.iaload, 1) := by decide +kernel
theorem dX11_areTaps_67 : decode cX11_areTaps 67 = .ok (.imul, 1) := by decide +kernel
theorem dX11_areTaps_68 : decode cX11_areTaps 68 = .ok (.aload_n 0, 1) := by decide +kernel
theorem dX11_areTaps_69 : decode cX11_areTaps 69 = .ok (.getfield 42, 3) := by decide +kernel
theorem dX11_areTaps_72 : decode cX11_areTaps 72 = .ok (.iconst 1, 1) := by decide +kernel
theorem dX11_areTaps_73 : decode cX11_areTaps 73 = .ok (.iaload, 1) := by decide +kernel
theorem dX11_areTaps_74 : decode cX11_areTaps 74 = .ok (.aload_n 0, 1) := by decide +kernel
theorem dX11_areTaps_75 : decode cX11_areTaps 75 = .ok (.getfield 42, 3) := by decide +kernel
theorem dX11_areTaps_78 : decode cX11_areTaps 78 = .ok (.iconst 2, 1) := by decide +kernel
theorem dX11_areTaps_79 : decode cX11_areTaps 79 = .ok (.iaload, 1) := by decide +kernel
theorem dX11_areTaps_80 : decode cX11_areTaps 80 = .ok (.imul, 1) := by decide +kernel
theorem dX11_areTaps_81 : decode cX11_areTaps 81 = .ok (.isub, 1) := by decide +kernel
theorem dX11_areTaps_82 : decode cX11_areTaps 82 = .ok (.invokestatic 71, 3) := by decide +kernel
theorem dX11_areTaps_85 : decode cX11_areTaps 85 = .ok (.ifCond .eq 7, 3) := by decide +kernel
theorem dX11_areTaps_88 : decode cX11_areTaps 88 = .ok (.iconst 1, 1) := by decide +kernel
theorem dX11_areTaps_89 : decode cX11_areTaps 89 = .ok (.goto 4, 3) := by decide +kernel
theorem dX11_areTaps_92 : decode cX11_areTaps 92 = .ok (.iconst 0, 1) := by decide +kernel
theorem dX11_areTaps_93 : decode cX11_areTaps 93 = .ok (.ireturn, 1) := by decide +kernel
theorem dX11_arePlaces_0 : decode cX11_arePlaces 0 = .ok (.iload_n 0, 1) := by decide +kernel
theorem dX11_arePlaces_1 : decode cX11_arePlaces 1 = .ok (.iconst 0, 1) := by decide +kernel
theorem dX11_arePlaces_2 : decode cX11_arePlaces 2 = .ok (.bipush 15, 2) := by decide +kernel
theorem dX11_arePlaces_4 : decode cX11_arePlaces 4 = .ok (.invokestatic 82, 3) := by decide +kernel
theorem dX11_arePlaces_7 : decode cX11_arePlaces 7 = .ok (.ifCond .eq 22, 3) := by decide +kernel
theorem dX11_arePlaces_10 : decode cX11_arePlaces 10 = .ok (.iload_n 1, 1) := by decide +kernel
theorem dX11_arePlaces_11 : decode cX11_arePlaces 11 = .ok (.iconst 0, 1) := by decide +kernel
theorem dX11_arePlaces_12 : decode cX11_arePlaces 12 = .ok (.bipush 15, 2) := by decide +kernel
theorem dX11_arePlaces_14 : decode cX11_arePlaces 14 = .ok (.invokestatic 82, 3) := by decide +kernel
theorem dX11_arePlaces_17 : decode cX11_arePlaces 17 = .ok (.ifCond .eq 12, 3) := by decide +kernel
theorem dX11_arePlaces_20 : decode cX11_arePlaces 20 = .ok (.iload_n 0, 1) := by decide +kernel
theorem dX11_arePlaces_21 : decode cX11_arePlaces 21 = .ok (.iload_n 1, 1) := by decide +kernel
theorem dX11_arePlaces_22 : decode cX11_arePlaces 22 = .ok (.if_icmp .eq 7, 3) := by decide +kernel
theorem dX11_arePlaces_25 : decode cX11_arePlaces 25 = .ok (.iconst 1, 1) := by decide +kernel
theorem dX11_arePlaces_26 : decode cX11_arePlaces 26 = .ok (.goto 4, 3) := by decide +kernel
theorem dX11_arePlaces_29 : decode cX11_arePlaces 29 = .ok (.iconst 0, 1) := by decide +kernel
theorem dX11_arePlaces_30 : decode cX11_arePlaces 30 = .ok (.ireturn, 1) := by decide +kernel
theorem dX11_learns_0 : decode cX11_learns 0 = .ok (.iload_n 1, 1) := by decide +kernel
theorem dX11_learns_1 : decode cX11_learns 1 = .ok (.iload_n 2, 1) := by decide +kernel
theorem dX11_learns_2 : decode cX11_learns 2 = .ok (.invokestatic 226, 3) := by decide +kernel
theorem dX11_learns_5 : decode cX11_learns 5 = .ok (.ifCond .ne 5, 3) := by decide +kernel
theorem dX11_learns_8 : decode cX11_learns 8 = .ok (.iconst (-1), 1) := by decide +kernel
theorem dX11_learns_9 : decode cX11_learns 9 = .ok (.ireturn, 1) := by decide +kernel
theorem dX11_learns_10 : decode cX11_learns 10 = .ok (.aload_n 0, 1) := by decide +kernel
theorem dX11_learns_11 : decode cX11_learns 11 = .ok (.iload_n 1, 1) := by decide +kernel
theorem dX11_learns_12 : decode cX11_learns 12 = .ok (.iload_n 2, 1) := by decide +kernel
theorem dX11_learns_13 : decode cX11_learns 13 = .ok (.invokevirtual 229, 3) := by decide +kernel
theorem dX11_learns_16 : decode cX11_learns 16 = .ok (.ifCond .ne 6, 3) := by decide +kernel
theorem dX11_learns_19 : decode cX11_learns 19 = .ok (.bipush (-2), 2) := by decide +kernel
theorem dX11_learns_21 : decode cX11_learns 21 = .ok (.ireturn, 1) := by decide +kernel
theorem dX11_learns_22 : decode cX11_learns 22 = .ok (.aload_n 0, 1) := by decide +kernel
theorem dX11_learns_23 : decode cX11_learns 23 = .ok (.getfield 7, 3) := by decide +kernel
theorem dX11_learns_26 : decode cX11_learns 26 = .ok (.bipush 64, 2) := by decide +kernel
theorem dX11_learns_28 : decode cX11_learns 28 = .ok (.iaload, 1) := by decide +kernel
theorem dX11_learns_29 : decode cX11_learns 29 = .ok (.iconst 4, 1) := by decide +kernel
theorem dX11_learns_30 : decode cX11_learns 30 = .ok (.if_icmp .ne 6, 3) := by decide +kernel
theorem dX11_learns_33 : decode cX11_learns 33 = .ok (.bipush (-3), 2) := by decide +kernel
theorem dX11_learns_35 : decode cX11_learns 35 = .ok (.ireturn, 1) := by decide +kernel
theorem dX11_learns_36 : decode cX11_learns 36 = .ok (.aload_n 0, 1) := by decide +kernel
theorem dX11_learns_37 : decode cX11_learns 37 = .ok (.invokevirtual 140, 3) := by decide +kernel
theorem dX11_learns_40 : decode cX11_learns 40 = .ok (.aload_n 0, 1) := by decide +kernel
theorem dX11_learns_41 : decode cX11_learns 41 = .ok (.getfield 42, 3) := by decide +kernel
theorem dX11_learns_44 : decode cX11_learns 44 = .ok (.iconst 0, 1) := by decide +kernel
theorem dX11_learns_45 : decode cX11_learns 45 = .ok (.iaload, 1) := by decide +kernel
theorem dX11_learns_46 : decode cX11_learns 46 = .ok (.aload_n 0, 1) := by decide +kernel
theorem dX11_learns_47 : decode cX11_learns 47 = .ok (.getfield 42, 3) := by decide +kernel
theorem dX11_learns_50 : decode cX11_learns 50 = .ok (.iconst 3, 1) := by decide +kernel
theorem dX11_learns_51 : decode cX11_learns 51 = .ok (.iaload, 1) := by decide +kernel
theorem dX11_learns_52 : decode cX11_learns 52 = .ok (.imul, 1) := by decide +kernel
theorem dX11_learns_53 : decode cX11_learns 53 = .ok (.aload_n 0, 1) := by decide +kernel
theorem dX11_learns_54 : decode cX11_learns 54 = .ok (.getfield 42, 3) := by decide +kernel
theorem dX11_learns_57 : decode cX11_learns 57 = .ok (.iconst 1, 1) := by decide +kernel
theorem dX11_learns_58 : decode cX11_learns 58 = .ok (.iaload, 1) := by decide +kernel
theorem dX11_learns_59 : decode cX11_learns 59 = .ok (.aload_n 0, 1) := by decide +kernel
theorem dX11_learns_60 : decode cX11_learns 60 = .ok (.getfield 42, 3) := by decide +kernel
theorem dX11_learns_63 : decode cX11_learns 63 = .ok (.iconst 2, 1) := by decide +kernel
theorem dX11_learns_64 : decode cX11_learns 64 = .ok (.iaload, 1) := by decide +kernel
theorem dX11_learns_65 : decode cX11_learns 65 = .ok (.imul, 1) := by decide +kernel
theorem dX11_learns_66 : decode cX11_learns 66 = .ok (.isub, 1) := by decide +kernel
theorem dX11_learns_67 : decode cX11_learns 67 = .ok (.invokestatic 71, 3) := by decide +kernel
theorem dX11_learns_70 : decode cX11_learns 70 = .ok (.invokestatic 157, 3) := by decide +kernel
theorem dX11_learns_73 : decode cX11_learns 73 = .ok (.istore_n 3, 1) := by decide +kernel
theorem dX11_learns_74 : decode cX11_learns 74 = .ok (.aload_n 0, 1) := by decide +kernel
theorem dX11_learns_75 : decode cX11_learns 75 = .ok (.bipush 65, 2) := by decide +kernel
theorem dX11_learns_77 : decode cX11_learns 77 = .ok (.iconst 5, 1) := by decide +kernel
theorem dX11_learns_78 : decode cX11_learns 78 = .ok (.aload_n 0, 1) := by decide +kernel
theorem dX11_learns_79 : decode cX11_learns 79 = .ok (.getfield 7, 3) := by decide +kernel
theorem dX11_learns_82 : decode cX11_learns 82 = .ok (.bipush 64, 2) := by decide +kernel
theorem dX11_learns_84 : decode cX11_learns 84 = .ok (.iaload, 1) := by decide +kernel
theorem dX11_learns_85 : decode cX11_learns 85 = .ok (.imul, 1) := by decide +kernel
theorem dX11_learns_86 : decode cX11_learns 86 = .ok (.iadd, 1) := by decide +kernel
theorem dX11_learns_87 : decode cX11_learns 87 = .ok (.iconst 1, 1) := by decide +kernel
theorem dX11_learns_88 : decode cX11_learns 88 = .ok (.aload_n 0, 1) := by decide +kernel
theorem dX11_learns_89 : decode cX11_learns 89 = .ok (.getfield 42, 3) := by decide +kernel
theorem dX11_learns_92 : decode cX11_learns 92 = .ok (.iconst 3, 1) := by decide +kernel
theorem dX11_learns_93 : decode cX11_learns 93 = .ok (.iaload, 1) := by decide +kernel
theorem dX11_learns_94 : decode cX11_learns 94 = .ok (.iload_n 3, 1) := by decide +kernel
theorem dX11_learns_95 : decode cX11_learns 95 = .ok (.imul, 1) := by decide +kernel
theorem dX11_learns_96 : decode cX11_learns 96 = .ok (.bipush 97, 2) := by decide +kernel
theorem dX11_learns_98 : decode cX11_learns 98 = .ok (.irem, 1) := by decide +kernel
theorem dX11_learns_99 : decode cX11_learns 99 = .ok (.aload_n 0, 1) := by decide +kernel
theorem dX11_learns_100 : decode cX11_learns 100 = .ok (.getfield 42, 3) := by decide +kernel
theorem dX11_learns_103 : decode cX11_learns 103 = .ok (.iconst 1, 1) := by decide +kernel
theorem dX11_learns_104 : decode cX11_learns 104 = .ok (.iaload, 1) := by decide +kernel
theorem dX11_learns_105 : decode cX11_learns 105 = .ok (.ineg, 1) := by decide +kernel
theorem dX11_learns_106 : decode cX11_learns 106 = .ok (.iload_n 3, 1) := by decide +kernel
theorem dX11_learns_107 : decode cX11_learns 107 = .ok (.imul, 1) := by decide +kernel
theorem dX11_learns_108 : decode cX11_learns 108 = .ok (.invokestatic 71, 3) := by decide +kernel
theorem dX11_learns_111 : decode cX11_learns 111 = .ok (.aload_n 0, 1) := by decide +kernel
theorem dX11_learns_112 : decode cX11_learns 112 = .ok (.getfield 42, 3) := by decide +kernel
theorem dX11_learns_115 : decode cX11_learns 115 = .ok (.iconst 2, 1) := by decide +kernel
theorem dX11_learns_116 : decode cX11_learns 116 = .ok (.iaload, 1) := by decide +kernel
theorem dX11_learns_117 : decode cX11_learns 117 = .ok (.ineg, 1) := by decide +kernel
theorem dX11_learns_118 : decode cX11_learns 118 = .ok (.iload_n 3, 1) := by decide +kernel
theorem dX11_learns_119 : decode cX11_learns 119 = .ok (.imul, 1) := by decide +kernel
theorem dX11_learns_120 : decode cX11_learns 120 = .ok (.invokestatic 71, 3) := by decide +kernel
theorem dX11_learns_123 : decode cX11_learns 123 = .ok (.aload_n 0, 1) := by decide +kernel
theorem dX11_learns_124 : decode cX11_learns 124 = .ok (.getfield 42, 3) := by decide +kernel
theorem dX11_learns_127 : decode cX11_learns 127 = .ok (.iconst 0, 1) := by decide +kernel
theorem dX11_learns_128 : decode cX11_learns 128 = .ok (.iaload, 1) := by decide +kernel
theorem dX11_learns_129 : decode cX11_learns 129 = .ok (.iload_n 3, 1) := by decide +kernel
theorem dX11_learns_130 : decode cX11_learns 130 = .ok (.imul, 1) := by decide +kernel
theorem dX11_learns_131 : decode cX11_learns 131 = .ok (.bipush 97, 2) := by decide +kernel
theorem dX11_learns_133 : decode cX11_learns 133 = .ok (.irem, 1) := by decide +kernel
theorem dX11_learns_134 : decode cX11_learns 134 = .ok (.invokevirtual 150, 3) := by decide +kernel
theorem dX11_learns_137 : decode cX11_learns 137 = .ok (.aload_n 0, 1) := by decide +kernel
theorem dX11_learns_138 : decode cX11_learns 138 = .ok (.getfield 7, 3) := by decide +kernel
theorem dX11_learns_141 : decode cX11_learns 141 = .ok (.bipush 64, 2) := by decide +kernel
theorem dX11_learns_143 : decode cX11_learns 143 = .ok (.dup2, 1) := by decide +kernel
theorem dX11_learns_144 : decode cX11_learns 144 = .ok (.iaload, 1) := by decide +kernel
theorem dX11_learns_145 : decode cX11_learns 145 = .ok (.iconst 1, 1) := by decide +kernel
theorem dX11_learns_146 : decode cX11_learns 146 = .ok (.iadd, 1) := by decide +kernel
theorem dX11_learns_147 : decode cX11_learns 147 = .ok (.iastore, 1) := by decide +kernel
theorem dX11_learns_148 : decode cX11_learns 148 = .ok (.aload_n 0, 1) := by decide +kernel
theorem dX11_learns_149 : decode cX11_learns 149 = .ok (.getfield 7, 3) := by decide +kernel
theorem dX11_learns_152 : decode cX11_learns 152 = .ok (.bipush 64, 2) := by decide +kernel
theorem dX11_learns_154 : decode cX11_learns 154 = .ok (.iaload, 1) := by decide +kernel
theorem dX11_learns_155 : decode cX11_learns 155 = .ok (.ireturn, 1) := by decide +kernel
theorem dX11_taps_0 : decode cX11_taps 0 = .ok (.iload_n 1, 1) := by decide +kernel
theorem dX11_taps_1 : decode cX11_taps 1 = .ok (.iload_n 2, 1) := by decide +kernel
theorem dX11_taps_2 : decode cX11_taps 2 = .ok (.invokestatic 226, 3) := by decide +kernel
theorem dX11_taps_5 : decode cX11_taps 5 = .ok (.ifCond .eq 12, 3) := by decide +kernel
theorem dX11_taps_8 : decode cX11_taps 8 = .ok (.iload_n 3, 1) := by decide +kernel
theorem dX11_taps_9 : decode cX11_taps 9 = .ok (.iconst 0, 1) := by decide +kernel
theorem dX11_taps_10 : decode cX11_taps 10 = .ok (.iconst 3, 1) := by decide +kernel
theorem dX11_taps_11 : decode cX11_taps 11 = .ok (.invokestatic 82, 3) := by decide +kernel
theorem dX11_taps_14 : decode cX11_taps 14 = .ok (.ifCond .ne 5, 3) := by decide +kernel
theorem dX11_taps_17 : decode cX11_taps 17 = .ok (.iconst (-1), 1) := by decide +kernel
theorem dX11_taps_18 : decode cX11_taps 18 = .ok (.ireturn, 1) := by decide +kernel
theorem dX11_taps_19 : decode cX11_taps 19 = .ok (.aload_n 0, 1) := by decide +kernel
theorem dX11_taps_20 : decode cX11_taps 20 = .ok (.iload_n 1, 1) := by decide +kernel
theorem dX11_taps_21 : decode cX11_taps 21 = .ok (.iload_n 2, 1) := by decide +kernel
theorem dX11_taps_22 : decode cX11_taps 22 = .ok (.invokevirtual 229, 3) := by decide +kernel
theorem dX11_taps_25 : decode cX11_taps 25 = .ok (.ifCond .eq 12, 3) := by decide +kernel
theorem dX11_taps_28 : decode cX11_taps 28 = .ok (.aload_n 0, 1) := by decide +kernel
theorem dX11_taps_29 : decode cX11_taps 29 = .ok (.getfield 42, 3) := by decide +kernel
theorem dX11_taps_32 : decode cX11_taps 32 = .ok (.iload_n 3, 1) := by decide +kernel
theorem dX11_taps_33 : decode cX11_taps 33 = .ok (.iaload, 1) := by decide +kernel
theorem dX11_taps_34 : decode cX11_taps 34 = .ok (.goto 5, 3) := by decide +kernel
theorem dX11_taps_37 : decode cX11_taps 37 = .ok (.bipush (-9), 2) := by decide +kernel
theorem dX11_taps_39 : decode cX11_taps 39 = .ok (.ireturn, 1) := by decide +kernel
theorem dX11_turnsOn_0 : decode cX11_turnsOn 0 = .ok (.iload_n 1, 1) := by decide +kernel
theorem dX11_turnsOn_1 : decode cX11_turnsOn 1 = .ok (.iconst 2, 1) := by decide +kernel
theorem dX11_turnsOn_2 : decode cX11_turnsOn 2 = .ok (.isub, 1) := by decide +kernel
theorem dX11_turnsOn_3 : decode cX11_turnsOn 3 = .ok (.istore_n 2, 1) := by decide +kernel
theorem dX11_turnsOn_4 : decode cX11_turnsOn 4 = .ok (.iload_n 2, 1) := by decide +kernel
theorem dX11_turnsOn_5 : decode cX11_turnsOn 5 = .ok (.ifCond .lt 26, 3) := by decide +kernel
theorem dX11_turnsOn_8 : decode cX11_turnsOn 8 = .ok (.aload_n 0, 1) := by decide +kernel
theorem dX11_turnsOn_9 : decode cX11_turnsOn 9 = .ok (.getfield 45, 3) := by decide +kernel
theorem dX11_turnsOn_12 : decode cX11_turnsOn 12 = .ok (.iload_n 2, 1) := by decide +kernel
theorem dX11_turnsOn_13 : decode cX11_turnsOn 13 = .ok (.iaload, 1) := by decide +kernel
theorem dX11_turnsOn_14 : decode cX11_turnsOn 14 = .ok (.aload_n 0, 1) := by decide +kernel
theorem dX11_turnsOn_15 : decode cX11_turnsOn 15 = .ok (.getfield 45, 3) := by decide +kernel
theorem dX11_turnsOn_18 : decode cX11_turnsOn 18 = .ok (.iload_n 2, 1) := by decide +kernel
theorem dX11_turnsOn_19 : decode cX11_turnsOn 19 = .ok (.iconst 1, 1) := by decide +kernel
theorem dX11_turnsOn_20 : decode cX11_turnsOn 20 = .ok (.iadd, 1) := by decide +kernel
theorem dX11_turnsOn_21 : decode cX11_turnsOn 21 = .ok (.iaload, 1) := by decide +kernel
theorem dX11_turnsOn_22 : decode cX11_turnsOn 22 = .ok (.if_icmp .le 9, 3) := by decide +kernel
theorem dX11_turnsOn_25 : decode cX11_turnsOn 25 = .ok (.iinc 2 (-1), 3) := by decide +kernel
theorem dX11_turnsOn_28 : decode cX11_turnsOn 28 = .ok (.goto (-24), 3) := by decide +kernel
theorem dX11_turnsOn_31 : decode cX11_turnsOn 31 = .ok (.iload_n 2, 1) := by decide +kernel
theorem dX11_turnsOn_32 : decode cX11_turnsOn 32 = .ok (.ifCond .ge 5, 3) := by decide +kernel
theorem dX11_turnsOn_35 : decode cX11_turnsOn 35 = .ok (.iconst 0, 1) := by decide +kernel
theorem dX11_turnsOn_36 : decode cX11_turnsOn 36 = .ok (.ireturn, 1) := by decide +kernel
theorem dX11_turnsOn_37 : decode cX11_turnsOn 37 = .ok (.iload_n 1, 1) := by decide +kernel
theorem dX11_turnsOn_38 : decode cX11_turnsOn 38 = .ok (.iconst 1, 1) := by decide +kernel
theorem dX11_turnsOn_39 : decode cX11_turnsOn 39 = .ok (.isub, 1) := by decide +kernel
theorem dX11_turnsOn_40 : decode cX11_turnsOn 40 = .ok (.istore_n 3, 1) := by decide +kernel
theorem dX11_turnsOn_41 : decode cX11_turnsOn 41 = .ok (.aload_n 0, 1) := by decide +kernel
theorem dX11_turnsOn_42 : decode cX11_turnsOn 42 = .ok (.getfield 45, 3) := by decide +kernel
theorem dX11_turnsOn_45 : decode cX11_turnsOn 45 = .ok (.iload_n 3, 1) := by decide +kernel
theorem dX11_turnsOn_46 : decode cX11_turnsOn 46 = .ok (.iaload, 1) := by decide +kernel
theorem dX11_turnsOn_47 : decode cX11_turnsOn 47 = .ok (.aload_n 0, 1) := by decide +kernel
theorem dX11_turnsOn_48 : decode cX11_turnsOn 48 = .ok (.getfield 45, 3) := by decide +kernel
theorem dX11_turnsOn_51 : decode cX11_turnsOn 51 = .ok (.iload_n 2, 1) := by decide +kernel
theorem dX11_turnsOn_52 : decode cX11_turnsOn 52 = .ok (.iaload, 1) := by decide +kernel
theorem dX11_turnsOn_53 : decode cX11_turnsOn 53 = .ok (.if_icmp .ge 9, 3) := by decide +kernel
theorem dX11_turnsOn_56 : decode cX11_turnsOn 56 = .ok (.iinc 3 (-1), 3) := by decide +kernel
theorem dX11_turnsOn_59 : decode cX11_turnsOn 59 = .ok (.goto (-18), 3) := by decide +kernel
theorem dX11_turnsOn_62 : decode cX11_turnsOn 62 = .ok (.aload_n 0, 1) := by decide +kernel
theorem dX11_turnsOn_63 : decode cX11_turnsOn 63 = .ok (.iload_n 2, 1) := by decide +kernel
theorem dX11_turnsOn_64 : decode cX11_turnsOn 64 = .ok (.iload_n 3, 1) := by decide +kernel
theorem dX11_turnsOn_65 : decode cX11_turnsOn 65 = .ok (.invokevirtual 232, 3) := by decide +kernel
theorem dX11_turnsOn_68 : decode cX11_turnsOn 68 = .ok (.iload_n 2, 1) := by decide +kernel
theorem dX11_turnsOn_69 : decode cX11_turnsOn 69 = .ok (.iconst 1, 1) := by decide +kernel
theorem dX11_turnsOn_70 : decode cX11_turnsOn 70 = .ok (.iadd, 1) := by decide +kernel
theorem dX11_turnsOn_71 : decode cX11_turnsOn 71 = .ok (.istore 4, 2) := by decide +kernel
theorem dX11_turnsOn_73 : decode cX11_turnsOn 73 = .ok (.iload_n 1, 1) := by decide +kernel
theorem dX11_turnsOn_74 : decode cX11_turnsOn 74 = .ok (.iconst 1, 1) := by decide +kernel
theorem dX11_turnsOn_75 : decode cX11_turnsOn 75 = .ok (.isub, 1) := by decide +kernel
theorem dX11_turnsOn_76 : decode cX11_turnsOn 76 = .ok (.istore 5, 2) := by decide +kernel
theorem dX11_turnsOn_78 : decode cX11_turnsOn 78 = .ok (.iload 4, 2) := by decide +kernel
theorem dX11_turnsOn_80 : decode cX11_turnsOn 80 = .ok (.iload 5, 2) := by decide +kernel
theorem dX11_turnsOn_82 : decode cX11_turnsOn 82 = .ok (.if_icmp .ge 20, 3) := by decide +kernel
theorem dX11_turnsOn_85 : decode cX11_turnsOn 85 = .ok (.aload_n 0, 1) := by decide +kernel
theorem dX11_turnsOn_86 : decode cX11_turnsOn 86 = .ok (.iload 4, 2) := by decide +kernel
theorem dX11_turnsOn_88 : decode cX11_turnsOn 88 = .ok (.iload 5, 2) := by decide +kernel
theorem dX11_turnsOn_90 : decode cX11_turnsOn 90 = .ok (.invokevirtual 232, 3) := by decide +kernel
theorem dX11_turnsOn_93 : decode cX11_turnsOn 93 = .ok (.iinc 4 1, 3) := by decide +kernel
theorem dX11_turnsOn_96 : decode cX11_turnsOn 96 = .ok (.iinc 5 (-1), 3) := by decide +kernel
theorem dX11_turnsOn_99 : decode cX11_turnsOn 99 = .ok (.goto (-21), 3) := by decide +kernel
theorem dX11_turnsOn_102 : decode cX11_turnsOn 102 = .ok (.iconst 1, 1) := by decide +kernel
theorem dX11_turnsOn_103 : decode cX11_turnsOn 103 = .ok (.ireturn, 1) := by decide +kernel
theorem dX11_swap_0 : decode cX11_swap 0 = .ok (.aload_n 0, 1) := by decide +kernel
theorem dX11_swap_1 : decode cX11_swap 1 = .ok (.getfield 45, 3) := by decide +kernel
theorem dX11_swap_4 : decode cX11_swap 4 = .ok (.iload_n 1, 1) := by decide +kernel
theorem dX11_swap_5 : decode cX11_swap 5 = .ok (.iaload, 1) := by decide +kernel
theorem dX11_swap_6 : decode cX11_swap 6 = .ok (.istore_n 3, 1) := by decide +kernel
theorem dX11_swap_7 : decode cX11_swap 7 = .ok (.aload_n 0, 1) := by decide +kernel
theorem dX11_swap_8 : decode cX11_swap 8 = .ok (.getfield 45, 3) := by decide +kernel
theorem dX11_swap_11 : decode cX11_swap 11 = .ok (.iload_n 1, 1) := by decide +kernel
theorem dX11_swap_12 : decode cX11_swap 12 = .ok (.aload_n 0, 1) := by decide +kernel
theorem dX11_swap_13 : decode cX11_swap 13 = .ok (.getfield 45, 3) := by decide +kernel
theorem dX11_swap_16 : decode cX11_swap 16 = .ok (.iload_n 2, 1) := by decide +kernel
theorem dX11_swap_17 : decode cX11_swap 17 = .ok (.iaload, 1) := by decide +kernel
theorem dX11_swap_18 : decode cX11_swap 18 = .ok (.iastore, 1) := by decide +kernel
theorem dX11_swap_19 : decode cX11_swap 19 = .ok (.aload_n 0, 1) := by decide +kernel
theorem dX11_swap_20 : decode cX11_swap 20 = .ok (.getfield 45, 3) := by decide +kernel
theorem dX11_swap_23 : decode cX11_swap 23 = .ok (.iload_n 2, 1) := by decide +kernel
theorem dX11_swap_24 : decode cX11_swap 24 = .ok (.iload_n 3, 1) := by decide +kernel
theorem dX11_swap_25 : decode cX11_swap 25 = .ok (.iastore, 1) := by decide +kernel
theorem dX11_swap_26 : decode cX11_swap 26 = .ok (.return_, 1) := by decide +kernel
theorem dX11_findOrder_0 : decode cX11_findOrder 0 = .ok (.aload_n 0, 1) := by decide +kernel
theorem dX11_findOrder_1 : decode cX11_findOrder 1 = .ok (.getfield 7, 3) := by decide +kernel
theorem dX11_findOrder_4 : decode cX11_findOrder 4 = .ok (.bipush 64, 2) := by decide +kernel
theorem dX11_findOrder_6 : decode cX11_findOrder 6 = .ok (.iaload, 1) := by decide +kernel
theorem dX11_findOrder_7 : decode cX11_findOrder 7 = .ok (.istore_n 1, 1) := by decide +kernel
theorem dX11_findOrder_8 : decode cX11_findOrder 8 = .ok (.iconst 0, 1) := by decide +kernel
theorem dX11_findOrder_9 : decode cX11_findOrder 9 = .ok (.istore_n 2, 1) := by decide +kernel
theorem dX11_findOrder_10 : decode cX11_findOrder 10 = .ok (.iload_n 2, 1) := by decide +kernel
theorem dX11_findOrder_11 : decode cX11_findOrder 11 = .ok (.iconst 4, 1) := by decide +kernel
theorem dX11_findOrder_12 : decode cX11_findOrder 12 = .ok (.if_icmp .ge 16, 3) := by decide +kernel
theorem dX11_findOrder_15 : decode cX11_findOrder 15 = .ok (.aload_n 0, 1) := by decide +kernel
theorem dX11_findOrder_16 : decode cX11_findOrder 16 = .ok (.getfield 45, 3) := by decide +kernel
theorem dX11_findOrder_19 : decode cX11_findOrder 19 = .ok (.iload_n 2, 1) := by decide +kernel
theorem dX11_findOrder_20 : decode cX11_findOrder 20 = .ok (.iload_n 2, 1) := by decide +kernel
theorem dX11_findOrder_21 : decode cX11_findOrder 21 = .ok (.iastore, 1) := by decide +kernel
theorem dX11_findOrder_22 : decode cX11_findOrder 22 = .ok (.iinc 2 1, 3) := by decide +kernel
theorem dX11_findOrder_25 : decode cX11_findOrder 25 = .ok (.goto (-15), 3) := by decide +kernel
theorem dX11_findOrder_28 : decode cX11_findOrder 28 = .ok (.aload_n 0, 1) := by decide +kernel
theorem dX11_findOrder_29 : decode cX11_findOrder 29 = .ok (.bipush 33, 2) := by decide +kernel
theorem dX11_findOrder_31 : decode cX11_findOrder 31 = .ok (.putfield 235, 3) := by decide +kernel
theorem dX11_findOrder_34 : decode cX11_findOrder 34 = .ok (.iconst 1, 1) := by decide +kernel
theorem dX11_findOrder_35 : decode cX11_findOrder 35 = .ok (.istore_n 2, 1) := by decide +kernel
theorem dX11_findOrder_36 : decode cX11_findOrder 36 = .ok (.iload_n 2, 1) := by decide +kernel
theorem dX11_findOrder_37 : decode cX11_findOrder 37 = .ok (.ifCond .eq 106, 3) := by decide +kernel
theorem dX11_findOrder_40 : decode cX11_findOrder 40 = .ok (.aload_n 0, 1) := by decide +kernel
theorem dX11_findOrder_41 : decode cX11_findOrder 41 = .ok (.invokevirtual 202, 3) := by decide +kernel
theorem dX11_findOrder_44 : decode cX11_findOrder 44 = .ok (.iconst 0, 1) := by decide +kernel
theorem dX11_findOrder_45 : decode cX11_findOrder 45 = .ok (.istore_n 3, 1) := by decide +kernel
theorem dX11_findOrder_46 : decode cX11_findOrder 46 = .ok (.iload_n 3, 1) := by decide +kernel
theorem dX11_findOrder_47 : decode cX11_findOrder 47 = .ok (.iload_n 1, 1) := by decide +kernel
theorem dX11_findOrder_48 : decode cX11_findOrder 48 = .ok (.if_icmp .ge 24, 3) := by decide +kernel
theorem dX11_findOrder_51 : decode cX11_findOrder 51 = .ok (.aload_n 0, 1) := by decide +kernel
theorem dX11_findOrder_52 : decode cX11_findOrder 52 = .ok (.bipush 65, 2) := by decide +kernel
theorem dX11_findOrder_54 : decode cX11_findOrder 54 = .ok (.iconst 5, 1) := by decide +kernel
theorem dX11_findOrder_55 : decode cX11_findOrder 55 = .ok (.aload_n 0, 1) := by decide +kernel
theorem dX11_findOrder_56 : decode cX11_findOrder 56 = .ok (.getfield 45, 3) := by decide +kernel
theorem dX11_findOrder_59 : decode cX11_findOrder 59 = .ok (.iload_n 3, 1) := by decide +kernel
theorem dX11_findOrder_60 : decode cX11_findOrder 60 = .ok (.iaload, 1) := by decide +kernel
theorem dX11_findOrder_61 : decode cX11_findOrder 61 = .ok (.imul, 1) := by decide +kernel
theorem dX11_findOrder_62 : decode cX11_findOrder 62 = .ok (.iadd, 1) := by decide +kernel
theorem dX11_findOrder_63 : decode cX11_findOrder 63 = .ok (.invokevirtual 199, 3) := by decide +kernel
theorem dX11_findOrder_66 : decode cX11_findOrder 66 = .ok (.iinc 3 1, 3) := by decide +kernel
theorem dX11_findOrder_69 : decode cX11_findOrder 69 = .ok (.goto (-23), 3) := by decide +kernel
theorem dX11_findOrder_72 : decode cX11_findOrder 72 = .ok (.aload_n 0, 1) := by decide +kernel
theorem dX11_findOrder_73 : decode cX11_findOrder 73 = .ok (.invokevirtual 211, 3) := by decide +kernel
theorem dX11_findOrder_76 : decode cX11_findOrder 76 = .ok (.istore_n 3, 1) := by decide +kernel
theorem dX11_findOrder_77 : decode cX11_findOrder 77 = .ok (.iconst 0, 1) := by decide +kernel
theorem dX11_findOrder_78 : decode cX11_findOrder 78 = .ok (.istore 4, 2) := by decide +kernel
theorem dX11_findOrder_80 : decode cX11_findOrder 80 = .ok (.iload 4, 2) := by decide +kernel
theorem dX11_findOrder_82 : decode cX11_findOrder 82 = .ok (.iconst 4, 1) := by decide +kernel
theorem dX11_findOrder_83 : decode cX11_findOrder 83 = .ok (.if_icmp .ge 31, 3) := by decide +kernel
theorem dX11_findOrder_86 : decode cX11_findOrder 86 = .ok (.iload_n 3, 1) := by decide +kernel
theorem dX11_findOrder_87 : decode cX11_findOrder 87 = .ok (.aload_n 0, 1) := by decide +kernel
theorem dX11_findOrder_88 : decode cX11_findOrder 88 = .ok (.getfield 235, 3) := by decide +kernel
theorem dX11_findOrder_91 : decode cX11_findOrder 91 = .ok (.if_icmp .ge 23, 3) := by decide +kernel
theorem dX11_findOrder_94 : decode cX11_findOrder 94 = .ok (.aload_n 0, 1) := by decide +kernel
theorem dX11_findOrder_95 : decode cX11_findOrder 95 = .ok (.getfield 48, 3) := by decide +kernel
theorem dX11_findOrder_98 : decode cX11_findOrder 98 = .ok (.iload 4, 2) := by decide +kernel
theorem dX11_findOrder_100 : decode cX11_findOrder 100 = .ok (.aload_n 0, 1) := by decide +kernel
theorem dX11_findOrder_101 : decode cX11_findOrder 101 = .ok (.getfield 45, 3) := by decide +kernel
theorem dX11_findOrder_104 : decode cX11_findOrder 104 = .ok (.iload 4, 2) := by decide +kernel
theorem dX11_findOrder_106 : decode cX11_findOrder 106 = .ok (.iaload, 1) := by decide +kernel
theorem dX11_findOrder_107 : decode cX11_findOrder 107 = .ok (.iastore, 1) := by decide +kernel
theorem dX11_findOrder_108 : decode cX11_findOrder 108 = .ok (.iinc 4 1, 3) := by decide +kernel
theorem dX11_findOrder_111 : decode cX11_findOrder 111 = .ok (.goto (-31), 3) := by decide +kernel
theorem dX11_findOrder_114 : decode cX11_findOrder 114 = .ok (.aload_n 0, 1) := by decide +kernel
theorem dX11_findOrder_115 : decode cX11_findOrder 115 = .ok (.iload_n 3, 1) := by decide +kernel
theorem dX11_findOrder_116 : decode cX11_findOrder 116 = .ok (.aload_n 0, 1) := by decide +kernel
theorem dX11_findOrder_117 : decode cX11_findOrder 117 = .ok (.getfield 235, 3) := by decide +kernel
theorem dX11_findOrder_120 : decode cX11_findOrder 120 = .ok (.if_icmp .ge 7, 3) := by decide +kernel
theorem dX11_findOrder_123 : decode cX11_findOrder 123 = .ok (.iload_n 3, 1) := by decide +kernel
theorem dX11_findOrder_124 : decode cX11_findOrder 124 = .ok (.goto 7, 3) := by decide +kernel
theorem dX11_findOrder_127 : decode cX11_findOrder 127 = .ok (.aload_n 0, 1) := by decide +kernel
theorem dX11_findOrder_128 : decode cX11_findOrder 128 = .ok (.getfield 235, 3) := by decide +kernel
theorem dX11_findOrder_131 : decode cX11_findOrder 131 = .ok (.putfield 235, 3) := by decide +kernel
theorem dX11_findOrder_134 : decode cX11_findOrder 134 = .ok (.aload_n 0, 1) := by decide +kernel
theorem dX11_findOrder_135 : decode cX11_findOrder 135 = .ok (.iload_n 1, 1) := by decide +kernel
theorem dX11_findOrder_136 : decode cX11_findOrder 136 = .ok (.invokevirtual 238, 3) := by decide +kernel
theorem dX11_findOrder_139 : decode cX11_findOrder 139 = .ok (.istore_n 2, 1) := by decide +kernel
theorem dX11_findOrder_140 : decode cX11_findOrder 140 = .ok (.goto (-104), 3) := by decide +kernel
theorem dX11_findOrder_143 : decode cX11_findOrder 143 = .ok (.return_, 1) := by decide +kernel
theorem dX11_order_0 : decode cX11_order 0 = .ok (.iload_n 1, 1) := by decide +kernel
theorem dX11_order_1 : decode cX11_order 1 = .ok (.iconst (-1), 1) := by decide +kernel
theorem dX11_order_2 : decode cX11_order 2 = .ok (.if_icmp .ge 5, 3) := by decide +kernel
theorem dX11_order_5 : decode cX11_order 5 = .ok (.iconst (-1), 1) := by decide +kernel
theorem dX11_order_6 : decode cX11_order 6 = .ok (.ireturn, 1) := by decide +kernel
theorem dX11_order_7 : decode cX11_order 7 = .ok (.aload_n 0, 1) := by decide +kernel
theorem dX11_order_8 : decode cX11_order 8 = .ok (.invokevirtual 241, 3) := by decide +kernel
theorem dX11_order_11 : decode cX11_order 11 = .ok (.iload_n 1, 1) := by decide +kernel
theorem dX11_order_12 : decode cX11_order 12 = .ok (.ifCond .ge 10, 3) := by decide +kernel
theorem dX11_order_15 : decode cX11_order 15 = .ok (.aload_n 0, 1) := by decide +kernel
theorem dX11_order_16 : decode cX11_order 16 = .ok (.getfield 235, 3) := by decide +kernel
theorem dX11_order_19 : decode cX11_order 19 = .ok (.goto 25, 3) := by decide +kernel
theorem dX11_order_22 : decode cX11_order 22 = .ok (.iload_n 1, 1) := by decide +kernel
theorem dX11_order_23 : decode cX11_order 23 = .ok (.aload_n 0, 1) := by decide +kernel
theorem dX11_order_24 : decode cX11_order 24 = .ok (.getfield 7, 3) := by decide +kernel
theorem dX11_order_27 : decode cX11_order 27 = .ok (.bipush 64, 2) := by decide +kernel
theorem dX11_order_29 : decode cX11_order 29 = .ok (.iaload, 1) := by decide +kernel
theorem dX11_order_30 : decode cX11_order 30 = .ok (.if_icmp .ge 12, 3) := by decide +kernel
theorem dX11_order_33 : decode cX11_order 33 = .ok (.aload_n 0, 1) := by decide +kernel
theorem dX11_order_34 : decode cX11_order 34 = .ok (.getfield 48, 3) := by decide +kernel
theorem dX11_order_37 : decode cX11_order 37 = .ok (.iload_n 1, 1) := by decide +kernel
theorem dX11_order_38 : decode cX11_order 38 = .ok (.iaload, 1) := by decide +kernel
theorem dX11_order_39 : decode cX11_order 39 = .ok (.goto 5, 3) := by decide +kernel
theorem dX11_order_42 : decode cX11_order 42 = .ok (.bipush (-9), 2) := by decide +kernel
theorem dX11_order_44 : decode cX11_order 44 = .ok (.ireturn, 1) := by decide +kernel
theorem dX11_orders_0 : decode cX11_orders 0 = .ok (.aload_n 0, 1) := by decide +kernel
theorem dX11_orders_1 : decode cX11_orders 1 = .ok (.invokevirtual 241, 3) := by decide +kernel
theorem dX11_orders_4 : decode cX11_orders 4 = .ok (.iconst 1, 1) := by decide +kernel
theorem dX11_orders_5 : decode cX11_orders 5 = .ok (.istore_n 1, 1) := by decide +kernel
theorem dX11_orders_6 : decode cX11_orders 6 = .ok (.iconst 0, 1) := by decide +kernel
theorem dX11_orders_7 : decode cX11_orders 7 = .ok (.istore_n 2, 1) := by decide +kernel
theorem dX11_orders_8 : decode cX11_orders 8 = .ok (.iload_n 2, 1) := by decide +kernel
theorem dX11_orders_9 : decode cX11_orders 9 = .ok (.aload_n 0, 1) := by decide +kernel
theorem dX11_orders_10 : decode cX11_orders 10 = .ok (.getfield 7, 3) := by decide +kernel
theorem dX11_orders_13 : decode cX11_orders 13 = .ok (.bipush 64, 2) := by decide +kernel
theorem dX11_orders_15 : decode cX11_orders 15 = .ok (.iaload, 1) := by decide +kernel
theorem dX11_orders_16 : decode cX11_orders 16 = .ok (.if_icmp .ge 29, 3) := by decide +kernel
theorem dX11_orders_19 : decode cX11_orders 19 = .ok (.iload_n 1, 1) := by decide +kernel
theorem dX11_orders_20 : decode cX11_orders 20 = .ok (.ifCond .eq 17, 3) := by decide +kernel
theorem dX11_orders_23 : decode cX11_orders 23 = .ok (.aload_n 0, 1) := by decide +kernel
theorem dX11_orders_24 : decode cX11_orders 24 = .ok (.getfield 48, 3) := by decide +kernel
theorem dX11_orders_27 : decode cX11_orders 27 = .ok (.iload_n 2, 1) := by decide +kernel
theorem dX11_orders_28 : decode cX11_orders 28 = .ok (.iaload, 1) := by decide +kernel
theorem dX11_orders_29 : decode cX11_orders 29 = .ok (.iload_n 2, 1) := by decide +kernel
theorem dX11_orders_30 : decode cX11_orders 30 = .ok (.if_icmp .ne 7, 3) := by decide +kernel
theorem dX11_orders_33 : decode cX11_orders 33 = .ok (.iconst 1, 1) := by decide +kernel
theorem dX11_orders_34 : decode cX11_orders 34 = .ok (.goto 4, 3) := by decide +kernel
theorem dX11_orders_37 : decode cX11_orders 37 = .ok (.iconst 0, 1) := by decide +kernel
theorem dX11_orders_38 : decode cX11_orders 38 = .ok (.istore_n 1, 1) := by decide +kernel
theorem dX11_orders_39 : decode cX11_orders 39 = .ok (.iinc 2 1, 3) := by decide +kernel
theorem dX11_orders_42 : decode cX11_orders 42 = .ok (.goto (-34), 3) := by decide +kernel
theorem dX11_orders_45 : decode cX11_orders 45 = .ok (.iload_n 1, 1) := by decide +kernel
theorem dX11_orders_46 : decode cX11_orders 46 = .ok (.ifCond .eq 6, 3) := by decide +kernel
theorem dX11_orders_49 : decode cX11_orders 49 = .ok (.bipush (-2), 2) := by decide +kernel
theorem dX11_orders_51 : decode cX11_orders 51 = .ok (.ireturn, 1) := by decide +kernel
theorem dX11_orders_52 : decode cX11_orders 52 = .ok (.aload_n 0, 1) := by decide +kernel
theorem dX11_orders_53 : decode cX11_orders 53 = .ok (.invokevirtual 140, 3) := by decide +kernel
theorem dX11_orders_56 : decode cX11_orders 56 = .ok (.iconst 0, 1) := by decide +kernel
theorem dX11_orders_57 : decode cX11_orders 57 = .ok (.istore_n 2, 1) := by decide +kernel
theorem dX11_orders_58 : decode cX11_orders 58 = .ok (.iload_n 2, 1) := by decide +kernel
theorem dX11_orders_59 : decode cX11_orders 59 = .ok (.bipush 20, 2) := by decide +kernel
theorem dX11_orders_61 : decode cX11_orders 61 = .ok (.if_icmp .ge 24, 3) := by decide +kernel
theorem dX11_orders_64 : decode cX11_orders 64 = .ok (.aload_n 0, 1) := by decide +kernel
theorem dX11_orders_65 : decode cX11_orders 65 = .ok (.getfield 51, 3) := by decide +kernel
theorem dX11_orders_68 : decode cX11_orders 68 = .ok (.iload_n 2, 1) := by decide +kernel
theorem dX11_orders_69 : decode cX11_orders 69 = .ok (.aload_n 0, 1) := by decide +kernel
theorem dX11_orders_70 : decode cX11_orders 70 = .ok (.getfield 7, 3) := by decide +kernel
theorem dX11_orders_73 : decode cX11_orders 73 = .ok (.bipush 65, 2) := by decide +kernel
theorem dX11_orders_75 : decode cX11_orders 75 = .ok (.iload_n 2, 1) := by decide +kernel
theorem dX11_orders_76 : decode cX11_orders 76 = .ok (.iadd, 1) := by decide +kernel
theorem dX11_orders_77 : decode cX11_orders 77 = .ok (.iaload, 1) := by decide +kernel
theorem dX11_orders_78 : decode cX11_orders 78 = .ok (.iastore, 1) := by decide +kernel
theorem dX11_orders_79 : decode cX11_orders 79 = .ok (.iinc 2 1, 3) := by decide +kernel
theorem dX11_orders_82 : decode cX11_orders 82 = .ok (.goto (-24), 3) := by decide +kernel
theorem dX11_orders_85 : decode cX11_orders 85 = .ok (.iconst 0, 1) := by decide +kernel
theorem dX11_orders_86 : decode cX11_orders 86 = .ok (.istore_n 2, 1) := by decide +kernel
theorem dX11_orders_87 : decode cX11_orders 87 = .ok (.iload_n 2, 1) := by decide +kernel
theorem dX11_orders_88 : decode cX11_orders 88 = .ok (.iconst 5, 1) := by decide +kernel
theorem dX11_orders_89 : decode cX11_orders 89 = .ok (.aload_n 0, 1) := by decide +kernel
theorem dX11_orders_90 : decode cX11_orders 90 = .ok (.getfield 7, 3) := by decide +kernel
theorem dX11_orders_93 : decode cX11_orders 93 = .ok (.bipush 64, 2) := by decide +kernel
theorem dX11_orders_95 : decode cX11_orders 95 = .ok (.iaload, 1) := by decide +kernel
theorem dX11_orders_96 : decode cX11_orders 96 = .ok (.imul, 1) := by decide +kernel
theorem dX11_orders_97 : decode cX11_orders 97 = .ok (.if_icmp .ge 37, 3) := by decide +kernel
theorem dX11_orders_100 : decode cX11_orders 100 = .ok (.aload_n 0, 1) := by decide +kernel
theorem dX11_orders_101 : decode cX11_orders 101 = .ok (.getfield 7, 3) := by decide +kernel
theorem dX11_orders_104 : decode cX11_orders 104 = .ok (.bipush 65, 2) := by decide +kernel
theorem dX11_orders_106 : decode cX11_orders 106 = .ok (.iload_n 2, 1) := by decide +kernel
theorem dX11_orders_107 : decode cX11_orders 107 = .ok (.iadd, 1) := by decide +kernel
theorem dX11_orders_108 : decode cX11_orders 108 = .ok (.aload_n 0, 1) := by decide +kernel
theorem dX11_orders_109 : decode cX11_orders 109 = .ok (.getfield 51, 3) := by decide +kernel
theorem dX11_orders_112 : decode cX11_orders 112 = .ok (.iconst 5, 1) := by decide +kernel
theorem dX11_orders_113 : decode cX11_orders 113 = .ok (.aload_n 0, 1) := by decide +kernel
theorem dX11_orders_114 : decode cX11_orders 114 = .ok (.getfield 48, 3) := by decide +kernel
theorem dX11_orders_117 : decode cX11_orders 117 = .ok (.iload_n 2, 1) := by decide +kernel
theorem dX11_orders_118 : decode cX11_orders 118 = .ok (.iconst 5, 1) := by decide +kernel
theorem dX11_orders_119 : decode cX11_orders 119 = .ok (.idiv, 1) := by decide +kernel
theorem dX11_orders_120 : decode cX11_orders 120 = .ok (.iaload, 1) := by decide +kernel
theorem dX11_orders_121 : decode cX11_orders 121 = .ok (.imul, 1) := by decide +kernel
theorem dX11_orders_122 : decode cX11_orders 122 = .ok (.iload_n 2, 1) := by decide +kernel
theorem dX11_orders_123 : decode cX11_orders 123 = .ok (.iconst 5, 1) := by decide +kernel
theorem dX11_orders_124 : decode cX11_orders 124 = .ok (.irem, 1) := by decide +kernel
theorem dX11_orders_125 : decode cX11_orders 125 = .ok (.iadd, 1) := by decide +kernel
theorem dX11_orders_126 : decode cX11_orders 126 = .ok (.iaload, 1) := by decide +kernel
theorem dX11_orders_127 : decode cX11_orders 127 = .ok (.iastore, 1) := by decide +kernel
theorem dX11_orders_128 : decode cX11_orders 128 = .ok (.iinc 2 1, 3) := by decide +kernel
theorem dX11_orders_131 : decode cX11_orders 131 = .ok (.goto (-44), 3) := by decide +kernel
theorem dX11_orders_134 : decode cX11_orders 134 = .ok (.aload_n 0, 1) := by decide +kernel
theorem dX11_orders_135 : decode cX11_orders 135 = .ok (.getfield 235, 3) := by decide +kernel
theorem dX11_orders_138 : decode cX11_orders 138 = .ok (.ireturn, 1) := by decide +kernel
theorem dX11_hears_0 : decode cX11_hears 0 = .ok (.aload_n 0, 1) := by decide +kernel
theorem dX11_hears_1 : decode cX11_hears 1 = .ok (.invokevirtual 244, 3) := by decide +kernel
theorem dX11_hears_4 : decode cX11_hears 4 = .ok (.istore_n 1, 1) := by decide +kernel
theorem dX11_hears_5 : decode cX11_hears 5 = .ok (.aload_n 0, 1) := by decide +kernel
theorem dX11_hears_6 : decode cX11_hears 6 = .ok (.invokevirtual 140, 3) := by decide +kernel
theorem dX11_hears_9 : decode cX11_hears 9 = .ok (.aload_n 0, 1) := by decide +kernel
theorem dX11_hears_10 : decode cX11_hears 10 = .ok (.getfield 7, 3) := by decide +kernel
theorem dX11_hears_13 : decode cX11_hears 13 = .ok (.bipush 85, 2) := by decide +kernel
theorem dX11_hears_15 : decode cX11_hears 15 = .ok (.dup2, 1) := by decide +kernel
theorem dX11_hears_16 : decode cX11_hears 16 = .ok (.iaload, 1) := by decide +kernel
theorem dX11_hears_17 : decode cX11_hears 17 = .ok (.iconst 1, 1) := by decide +kernel
theorem dX11_hears_18 : decode cX11_hears 18 = .ok (.iadd, 1) := by decide +kernel
theorem dX11_hears_19 : decode cX11_hears 19 = .ok (.iastore, 1) := by decide +kernel
theorem dX11_hears_20 : decode cX11_hears 20 = .ok (.aload_n 0, 1) := by decide +kernel
theorem dX11_hears_21 : decode cX11_hears 21 = .ok (.ldc 247, 2) := by decide +kernel
theorem dX11_hears_23 : decode cX11_hears 23 = .ok (.aload_n 0, 1) := by decide +kernel
theorem dX11_hears_24 : decode cX11_hears 24 = .ok (.getfield 78, 3) := by decide +kernel
theorem dX11_hears_27 : decode cX11_hears 27 = .ok (.fmul, 1) := by decide +kernel
theorem dX11_hears_28 : decode cX11_hears 28 = .ok (.ldc 248, 2) := by decide +kernel
theorem dX11_hears_30 : decode cX11_hears 30 = .ok (.iload_n 1, 1) := by decide +kernel
theorem dX11_hears_31 : decode cX11_hears 31 = .ok (.i2f, 1) := by decide +kernel
theorem dX11_hears_32 : decode cX11_hears 32 = .ok (.fmul, 1) := by decide +kernel
theorem dX11_hears_33 : decode cX11_hears 33 = .ok (.fadd, 1) := by decide +kernel
theorem dX11_hears_34 : decode cX11_hears 34 = .ok (.putfield 78, 3) := by decide +kernel
theorem dX11_hears_37 : decode cX11_hears 37 = .ok (.iload_n 1, 1) := by decide +kernel
theorem dX11_hears_38 : decode cX11_hears 38 = .ok (.ireturn, 1) := by decide +kernel
theorem dX11_at_0 : decode cX11_at 0 = .ok (.iload_n 1, 1) := by decide +kernel
theorem dX11_at_1 : decode cX11_at 1 = .ok (.iconst 0, 1) := by decide +kernel
theorem dX11_at_2 : decode cX11_at 2 = .ok (.iconst 1, 1) := by decide +kernel
theorem dX11_at_3 : decode cX11_at 3 = .ok (.invokestatic 82, 3) := by decide +kernel
theorem dX11_at_6 : decode cX11_at 6 = .ok (.ifCond .eq 22, 3) := by decide +kernel
theorem dX11_at_9 : decode cX11_at 9 = .ok (.iload_n 2, 1) := by decide +kernel
theorem dX11_at_10 : decode cX11_at 10 = .ok (.iconst 0, 1) := by decide +kernel
theorem dX11_at_11 : decode cX11_at 11 = .ok (.bipush 15, 2) := by decide +kernel
theorem dX11_at_13 : decode cX11_at 13 = .ok (.invokestatic 82, 3) := by decide +kernel
theorem dX11_at_16 : decode cX11_at 16 = .ok (.ifCond .eq 12, 3) := by decide +kernel
theorem dX11_at_19 : decode cX11_at 19 = .ok (.iload_n 3, 1) := by decide +kernel
theorem dX11_at_20 : decode cX11_at 20 = .ok (.iconst 0, 1) := by decide +kernel
theorem dX11_at_21 : decode cX11_at 21 = .ok (.iconst 3, 1) := by decide +kernel
theorem dX11_at_22 : decode cX11_at 22 = .ok (.invokestatic 82, 3) := by decide +kernel
theorem dX11_at_25 : decode cX11_at 25 = .ok (.ifCond .ne 5, 3) := by decide +kernel
theorem dX11_at_28 : decode cX11_at 28 = .ok (.iconst (-1), 1) := by decide +kernel
theorem dX11_at_29 : decode cX11_at 29 = .ok (.ireturn, 1) := by decide +kernel
theorem dX11_at_30 : decode cX11_at 30 = .ok (.bipush 16, 2) := by decide +kernel
theorem dX11_at_32 : decode cX11_at 32 = .ok (.iload_n 1, 1) := by decide +kernel
theorem dX11_at_33 : decode cX11_at 33 = .ok (.imul, 1) := by decide +kernel
theorem dX11_at_34 : decode cX11_at 34 = .ok (.iload_n 2, 1) := by decide +kernel
theorem dX11_at_35 : decode cX11_at 35 = .ok (.iadd, 1) := by decide +kernel
theorem dX11_at_36 : decode cX11_at 36 = .ok (.istore 4, 2) := by decide +kernel
theorem dX11_at_38 : decode cX11_at 38 = .ok (.iload_n 3, 1) := by decide +kernel
theorem dX11_at_39 : decode cX11_at 39 = .ok (.ifCond .ne 11, 3) := by decide +kernel
theorem dX11_at_42 : decode cX11_at 42 = .ok (.aload_n 0, 1) := by decide +kernel
theorem dX11_at_43 : decode cX11_at 43 = .ok (.getfield 7, 3) := by decide +kernel
theorem dX11_at_46 : decode cX11_at 46 = .ok (.iload 4, 2) := by decide +kernel
theorem dX11_at_48 : decode cX11_at 48 = .ok (.iaload, 1) := by decide +kernel
theorem dX11_at_49 : decode cX11_at 49 = .ok (.ireturn, 1) := by decide +kernel
theorem dX11_at_50 : decode cX11_at 50 = .ok (.aload_n 0, 1) := by decide +kernel
theorem dX11_at_51 : decode cX11_at 51 = .ok (.invokevirtual 202, 3) := by decide +kernel
theorem dX11_at_54 : decode cX11_at 54 = .ok (.iload_n 3, 1) := by decide +kernel
theorem dX11_at_55 : decode cX11_at 55 = .ok (.iconst 1, 1) := by decide +kernel
theorem dX11_at_56 : decode cX11_at 56 = .ok (.if_icmp .ne 11, 3) := by decide +kernel
theorem dX11_at_59 : decode cX11_at 59 = .ok (.aload_n 0, 1) := by decide +kernel
theorem dX11_at_60 : decode cX11_at 60 = .ok (.getfield 36, 3) := by decide +kernel
theorem dX11_at_63 : decode cX11_at 63 = .ok (.iload 4, 2) := by decide +kernel
theorem dX11_at_65 : decode cX11_at 65 = .ok (.iaload, 1) := by decide +kernel
theorem dX11_at_66 : decode cX11_at 66 = .ok (.ireturn, 1) := by decide +kernel
theorem dX11_at_67 : decode cX11_at 67 = .ok (.aload_n 0, 1) := by decide +kernel
theorem dX11_at_68 : decode cX11_at 68 = .ok (.aload_n 0, 1) := by decide +kernel
theorem dX11_at_69 : decode cX11_at 69 = .ok (.getfield 7, 3) := by decide +kernel
theorem dX11_at_72 : decode cX11_at 72 = .ok (.bipush 64, 2) := by decide +kernel
theorem dX11_at_74 : decode cX11_at 74 = .ok (.iaload, 1) := by decide +kernel
theorem dX11_at_75 : decode cX11_at 75 = .ok (.invokevirtual 205, 3) := by decide +kernel
theorem dX11_at_78 : decode cX11_at 78 = .ok (.iload_n 3, 1) := by decide +kernel
theorem dX11_at_79 : decode cX11_at 79 = .ok (.iconst 2, 1) := by decide +kernel
theorem dX11_at_80 : decode cX11_at 80 = .ok (.if_icmp .ne 13, 3) := by decide +kernel
theorem dX11_at_83 : decode cX11_at 83 = .ok (.aload_n 0, 1) := by decide +kernel
theorem dX11_at_84 : decode cX11_at 84 = .ok (.getfield 36, 3) := by decide +kernel
theorem dX11_at_87 : decode cX11_at 87 = .ok (.iload 4, 2) := by decide +kernel
theorem dX11_at_89 : decode cX11_at 89 = .ok (.iaload, 1) := by decide +kernel
theorem dX11_at_90 : decode cX11_at 90 = .ok (.goto 13, 3) := by decide +kernel
theorem dX11_at_93 : decode cX11_at 93 = .ok (.aload_n 0, 1) := by decide +kernel
theorem dX11_at_94 : decode cX11_at 94 = .ok (.getfield 36, 3) := by decide +kernel
theorem dX11_at_97 : decode cX11_at 97 = .ok (.iload 4, 2) := by decide +kernel
theorem dX11_at_99 : decode cX11_at 99 = .ok (.iaload, 1) := by decide +kernel
theorem dX11_at_100 : decode cX11_at 100 = .ok (.invokestatic 168, 3) := by decide +kernel
theorem dX11_at_103 : decode cX11_at 103 = .ok (.ireturn, 1) := by decide +kernel
theorem dX11_deed_0 : decode cX11_deed 0 = .ok (.iload_n 1, 1) := by decide +kernel
theorem dX11_deed_1 : decode cX11_deed 1 = .ok (.iconst 0, 1) := by decide +kernel
theorem dX11_deed_2 : decode cX11_deed 2 = .ok (.aload_n 0, 1) := by decide +kernel
theorem dX11_deed_3 : decode cX11_deed 3 = .ok (.getfield 7, 3) := by decide +kernel
theorem dX11_deed_6 : decode cX11_deed 6 = .ok (.bipush 33, 2) := by decide +kernel
theorem dX11_deed_8 : decode cX11_deed 8 = .ok (.iaload, 1) := by decide +kernel
theorem dX11_deed_9 : decode cX11_deed 9 = .ok (.iconst 1, 1) := by decide +kernel
theorem dX11_deed_10 : decode cX11_deed 10 = .ok (.isub, 1) := by decide +kernel
theorem dX11_deed_11 : decode cX11_deed 11 = .ok (.invokestatic 82, 3) := by decide +kernel
theorem dX11_deed_14 : decode cX11_deed 14 = .ok (.ifCond .eq 28, 3) := by decide +kernel
theorem dX11_deed_17 : decode cX11_deed 17 = .ok (.iload_n 2, 1) := by decide +kernel
theorem dX11_deed_18 : decode cX11_deed 18 = .ok (.iconst 0, 1) := by decide +kernel
theorem dX11_deed_19 : decode cX11_deed 19 = .ok (.iconst 4, 1) := by decide +kernel
theorem dX11_deed_20 : decode cX11_deed 20 = .ok (.invokestatic 82, 3) := by decide +kernel
theorem dX11_deed_23 : decode cX11_deed 23 = .ok (.ifCond .eq 19, 3) := by decide +kernel
theorem dX11_deed_26 : decode cX11_deed 26 = .ok (.aload_n 0, 1) := by decide +kernel
theorem dX11_deed_27 : decode cX11_deed 27 = .ok (.getfield 7, 3) := by decide +kernel
theorem dX11_deed_30 : decode cX11_deed 30 = .ok (.bipush 34, 2) := by decide +kernel
theorem dX11_deed_32 : decode cX11_deed 32 = .ok (.iconst 5, 1) := by decide +kernel
theorem dX11_deed_33 : decode cX11_deed 33 = .ok (.iload_n 1, 1) := by decide +kernel
theorem dX11_deed_34 : decode cX11_deed 34 = .ok (.imul, 1) := by decide +kernel
theorem dX11_deed_35 : decode cX11_deed 35 = .ok (.iadd, 1) := by decide +kernel
theorem dX11_deed_36 : decode cX11_deed 36 = .ok (.iload_n 2, 1) := by decide +kernel
theorem dX11_deed_37 : decode cX11_deed 37 = .ok (.iadd, 1) := by decide +kernel
theorem dX11_deed_38 : decode cX11_deed 38 = .ok (.iaload, 1) := by decide +kernel
theorem dX11_deed_39 : decode cX11_deed 39 = .ok (.goto 4, 3) := by decide +kernel
theorem dX11_deed_42 : decode cX11_deed 42 = .ok (.iconst (-1), 1) := by decide +kernel
theorem dX11_deed_43 : decode cX11_deed 43 = .ok (.ireturn, 1) := by decide +kernel
theorem dX11_stage_0 : decode cX11_stage 0 = .ok (.iload_n 1, 1) := by decide +kernel
theorem dX11_stage_1 : decode cX11_stage 1 = .ok (.iconst 0, 1) := by decide +kernel
theorem dX11_stage_2 : decode cX11_stage 2 = .ok (.aload_n 0, 1) := by decide +kernel
theorem dX11_stage_3 : decode cX11_stage 3 = .ok (.getfield 7, 3) := by decide +kernel
theorem dX11_stage_6 : decode cX11_stage 6 = .ok (.bipush 64, 2) := by decide +kernel
theorem dX11_stage_8 : decode cX11_stage 8 = .ok (.iaload, 1) := by decide +kernel
theorem dX11_stage_9 : decode cX11_stage 9 = .ok (.iconst 1, 1) := by decide +kernel
theorem dX11_stage_10 : decode cX11_stage 10 = .ok (.isub, 1) := by decide +kernel
theorem dX11_stage_11 : decode cX11_stage 11 = .ok (.invokestatic 82, 3) := by decide +kernel
theorem dX11_stage_14 : decode cX11_stage 14 = .ok (.ifCond .eq 28, 3) := by decide +kernel
theorem dX11_stage_17 : decode cX11_stage 17 = .ok (.iload_n 2, 1) := by decide +kernel
theorem dX11_stage_18 : decode cX11_stage 18 = .ok (.iconst 0, 1) := by decide +kernel
theorem dX11_stage_19 : decode cX11_stage 19 = .ok (.iconst 4, 1) := by decide +kernel
theorem dX11_stage_20 : decode cX11_stage 20 = .ok (.invokestatic 82, 3) := by decide +kernel
theorem dX11_stage_23 : decode cX11_stage 23 = .ok (.ifCond .eq 19, 3) := by decide +kernel
theorem dX11_stage_26 : decode cX11_stage 26 = .ok (.aload_n 0, 1) := by decide +kernel
theorem dX11_stage_27 : decode cX11_stage 27 = .ok (.getfield 7, 3) := by decide +kernel
theorem dX11_stage_30 : decode cX11_stage 30 = .ok (.bipush 65, 2) := by decide +kernel
theorem dX11_stage_32 : decode cX11_stage 32 = .ok (.iconst 5, 1) := by decide +kernel
theorem dX11_stage_33 : decode cX11_stage 33 = .ok (.iload_n 1, 1) := by decide +kernel
theorem dX11_stage_34 : decode cX11_stage 34 = .ok (.imul, 1) := by decide +kernel
theorem dX11_stage_35 : decode cX11_stage 35 = .ok (.iadd, 1) := by decide +kernel
theorem dX11_stage_36 : decode cX11_stage 36 = .ok (.iload_n 2, 1) := by decide +kernel
theorem dX11_stage_37 : decode cX11_stage 37 = .ok (.iadd, 1) := by decide +kernel
theorem dX11_stage_38 : decode cX11_stage 38 = .ok (.iaload, 1) := by decide +kernel
theorem dX11_stage_39 : decode cX11_stage 39 = .ok (.goto 4, 3) := by decide +kernel
theorem dX11_stage_42 : decode cX11_stage 42 = .ok (.iconst (-1), 1) := by decide +kernel
theorem dX11_stage_43 : decode cX11_stage 43 = .ok (.ireturn, 1) := by decide +kernel
theorem dX11_wrong_0 : decode cX11_wrong 0 = .ok (.iload_n 1, 1) := by decide +kernel
theorem dX11_wrong_1 : decode cX11_wrong 1 = .ok (.iconst 0, 1) := by decide +kernel
theorem dX11_wrong_2 : decode cX11_wrong 2 = .ok (.aload_n 0, 1) := by decide +kernel
theorem dX11_wrong_3 : decode cX11_wrong 3 = .ok (.getfield 7, 3) := by decide +kernel
theorem dX11_wrong_6 : decode cX11_wrong 6 = .ok (.bipush 64, 2) := by decide +kernel
theorem dX11_wrong_8 : decode cX11_wrong 8 = .ok (.iaload, 1) := by decide +kernel
theorem dX11_wrong_9 : decode cX11_wrong 9 = .ok (.invokestatic 82, 3) := by decide +kernel
theorem dX11_wrong_12 : decode cX11_wrong 12 = .ok (.ifCond .ne 5, 3) := by decide +kernel
theorem dX11_wrong_15 : decode cX11_wrong 15 = .ok (.iconst (-1), 1) := by decide +kernel
theorem dX11_wrong_16 : decode cX11_wrong 16 = .ok (.ireturn, 1) := by decide +kernel
theorem dX11_wrong_17 : decode cX11_wrong 17 = .ok (.aload_n 0, 1) := by decide +kernel
theorem dX11_wrong_18 : decode cX11_wrong 18 = .ok (.invokevirtual 202, 3) := by decide +kernel
theorem dX11_wrong_21 : decode cX11_wrong 21 = .ok (.aload_n 0, 1) := by decide +kernel
theorem dX11_wrong_22 : decode cX11_wrong 22 = .ok (.iload_n 1, 1) := by decide +kernel
theorem dX11_wrong_23 : decode cX11_wrong 23 = .ok (.invokevirtual 205, 3) := by decide +kernel
theorem dX11_wrong_26 : decode cX11_wrong 26 = .ok (.aload_n 0, 1) := by decide +kernel
theorem dX11_wrong_27 : decode cX11_wrong 27 = .ok (.invokevirtual 211, 3) := by decide +kernel
theorem dX11_wrong_30 : decode cX11_wrong 30 = .ok (.ireturn, 1) := by decide +kernel
theorem dX11_loss_0 : decode cX11_loss 0 = .ok (.ldc 249, 2) := by decide +kernel
theorem dX11_loss_2 : decode cX11_loss 2 = .ok (.aload_n 0, 1) := by decide +kernel
theorem dX11_loss_3 : decode cX11_loss 3 = .ok (.getfield 78, 3) := by decide +kernel
theorem dX11_loss_6 : decode cX11_loss 6 = .ok (.fmul, 1) := by decide +kernel
theorem dX11_loss_7 : decode cX11_loss 7 = .ok (.f2i, 1) := by decide +kernel
theorem dX11_loss_8 : decode cX11_loss 8 = .ok (.ireturn, 1) := by decide +kernel
theorem dX11_keepReceived_0 : decode cX11_keepReceived 0 = .ok (.aload_n 0, 1) := by decide +kernel
theorem dX11_keepReceived_1 : decode cX11_keepReceived 1 = .ok (.invokevirtual 208, 3) := by decide +kernel
theorem dX11_keepReceived_4 : decode cX11_keepReceived 4 = .ok (.iconst 0, 1) := by decide +kernel
theorem dX11_keepReceived_5 : decode cX11_keepReceived 5 = .ok (.istore_n 1, 1) := by decide +kernel
theorem dX11_keepReceived_6 : decode cX11_keepReceived 6 = .ok (.iload_n 1, 1) := by decide +kernel
theorem dX11_keepReceived_7 : decode cX11_keepReceived 7 = .ok (.bipush 32, 2) := by decide +kernel
theorem dX11_keepReceived_9 : decode cX11_keepReceived 9 = .ok (.if_icmp .ge 21, 3) := by decide +kernel
theorem dX11_keepReceived_12 : decode cX11_keepReceived 12 = .ok (.aload_n 0, 1) := by decide +kernel
theorem dX11_keepReceived_13 : decode cX11_keepReceived 13 = .ok (.getfield 54, 3) := by decide +kernel
theorem dX11_keepReceived_16 : decode cX11_keepReceived 16 = .ok (.iload_n 1, 1) := by decide +kernel
theorem dX11_keepReceived_17 : decode cX11_keepReceived 17 = .ok (.aload_n 0, 1) := by decide +kernel
theorem dX11_keepReceived_18 : decode cX11_keepReceived 18 = .ok (.getfield 36, 3) := by decide +kernel
theorem dX11_keepReceived_21 : decode cX11_keepReceived 21 = .ok (.iload_n 1, 1) := by decide +kernel
theorem dX11_keepReceived_22 : decode cX11_keepReceived 22 = .ok (.iaload, 1) := by decide +kernel
theorem dX11_keepReceived_23 : decode cX11_keepReceived 23 = .ok (.iastore, 1) := by decide +kernel
theorem dX11_keepReceived_24 : decode cX11_keepReceived 24 = .ok (.iinc 1 1, 3) := by decide +kernel
theorem dX11_keepReceived_27 : decode cX11_keepReceived 27 = .ok (.goto (-21), 3) := by decide +kernel
theorem dX11_keepReceived_30 : decode cX11_keepReceived 30 = .ok (.return_, 1) := by decide +kernel
theorem dX11_layKept_0 : decode cX11_layKept 0 = .ok (.iconst 0, 1) := by decide +kernel
theorem dX11_layKept_1 : decode cX11_layKept 1 = .ok (.istore_n 1, 1) := by decide +kernel
theorem dX11_layKept_2 : decode cX11_layKept 2 = .ok (.iload_n 1, 1) := by decide +kernel
theorem dX11_layKept_3 : decode cX11_layKept 3 = .ok (.bipush 32, 2) := by decide +kernel
theorem dX11_layKept_5 : decode cX11_layKept 5 = .ok (.if_icmp .ge 21, 3) := by decide +kernel
theorem dX11_layKept_8 : decode cX11_layKept 8 = .ok (.aload_n 0, 1) := by decide +kernel
theorem dX11_layKept_9 : decode cX11_layKept 9 = .ok (.getfield 36, 3) := by decide +kernel
theorem dX11_layKept_12 : decode cX11_layKept 12 = .ok (.iload_n 1, 1) := by decide +kernel
theorem dX11_layKept_13 : decode cX11_layKept 13 = .ok (.aload_n 0, 1) := by decide +kernel
theorem dX11_layKept_14 : decode cX11_layKept 14 = .ok (.getfield 54, 3) := by decide +kernel
theorem dX11_layKept_17 : decode cX11_layKept 17 = .ok (.iload_n 1, 1) := by decide +kernel
theorem dX11_layKept_18 : decode cX11_layKept 18 = .ok (.iaload, 1) := by decide +kernel
theorem dX11_layKept_19 : decode cX11_layKept 19 = .ok (.iastore, 1) := by decide +kernel
theorem dX11_layKept_20 : decode cX11_layKept 20 = .ok (.iinc 1 1, 3) := by decide +kernel
theorem dX11_layKept_23 : decode cX11_layKept 23 = .ok (.goto (-21), 3) := by decide +kernel
theorem dX11_layKept_26 : decode cX11_layKept 26 = .ok (.return_, 1) := by decide +kernel
theorem dX11_skew_0 : decode cX11_skew 0 = .ok (.aload_n 0, 1) := by decide +kernel
theorem dX11_skew_1 : decode cX11_skew 1 = .ok (.invokevirtual 250, 3) := by decide +kernel
theorem dX11_skew_4 : decode cX11_skew 4 = .ok (.iconst 0, 1) := by decide +kernel
theorem dX11_skew_5 : decode cX11_skew 5 = .ok (.istore_n 1, 1) := by decide +kernel
theorem dX11_skew_6 : decode cX11_skew 6 = .ok (.bipush 33, 2) := by decide +kernel
theorem dX11_skew_8 : decode cX11_skew 8 = .ok (.istore_n 2, 1) := by decide +kernel
theorem dX11_skew_9 : decode cX11_skew 9 = .ok (.iconst 0, 1) := by decide +kernel
theorem dX11_skew_10 : decode cX11_skew 10 = .ok (.istore_n 3, 1) := by decide +kernel
theorem dX11_skew_11 : decode cX11_skew 11 = .ok (.iload_n 3, 1) := by decide +kernel
theorem dX11_skew_12 : decode cX11_skew 12 = .ok (.bipush 16, 2) := by decide +kernel
theorem dX11_skew_14 : decode cX11_skew 14 = .ok (.if_icmp .ge 55, 3) := by decide +kernel
theorem dX11_skew_17 : decode cX11_skew 17 = .ok (.aload_n 0, 1) := by decide +kernel
theorem dX11_skew_18 : decode cX11_skew 18 = .ok (.invokevirtual 253, 3) := by decide +kernel
theorem dX11_skew_21 : decode cX11_skew 21 = .ok (.aload_n 0, 1) := by decide +kernel
theorem dX11_skew_22 : decode cX11_skew 22 = .ok (.bipush 16, 2) := by decide +kernel
theorem dX11_skew_24 : decode cX11_skew 24 = .ok (.iload_n 3, 1) := by decide +kernel
theorem dX11_skew_25 : decode cX11_skew 25 = .ok (.isub, 1) := by decide +kernel
theorem dX11_skew_26 : decode cX11_skew 26 = .ok (.bipush 16, 2) := by decide +kernel
theorem dX11_skew_28 : decode cX11_skew 28 = .ok (.irem, 1) := by decide +kernel
theorem dX11_skew_29 : decode cX11_skew 29 = .ok (.invokevirtual 181, 3) := by decide +kernel
theorem dX11_skew_32 : decode cX11_skew 32 = .ok (.aload_n 0, 1) := by decide +kernel
theorem dX11_skew_33 : decode cX11_skew 33 = .ok (.invokevirtual 256, 3) := by decide +kernel
theorem dX11_skew_36 : decode cX11_skew 36 = .ok (.istore 4, 2) := by decide +kernel
theorem dX11_skew_38 : decode cX11_skew 38 = .ok (.iload 4, 2) := by decide +kernel
theorem dX11_skew_40 : decode cX11_skew 40 = .ok (.iload_n 2, 1) := by decide +kernel
theorem dX11_skew_41 : decode cX11_skew 41 = .ok (.if_icmp .ge 7, 3) := by decide +kernel
theorem dX11_skew_44 : decode cX11_skew 44 = .ok (.iload_n 3, 1) := by decide +kernel
theorem dX11_skew_45 : decode cX11_skew 45 = .ok (.goto 4, 3) := by decide +kernel
theorem dX11_skew_48 : decode cX11_skew 48 = .ok (.iload_n 1, 1) := by decide +kernel
theorem dX11_skew_49 : decode cX11_skew 49 = .ok (.istore_n 1, 1) := by decide +kernel
theorem dX11_skew_50 : decode cX11_skew 50 = .ok (.iload 4, 2) := by decide +kernel
theorem dX11_skew_52 : decode cX11_skew 52 = .ok (.iload_n 2, 1) := by decide +kernel
theorem dX11_skew_53 : decode cX11_skew 53 = .ok (.if_icmp .ge 8, 3) := by decide +kernel
theorem dX11_skew_56 : decode cX11_skew 56 = .ok (.iload 4, 2) := by decide +kernel
theorem dX11_skew_58 : decode cX11_skew 58 = .ok (.goto 4, 3) := by decide +kernel
theorem dX11_skew_61 : decode cX11_skew 61 = .ok (.iload_n 2, 1) := by decide +kernel
theorem dX11_skew_62 : decode cX11_skew 62 = .ok (.istore_n 2, 1) := by decide +kernel
theorem dX11_skew_63 : decode cX11_skew 63 = .ok (.iinc 3 1, 3) := by decide +kernel
theorem dX11_skew_66 : decode cX11_skew 66 = .ok (.goto (-55), 3) := by decide +kernel
theorem dX11_skew_69 : decode cX11_skew 69 = .ok (.iload_n 1, 1) := by decide +kernel
theorem dX11_skew_70 : decode cX11_skew 70 = .ok (.ireturn, 1) := by decide +kernel
theorem dX11_spreads_0 : decode cX11_spreads 0 = .ok (.iload_n 1, 1) := by decide +kernel
theorem dX11_spreads_1 : decode cX11_spreads 1 = .ok (.iconst 0, 1) := by decide +kernel
theorem dX11_spreads_2 : decode cX11_spreads 2 = .ok (.iconst 1, 1) := by decide +kernel
theorem dX11_spreads_3 : decode cX11_spreads 3 = .ok (.invokestatic 82, 3) := by decide +kernel
theorem dX11_spreads_6 : decode cX11_spreads 6 = .ok (.ifCond .ne 5, 3) := by decide +kernel
theorem dX11_spreads_9 : decode cX11_spreads 9 = .ok (.iconst (-1), 1) := by decide +kernel
theorem dX11_spreads_10 : decode cX11_spreads 10 = .ok (.ireturn, 1) := by decide +kernel
theorem dX11_spreads_11 : decode cX11_spreads 11 = .ok (.aload_n 0, 1) := by decide +kernel
theorem dX11_spreads_12 : decode cX11_spreads 12 = .ok (.invokevirtual 250, 3) := by decide +kernel
theorem dX11_spreads_15 : decode cX11_spreads 15 = .ok (.iconst 0, 1) := by decide +kernel
theorem dX11_spreads_16 : decode cX11_spreads 16 = .ok (.istore_n 2, 1) := by decide +kernel
theorem dX11_spreads_17 : decode cX11_spreads 17 = .ok (.bipush (-9), 2) := by decide +kernel
theorem dX11_spreads_19 : decode cX11_spreads 19 = .ok (.istore_n 3, 1) := by decide +kernel
theorem dX11_spreads_20 : decode cX11_spreads 20 = .ok (.iconst 1, 1) := by decide +kernel
theorem dX11_spreads_21 : decode cX11_spreads 21 = .ok (.istore 4, 2) := by decide +kernel
theorem dX11_spreads_23 : decode cX11_spreads 23 = .ok (.iload 4, 2) := by decide +kernel
theorem dX11_spreads_25 : decode cX11_spreads 25 = .ok (.bipush 97, 2) := by decide +kernel
theorem dX11_spreads_27 : decode cX11_spreads 27 = .ok (.if_icmp .ge 51, 3) := by decide +kernel
theorem dX11_spreads_30 : decode cX11_spreads 30 = .ok (.iload 4, 2) := by decide +kernel
theorem dX11_spreads_32 : decode cX11_spreads 32 = .ok (.bipush 16, 2) := by decide +kernel
theorem dX11_spreads_34 : decode cX11_spreads 34 = .ok (.invokestatic 63, 3) := by decide +kernel
theorem dX11_spreads_37 : decode cX11_spreads 37 = .ok (.iconst 1, 1) := by decide +kernel
theorem dX11_spreads_38 : decode cX11_spreads 38 = .ok (.if_icmp .eq 34, 3) := by decide +kernel
theorem dX11_spreads_41 : decode cX11_spreads 41 = .ok (.aload_n 0, 1) := by decide +kernel
theorem dX11_spreads_42 : decode cX11_spreads 42 = .ok (.invokevirtual 253, 3) := by decide +kernel
theorem dX11_spreads_45 : decode cX11_spreads 45 = .ok (.aload_n 0, 1) := by decide +kernel
theorem dX11_spreads_46 : decode cX11_spreads 46 = .ok (.iload 4, 2) := by decide +kernel
theorem dX11_spreads_48 : decode cX11_spreads 48 = .ok (.invokevirtual 184, 3) := by decide +kernel
theorem dX11_spreads_51 : decode cX11_spreads 51 = .ok (.aload_n 0, 1) := by decide +kernel
theorem dX11_spreads_52 : decode cX11_spreads 52 = .ok (.invokevirtual 256, 3) := by decide +kernel
theorem dX11_spreads_55 : decode cX11_spreads 55 = .ok (.ifCond .ne 17, 3) := by decide +kernel
theorem dX11_spreads_58 : decode cX11_spreads 58 = .ok (.iload_n 2, 1) := by decide +kernel
theorem dX11_spreads_59 : decode cX11_spreads 59 = .ok (.ifCond .ne 8, 3) := by decide +kernel
theorem dX11_spreads_62 : decode cX11_spreads 62 = .ok (.iload 4, 2) := by decide +kernel
theorem dX11_spreads_64 : decode cX11_spreads 64 = .ok (.goto 4, 3) := by decide +kernel
theorem dX11_spreads_67 : decode cX11_spreads 67 = .ok (.iload_n 3, 1) := by decide +kernel
theorem dX11_spreads_68 : decode cX11_spreads 68 = .ok (.istore_n 3, 1) := by decide +kernel
theorem dX11_spreads_69 : decode cX11_spreads 69 = .ok (.iinc 2 1, 3) := by decide +kernel
theorem dX11_spreads_72 : decode cX11_spreads 72 = .ok (.iinc 4 1, 3) := by decide +kernel
theorem dX11_spreads_75 : decode cX11_spreads 75 = .ok (.goto (-52), 3) := by decide +kernel
theorem dX11_spreads_78 : decode cX11_spreads 78 = .ok (.iload_n 1, 1) := by decide +kernel
theorem dX11_spreads_79 : decode cX11_spreads 79 = .ok (.ifCond .ne 7, 3) := by decide +kernel
theorem dX11_spreads_82 : decode cX11_spreads 82 = .ok (.iload_n 2, 1) := by decide +kernel
theorem dX11_spreads_83 : decode cX11_spreads 83 = .ok (.goto 4, 3) := by decide +kernel
theorem dX11_spreads_86 : decode cX11_spreads 86 = .ok (.iload_n 3, 1) := by decide +kernel
theorem dX11_spreads_87 : decode cX11_spreads 87 = .ok (.ireturn, 1) := by decide +kernel
theorem dX11_lag_0 : decode cX11_lag 0 = .ok (.iload_n 1, 1) := by decide +kernel
theorem dX11_lag_1 : decode cX11_lag 1 = .ok (.iconst 0, 1) := by decide +kernel
theorem dX11_lag_2 : decode cX11_lag 2 = .ok (.bipush 15, 2) := by decide +kernel
theorem dX11_lag_4 : decode cX11_lag 4 = .ok (.invokestatic 82, 3) := by decide +kernel
theorem dX11_lag_7 : decode cX11_lag 7 = .ok (.ifCond .ne 5, 3) := by decide +kernel
theorem dX11_lag_10 : decode cX11_lag 10 = .ok (.iconst (-1), 1) := by decide +kernel
theorem dX11_lag_11 : decode cX11_lag 11 = .ok (.ireturn, 1) := by decide +kernel
theorem dX11_lag_12 : decode cX11_lag 12 = .ok (.iconst 0, 1) := by decide +kernel
theorem dX11_lag_13 : decode cX11_lag 13 = .ok (.istore_n 2, 1) := by decide +kernel
theorem dX11_lag_14 : decode cX11_lag 14 = .ok (.iload_n 2, 1) := by decide +kernel
theorem dX11_lag_15 : decode cX11_lag 15 = .ok (.bipush 16, 2) := by decide +kernel
theorem dX11_lag_17 : decode cX11_lag 17 = .ok (.if_icmp .ge 28, 3) := by decide +kernel
theorem dX11_lag_20 : decode cX11_lag 20 = .ok (.aload_n 0, 1) := by decide +kernel
theorem dX11_lag_21 : decode cX11_lag 21 = .ok (.getfield 7, 3) := by decide +kernel
theorem dX11_lag_24 : decode cX11_lag 24 = .ok (.bipush 32, 2) := by decide +kernel
theorem dX11_lag_26 : decode cX11_lag 26 = .ok (.iaload, 1) := by decide +kernel
theorem dX11_lag_27 : decode cX11_lag 27 = .ok (.iload_n 1, 1) := by decide +kernel
theorem dX11_lag_28 : decode cX11_lag 28 = .ok (.iload_n 2, 1) := by decide +kernel
theorem dX11_lag_29 : decode cX11_lag 29 = .ok (.iadd, 1) := by decide +kernel
theorem dX11_lag_30 : decode cX11_lag 30 = .ok (.bipush 16, 2) := by decide +kernel
theorem dX11_lag_32 : decode cX11_lag 32 = .ok (.irem, 1) := by decide +kernel
theorem dX11_lag_33 : decode cX11_lag 33 = .ok (.invokestatic 123, 3) := by decide +kernel
theorem dX11_lag_36 : decode cX11_lag 36 = .ok (.ifCond .ne 9, 3) := by decide +kernel
theorem dX11_lag_39 : decode cX11_lag 39 = .ok (.iinc 2 1, 3) := by decide +kernel
theorem dX11_lag_42 : decode cX11_lag 42 = .ok (.goto (-28), 3) := by decide +kernel
theorem dX11_lag_45 : decode cX11_lag 45 = .ok (.iload_n 2, 1) := by decide +kernel
theorem dX11_lag_46 : decode cX11_lag 46 = .ok (.ireturn, 1) := by decide +kernel
theorem dX11_sees_0 : decode cX11_sees 0 = .ok (.iload_n 1, 1) := by decide +kernel
theorem dX11_sees_1 : decode cX11_sees 1 = .ok (.iconst 0, 1) := by decide +kernel
theorem dX11_sees_2 : decode cX11_sees 2 = .ok (.iconst 1, 1) := by decide +kernel
theorem dX11_sees_3 : decode cX11_sees 3 = .ok (.invokestatic 82, 3) := by decide +kernel
theorem dX11_sees_6 : decode cX11_sees 6 = .ok (.ifCond .eq 22, 3) := by decide +kernel
theorem dX11_sees_9 : decode cX11_sees 9 = .ok (.iload_n 2, 1) := by decide +kernel
theorem dX11_sees_10 : decode cX11_sees 10 = .ok (.iconst 0, 1) := by decide +kernel
theorem dX11_sees_11 : decode cX11_sees 11 = .ok (.bipush 15, 2) := by decide +kernel
theorem dX11_sees_13 : decode cX11_sees 13 = .ok (.invokestatic 82, 3) := by decide +kernel
theorem dX11_sees_16 : decode cX11_sees 16 = .ok (.ifCond .eq 12, 3) := by decide +kernel
theorem dX11_sees_19 : decode cX11_sees 19 = .ok (.iload_n 3, 1) := by decide +kernel
theorem dX11_sees_20 : decode cX11_sees 20 = .ok (.iconst 0, 1) := by decide +kernel
theorem dX11_sees_21 : decode cX11_sees 21 = .ok (.iconst 3, 1) := by decide +kernel
theorem dX11_sees_22 : decode cX11_sees 22 = .ok (.invokestatic 82, 3) := by decide +kernel
theorem dX11_sees_25 : decode cX11_sees 25 = .ok (.ifCond .ne 5, 3) := by decide +kernel
theorem dX11_sees_28 : decode cX11_sees 28 = .ok (.iconst (-1), 1) := by decide +kernel
theorem dX11_sees_29 : decode cX11_sees 29 = .ok (.ireturn, 1) := by decide +kernel
theorem dX11_sees_30 : decode cX11_sees 30 = .ok (.aload_n 0, 1) := by decide +kernel
theorem dX11_sees_31 : decode cX11_sees 31 = .ok (.getfield 143, 3) := by decide +kernel
theorem dX11_sees_34 : decode cX11_sees 34 = .ok (.bipush 6, 2) := by decide +kernel
theorem dX11_sees_36 : decode cX11_sees 36 = .ok (.if_icmp .ne 6, 3) := by decide +kernel
theorem dX11_sees_39 : decode cX11_sees 39 = .ok (.bipush (-3), 2) := by decide +kernel
theorem dX11_sees_41 : decode cX11_sees 41 = .ok (.ireturn, 1) := by decide +kernel
theorem dX11_sees_42 : decode cX11_sees 42 = .ok (.aload_n 0, 1) := by decide +kernel
theorem dX11_sees_43 : decode cX11_sees 43 = .ok (.getfield 57, 3) := by decide +kernel
theorem dX11_sees_46 : decode cX11_sees 46 = .ok (.aload_n 0, 1) := by decide +kernel
theorem dX11_sees_47 : decode cX11_sees 47 = .ok (.getfield 143, 3) := by decide +kernel
theorem dX11_sees_50 : decode cX11_sees 50 = .ok (.bipush 16, 2) := by decide +kernel
theorem dX11_sees_52 : decode cX11_sees 52 = .ok (.iload_n 1, 1) := by decide +kernel
theorem dX11_sees_53 : decode cX11_sees 53 = .ok (.imul, 1) := by decide +kernel
theorem dX11_sees_54 : decode cX11_sees 54 = .ok (.iload_n 2, 1) := by decide +kernel
theorem dX11_sees_55 : decode cX11_sees 55 = .ok (.iadd, 1) := by decide +kernel
theorem dX11_sees_56 : decode cX11_sees 56 = .ok (.iastore, 1) := by decide +kernel
theorem dX11_sees_57 : decode cX11_sees 57 = .ok (.aload_n 0, 1) := by decide +kernel
theorem dX11_sees_58 : decode cX11_sees 58 = .ok (.getfield 60, 3) := by decide +kernel
theorem dX11_sees_61 : decode cX11_sees 61 = .ok (.aload_n 0, 1) := by decide +kernel
theorem dX11_sees_62 : decode cX11_sees 62 = .ok (.getfield 143, 3) := by decide +kernel
theorem dX11_sees_65 : decode cX11_sees 65 = .ok (.iload_n 3, 1) := by decide +kernel
theorem dX11_sees_66 : decode cX11_sees 66 = .ok (.iastore, 1) := by decide +kernel
theorem dX11_sees_67 : decode cX11_sees 67 = .ok (.aload_n 0, 1) := by decide +kernel
theorem dX11_sees_68 : decode cX11_sees 68 = .ok (.dup, 1) := by decide +kernel
theorem dX11_sees_69 : decode cX11_sees 69 = .ok (.getfield 143, 3) := by decide +kernel
theorem dX11_sees_72 : decode cX11_sees 72 = .ok (.iconst 1, 1) := by decide +kernel
theorem dX11_sees_73 : decode cX11_sees 73 = .ok (.iadd, 1) := by decide +kernel
theorem dX11_sees_74 : decode cX11_sees 74 = .ok (.putfield 143, 3) := by decide +kernel
theorem dX11_sees_77 : decode cX11_sees 77 = .ok (.aload_n 0, 1) := by decide +kernel
theorem dX11_sees_78 : decode cX11_sees 78 = .ok (.getfield 143, 3) := by decide +kernel
theorem dX11_sees_81 : decode cX11_sees 81 = .ok (.ireturn, 1) := by decide +kernel
theorem dX11_forget_0 : decode cX11_forget 0 = .ok (.aload_n 0, 1) := by decide +kernel
theorem dX11_forget_1 : decode cX11_forget 1 = .ok (.getfield 143, 3) := by decide +kernel
theorem dX11_forget_4 : decode cX11_forget 4 = .ok (.istore_n 1, 1) := by decide +kernel
theorem dX11_forget_5 : decode cX11_forget 5 = .ok (.aload_n 0, 1) := by decide +kernel
theorem dX11_forget_6 : decode cX11_forget 6 = .ok (.iconst 0, 1) := by decide +kernel
theorem dX11_forget_7 : decode cX11_forget 7 = .ok (.putfield 143, 3) := by decide +kernel
theorem dX11_forget_10 : decode cX11_forget 10 = .ok (.iload_n 1, 1) := by decide +kernel
theorem dX11_forget_11 : decode cX11_forget 11 = .ok (.ireturn, 1) := by decide +kernel
theorem dX11_isSeenBy_0 : decode cX11_isSeenBy 0 = .ok (.aload_n 0, 1) := by decide +kernel
theorem dX11_isSeenBy_1 : decode cX11_isSeenBy 1 = .ok (.invokevirtual 202, 3) := by decide +kernel
theorem dX11_isSeenBy_4 : decode cX11_isSeenBy 4 = .ok (.aload_n 0, 1) := by decide +kernel
theorem dX11_isSeenBy_5 : decode cX11_isSeenBy 5 = .ok (.iload_n 1, 1) := by decide +kernel
theorem dX11_isSeenBy_6 : decode cX11_isSeenBy 6 = .ok (.iload_n 2, 1) := by decide +kernel
theorem dX11_isSeenBy_7 : decode cX11_isSeenBy 7 = .ok (.invokevirtual 178, 3) := by decide +kernel
theorem dX11_isSeenBy_10 : decode cX11_isSeenBy 10 = .ok (.aload_n 0, 1) := by decide +kernel
theorem dX11_isSeenBy_11 : decode cX11_isSeenBy 11 = .ok (.aload_n 0, 1) := by decide +kernel
theorem dX11_isSeenBy_12 : decode cX11_isSeenBy 12 = .ok (.getfield 7, 3) := by decide +kernel
theorem dX11_isSeenBy_15 : decode cX11_isSeenBy 15 = .ok (.bipush 64, 2) := by decide +kernel
theorem dX11_isSeenBy_17 : decode cX11_isSeenBy 17 = .ok (.iaload, 1) := by decide +kernel
theorem dX11_isSeenBy_18 : decode cX11_isSeenBy 18 = .ok (.invokevirtual 205, 3) := by decide +kernel
theorem dX11_isSeenBy_21 : decode cX11_isSeenBy 21 = .ok (.iconst 1, 1) := by decide +kernel
theorem dX11_isSeenBy_22 : decode cX11_isSeenBy 22 = .ok (.istore_n 3, 1) := by decide +kernel
theorem dX11_isSeenBy_23 : decode cX11_isSeenBy 23 = .ok (.iconst 0, 1) := by decide +kernel
theorem dX11_isSeenBy_24 : decode cX11_isSeenBy 24 = .ok (.istore 4, 2) := by decide +kernel
theorem dX11_isSeenBy_26 : decode cX11_isSeenBy 26 = .ok (.iload 4, 2) := by decide +kernel
theorem dX11_isSeenBy_28 : decode cX11_isSeenBy 28 = .ok (.aload_n 0, 1) := by decide +kernel
theorem dX11_isSeenBy_29 : decode cX11_isSeenBy 29 = .ok (.getfield 143, 3) := by decide +kernel
theorem dX11_isSeenBy_32 : decode cX11_isSeenBy 32 = .ok (.if_icmp .ge 44, 3) := by decide +kernel
theorem dX11_isSeenBy_35 : decode cX11_isSeenBy 35 = .ok (.iload_n 3, 1) := by decide +kernel
theorem dX11_isSeenBy_36 : decode cX11_isSeenBy 36 = .ok (.ifCond .eq 32, 3) := by decide +kernel
theorem dX11_isSeenBy_39 : decode cX11_isSeenBy 39 = .ok (.aload_n 0, 1) := by decide +kernel
theorem dX11_isSeenBy_40 : decode cX11_isSeenBy 40 = .ok (.getfield 36, 3) := by decide +kernel
theorem dX11_isSeenBy_43 : decode cX11_isSeenBy 43 = .ok (.aload_n 0, 1) := by decide +kernel
theorem dX11_isSeenBy_44 : decode cX11_isSeenBy 44 = .ok (.getfield 57, 3) := by decide +kernel
theorem dX11_isSeenBy_47 : decode cX11_isSeenBy 47 = .ok (.iload 4, 2) := by decide +kernel
theorem dX11_isSeenBy_49 : decode cX11_isSeenBy 49 = .ok (.iaload, 1) := by decide +kernel
theorem dX11_isSeenBy_50 : decode cX11_isSeenBy 50 = .ok (.iaload, 1) := by decide +kernel
theorem dX11_isSeenBy_51 : decode cX11_isSeenBy 51 = .ok (.invokestatic 168, 3) := by decide +kernel
theorem dX11_isSeenBy_54 : decode cX11_isSeenBy 54 = .ok (.aload_n 0, 1) := by decide +kernel
theorem dX11_isSeenBy_55 : decode cX11_isSeenBy 55 = .ok (.getfield 60, 3) := by decide +kernel
theorem dX11_isSeenBy_58 : decode cX11_isSeenBy 58 = .ok (.iload 4, 2) := by decide +kernel
theorem dX11_isSeenBy_60 : decode cX11_isSeenBy 60 = .ok (.iaload, 1) := by decide +kernel
theorem dX11_isSeenBy_61 : decode cX11_isSeenBy 61 = .ok (.if_icmp .ne 7, 3) := by decide +kernel
theorem dX11_isSeenBy_64 : decode cX11_isSeenBy 64 = .ok (.iconst 1, 1) := by decide +kernel
theorem dX11_isSeenBy_65 : decode cX11_isSeenBy 65 = .ok (.goto 4, 3) := by decide +kernel
theorem dX11_isSeenBy_68 : decode cX11_isSeenBy 68 = .ok (.iconst 0, 1) := by decide +kernel
theorem dX11_isSeenBy_69 : decode cX11_isSeenBy 69 = .ok (.istore_n 3, 1) := by decide +kernel
theorem dX11_isSeenBy_70 : decode cX11_isSeenBy 70 = .ok (.iinc 4 1, 3) := by decide +kernel
theorem dX11_isSeenBy_73 : decode cX11_isSeenBy 73 = .ok (.goto (-47), 3) := by decide +kernel
theorem dX11_isSeenBy_76 : decode cX11_isSeenBy 76 = .ok (.iload_n 3, 1) := by decide +kernel
theorem dX11_isSeenBy_77 : decode cX11_isSeenBy 77 = .ok (.ireturn, 1) := by decide +kernel
theorem dX11_fits_0 : decode cX11_fits 0 = .ok (.iload_n 1, 1) := by decide +kernel
theorem dX11_fits_1 : decode cX11_fits 1 = .ok (.iconst 0, 1) := by decide +kernel
theorem dX11_fits_2 : decode cX11_fits 2 = .ok (.iconst 1, 1) := by decide +kernel
theorem dX11_fits_3 : decode cX11_fits 3 = .ok (.invokestatic 82, 3) := by decide +kernel
theorem dX11_fits_6 : decode cX11_fits 6 = .ok (.ifCond .ne 5, 3) := by decide +kernel
theorem dX11_fits_9 : decode cX11_fits 9 = .ok (.iconst (-1), 1) := by decide +kernel
theorem dX11_fits_10 : decode cX11_fits 10 = .ok (.ireturn, 1) := by decide +kernel
theorem dX11_fits_11 : decode cX11_fits 11 = .ok (.iconst 0, 1) := by decide +kernel
theorem dX11_fits_12 : decode cX11_fits 12 = .ok (.istore_n 2, 1) := by decide +kernel
theorem dX11_fits_13 : decode cX11_fits 13 = .ok (.bipush (-9), 2) := by decide +kernel
theorem dX11_fits_15 : decode cX11_fits 15 = .ok (.istore_n 3, 1) := by decide +kernel
theorem dX11_fits_16 : decode cX11_fits 16 = .ok (.iconst 0, 1) := by decide +kernel
theorem dX11_fits_17 : decode cX11_fits 17 = .ok (.istore 4, 2) := by decide +kernel
theorem dX11_fits_19 : decode cX11_fits 19 = .ok (.iload 4, 2) := by decide +kernel
theorem dX11_fits_21 : decode cX11_fits 21 = .ok (.bipush 16, 2) := by decide +kernel
theorem dX11_fits_23 : decode cX11_fits 23 = .ok (.if_icmp .ge 54, 3) := by decide +kernel
theorem dX11_fits_26 : decode cX11_fits 26 = .ok (.iconst 1, 1) := by decide +kernel
theorem dX11_fits_27 : decode cX11_fits 27 = .ok (.istore 5, 2) := by decide +kernel
theorem dX11_fits_29 : decode cX11_fits 29 = .ok (.iload 5, 2) := by decide +kernel
theorem dX11_fits_31 : decode cX11_fits 31 = .ok (.iconst 4, 1) := by decide +kernel
theorem dX11_fits_32 : decode cX11_fits 32 = .ok (.if_icmp .ge 39, 3) := by decide +kernel
theorem dX11_fits_35 : decode cX11_fits 35 = .ok (.aload_n 0, 1) := by decide +kernel
theorem dX11_fits_36 : decode cX11_fits 36 = .ok (.iload 4, 2) := by decide +kernel
theorem dX11_fits_38 : decode cX11_fits 38 = .ok (.iload 5, 2) := by decide +kernel
theorem dX11_fits_40 : decode cX11_fits 40 = .ok (.invokevirtual 259, 3) := by decide +kernel
theorem dX11_fits_43 : decode cX11_fits 43 = .ok (.ifCond .eq 22, 3) := by decide +kernel
theorem dX11_fits_46 : decode cX11_fits 46 = .ok (.iload_n 2, 1) := by decide +kernel
theorem dX11_fits_47 : decode cX11_fits 47 = .ok (.ifCond .ne 13, 3) := by decide +kernel
theorem dX11_fits_50 : decode cX11_fits 50 = .ok (.iconst 4, 1) := by decide +kernel
theorem dX11_fits_51 : decode cX11_fits 51 = .ok (.iload 4, 2) := by decide +kernel
theorem dX11_fits_53 : decode cX11_fits 53 = .ok (.imul, 1) := by decide +kernel
theorem dX11_fits_54 : decode cX11_fits 54 = .ok (.iload 5, 2) := by decide +kernel
theorem dX11_fits_56 : decode cX11_fits 56 = .ok (.iadd, 1) := by decide +kernel
theorem dX11_fits_57 : decode cX11_fits 57 = .ok (.goto 4, 3) := by decide +kernel
theorem dX11_fits_60 : decode cX11_fits 60 = .ok (.iload_n 3, 1) := by decide +kernel
theorem dX11_fits_61 : decode cX11_fits 61 = .ok (.istore_n 3, 1) := by decide +kernel
theorem dX11_fits_62 : decode cX11_fits 62 = .ok (.iinc 2 1, 3) := by decide +kernel
theorem dX11_fits_65 : decode cX11_fits 65 = .ok (.iinc 5 1, 3) := by decide +kernel
theorem dX11_fits_68 : decode cX11_fits 68 = .ok (.goto (-39), 3) := by decide +kernel
theorem dX11_fits_71 : decode cX11_fits 71 = .ok (.iinc 4 1, 3) := by decide +kernel
theorem dX11_fits_74 : decode cX11_fits 74 = .ok (.goto (-55), 3) := by decide +kernel
theorem dX11_fits_77 : decode cX11_fits 77 = .ok (.iload_n 1, 1) := by decide +kernel
theorem dX11_fits_78 : decode cX11_fits 78 = .ok (.ifCond .ne 7, 3) := by decide +kernel
theorem dX11_fits_81 : decode cX11_fits 81 = .ok (.iload_n 2, 1) := by decide +kernel
theorem dX11_fits_82 : decode cX11_fits 82 = .ok (.goto 4, 3) := by decide +kernel
theorem dX11_fits_85 : decode cX11_fits 85 = .ok (.iload_n 3, 1) := by decide +kernel
theorem dX11_fits_86 : decode cX11_fits 86 = .ok (.ireturn, 1) := by decide +kernel
theorem dX11_odds_0 : decode cX11_odds 0 = .ok (.iload_n 1, 1) := by decide +kernel
theorem dX11_odds_1 : decode cX11_odds 1 = .ok (.iconst 0, 1) := by decide +kernel
theorem dX11_odds_2 : decode cX11_odds 2 = .ok (.bipush 10, 2) := by decide +kernel
theorem dX11_odds_4 : decode cX11_odds 4 = .ok (.invokestatic 82, 3) := by decide +kernel
theorem dX11_odds_7 : decode cX11_odds 7 = .ok (.ifCond .eq 33, 3) := by decide +kernel
theorem dX11_odds_10 : decode cX11_odds 10 = .ok (.iload_n 2, 1) := by decide +kernel
theorem dX11_odds_11 : decode cX11_odds 11 = .ok (.iconst 0, 1) := by decide +kernel
theorem dX11_odds_12 : decode cX11_odds 12 = .ok (.bipush 8, 2) := by decide +kernel
theorem dX11_odds_14 : decode cX11_odds 14 = .ok (.invokestatic 82, 3) := by decide +kernel
theorem dX11_odds_17 : decode cX11_odds 17 = .ok (.ifCond .eq 23, 3) := by decide +kernel
theorem dX11_odds_20 : decode cX11_odds 20 = .ok (.iload_n 3, 1) := by decide +kernel
theorem dX11_odds_21 : decode cX11_odds 21 = .ok (.iconst 0, 1) := by decide +kernel
theorem dX11_odds_22 : decode cX11_odds 22 = .ok (.bipush 8, 2) := by decide +kernel
theorem dX11_odds_24 : decode cX11_odds 24 = .ok (.invokestatic 82, 3) := by decide +kernel
theorem dX11_odds_27 : decode cX11_odds 27 = .ok (.ifCond .eq 13, 3) := by decide +kernel
theorem dX11_odds_30 : decode cX11_odds 30 = .ok (.iload 4, 2) := by decide +kernel
theorem dX11_odds_32 : decode cX11_odds 32 = .ok (.iconst 0, 1) := by decide +kernel
theorem dX11_odds_33 : decode cX11_odds 33 = .ok (.iconst 1, 1) := by decide +kernel
theorem dX11_odds_34 : decode cX11_odds 34 = .ok (.invokestatic 82, 3) := by decide +kernel
theorem dX11_odds_37 : decode cX11_odds 37 = .ok (.ifCond .ne 5, 3) := by decide +kernel
theorem dX11_odds_40 : decode cX11_odds 40 = .ok (.iconst (-1), 1) := by decide +kernel
theorem dX11_odds_41 : decode cX11_odds 41 = .ok (.ireturn, 1) := by decide +kernel
theorem dX11_odds_42 : decode cX11_odds 42 = .ok (.iconst 0, 1) := by decide +kernel
theorem dX11_odds_43 : decode cX11_odds 43 = .ok (.istore 5, 2) := by decide +kernel
theorem dX11_odds_45 : decode cX11_odds 45 = .ok (.iconst 1, 1) := by decide +kernel
theorem dX11_odds_46 : decode cX11_odds 46 = .ok (.istore 6, 2) := by decide +kernel
theorem dX11_odds_48 : decode cX11_odds 48 = .ok (.iconst 1, 1) := by decide +kernel
theorem dX11_odds_49 : decode cX11_odds 49 = .ok (.istore 7, 2) := by decide +kernel
theorem dX11_odds_51 : decode cX11_odds 51 = .ok (.iconst 0, 1) := by decide +kernel
theorem dX11_odds_52 : decode cX11_odds 52 = .ok (.istore 8, 2) := by decide +kernel
theorem dX11_odds_54 : decode cX11_odds 54 = .ok (.iload 8, 2) := by decide +kernel
theorem dX11_odds_56 : decode cX11_odds 56 = .ok (.iload_n 2, 1) := by decide +kernel
theorem dX11_odds_57 : decode cX11_odds 57 = .ok (.if_icmp .gt 75, 3) := by decide +kernel
theorem dX11_odds_60 : decode cX11_odds 60 = .ok (.iload 8, 2) := by decide +kernel
theorem dX11_odds_62 : decode cX11_odds 62 = .ok (.iload_n 3, 1) := by decide +kernel
theorem dX11_odds_63 : decode cX11_odds 63 = .ok (.if_icmp .gt 69, 3) := by decide +kernel
theorem dX11_odds_66 : decode cX11_odds 66 = .ok (.iload 7, 2) := by decide +kernel
theorem dX11_odds_68 : decode cX11_odds 68 = .ok (.istore 9, 2) := by decide +kernel
theorem dX11_odds_70 : decode cX11_odds 70 = .ok (.iconst 0, 1) := by decide +kernel
theorem dX11_odds_71 : decode cX11_odds 71 = .ok (.istore 10, 2) := by decide +kernel
theorem dX11_odds_73 : decode cX11_odds 73 = .ok (.iload 10, 2) := by decide +kernel
theorem dX11_odds_75 : decode cX11_odds 75 = .ok (.iload_n 2, 1) := by decide +kernel
theorem dX11_odds_76 : decode cX11_odds 76 = .ok (.if_icmp .ge 29, 3) := by decide +kernel
theorem dX11_odds_79 : decode cX11_odds 79 = .ok (.iload 9, 2) := by decide +kernel
theorem dX11_odds_81 : decode cX11_odds 81 = .ok (.iload 10, 2) := by decide +kernel
theorem dX11_odds_83 : decode cX11_odds 83 = .ok (.iload 8, 2) := by decide +kernel
theorem dX11_odds_85 : decode cX11_odds 85 = .ok (.if_icmp .ge 7, 3) := by decide +kernel
theorem dX11_odds_88 : decode cX11_odds 88 = .ok (.iload_n 1, 1) := by decide +kernel
theorem dX11_odds_89 : decode cX11_odds 89 = .ok (.goto 7, 3) := by decide +kernel
theorem dX11_odds_92 : decode cX11_odds 92 = .ok (.bipush 10, 2) := by decide +kernel
theorem dX11_odds_94 : decode cX11_odds 94 = .ok (.iload_n 1, 1) := by decide +kernel
theorem dX11_odds_95 : decode cX11_odds 95 = .ok (.isub, 1) := by decide +kernel
theorem dX11_odds_96 : decode cX11_odds 96 = .ok (.imul, 1) := by decide +kernel
theorem dX11_odds_97 : decode cX11_odds 97 = .ok (.istore 9, 2) := by decide +kernel
theorem dX11_odds_99 : decode cX11_odds 99 = .ok (.iinc 10 1, 3) := by decide +kernel
theorem dX11_odds_102 : decode cX11_odds 102 = .ok (.goto (-29), 3) := by decide +kernel
theorem dX11_odds_105 : decode cX11_odds 105 = .ok (.iload 5, 2) := by decide +kernel
theorem dX11_odds_107 : decode cX11_odds 107 = .ok (.iload 9, 2) := by decide +kernel
theorem dX11_odds_109 : decode cX11_odds 109 = .ok (.iadd, 1) := by decide +kernel
theorem dX11_odds_110 : decode cX11_odds 110 = .ok (.istore 5, 2) := by decide +kernel
theorem dX11_odds_112 : decode cX11_odds 112 = .ok (.iload 7, 2) := by decide +kernel
theorem dX11_odds_114 : decode cX11_odds 114 = .ok (.iload_n 2, 1) := by decide +kernel
theorem dX11_odds_115 : decode cX11_odds 115 = .ok (.iload 8, 2) := by decide +kernel
theorem dX11_odds_117 : decode cX11_odds 117 = .ok (.isub, 1) := by decide +kernel
theorem dX11_odds_118 : decode cX11_odds 118 = .ok (.imul, 1) := by decide +kernel
theorem dX11_odds_119 : decode cX11_odds 119 = .ok (.iload 8, 2) := by decide +kernel
theorem dX11_odds_121 : decode cX11_odds 121 = .ok (.iconst 1, 1) := by decide +kernel
theorem dX11_odds_122 : decode cX11_odds 122 = .ok (.iadd, 1) := by decide +kernel
theorem dX11_odds_123 : decode cX11_odds 123 = .ok (.idiv, 1) := by decide +kernel
theorem dX11_odds_124 : decode cX11_odds 124 = .ok (.istore 7, 2) := by decide +kernel
theorem dX11_odds_126 : decode cX11_odds 126 = .ok (.iinc 8 1, 3) := by decide +kernel
theorem dX11_odds_129 : decode cX11_odds 129 = .ok (.goto (-75), 3) := by decide +kernel
theorem dX11_odds_132 : decode cX11_odds 132 = .ok (.iconst 0, 1) := by decide +kernel
theorem dX11_odds_133 : decode cX11_odds 133 = .ok (.istore 8, 2) := by decide +kernel
theorem dX11_odds_135 : decode cX11_odds 135 = .ok (.iload 8, 2) := by decide +kernel
theorem dX11_odds_137 : decode cX11_odds 137 = .ok (.iload_n 2, 1) := by decide +kernel
theorem dX11_odds_138 : decode cX11_odds 138 = .ok (.if_icmp .ge 16, 3) := by decide +kernel
theorem dX11_odds_141 : decode cX11_odds 141 = .ok (.iload 6, 2) := by decide +kernel
theorem dX11_odds_143 : decode cX11_odds 143 = .ok (.bipush 10, 2) := by decide +kernel
theorem dX11_odds_145 : decode cX11_odds 145 = .ok (.imul, 1) := by decide +kernel
theorem dX11_odds_146 : decode cX11_odds 146 = .ok (.istore 6, 2) := by decide +kernel
theorem dX11_odds_148 : decode cX11_odds 148 = .ok (.iinc 8 1, 3) := by decide +kernel
theorem dX11_odds_151 : decode cX11_odds 151 = .ok (.goto (-16), 3) := by decide +kernel
theorem dX11_odds_154 : decode cX11_odds 154 = .ok (.iload 5, 2) := by decide +kernel
theorem dX11_odds_156 : decode cX11_odds 156 = .ok (.istore 8, 2) := by decide +kernel
theorem dX11_odds_158 : decode cX11_odds 158 = .ok (.iload 6, 2) := by decide +kernel
theorem dX11_odds_160 : decode cX11_odds 160 = .ok (.istore 9, 2) := by decide +kernel
theorem dX11_odds_162 : decode cX11_odds 162 = .ok (.iload 9, 2) := by decide +kernel
theorem dX11_odds_164 : decode cX11_odds 164 = .ok (.ifCond .eq 21, 3) := by decide +kernel
theorem dX11_odds_167 : decode cX11_odds 167 = .ok (.iload 8, 2) := by decide +kernel
theorem dX11_odds_169 : decode cX11_odds 169 = .ok (.iload 9, 2) := by decide +kernel
theorem dX11_odds_171 : decode cX11_odds 171 = .ok (.irem, 1) := by decide +kernel
theorem dX11_odds_172 : decode cX11_odds 172 = .ok (.istore 10, 2) := by decide +kernel
theorem dX11_odds_174 : decode cX11_odds 174 = .ok (.iload 9, 2) := by decide +kernel
theorem dX11_odds_176 : decode cX11_odds 176 = .ok (.istore 8, 2) := by decide +kernel
theorem dX11_odds_178 : decode cX11_odds 178 = .ok (.iload 10, 2) := by decide +kernel
theorem dX11_odds_180 : decode cX11_odds 180 = .ok (.istore 9, 2) := by decide +kernel
theorem dX11_odds_182 : decode cX11_odds 182 = .ok (.goto (-20), 3) := by decide +kernel
theorem dX11_odds_185 : decode cX11_odds 185 = .ok (.iload 4, 2) := by decide +kernel
theorem dX11_odds_187 : decode cX11_odds 187 = .ok (.ifCond .ne 11, 3) := by decide +kernel
theorem dX11_odds_190 : decode cX11_odds 190 = .ok (.iload 5, 2) := by decide +kernel
theorem dX11_odds_192 : decode cX11_odds 192 = .ok (.iload 8, 2) := by decide +kernel
theorem dX11_odds_194 : decode cX11_odds 194 = .ok (.idiv, 1) := by decide +kernel
theorem dX11_odds_195 : decode cX11_odds 195 = .ok (.goto 8, 3) := by decide +kernel
theorem dX11_odds_198 : decode cX11_odds 198 = .ok (.iload 6, 2) := by decide +kernel
theorem dX11_odds_200 : decode cX11_odds 200 = .ok (.iload 8, 2) := by decide +kernel
theorem dX11_odds_202 : decode cX11_odds 202 = .ok (.idiv, 1) := by decide +kernel
theorem dX11_odds_203 : decode cX11_odds 203 = .ok (.ireturn, 1) := by decide +kernel
theorem dX11_keep_0 : decode cX11_keep 0 = .ok (.iload_n 1, 1) := by decide +kernel
theorem dX11_keep_1 : decode cX11_keep 1 = .ok (.iconst 0, 1) := by decide +kernel
theorem dX11_keep_2 : decode cX11_keep 2 = .ok (.iconst 1, 1) := by decide +kernel
theorem dX11_keep_3 : decode cX11_keep 3 = .ok (.invokestatic 82, 3) := by decide +kernel
theorem dX11_keep_6 : decode cX11_keep 6 = .ok (.ifCond .ne 5, 3) := by decide +kernel
theorem dX11_keep_9 : decode cX11_keep 9 = .ok (.iconst (-1), 1) := by decide +kernel
theorem dX11_keep_10 : decode cX11_keep 10 = .ok (.ireturn, 1) := by decide +kernel
theorem dX11_keep_11 : decode cX11_keep 11 = .ok (.iconst 0, 1) := by decide +kernel
theorem dX11_keep_12 : decode cX11_keep 12 = .ok (.istore_n 2, 1) := by decide +kernel
theorem dX11_keep_13 : decode cX11_keep 13 = .ok (.iload_n 2, 1) := by decide +kernel
theorem dX11_keep_14 : decode cX11_keep 14 = .ok (.bipush 86, 2) := by decide +kernel
theorem dX11_keep_16 : decode cX11_keep 16 = .ok (.if_icmp .ge 26, 3) := by decide +kernel
theorem dX11_keep_19 : decode cX11_keep 19 = .ok (.aload_n 0, 1) := by decide +kernel
theorem dX11_keep_20 : decode cX11_keep 20 = .ok (.getfield 20, 3) := by decide +kernel
theorem dX11_keep_23 : decode cX11_keep 23 = .ok (.bipush 86, 2) := by decide +kernel
theorem dX11_keep_25 : decode cX11_keep 25 = .ok (.iload_n 1, 1) := by decide +kernel
theorem dX11_keep_26 : decode cX11_keep 26 = .ok (.imul, 1) := by decide +kernel
theorem dX11_keep_27 : decode cX11_keep 27 = .ok (.iload_n 2, 1) := by decide +kernel
theorem dX11_keep_28 : decode cX11_keep 28 = .ok (.iadd, 1) := by decide +kernel
theorem dX11_keep_29 : decode cX11_keep 29 = .ok (.aload_n 0, 1) := by decide +kernel
theorem dX11_keep_30 : decode cX11_keep 30 = .ok (.getfield 7, 3) := by decide +kernel
theorem dX11_keep_33 : decode cX11_keep 33 = .ok (.iload_n 2, 1) := by decide +kernel
theorem dX11_keep_34 : decode cX11_keep 34 = .ok (.iaload, 1) := by decide +kernel
theorem dX11_keep_35 : decode cX11_keep 35 = .ok (.iastore, 1) := by decide +kernel
theorem dX11_keep_36 : decode cX11_keep 36 = .ok (.iinc 2 1, 3) := by decide +kernel
theorem dX11_keep_39 : decode cX11_keep 39 = .ok (.goto (-26), 3) := by decide +kernel
theorem dX11_keep_42 : decode cX11_keep 42 = .ok (.aload_n 0, 1) := by decide +kernel
theorem dX11_keep_43 : decode cX11_keep 43 = .ok (.getfield 23, 3) := by decide +kernel
theorem dX11_keep_46 : decode cX11_keep 46 = .ok (.iload_n 1, 1) := by decide +kernel
theorem dX11_keep_47 : decode cX11_keep 47 = .ok (.aload_n 0, 1) := by decide +kernel
theorem dX11_keep_48 : decode cX11_keep 48 = .ok (.getfield 78, 3) := by decide +kernel
theorem dX11_keep_51 : decode cX11_keep 51 = .ok (.fastore, 1) := by decide +kernel
theorem dX11_keep_52 : decode cX11_keep 52 = .ok (.aload_n 0, 1) := by decide +kernel
theorem dX11_keep_53 : decode cX11_keep 53 = .ok (.getfield 26, 3) := by decide +kernel
theorem dX11_keep_56 : decode cX11_keep 56 = .ok (.iload_n 1, 1) := by decide +kernel
theorem dX11_keep_57 : decode cX11_keep 57 = .ok (.iconst 1, 1) := by decide +kernel
theorem dX11_keep_58 : decode cX11_keep 58 = .ok (.bastore, 1) := by decide +kernel
theorem dX11_keep_59 : decode cX11_keep 59 = .ok (.aload_n 0, 1) := by decide +kernel
theorem dX11_keep_60 : decode cX11_keep 60 = .ok (.getfield 7, 3) := by decide +kernel
theorem dX11_keep_63 : decode cX11_keep 63 = .ok (.bipush 64, 2) := by decide +kernel
theorem dX11_keep_65 : decode cX11_keep 65 = .ok (.iaload, 1) := by decide +kernel
theorem dX11_keep_66 : decode cX11_keep 66 = .ok (.ireturn, 1) := by decide +kernel
theorem dX11_back_0 : decode cX11_back 0 = .ok (.iload_n 1, 1) := by decide +kernel
theorem dX11_back_1 : decode cX11_back 1 = .ok (.iconst 0, 1) := by decide +kernel
theorem dX11_back_2 : decode cX11_back 2 = .ok (.iconst 1, 1) := by decide +kernel
theorem dX11_back_3 : decode cX11_back 3 = .ok (.invokestatic 82, 3) := by decide +kernel
theorem dX11_back_6 : decode cX11_back 6 = .ok (.ifCond .ne 5, 3) := by decide +kernel
theorem dX11_back_9 : decode cX11_back 9 = .ok (.iconst (-1), 1) := by decide +kernel
theorem dX11_back_10 : decode cX11_back 10 = .ok (.ireturn, 1) := by decide +kernel
theorem dX11_back_11 : decode cX11_back 11 = .ok (.aload_n 0, 1) := by decide +kernel
theorem dX11_back_12 : decode cX11_back 12 = .ok (.getfield 26, 3) := by decide +kernel
theorem dX11_back_15 : decode cX11_back 15 = .ok (.iload_n 1, 1) := by decide +kernel
theorem dX11_back_16 : decode cX11_back 16 = .ok (.baload, 1) := by decide +kernel
theorem dX11_back_17 : decode cX11_back 17 = .ok (.ifCond .ne 6, 3) := by decide +kernel
theorem dX11_back_20 : decode cX11_back 20 = .ok (.bipush (-2), 2) := by decide +kernel
theorem dX11_back_22 : decode cX11_back 22 = .ok (.ireturn, 1) := by decide +kernel
theorem dX11_back_23 : decode cX11_back 23 = .ok (.iconst 0, 1) := by decide +kernel
theorem dX11_back_24 : decode cX11_back 24 = .ok (.istore_n 2, 1) := by decide +kernel
theorem dX11_back_25 : decode cX11_back 25 = .ok (.iload_n 2, 1) := by decide +kernel
theorem dX11_back_26 : decode cX11_back 26 = .ok (.bipush 86, 2) := by decide +kernel
theorem dX11_back_28 : decode cX11_back 28 = .ok (.if_icmp .ge 26, 3) := by decide +kernel
theorem dX11_back_31 : decode cX11_back 31 = .ok (.aload_n 0, 1) := by decide +kernel
theorem dX11_back_32 : decode cX11_back 32 = .ok (.getfield 7, 3) := by decide +kernel
theorem dX11_back_35 : decode cX11_back 35 = .ok (.iload_n 2, 1) := by decide +kernel
theorem dX11_back_36 : decode cX11_back 36 = .ok (.aload_n 0, 1) := by decide +kernel
theorem dX11_back_37 : decode cX11_back 37 = .ok (.getfield 20, 3) := by decide +kernel
theorem dX11_back_40 : decode cX11_back 40 = .ok (.bipush 86, 2) := by decide +kernel
theorem dX11_back_42 : decode cX11_back 42 = .ok (.iload_n 1, 1) := by decide +kernel
theorem dX11_back_43 : decode cX11_back 43 = .ok (.imul, 1) := by decide +kernel
theorem dX11_back_44 : decode cX11_back 44 = .ok (.iload_n 2, 1) := by decide +kernel
theorem dX11_back_45 : decode cX11_back 45 = .ok (.iadd, 1) := by decide +kernel
theorem dX11_back_46 : decode cX11_back 46 = .ok (.iaload, 1) := by decide +kernel
theorem dX11_back_47 : decode cX11_back 47 = .ok (.iastore, 1) := by decide +kernel
theorem dX11_back_48 : decode cX11_back 48 = .ok (.iinc 2 1, 3) := by decide +kernel
theorem dX11_back_51 : decode cX11_back 51 = .ok (.goto (-26), 3) := by decide +kernel
theorem dX11_back_54 : decode cX11_back 54 = .ok (.aload_n 0, 1) := by decide +kernel
theorem dX11_back_55 : decode cX11_back 55 = .ok (.aload_n 0, 1) := by decide +kernel
theorem dX11_back_56 : decode cX11_back 56 = .ok (.getfield 23, 3) := by decide +kernel
theorem dX11_back_59 : decode cX11_back 59 = .ok (.iload_n 1, 1) := by decide +kernel
theorem dX11_back_60 : decode cX11_back 60 = .ok (.faload, 1) := by decide +kernel
theorem dX11_back_61 : decode cX11_back 61 = .ok (.putfield 78, 3) := by decide +kernel
theorem dX11_back_64 : decode cX11_back 64 = .ok (.aload_n 0, 1) := by decide +kernel
theorem dX11_back_65 : decode cX11_back 65 = .ok (.iconst 0, 1) := by decide +kernel
theorem dX11_back_66 : decode cX11_back 66 = .ok (.putfield 74, 3) := by decide +kernel
theorem dX11_back_69 : decode cX11_back 69 = .ok (.aload_n 0, 1) := by decide +kernel
theorem dX11_back_70 : decode cX11_back 70 = .ok (.getfield 7, 3) := by decide +kernel
theorem dX11_back_73 : decode cX11_back 73 = .ok (.bipush 64, 2) := by decide +kernel
theorem dX11_back_75 : decode cX11_back 75 = .ok (.iaload, 1) := by decide +kernel
theorem dX11_back_76 : decode cX11_back 76 = .ok (.ireturn, 1) := by decide +kernel
theorem dX11_count_0 : decode cX11_count 0 = .ok (.iload_n 1, 1) := by decide +kernel
theorem dX11_count_1 : decode cX11_count 1 = .ok (.tableswitch 96 0 7 #[47, 55, 63, 68, 73, 81, 86, 91], 47) := by decide +kernel
theorem dX11_count_48 : decode cX11_count 48 = .ok (.aload_n 0, 1) := by decide +kernel
theorem dX11_count_49 : decode cX11_count 49 = .ok (.getfield 7, 3) := by decide +kernel
theorem dX11_count_52 : decode cX11_count 52 = .ok (.bipush 33, 2) := by decide +kernel
theorem dX11_count_54 : decode cX11_count 54 = .ok (.iaload, 1) := by decide +kernel
theorem dX11_count_55 : decode cX11_count 55 = .ok (.ireturn, 1) := by decide +kernel
theorem dX11_count_56 : decode cX11_count 56 = .ok (.aload_n 0, 1) := by decide +kernel
theorem dX11_count_57 : decode cX11_count 57 = .ok (.getfield 7, 3) := by decide +kernel
theorem dX11_count_60 : decode cX11_count 60 = .ok (.bipush 64, 2) := by decide +kernel
theorem dX11_count_62 : decode cX11_count 62 = .ok (.iaload, 1) := by decide +kernel
theorem dX11_count_63 : decode cX11_count 63 = .ok (.ireturn, 1) := by decide +kernel
theorem dX11_count_64 : decode cX11_count 64 = .ok (.aload_n 0, 1) := by decide +kernel
theorem dX11_count_65 : decode cX11_count 65 = .ok (.invokevirtual 146, 3) := by decide +kernel
theorem dX11_count_68 : decode cX11_count 68 = .ok (.ireturn, 1) := by decide +kernel
theorem dX11_count_69 : decode cX11_count 69 = .ok (.aload_n 0, 1) := by decide +kernel
theorem dX11_count_70 : decode cX11_count 70 = .ok (.invokevirtual 244, 3) := by decide +kernel
theorem dX11_count_73 : decode cX11_count 73 = .ok (.ireturn, 1) := by decide +kernel
theorem dX11_count_74 : decode cX11_count 74 = .ok (.aload_n 0, 1) := by decide +kernel
theorem dX11_count_75 : decode cX11_count 75 = .ok (.getfield 7, 3) := by decide +kernel
theorem dX11_count_78 : decode cX11_count 78 = .ok (.bipush 85, 2) := by decide +kernel
theorem dX11_count_80 : decode cX11_count 80 = .ok (.iaload, 1) := by decide +kernel
theorem dX11_count_81 : decode cX11_count 81 = .ok (.ireturn, 1) := by decide +kernel
theorem dX11_count_82 : decode cX11_count 82 = .ok (.aload_n 0, 1) := by decide +kernel
theorem dX11_count_83 : decode cX11_count 83 = .ok (.getfield 143, 3) := by decide +kernel
theorem dX11_count_86 : decode cX11_count 86 = .ok (.ireturn, 1) := by decide +kernel
theorem dX11_count_87 : decode cX11_count 87 = .ok (.aload_n 0, 1) := by decide +kernel
theorem dX11_count_88 : decode cX11_count 88 = .ok (.getfield 94, 3) := by decide +kernel
theorem dX11_count_91 : decode cX11_count 91 = .ok (.ireturn, 1) := by decide +kernel
theorem dX11_count_92 : decode cX11_count 92 = .ok (.aload_n 0, 1) := by decide +kernel
theorem dX11_count_93 : decode cX11_count 93 = .ok (.getfield 74, 3) := by decide +kernel
theorem dX11_count_96 : decode cX11_count 96 = .ok (.ireturn, 1) := by decide +kernel
theorem dX11_count_97 : decode cX11_count 97 = .ok (.iconst (-1), 1) := by decide +kernel
theorem dX11_count_98 : decode cX11_count 98 = .ok (.ireturn, 1) := by decide +kernel
theorem dL_law_0 : decode cL_law 0 = .ok (.new 7, 3) := by decide +kernel
theorem dL_law_3 : decode cL_law 3 = .ok (.dup, 1) := by decide +kernel
theorem dL_law_4 : decode cL_law 4 = .ok (.invokespecial 9, 3) := by decide +kernel
theorem dL_law_7 : decode cL_law 7 = .ok (.astore_n 1, 1) := by decide +kernel
theorem dL_law_8 : decode cL_law 8 = .ok (.new 10, 3) := by decide +kernel
theorem dL_law_11 : decode cL_law 11 = .ok (.dup, 1) := by decide +kernel
theorem dL_law_12 : decode cL_law 12 = .ok (.invokespecial 12, 3) := by decide +kernel
theorem dL_law_15 : decode cL_law 15 = .ok (.astore_n 2, 1) := by decide +kernel
theorem dL_law_16 : decode cL_law 16 = .ok (.iconst 0, 1) := by decide +kernel
theorem dL_law_17 : decode cL_law 17 = .ok (.istore_n 3, 1) := by decide +kernel
theorem dL_law_18 : decode cL_law 18 = .ok (.iload_n 3, 1) := by decide +kernel
theorem dL_law_19 : decode cL_law 19 = .ok (.aload_n 0, 1) := by decide +kernel
theorem dL_law_20 : decode cL_law 20 = .ok (.arraylength, 1) := by decide +kernel
theorem dL_law_21 : decode cL_law 21 = .ok (.bipush 6, 2) := by decide +kernel
theorem dL_law_23 : decode cL_law 23 = .ok (.isub, 1) := by decide +kernel
theorem dL_law_24 : decode cL_law 24 = .ok (.if_icmp .gt 980, 3) := by decide +kernel
theorem dL_law_27 : decode cL_law 27 = .ok (.aload_n 0, 1) := by decide +kernel
theorem dL_law_28 : decode cL_law 28 = .ok (.iload_n 3, 1) := by decide +kernel
theorem dL_law_29 : decode cL_law 29 = .ok (.iaload, 1) := by decide +kernel
theorem dL_law_30 : decode cL_law 30 = .ok (.bipush 31, 2) := by decide +kernel
theorem dL_law_32 : decode cL_law 32 = .ok (.iand, 1) := by decide +kernel
theorem dL_law_33 : decode cL_law 33 = .ok (.tableswitch 965 0 29 #[135, 158, 171, 184, 227, 260, 323, 336, 399, 422, 455, 468, 481, 494, 537, 570, 603, 626, 639, 682, 695, 718, 741, 764, 807, 820, 843, 896, 919, 942], 135) := by decide +kernel
theorem dL_law_168 : decode cL_law 168 = .ok (.aload_n 1, 1) := by decide +kernel
theorem dL_law_169 : decode cL_law 169 = .ok (.aload_n 0, 1) := by decide +kernel
theorem dL_law_170 : decode cL_law 170 = .ok (.iload_n 3, 1) := by decide +kernel
theorem dL_law_171 : decode cL_law 171 = .ok (.iconst 1, 1) := by decide +kernel
theorem dL_law_172 : decode cL_law 172 = .ok (.iadd, 1) := by decide +kernel
theorem dL_law_173 : decode cL_law 173 = .ok (.iaload, 1) := by decide +kernel
theorem dL_law_174 : decode cL_law 174 = .ok (.invokevirtual 13, 3) := by decide +kernel
theorem dL_law_177 : decode cL_law 177 = .ok (.aload_n 2, 1) := by decide +kernel
theorem dL_law_178 : decode cL_law 178 = .ok (.aload_n 0, 1) := by decide +kernel
theorem dL_law_179 : decode cL_law 179 = .ok (.iload_n 3, 1) := by decide +kernel
theorem dL_law_180 : decode cL_law 180 = .ok (.iconst 1, 1) := by decide +kernel
theorem dL_law_181 : decode cL_law 181 = .ok (.iadd, 1) := by decide +kernel
theorem dL_law_182 : decode cL_law 182 = .ok (.iaload, 1) := by decide +kernel
theorem dL_law_183 : decode cL_law 183 = .ok (.invokevirtual 17, 3) := by decide +kernel
theorem dL_law_186 : decode cL_law 186 = .ok (.if_icmp .eq 812, 3) := by decide +kernel
theorem dL_law_189 : decode cL_law 189 = .ok (.iconst 0, 1) := by decide +kernel
theorem dL_law_190 : decode cL_law 190 = .ok (.ireturn, 1) := by decide +kernel
theorem dL_law_191 : decode cL_law 191 = .ok (.aload_n 1, 1) := by decide +kernel
theorem dL_law_192 : decode cL_law 192 = .ok (.invokevirtual 18, 3) := by decide +kernel
theorem dL_law_195 : decode cL_law 195 = .ok (.aload_n 2, 1) := by decide +kernel
theorem dL_law_196 : decode cL_law 196 = .ok (.invokevirtual 22, 3) := by decide +kernel
theorem dL_law_199 : decode cL_law 199 = .ok (.if_icmp .eq 799, 3) := by decide +kernel
theorem dL_law_202 : decode cL_law 202 = .ok (.iconst 0, 1) := by decide +kernel
theorem dL_law_203 : decode cL_law 203 = .ok (.ireturn, 1) := by decide +kernel
theorem dL_law_204 : decode cL_law 204 = .ok (.aload_n 1, 1) := by decide +kernel
theorem dL_law_205 : decode cL_law 205 = .ok (.invokevirtual 23, 3) := by decide +kernel
theorem dL_law_208 : decode cL_law 208 = .ok (.aload_n 2, 1) := by decide +kernel
theorem dL_law_209 : decode cL_law 209 = .ok (.invokevirtual 26, 3) := by decide +kernel
theorem dL_law_212 : decode cL_law 212 = .ok (.if_icmp .eq 786, 3) := by decide +kernel
theorem dL_law_215 : decode cL_law 215 = .ok (.iconst 0, 1) := by decide +kernel
theorem dL_law_216 : decode cL_law 216 = .ok (.ireturn, 1) := by decide +kernel
theorem dL_law_217 : decode cL_law 217 = .ok (.aload_n 1, 1) := by decide +kernel
theorem dL_law_218 : decode cL_law 218 = .ok (.aload_n 0, 1) := by decide +kernel
theorem dL_law_219 : decode cL_law 219 = .ok (.iload_n 3, 1) := by decide +kernel
theorem dL_law_220 : decode cL_law 220 = .ok (.iconst 1, 1) := by decide +kernel
theorem dL_law_221 : decode cL_law 221 = .ok (.iadd, 1) := by decide +kernel
theorem dL_law_222 : decode cL_law 222 = .ok (.iaload, 1) := by decide +kernel
theorem dL_law_223 : decode cL_law 223 = .ok (.aload_n 0, 1) := by decide +kernel
theorem dL_law_224 : decode cL_law 224 = .ok (.iload_n 3, 1) := by decide +kernel
theorem dL_law_225 : decode cL_law 225 = .ok (.iconst 2, 1) := by decide +kernel
theorem dL_law_226 : decode cL_law 226 = .ok (.iadd, 1) := by decide +kernel
theorem dL_law_227 : decode cL_law 227 = .ok (.iaload, 1) := by decide +kernel
theorem dL_law_228 : decode cL_law 228 = .ok (.aload_n 0, 1) := by decide +kernel
theorem dL_law_229 : decode cL_law 229 = .ok (.iload_n 3, 1) := by decide +kernel
theorem dL_law_230 : decode cL_law 230 = .ok (.iconst 3, 1) := by decide +kernel
theorem dL_law_231 : decode cL_law 231 = .ok (.iadd, 1) := by decide +kernel
theorem dL_law_232 : decode cL_law 232 = .ok (.iaload, 1) := by decide +kernel
theorem dL_law_233 : decode cL_law 233 = .ok (.invokevirtual 27, 3) := by decide +kernel
theorem dL_law_236 : decode cL_law 236 = .ok (.aload_n 2, 1) := by decide +kernel
theorem dL_law_237 : decode cL_law 237 = .ok (.aload_n 0, 1) := by decide +kernel
theorem dL_law_238 : decode cL_law 238 = .ok (.iload_n 3, 1) := by decide +kernel
theorem dL_law_239 : decode cL_law 239 = .ok (.iconst 1, 1) := by decide +kernel
theorem dL_law_240 : decode cL_law 240 = .ok (.iadd, 1) := by decide +kernel
theorem dL_law_241 : decode cL_law 241 = .ok (.iaload, 1) := by decide +kernel
theorem dL_law_242 : decode cL_law 242 = .ok (.aload_n 0, 1) := by decide +kernel
theorem dL_law_243 : decode cL_law 243 = .ok (.iload_n 3, 1) := by decide +kernel
theorem dL_law_244 : decode cL_law 244 = .ok (.iconst 2, 1) := by decide +kernel
theorem dL_law_245 : decode cL_law 245 = .ok (.iadd, 1) := by decide +kernel
theorem dL_law_246 : decode cL_law 246 = .ok (.iaload, 1) := by decide +kernel
theorem dL_law_247 : decode cL_law 247 = .ok (.aload_n 0, 1) := by decide +kernel
theorem dL_law_248 : decode cL_law 248 = .ok (.iload_n 3, 1) := by decide +kernel
theorem dL_law_249 : decode cL_law 249 = .ok (.iconst 3, 1) := by decide +kernel
theorem dL_law_250 : decode cL_law 250 = .ok (.iadd, 1) := by decide +kernel
theorem dL_law_251 : decode cL_law 251 = .ok (.iaload, 1) := by decide +kernel
theorem dL_law_252 : decode cL_law 252 = .ok (.invokevirtual 31, 3) := by decide +kernel
theorem dL_law_255 : decode cL_law 255 = .ok (.if_icmp .eq 743, 3) := by decide +kernel
theorem dL_law_258 : decode cL_law 258 = .ok (.iconst 0, 1) := by decide +kernel
theorem dL_law_259 : decode cL_law 259 = .ok (.ireturn, 1) := by decide +kernel
theorem dL_law_260 : decode cL_law 260 = .ok (.aload_n 1, 1) := by decide +kernel
theorem dL_law_261 : decode cL_law 261 = .ok (.aload_n 0, 1) := by decide +kernel
theorem dL_law_262 : decode cL_law 262 = .ok (.iload_n 3, 1) := by decide +kernel
theorem dL_law_263 : decode cL_law 263 = .ok (.iconst 1, 1) := by decide +kernel
theorem dL_law_264 : decode cL_law 264 = .ok (.iadd, 1) := by decide +kernel
theorem dL_law_265 : decode cL_law 265 = .ok (.iaload, 1) := by decide +kernel
theorem dL_law_266 : decode cL_law 266 = .ok (.aload_n 0, 1) := by decide +kernel
theorem dL_law_267 : decode cL_law 267 = .ok (.iload_n 3, 1) := by decide +kernel
theorem dL_law_268 : decode cL_law 268 = .ok (.iconst 2, 1) := by decide +kernel
theorem dL_law_269 : decode cL_law 269 = .ok (.iadd, 1) := by decide +kernel
theorem dL_law_270 : decode cL_law 270 = .ok (.iaload, 1) := by decide +kernel
theorem dL_law_271 : decode cL_law 271 = .ok (.invokevirtual 32, 3) := by decide +kernel
theorem dL_law_274 : decode cL_law 274 = .ok (.aload_n 2, 1) := by decide +kernel
theorem dL_law_275 : decode cL_law 275 = .ok (.aload_n 0, 1) := by decide +kernel
theorem dL_law_276 : decode cL_law 276 = .ok (.iload_n 3, 1) := by decide +kernel
theorem dL_law_277 : decode cL_law 277 = .ok (.iconst 1, 1) := by decide +kernel
theorem dL_law_278 : decode cL_law 278 = .ok (.iadd, 1) := by decide +kernel
theorem dL_law_279 : decode cL_law 279 = .ok (.iaload, 1) := by decide +kernel
theorem dL_law_280 : decode cL_law 280 = .ok (.aload_n 0, 1) := by decide +kernel
theorem dL_law_281 : decode cL_law 281 = .ok (.iload_n 3, 1) := by decide +kernel
theorem dL_law_282 : decode cL_law 282 = .ok (.iconst 2, 1) := by decide +kernel
theorem dL_law_283 : decode cL_law 283 = .ok (.iadd, 1) := by decide +kernel
theorem dL_law_284 : decode cL_law 284 = .ok (.iaload, 1) := by decide +kernel
theorem dL_law_285 : decode cL_law 285 = .ok (.invokevirtual 36, 3) := by decide +kernel
theorem dL_law_288 : decode cL_law 288 = .ok (.if_icmp .eq 710, 3) := by decide +kernel
theorem dL_law_291 : decode cL_law 291 = .ok (.iconst 0, 1) := by decide +kernel
theorem dL_law_292 : decode cL_law 292 = .ok (.ireturn, 1) := by decide +kernel
theorem dL_law_293 : decode cL_law 293 = .ok (.aload_n 1, 1) := by decide +kernel
theorem dL_law_294 : decode cL_law 294 = .ok (.aload_n 0, 1) := by decide +kernel
theorem dL_law_295 : decode cL_law 295 = .ok (.iload_n 3, 1) := by decide +kernel
theorem dL_law_296 : decode cL_law 296 = .ok (.iconst 1, 1) := by decide +kernel
theorem dL_law_297 : decode cL_law 297 = .ok (.iadd, 1) := by decide +kernel
theorem dL_law_298 : decode cL_law 298 = .ok (.iaload, 1) := by decide +kernel
theorem dL_law_299 : decode cL_law 299 = .ok (.aload_n 0, 1) := by decide +kernel
theorem dL_law_300 : decode cL_law 300 = .ok (.iload_n 3, 1) := by decide +kernel
theorem dL_law_301 : decode cL_law 301 = .ok (.iconst 2, 1) := by decide +kernel
theorem dL_law_302 : decode cL_law 302 = .ok (.iadd, 1) := by decide +kernel
theorem dL_law_303 : decode cL_law 303 = .ok (.iaload, 1) := by decide +kernel
theorem dL_law_304 : decode cL_law 304 = .ok (.aload_n 0, 1) := by decide +kernel
theorem dL_law_305 : decode cL_law 305 = .ok (.iload_n 3, 1) := by decide +kernel
theorem dL_law_306 : decode cL_law 306 = .ok (.iconst 3, 1) := by decide +kernel
theorem dL_law_307 : decode cL_law 307 = .ok (.iadd, 1) := by decide +kernel
theorem dL_law_308 : decode cL_law 308 = .ok (.iaload, 1) := by decide +kernel
theorem dL_law_309 : decode cL_law 309 = .ok (.aload_n 0, 1) := by decide +kernel
theorem dL_law_310 : decode cL_law 310 = .ok (.iload_n 3, 1) := by decide +kernel
theorem dL_law_311 : decode cL_law 311 = .ok (.iconst 4, 1) := by decide +kernel
theorem dL_law_312 : decode cL_law 312 = .ok (.iadd, 1) := by decide +kernel
theorem dL_law_313 : decode cL_law 313 = .ok (.iaload, 1) := by decide +kernel
theorem dL_law_314 : decode cL_law 314 = .ok (.aload_n 0, 1) := by decide +kernel
theorem dL_law_315 : decode cL_law 315 = .ok (.iload_n 3, 1) := by decide +kernel
theorem dL_law_316 : decode cL_law 316 = .ok (.iconst 5, 1) := by decide +kernel
theorem dL_law_317 : decode cL_law 317 = .ok (.iadd, 1) := by decide +kernel
theorem dL_law_318 : decode cL_law 318 = .ok (.iaload, 1) := by decide +kernel
theorem dL_law_319 : decode cL_law 319 = .ok (.invokevirtual 37, 3) := by decide +kernel
theorem dL_law_322 : decode cL_law 322 = .ok (.aload_n 2, 1) := by decide +kernel
theorem dL_law_323 : decode cL_law 323 = .ok (.aload_n 0, 1) := by decide +kernel
theorem dL_law_324 : decode cL_law 324 = .ok (.iload_n 3, 1) := by decide +kernel
theorem dL_law_325 : decode cL_law 325 = .ok (.iconst 1, 1) := by decide +kernel
theorem dL_law_326 : decode cL_law 326 = .ok (.iadd, 1) := by decide +kernel
theorem dL_law_327 : decode cL_law 327 = .ok (.iaload, 1) := by decide +kernel
theorem dL_law_328 : decode cL_law 328 = .ok (.aload_n 0, 1) := by decide +kernel
theorem dL_law_329 : decode cL_law 329 = .ok (.iload_n 3, 1) := by decide +kernel
theorem dL_law_330 : decode cL_law 330 = .ok (.iconst 2, 1) := by decide +kernel
theorem dL_law_331 : decode cL_law 331 = .ok (.iadd, 1) := by decide +kernel
theorem dL_law_332 : decode cL_law 332 = .ok (.iaload, 1) := by decide +kernel
theorem dL_law_333 : decode cL_law 333 = .ok (.aload_n 0, 1) := by decide +kernel
theorem dL_law_334 : decode cL_law 334 = .ok (.iload_n 3, 1) := by decide +kernel
theorem dL_law_335 : decode cL_law 335 = .ok (.iconst 3, 1) := by decide +kernel
theorem dL_law_336 : decode cL_law 336 = .ok (.iadd, 1) := by decide +kernel
theorem dL_law_337 : decode cL_law 337 = .ok (.iaload, 1) := by decide +kernel
theorem dL_law_338 : decode cL_law 338 = .ok (.aload_n 0, 1) := by decide +kernel
theorem dL_law_339 : decode cL_law 339 = .ok (.iload_n 3, 1) := by decide +kernel
theorem dL_law_340 : decode cL_law 340 = .ok (.iconst 4, 1) := by decide +kernel
theorem dL_law_341 : decode cL_law 341 = .ok (.iadd, 1) := by decide +kernel
theorem dL_law_342 : decode cL_law 342 = .ok (.iaload, 1) := by decide +kernel
theorem dL_law_343 : decode cL_law 343 = .ok (.aload_n 0, 1) := by decide +kernel
theorem dL_law_344 : decode cL_law 344 = .ok (.iload_n 3, 1) := by decide +kernel
theorem dL_law_345 : decode cL_law 345 = .ok (.iconst 5, 1) := by decide +kernel
theorem dL_law_346 : decode cL_law 346 = .ok (.iadd, 1) := by decide +kernel
theorem dL_law_347 : decode cL_law 347 = .ok (.iaload, 1) := by decide +kernel
theorem dL_law_348 : decode cL_law 348 = .ok (.invokevirtual 41, 3) := by decide +kernel
theorem dL_law_351 : decode cL_law 351 = .ok (.if_icmp .eq 647, 3) := by decide +kernel
theorem dL_law_354 : decode cL_law 354 = .ok (.iconst 0, 1) := by decide +kernel
theorem dL_law_355 : decode cL_law 355 = .ok (.ireturn, 1) := by decide +kernel
theorem dL_law_356 : decode cL_law 356 = .ok (.aload_n 1, 1) := by decide +kernel
theorem dL_law_357 : decode cL_law 357 = .ok (.invokevirtual 42, 3) := by decide +kernel
theorem dL_law_360 : decode cL_law 360 = .ok (.aload_n 2, 1) := by decide +kernel
theorem dL_law_361 : decode cL_law 361 = .ok (.invokevirtual 45, 3) := by decide +kernel
theorem dL_law_364 : decode cL_law 364 = .ok (.if_icmp .eq 634, 3) := by decide +kernel
theorem dL_law_367 : decode cL_law 367 = .ok (.iconst 0, 1) := by decide +kernel
theorem dL_law_368 : decode cL_law 368 = .ok (.ireturn, 1) := by decide +kernel
theorem dL_law_369 : decode cL_law 369 = .ok (.aload_n 1, 1) := by decide +kernel
theorem dL_law_370 : decode cL_law 370 = .ok (.aload_n 0, 1) := by decide +kernel
theorem dL_law_371 : decode cL_law 371 = .ok (.iload_n 3, 1) := by decide +kernel
theorem dL_law_372 : decode cL_law 372 = .ok (.iconst 1, 1) := by decide +kernel
theorem dL_law_373 : decode cL_law 373 = .ok (.iadd, 1) := by decide +kernel
theorem dL_law_374 : decode cL_law 374 = .ok (.iaload, 1) := by decide +kernel
theorem dL_law_375 : decode cL_law 375 = .ok (.aload_n 0, 1) := by decide +kernel
theorem dL_law_376 : decode cL_law 376 = .ok (.iload_n 3, 1) := by decide +kernel
theorem dL_law_377 : decode cL_law 377 = .ok (.iconst 2, 1) := by decide +kernel
theorem dL_law_378 : decode cL_law 378 = .ok (.iadd, 1) := by decide +kernel
theorem dL_law_379 : decode cL_law 379 = .ok (.iaload, 1) := by decide +kernel
theorem dL_law_380 : decode cL_law 380 = .ok (.aload_n 0, 1) := by decide +kernel
theorem dL_law_381 : decode cL_law 381 = .ok (.iload_n 3, 1) := by decide +kernel
theorem dL_law_382 : decode cL_law 382 = .ok (.iconst 3, 1) := by decide +kernel
theorem dL_law_383 : decode cL_law 383 = .ok (.iadd, 1) := by decide +kernel
theorem dL_law_384 : decode cL_law 384 = .ok (.iaload, 1) := by decide +kernel
theorem dL_law_385 : decode cL_law 385 = .ok (.aload_n 0, 1) := by decide +kernel
theorem dL_law_386 : decode cL_law 386 = .ok (.iload_n 3, 1) := by decide +kernel
theorem dL_law_387 : decode cL_law 387 = .ok (.iconst 4, 1) := by decide +kernel
theorem dL_law_388 : decode cL_law 388 = .ok (.iadd, 1) := by decide +kernel
theorem dL_law_389 : decode cL_law 389 = .ok (.iaload, 1) := by decide +kernel
theorem dL_law_390 : decode cL_law 390 = .ok (.aload_n 0, 1) := by decide +kernel
theorem dL_law_391 : decode cL_law 391 = .ok (.iload_n 3, 1) := by decide +kernel
theorem dL_law_392 : decode cL_law 392 = .ok (.iconst 5, 1) := by decide +kernel
theorem dL_law_393 : decode cL_law 393 = .ok (.iadd, 1) := by decide +kernel
theorem dL_law_394 : decode cL_law 394 = .ok (.iaload, 1) := by decide +kernel
theorem dL_law_395 : decode cL_law 395 = .ok (.invokevirtual 46, 3) := by decide +kernel
theorem dL_law_398 : decode cL_law 398 = .ok (.aload_n 2, 1) := by decide +kernel
theorem dL_law_399 : decode cL_law 399 = .ok (.aload_n 0, 1) := by decide +kernel
theorem dL_law_400 : decode cL_law 400 = .ok (.iload_n 3, 1) := by decide +kernel
theorem dL_law_401 : decode cL_law 401 = .ok (.iconst 1, 1) := by decide +kernel
theorem dL_law_402 : decode cL_law 402 = .ok (.iadd, 1) := by decide +kernel
theorem dL_law_403 : decode cL_law 403 = .ok (.iaload, 1) := by decide +kernel
theorem dL_law_404 : decode cL_law 404 = .ok (.aload_n 0, 1) := by decide +kernel
theorem dL_law_405 : decode cL_law 405 = .ok (.iload_n 3, 1) := by decide +kernel
theorem dL_law_406 : decode cL_law 406 = .ok (.iconst 2, 1) := by decide +kernel
theorem dL_law_407 : decode cL_law 407 = .ok (.iadd, 1) := by decide +kernel
theorem dL_law_408 : decode cL_law 408 = .ok (.iaload, 1) := by decide +kernel
theorem dL_law_409 : decode cL_law 409 = .ok (.aload_n 0, 1) := by decide +kernel
theorem dL_law_410 : decode cL_law 410 = .ok (.iload_n 3, 1) := by decide +kernel
theorem dL_law_411 : decode cL_law 411 = .ok (.iconst 3, 1) := by decide +kernel
theorem dL_law_412 : decode cL_law 412 = .ok (.iadd, 1) := by decide +kernel
theorem dL_law_413 : decode cL_law 413 = .ok (.iaload, 1) := by decide +kernel
theorem dL_law_414 : decode cL_law 414 = .ok (.aload_n 0, 1) := by decide +kernel
theorem dL_law_415 : decode cL_law 415 = .ok (.iload_n 3, 1) := by decide +kernel
theorem dL_law_416 : decode cL_law 416 = .ok (.iconst 4, 1) := by decide +kernel
theorem dL_law_417 : decode cL_law 417 = .ok (.iadd, 1) := by decide +kernel
theorem dL_law_418 : decode cL_law 418 = .ok (.iaload, 1) := by decide +kernel
theorem dL_law_419 : decode cL_law 419 = .ok (.aload_n 0, 1) := by decide +kernel
theorem dL_law_420 : decode cL_law 420 = .ok (.iload_n 3, 1) := by decide +kernel
theorem dL_law_421 : decode cL_law 421 = .ok (.iconst 5, 1) := by decide +kernel
theorem dL_law_422 : decode cL_law 422 = .ok (.iadd, 1) := by decide +kernel
theorem dL_law_423 : decode cL_law 423 = .ok (.iaload, 1) := by decide +kernel
theorem dL_law_424 : decode cL_law 424 = .ok (.invokevirtual 49, 3) := by decide +kernel
theorem dL_law_427 : decode cL_law 427 = .ok (.if_icmp .eq 571, 3) := by decide +kernel
theorem dL_law_430 : decode cL_law 430 = .ok (.iconst 0, 1) := by decide +kernel
theorem dL_law_431 : decode cL_law 431 = .ok (.ireturn, 1) := by decide +kernel
theorem dL_law_432 : decode cL_law 432 = .ok (.aload_n 1, 1) := by decide +kernel
theorem dL_law_433 : decode cL_law 433 = .ok (.aload_n 0, 1) := by decide +kernel
theorem dL_law_434 : decode cL_law 434 = .ok (.iload_n 3, 1) := by decide +kernel
theorem dL_law_435 : decode cL_law 435 = .ok (.iconst 1, 1) := by decide +kernel
theorem dL_law_436 : decode cL_law 436 = .ok (.iadd, 1) := by decide +kernel
theorem dL_law_437 : decode cL_law 437 = .ok (.iaload, 1) := by decide +kernel
theorem dL_law_438 : decode cL_law 438 = .ok (.invokevirtual 50, 3) := by decide +kernel
theorem dL_law_441 : decode cL_law 441 = .ok (.aload_n 2, 1) := by decide +kernel
theorem dL_law_442 : decode cL_law 442 = .ok (.aload_n 0, 1) := by decide +kernel
theorem dL_law_443 : decode cL_law 443 = .ok (.iload_n 3, 1) := by decide +kernel
theorem dL_law_444 : decode cL_law 444 = .ok (.iconst 1, 1) := by decide +kernel
theorem dL_law_445 : decode cL_law 445 = .ok (.iadd, 1) := by decide +kernel
theorem dL_law_446 : decode cL_law 446 = .ok (.iaload, 1) := by decide +kernel
theorem dL_law_447 : decode cL_law 447 = .ok (.invokevirtual 53, 3) := by decide +kernel
theorem dL_law_450 : decode cL_law 450 = .ok (.if_icmp .eq 548, 3) := by decide +kernel
theorem dL_law_453 : decode cL_law 453 = .ok (.iconst 0, 1) := by decide +kernel
theorem dL_law_454 : decode cL_law 454 = .ok (.ireturn, 1) := by decide +kernel
theorem dL_law_455 : decode cL_law 455 = .ok (.aload_n 1, 1) := by decide +kernel
theorem dL_law_456 : decode cL_law 456 = .ok (.aload_n 0, 1) := by decide +kernel
theorem dL_law_457 : decode cL_law 457 = .ok (.iload_n 3, 1) := by decide +kernel
theorem dL_law_458 : decode cL_law 458 = .ok (.iconst 1, 1) := by decide +kernel
theorem dL_law_459 : decode cL_law 459 = .ok (.iadd, 1) := by decide +kernel
theorem dL_law_460 : decode cL_law 460 = .ok (.iaload, 1) := by decide +kernel
theorem dL_law_461 : decode cL_law 461 = .ok (.aload_n 0, 1) := by decide +kernel
theorem dL_law_462 : decode cL_law 462 = .ok (.iload_n 3, 1) := by decide +kernel
theorem dL_law_463 : decode cL_law 463 = .ok (.iconst 2, 1) := by decide +kernel
theorem dL_law_464 : decode cL_law 464 = .ok (.iadd, 1) := by decide +kernel
theorem dL_law_465 : decode cL_law 465 = .ok (.iaload, 1) := by decide +kernel
theorem dL_law_466 : decode cL_law 466 = .ok (.invokevirtual 54, 3) := by decide +kernel
theorem dL_law_469 : decode cL_law 469 = .ok (.aload_n 2, 1) := by decide +kernel
theorem dL_law_470 : decode cL_law 470 = .ok (.aload_n 0, 1) := by decide +kernel
theorem dL_law_471 : decode cL_law 471 = .ok (.iload_n 3, 1) := by decide +kernel
theorem dL_law_472 : decode cL_law 472 = .ok (.iconst 1, 1) := by decide +kernel
theorem dL_law_473 : decode cL_law 473 = .ok (.iadd, 1) := by decide +kernel
theorem dL_law_474 : decode cL_law 474 = .ok (.iaload, 1) := by decide +kernel
theorem dL_law_475 : decode cL_law 475 = .ok (.aload_n 0, 1) := by decide +kernel
theorem dL_law_476 : decode cL_law 476 = .ok (.iload_n 3, 1) := by decide +kernel
theorem dL_law_477 : decode cL_law 477 = .ok (.iconst 2, 1) := by decide +kernel
theorem dL_law_478 : decode cL_law 478 = .ok (.iadd, 1) := by decide +kernel
theorem dL_law_479 : decode cL_law 479 = .ok (.iaload, 1) := by decide +kernel
theorem dL_law_480 : decode cL_law 480 = .ok (.invokevirtual 57, 3) := by decide +kernel
theorem dL_law_483 : decode cL_law 483 = .ok (.if_icmp .eq 515, 3) := by decide +kernel
theorem dL_law_486 : decode cL_law 486 = .ok (.iconst 0, 1) := by decide +kernel
theorem dL_law_487 : decode cL_law 487 = .ok (.ireturn, 1) := by decide +kernel
theorem dL_law_488 : decode cL_law 488 = .ok (.aload_n 1, 1) := by decide +kernel
theorem dL_law_489 : decode cL_law 489 = .ok (.invokevirtual 58, 3) := by decide +kernel
theorem dL_law_492 : decode cL_law 492 = .ok (.aload_n 2, 1) := by decide +kernel
theorem dL_law_493 : decode cL_law 493 = .ok (.invokevirtual 61, 3) := by decide +kernel
theorem dL_law_496 : decode cL_law 496 = .ok (.if_icmp .eq 502, 3) := by decide +kernel
theorem dL_law_499 : decode cL_law 499 = .ok (.iconst 0, 1) := by decide +kernel
theorem dL_law_500 : decode cL_law 500 = .ok (.ireturn, 1) := by decide +kernel
theorem dL_law_501 : decode cL_law 501 = .ok (.aload_n 1, 1) := by decide +kernel
theorem dL_law_502 : decode cL_law 502 = .ok (.invokevirtual 62, 3) := by decide +kernel
theorem dL_law_505 : decode cL_law 505 = .ok (.aload_n 2, 1) := by decide +kernel
theorem dL_law_506 : decode cL_law 506 = .ok (.invokevirtual 65, 3) := by decide +kernel
theorem dL_law_509 : decode cL_law 509 = .ok (.if_icmp .eq 489, 3) := by decide +kernel
theorem dL_law_512 : decode cL_law 512 = .ok (.iconst 0, 1) := by decide +kernel
theorem dL_law_513 : decode cL_law 513 = .ok (.ireturn, 1) := by decide +kernel
theorem dL_law_514 : decode cL_law 514 = .ok (.aload_n 1, 1) := by decide +kernel
theorem dL_law_515 : decode cL_law 515 = .ok (.invokevirtual 66, 3) := by decide +kernel
theorem dL_law_518 : decode cL_law 518 = .ok (.aload_n 2, 1) := by decide +kernel
theorem dL_law_519 : decode cL_law 519 = .ok (.invokevirtual 69, 3) := by decide +kernel
theorem dL_law_522 : decode cL_law 522 = .ok (.if_icmp .eq 476, 3) := by decide +kernel
theorem dL_law_525 : decode cL_law 525 = .ok (.iconst 0, 1) := by decide +kernel
theorem dL_law_526 : decode cL_law 526 = .ok (.ireturn, 1) := by decide +kernel
theorem dL_law_527 : decode cL_law 527 = .ok (.aload_n 1, 1) := by decide +kernel
theorem dL_law_528 : decode cL_law 528 = .ok (.aload_n 0, 1) := by decide +kernel
theorem dL_law_529 : decode cL_law 529 = .ok (.iload_n 3, 1) := by decide +kernel
theorem dL_law_530 : decode cL_law 530 = .ok (.iconst 1, 1) := by decide +kernel
theorem dL_law_531 : decode cL_law 531 = .ok (.iadd, 1) := by decide +kernel
theorem dL_law_532 : decode cL_law 532 = .ok (.iaload, 1) := by decide +kernel
theorem dL_law_533 : decode cL_law 533 = .ok (.aload_n 0, 1) := by decide +kernel
theorem dL_law_534 : decode cL_law 534 = .ok (.iload_n 3, 1) := by decide +kernel
theorem dL_law_535 : decode cL_law 535 = .ok (.iconst 2, 1) := by decide +kernel
theorem dL_law_536 : decode cL_law 536 = .ok (.iadd, 1) := by decide +kernel
theorem dL_law_537 : decode cL_law 537 = .ok (.iaload, 1) := by decide +kernel
theorem dL_law_538 : decode cL_law 538 = .ok (.aload_n 0, 1) := by decide +kernel
theorem dL_law_539 : decode cL_law 539 = .ok (.iload_n 3, 1) := by decide +kernel
theorem dL_law_540 : decode cL_law 540 = .ok (.iconst 3, 1) := by decide +kernel
theorem dL_law_541 : decode cL_law 541 = .ok (.iadd, 1) := by decide +kernel
theorem dL_law_542 : decode cL_law 542 = .ok (.iaload, 1) := by decide +kernel
theorem dL_law_543 : decode cL_law 543 = .ok (.invokevirtual 70, 3) := by decide +kernel
theorem dL_law_546 : decode cL_law 546 = .ok (.aload_n 2, 1) := by decide +kernel
theorem dL_law_547 : decode cL_law 547 = .ok (.aload_n 0, 1) := by decide +kernel
theorem dL_law_548 : decode cL_law 548 = .ok (.iload_n 3, 1) := by decide +kernel
theorem dL_law_549 : decode cL_law 549 = .ok (.iconst 1, 1) := by decide +kernel
theorem dL_law_550 : decode cL_law 550 = .ok (.iadd, 1) := by decide +kernel
theorem dL_law_551 : decode cL_law 551 = .ok (.iaload, 1) := by decide +kernel
theorem dL_law_552 : decode cL_law 552 = .ok (.aload_n 0, 1) := by decide +kernel
theorem dL_law_553 : decode cL_law 553 = .ok (.iload_n 3, 1) := by decide +kernel
theorem dL_law_554 : decode cL_law 554 = .ok (.iconst 2, 1) := by decide +kernel
theorem dL_law_555 : decode cL_law 555 = .ok (.iadd, 1) := by decide +kernel
theorem dL_law_556 : decode cL_law 556 = .ok (.iaload, 1) := by decide +kernel
theorem dL_law_557 : decode cL_law 557 = .ok (.aload_n 0, 1) := by decide +kernel
theorem dL_law_558 : decode cL_law 558 = .ok (.iload_n 3, 1) := by decide +kernel
theorem dL_law_559 : decode cL_law 559 = .ok (.iconst 3, 1) := by decide +kernel
theorem dL_law_560 : decode cL_law 560 = .ok (.iadd, 1) := by decide +kernel
theorem dL_law_561 : decode cL_law 561 = .ok (.iaload, 1) := by decide +kernel
theorem dL_law_562 : decode cL_law 562 = .ok (.invokevirtual 73, 3) := by decide +kernel
theorem dL_law_565 : decode cL_law 565 = .ok (.if_icmp .eq 433, 3) := by decide +kernel
theorem dL_law_568 : decode cL_law 568 = .ok (.iconst 0, 1) := by decide +kernel
theorem dL_law_569 : decode cL_law 569 = .ok (.ireturn, 1) := by decide +kernel
theorem dL_law_570 : decode cL_law 570 = .ok (.aload_n 1, 1) := by decide +kernel
theorem dL_law_571 : decode cL_law 571 = .ok (.aload_n 0, 1) := by decide +kernel
theorem dL_law_572 : decode cL_law 572 = .ok (.iload_n 3, 1) := by decide +kernel
theorem dL_law_573 : decode cL_law 573 = .ok (.iconst 1, 1) := by decide +kernel
theorem dL_law_574 : decode cL_law 574 = .ok (.iadd, 1) := by decide +kernel
theorem dL_law_575 : decode cL_law 575 = .ok (.iaload, 1) := by decide +kernel
theorem dL_law_576 : decode cL_law 576 = .ok (.aload_n 0, 1) := by decide +kernel
theorem dL_law_577 : decode cL_law 577 = .ok (.iload_n 3, 1) := by decide +kernel
theorem dL_law_578 : decode cL_law 578 = .ok (.iconst 2, 1) := by decide +kernel
theorem dL_law_579 : decode cL_law 579 = .ok (.iadd, 1) := by decide +kernel
theorem dL_law_580 : decode cL_law 580 = .ok (.iaload, 1) := by decide +kernel
theorem dL_law_581 : decode cL_law 581 = .ok (.invokevirtual 74, 3) := by decide +kernel
theorem dL_law_584 : decode cL_law 584 = .ok (.aload_n 2, 1) := by decide +kernel
theorem dL_law_585 : decode cL_law 585 = .ok (.aload_n 0, 1) := by decide +kernel
theorem dL_law_586 : decode cL_law 586 = .ok (.iload_n 3, 1) := by decide +kernel
theorem dL_law_587 : decode cL_law 587 = .ok (.iconst 1, 1) := by decide +kernel
theorem dL_law_588 : decode cL_law 588 = .ok (.iadd, 1) := by decide +kernel
theorem dL_law_589 : decode cL_law 589 = .ok (.iaload, 1) := by decide +kernel
theorem dL_law_590 : decode cL_law 590 = .ok (.aload_n 0, 1) := by decide +kernel
theorem dL_law_591 : decode cL_law 591 = .ok (.iload_n 3, 1) := by decide +kernel
theorem dL_law_592 : decode cL_law 592 = .ok (.iconst 2, 1) := by decide +kernel
theorem dL_law_593 : decode cL_law 593 = .ok (.iadd, 1) := by decide +kernel
theorem dL_law_594 : decode cL_law 594 = .ok (.iaload, 1) := by decide +kernel
theorem dL_law_595 : decode cL_law 595 = .ok (.invokevirtual 77, 3) := by decide +kernel
theorem dL_law_598 : decode cL_law 598 = .ok (.if_icmp .eq 400, 3) := by decide +kernel
theorem dL_law_601 : decode cL_law 601 = .ok (.iconst 0, 1) := by decide +kernel
theorem dL_law_602 : decode cL_law 602 = .ok (.ireturn, 1) := by decide +kernel
theorem dL_law_603 : decode cL_law 603 = .ok (.aload_n 1, 1) := by decide +kernel
theorem dL_law_604 : decode cL_law 604 = .ok (.aload_n 0, 1) := by decide +kernel
theorem dL_law_605 : decode cL_law 605 = .ok (.iload_n 3, 1) := by decide +kernel
theorem dL_law_606 : decode cL_law 606 = .ok (.iconst 1, 1) := by decide +kernel
theorem dL_law_607 : decode cL_law 607 = .ok (.iadd, 1) := by decide +kernel
theorem dL_law_608 : decode cL_law 608 = .ok (.iaload, 1) := by decide +kernel
theorem dL_law_609 : decode cL_law 609 = .ok (.aload_n 0, 1) := by decide +kernel
theorem dL_law_610 : decode cL_law 610 = .ok (.iload_n 3, 1) := by decide +kernel
theorem dL_law_611 : decode cL_law 611 = .ok (.iconst 2, 1) := by decide +kernel
theorem dL_law_612 : decode cL_law 612 = .ok (.iadd, 1) := by decide +kernel
theorem dL_law_613 : decode cL_law 613 = .ok (.iaload, 1) := by decide +kernel
theorem dL_law_614 : decode cL_law 614 = .ok (.invokevirtual 78, 3) := by decide +kernel
theorem dL_law_617 : decode cL_law 617 = .ok (.aload_n 2, 1) := by decide +kernel
theorem dL_law_618 : decode cL_law 618 = .ok (.aload_n 0, 1) := by decide +kernel
theorem dL_law_619 : decode cL_law 619 = .ok (.iload_n 3, 1) := by decide +kernel
theorem dL_law_620 : decode cL_law 620 = .ok (.iconst 1, 1) := by decide +kernel
theorem dL_law_621 : decode cL_law 621 = .ok (.iadd, 1) := by decide +kernel
theorem dL_law_622 : decode cL_law 622 = .ok (.iaload, 1) := by decide +kernel
theorem dL_law_623 : decode cL_law 623 = .ok (.aload_n 0, 1) := by decide +kernel
theorem dL_law_624 : decode cL_law 624 = .ok (.iload_n 3, 1) := by decide +kernel
theorem dL_law_625 : decode cL_law 625 = .ok (.iconst 2, 1) := by decide +kernel
theorem dL_law_626 : decode cL_law 626 = .ok (.iadd, 1) := by decide +kernel
theorem dL_law_627 : decode cL_law 627 = .ok (.iaload, 1) := by decide +kernel
theorem dL_law_628 : decode cL_law 628 = .ok (.invokevirtual 81, 3) := by decide +kernel
theorem dL_law_631 : decode cL_law 631 = .ok (.if_icmp .eq 367, 3) := by decide +kernel
theorem dL_law_634 : decode cL_law 634 = .ok (.iconst 0, 1) := by decide +kernel
theorem dL_law_635 : decode cL_law 635 = .ok (.ireturn, 1) := by decide +kernel
theorem dL_law_636 : decode cL_law 636 = .ok (.aload_n 1, 1) := by decide +kernel
theorem dL_law_637 : decode cL_law 637 = .ok (.aload_n 0, 1) := by decide +kernel
theorem dL_law_638 : decode cL_law 638 = .ok (.iload_n 3, 1) := by decide +kernel
theorem dL_law_639 : decode cL_law 639 = .ok (.iconst 1, 1) := by decide +kernel
theorem dL_law_640 : decode cL_law 640 = .ok (.iadd, 1) := by decide +kernel
theorem dL_law_641 : decode cL_law 641 = .ok (.iaload, 1) := by decide +kernel
theorem dL_law_642 : decode cL_law 642 = .ok (.invokevirtual 82, 3) := by decide +kernel
theorem dL_law_645 : decode cL_law 645 = .ok (.aload_n 2, 1) := by decide +kernel
theorem dL_law_646 : decode cL_law 646 = .ok (.aload_n 0, 1) := by decide +kernel
theorem dL_law_647 : decode cL_law 647 = .ok (.iload_n 3, 1) := by decide +kernel
theorem dL_law_648 : decode cL_law 648 = .ok (.iconst 1, 1) := by decide +kernel
theorem dL_law_649 : decode cL_law 649 = .ok (.iadd, 1) := by decide +kernel
theorem dL_law_650 : decode cL_law 650 = .ok (.iaload, 1) := by decide +kernel
theorem dL_law_651 : decode cL_law 651 = .ok (.invokevirtual 85, 3) := by decide +kernel
theorem dL_law_654 : decode cL_law 654 = .ok (.if_icmp .eq 344, 3) := by decide +kernel
theorem dL_law_657 : decode cL_law 657 = .ok (.iconst 0, 1) := by decide +kernel
theorem dL_law_658 : decode cL_law 658 = .ok (.ireturn, 1) := by decide +kernel
theorem dL_law_659 : decode cL_law 659 = .ok (.aload_n 1, 1) := by decide +kernel
theorem dL_law_660 : decode cL_law 660 = .ok (.invokevirtual 86, 3) := by decide +kernel
theorem dL_law_663 : decode cL_law 663 = .ok (.aload_n 2, 1) := by decide +kernel
theorem dL_law_664 : decode cL_law 664 = .ok (.invokevirtual 89, 3) := by decide +kernel
theorem dL_law_667 : decode cL_law 667 = .ok (.if_icmp .eq 331, 3) := by decide +kernel
theorem dL_law_670 : decode cL_law 670 = .ok (.iconst 0, 1) := by decide +kernel
theorem dL_law_671 : decode cL_law 671 = .ok (.ireturn, 1) := by decide +kernel
theorem dL_law_672 : decode cL_law 672 = .ok (.aload_n 1, 1) := by decide +kernel
theorem dL_law_673 : decode cL_law 673 = .ok (.aload_n 0, 1) := by decide +kernel
theorem dL_law_674 : decode cL_law 674 = .ok (.iload_n 3, 1) := by decide +kernel
theorem dL_law_675 : decode cL_law 675 = .ok (.iconst 1, 1) := by decide +kernel
theorem dL_law_676 : decode cL_law 676 = .ok (.iadd, 1) := by decide +kernel
theorem dL_law_677 : decode cL_law 677 = .ok (.iaload, 1) := by decide +kernel
theorem dL_law_678 : decode cL_law 678 = .ok (.aload_n 0, 1) := by decide +kernel
theorem dL_law_679 : decode cL_law 679 = .ok (.iload_n 3, 1) := by decide +kernel
theorem dL_law_680 : decode cL_law 680 = .ok (.iconst 2, 1) := by decide +kernel
theorem dL_law_681 : decode cL_law 681 = .ok (.iadd, 1) := by decide +kernel
theorem dL_law_682 : decode cL_law 682 = .ok (.iaload, 1) := by decide +kernel
theorem dL_law_683 : decode cL_law 683 = .ok (.aload_n 0, 1) := by decide +kernel
theorem dL_law_684 : decode cL_law 684 = .ok (.iload_n 3, 1) := by decide +kernel
theorem dL_law_685 : decode cL_law 685 = .ok (.iconst 3, 1) := by decide +kernel
theorem dL_law_686 : decode cL_law 686 = .ok (.iadd, 1) := by decide +kernel
theorem dL_law_687 : decode cL_law 687 = .ok (.iaload, 1) := by decide +kernel
theorem dL_law_688 : decode cL_law 688 = .ok (.invokevirtual 90, 3) := by decide +kernel
theorem dL_law_691 : decode cL_law 691 = .ok (.aload_n 2, 1) := by decide +kernel
theorem dL_law_692 : decode cL_law 692 = .ok (.aload_n 0, 1) := by decide +kernel
theorem dL_law_693 : decode cL_law 693 = .ok (.iload_n 3, 1) := by decide +kernel
theorem dL_law_694 : decode cL_law 694 = .ok (.iconst 1, 1) := by decide +kernel
theorem dL_law_695 : decode cL_law 695 = .ok (.iadd, 1) := by decide +kernel
theorem dL_law_696 : decode cL_law 696 = .ok (.iaload, 1) := by decide +kernel
theorem dL_law_697 : decode cL_law 697 = .ok (.aload_n 0, 1) := by decide +kernel
theorem dL_law_698 : decode cL_law 698 = .ok (.iload_n 3, 1) := by decide +kernel
theorem dL_law_699 : decode cL_law 699 = .ok (.iconst 2, 1) := by decide +kernel
theorem dL_law_700 : decode cL_law 700 = .ok (.iadd, 1) := by decide +kernel
theorem dL_law_701 : decode cL_law 701 = .ok (.iaload, 1) := by decide +kernel
theorem dL_law_702 : decode cL_law 702 = .ok (.aload_n 0, 1) := by decide +kernel
theorem dL_law_703 : decode cL_law 703 = .ok (.iload_n 3, 1) := by decide +kernel
theorem dL_law_704 : decode cL_law 704 = .ok (.iconst 3, 1) := by decide +kernel
theorem dL_law_705 : decode cL_law 705 = .ok (.iadd, 1) := by decide +kernel
theorem dL_law_706 : decode cL_law 706 = .ok (.iaload, 1) := by decide +kernel
theorem dL_law_707 : decode cL_law 707 = .ok (.invokevirtual 93, 3) := by decide +kernel
theorem dL_law_710 : decode cL_law 710 = .ok (.if_icmp .eq 288, 3) := by decide +kernel
theorem dL_law_713 : decode cL_law 713 = .ok (.iconst 0, 1) := by decide +kernel
theorem dL_law_714 : decode cL_law 714 = .ok (.ireturn, 1) := by decide +kernel
theorem dL_law_715 : decode cL_law 715 = .ok (.aload_n 1, 1) := by decide +kernel
theorem dL_law_716 : decode cL_law 716 = .ok (.invokevirtual 94, 3) := by decide +kernel
theorem dL_law_719 : decode cL_law 719 = .ok (.aload_n 2, 1) := by decide +kernel
theorem dL_law_720 : decode cL_law 720 = .ok (.invokevirtual 97, 3) := by decide +kernel
theorem dL_law_723 : decode cL_law 723 = .ok (.if_icmp .eq 275, 3) := by decide +kernel
theorem dL_law_726 : decode cL_law 726 = .ok (.iconst 0, 1) := by decide +kernel
theorem dL_law_727 : decode cL_law 727 = .ok (.ireturn, 1) := by decide +kernel
theorem dL_law_728 : decode cL_law 728 = .ok (.aload_n 1, 1) := by decide +kernel
theorem dL_law_729 : decode cL_law 729 = .ok (.aload_n 0, 1) := by decide +kernel
theorem dL_law_730 : decode cL_law 730 = .ok (.iload_n 3, 1) := by decide +kernel
theorem dL_law_731 : decode cL_law 731 = .ok (.iconst 1, 1) := by decide +kernel
theorem dL_law_732 : decode cL_law 732 = .ok (.iadd, 1) := by decide +kernel
theorem dL_law_733 : decode cL_law 733 = .ok (.iaload, 1) := by decide +kernel
theorem dL_law_734 : decode cL_law 734 = .ok (.invokevirtual 98, 3) := by decide +kernel
theorem dL_law_737 : decode cL_law 737 = .ok (.aload_n 2, 1) := by decide +kernel
theorem dL_law_738 : decode cL_law 738 = .ok (.aload_n 0, 1) := by decide +kernel
theorem dL_law_739 : decode cL_law 739 = .ok (.iload_n 3, 1) := by decide +kernel
theorem dL_law_740 : decode cL_law 740 = .ok (.iconst 1, 1) := by decide +kernel
theorem dL_law_741 : decode cL_law 741 = .ok (.iadd, 1) := by decide +kernel
theorem dL_law_742 : decode cL_law 742 = .ok (.iaload, 1) := by decide +kernel
theorem dL_law_743 : decode cL_law 743 = .ok (.invokevirtual 101, 3) := by decide +kernel
theorem dL_law_746 : decode cL_law 746 = .ok (.if_icmp .eq 252, 3) := by decide +kernel
theorem dL_law_749 : decode cL_law 749 = .ok (.iconst 0, 1) := by decide +kernel
theorem dL_law_750 : decode cL_law 750 = .ok (.ireturn, 1) := by decide +kernel
theorem dL_law_751 : decode cL_law 751 = .ok (.aload_n 1, 1) := by decide +kernel
theorem dL_law_752 : decode cL_law 752 = .ok (.aload_n 0, 1) := by decide +kernel
theorem dL_law_753 : decode cL_law 753 = .ok (.iload_n 3, 1) := by decide +kernel
theorem dL_law_754 : decode cL_law 754 = .ok (.iconst 1, 1) := by decide +kernel
theorem dL_law_755 : decode cL_law 755 = .ok (.iadd, 1) := by decide +kernel
theorem dL_law_756 : decode cL_law 756 = .ok (.iaload, 1) := by decide +kernel
theorem dL_law_757 : decode cL_law 757 = .ok (.invokevirtual 102, 3) := by decide +kernel
theorem dL_law_760 : decode cL_law 760 = .ok (.aload_n 2, 1) := by decide +kernel
theorem dL_law_761 : decode cL_law 761 = .ok (.aload_n 0, 1) := by decide +kernel
theorem dL_law_762 : decode cL_law 762 = .ok (.iload_n 3, 1) := by decide +kernel
theorem dL_law_763 : decode cL_law 763 = .ok (.iconst 1, 1) := by decide +kernel
theorem dL_law_764 : decode cL_law 764 = .ok (.iadd, 1) := by decide +kernel
theorem dL_law_765 : decode cL_law 765 = .ok (.iaload, 1) := by decide +kernel
theorem dL_law_766 : decode cL_law 766 = .ok (.invokevirtual 105, 3) := by decide +kernel
theorem dL_law_769 : decode cL_law 769 = .ok (.if_icmp .eq 229, 3) := by decide +kernel
theorem dL_law_772 : decode cL_law 772 = .ok (.iconst 0, 1) := by decide +kernel
theorem dL_law_773 : decode cL_law 773 = .ok (.ireturn, 1) := by decide +kernel
theorem dL_law_774 : decode cL_law 774 = .ok (.aload_n 1, 1) := by decide +kernel
theorem dL_law_775 : decode cL_law 775 = .ok (.aload_n 0, 1) := by decide +kernel
theorem dL_law_776 : decode cL_law 776 = .ok (.iload_n 3, 1) := by decide +kernel
theorem dL_law_777 : decode cL_law 777 = .ok (.iconst 1, 1) := by decide +kernel
theorem dL_law_778 : decode cL_law 778 = .ok (.iadd, 1) := by decide +kernel
theorem dL_law_779 : decode cL_law 779 = .ok (.iaload, 1) := by decide +kernel
theorem dL_law_780 : decode cL_law 780 = .ok (.invokevirtual 106, 3) := by decide +kernel
theorem dL_law_783 : decode cL_law 783 = .ok (.aload_n 2, 1) := by decide +kernel
theorem dL_law_784 : decode cL_law 784 = .ok (.aload_n 0, 1) := by decide +kernel
theorem dL_law_785 : decode cL_law 785 = .ok (.iload_n 3, 1) := by decide +kernel
theorem dL_law_786 : decode cL_law 786 = .ok (.iconst 1, 1) := by decide +kernel
theorem dL_law_787 : decode cL_law 787 = .ok (.iadd, 1) := by decide +kernel
theorem dL_law_788 : decode cL_law 788 = .ok (.iaload, 1) := by decide +kernel
theorem dL_law_789 : decode cL_law 789 = .ok (.invokevirtual 109, 3) := by decide +kernel
theorem dL_law_792 : decode cL_law 792 = .ok (.if_icmp .eq 206, 3) := by decide +kernel
theorem dL_law_795 : decode cL_law 795 = .ok (.iconst 0, 1) := by decide +kernel
theorem dL_law_796 : decode cL_law 796 = .ok (.ireturn, 1) := by decide +kernel
theorem dL_law_797 : decode cL_law 797 = .ok (.aload_n 1, 1) := by decide +kernel
theorem dL_law_798 : decode cL_law 798 = .ok (.aload_n 0, 1) := by decide +kernel
theorem dL_law_799 : decode cL_law 799 = .ok (.iload_n 3, 1) := by decide +kernel
theorem dL_law_800 : decode cL_law 800 = .ok (.iconst 1, 1) := by decide +kernel
theorem dL_law_801 : decode cL_law 801 = .ok (.iadd, 1) := by decide +kernel
theorem dL_law_802 : decode cL_law 802 = .ok (.iaload, 1) := by decide +kernel
theorem dL_law_803 : decode cL_law 803 = .ok (.aload_n 0, 1) := by decide +kernel
theorem dL_law_804 : decode cL_law 804 = .ok (.iload_n 3, 1) := by decide +kernel
theorem dL_law_805 : decode cL_law 805 = .ok (.iconst 2, 1) := by decide +kernel
theorem dL_law_806 : decode cL_law 806 = .ok (.iadd, 1) := by decide +kernel
theorem dL_law_807 : decode cL_law 807 = .ok (.iaload, 1) := by decide +kernel
theorem dL_law_808 : decode cL_law 808 = .ok (.aload_n 0, 1) := by decide +kernel
theorem dL_law_809 : decode cL_law 809 = .ok (.iload_n 3, 1) := by decide +kernel
theorem dL_law_810 : decode cL_law 810 = .ok (.iconst 3, 1) := by decide +kernel
theorem dL_law_811 : decode cL_law 811 = .ok (.iadd, 1) := by decide +kernel
theorem dL_law_812 : decode cL_law 812 = .ok (.iaload, 1) := by decide +kernel
theorem dL_law_813 : decode cL_law 813 = .ok (.invokevirtual 110, 3) := by decide +kernel
theorem dL_law_816 : decode cL_law 816 = .ok (.aload_n 2, 1) := by decide +kernel
theorem dL_law_817 : decode cL_law 817 = .ok (.aload_n 0, 1) := by decide +kernel
theorem dL_law_818 : decode cL_law 818 = .ok (.iload_n 3, 1) := by decide +kernel
theorem dL_law_819 : decode cL_law 819 = .ok (.iconst 1, 1) := by decide +kernel
theorem dL_law_820 : decode cL_law 820 = .ok (.iadd, 1) := by decide +kernel
theorem dL_law_821 : decode cL_law 821 = .ok (.iaload, 1) := by decide +kernel
theorem dL_law_822 : decode cL_law 822 = .ok (.aload_n 0, 1) := by decide +kernel
theorem dL_law_823 : decode cL_law 823 = .ok (.iload_n 3, 1) := by decide +kernel
theorem dL_law_824 : decode cL_law 824 = .ok (.iconst 2, 1) := by decide +kernel
theorem dL_law_825 : decode cL_law 825 = .ok (.iadd, 1) := by decide +kernel
theorem dL_law_826 : decode cL_law 826 = .ok (.iaload, 1) := by decide +kernel
theorem dL_law_827 : decode cL_law 827 = .ok (.aload_n 0, 1) := by decide +kernel
theorem dL_law_828 : decode cL_law 828 = .ok (.iload_n 3, 1) := by decide +kernel
theorem dL_law_829 : decode cL_law 829 = .ok (.iconst 3, 1) := by decide +kernel
theorem dL_law_830 : decode cL_law 830 = .ok (.iadd, 1) := by decide +kernel
theorem dL_law_831 : decode cL_law 831 = .ok (.iaload, 1) := by decide +kernel
theorem dL_law_832 : decode cL_law 832 = .ok (.invokevirtual 113, 3) := by decide +kernel
theorem dL_law_835 : decode cL_law 835 = .ok (.if_icmp .eq 163, 3) := by decide +kernel
theorem dL_law_838 : decode cL_law 838 = .ok (.iconst 0, 1) := by decide +kernel
theorem dL_law_839 : decode cL_law 839 = .ok (.ireturn, 1) := by decide +kernel
theorem dL_law_840 : decode cL_law 840 = .ok (.aload_n 1, 1) := by decide +kernel
theorem dL_law_841 : decode cL_law 841 = .ok (.invokevirtual 114, 3) := by decide +kernel
theorem dL_law_844 : decode cL_law 844 = .ok (.aload_n 2, 1) := by decide +kernel
theorem dL_law_845 : decode cL_law 845 = .ok (.invokevirtual 117, 3) := by decide +kernel
theorem dL_law_848 : decode cL_law 848 = .ok (.if_icmp .eq 150, 3) := by decide +kernel
theorem dL_law_851 : decode cL_law 851 = .ok (.iconst 0, 1) := by decide +kernel
theorem dL_law_852 : decode cL_law 852 = .ok (.ireturn, 1) := by decide +kernel
theorem dL_law_853 : decode cL_law 853 = .ok (.aload_n 1, 1) := by decide +kernel
theorem dL_law_854 : decode cL_law 854 = .ok (.aload_n 0, 1) := by decide +kernel
theorem dL_law_855 : decode cL_law 855 = .ok (.iload_n 3, 1) := by decide +kernel
theorem dL_law_856 : decode cL_law 856 = .ok (.iconst 1, 1) := by decide +kernel
theorem dL_law_857 : decode cL_law 857 = .ok (.iadd, 1) := by decide +kernel
theorem dL_law_858 : decode cL_law 858 = .ok (.iaload, 1) := by decide +kernel
theorem dL_law_859 : decode cL_law 859 = .ok (.invokevirtual 118, 3) := by decide +kernel
theorem dL_law_862 : decode cL_law 862 = .ok (.aload_n 2, 1) := by decide +kernel
theorem dL_law_863 : decode cL_law 863 = .ok (.aload_n 0, 1) := by decide +kernel
theorem dL_law_864 : decode cL_law 864 = .ok (.iload_n 3, 1) := by decide +kernel
theorem dL_law_865 : decode cL_law 865 = .ok (.iconst 1, 1) := by decide +kernel
theorem dL_law_866 : decode cL_law 866 = .ok (.iadd, 1) := by decide +kernel
theorem dL_law_867 : decode cL_law 867 = .ok (.iaload, 1) := by decide +kernel
theorem dL_law_868 : decode cL_law 868 = .ok (.invokevirtual 121, 3) := by decide +kernel
theorem dL_law_871 : decode cL_law 871 = .ok (.if_icmp .eq 127, 3) := by decide +kernel
theorem dL_law_874 : decode cL_law 874 = .ok (.iconst 0, 1) := by decide +kernel
theorem dL_law_875 : decode cL_law 875 = .ok (.ireturn, 1) := by decide +kernel
theorem dL_law_876 : decode cL_law 876 = .ok (.aload_n 1, 1) := by decide +kernel
theorem dL_law_877 : decode cL_law 877 = .ok (.aload_n 0, 1) := by decide +kernel
theorem dL_law_878 : decode cL_law 878 = .ok (.iload_n 3, 1) := by decide +kernel
theorem dL_law_879 : decode cL_law 879 = .ok (.iconst 1, 1) := by decide +kernel
theorem dL_law_880 : decode cL_law 880 = .ok (.iadd, 1) := by decide +kernel
theorem dL_law_881 : decode cL_law 881 = .ok (.iaload, 1) := by decide +kernel
theorem dL_law_882 : decode cL_law 882 = .ok (.aload_n 0, 1) := by decide +kernel
theorem dL_law_883 : decode cL_law 883 = .ok (.iload_n 3, 1) := by decide +kernel
theorem dL_law_884 : decode cL_law 884 = .ok (.iconst 2, 1) := by decide +kernel
theorem dL_law_885 : decode cL_law 885 = .ok (.iadd, 1) := by decide +kernel
theorem dL_law_886 : decode cL_law 886 = .ok (.iaload, 1) := by decide +kernel
theorem dL_law_887 : decode cL_law 887 = .ok (.aload_n 0, 1) := by decide +kernel
theorem dL_law_888 : decode cL_law 888 = .ok (.iload_n 3, 1) := by decide +kernel
theorem dL_law_889 : decode cL_law 889 = .ok (.iconst 3, 1) := by decide +kernel
theorem dL_law_890 : decode cL_law 890 = .ok (.iadd, 1) := by decide +kernel
theorem dL_law_891 : decode cL_law 891 = .ok (.iaload, 1) := by decide +kernel
theorem dL_law_892 : decode cL_law 892 = .ok (.aload_n 0, 1) := by decide +kernel
theorem dL_law_893 : decode cL_law 893 = .ok (.iload_n 3, 1) := by decide +kernel
theorem dL_law_894 : decode cL_law 894 = .ok (.iconst 4, 1) := by decide +kernel
theorem dL_law_895 : decode cL_law 895 = .ok (.iadd, 1) := by decide +kernel
theorem dL_law_896 : decode cL_law 896 = .ok (.iaload, 1) := by decide +kernel
theorem dL_law_897 : decode cL_law 897 = .ok (.invokevirtual 122, 3) := by decide +kernel
theorem dL_law_900 : decode cL_law 900 = .ok (.aload_n 2, 1) := by decide +kernel
theorem dL_law_901 : decode cL_law 901 = .ok (.aload_n 0, 1) := by decide +kernel
theorem dL_law_902 : decode cL_law 902 = .ok (.iload_n 3, 1) := by decide +kernel
theorem dL_law_903 : decode cL_law 903 = .ok (.iconst 1, 1) := by decide +kernel
theorem dL_law_904 : decode cL_law 904 = .ok (.iadd, 1) := by decide +kernel
theorem dL_law_905 : decode cL_law 905 = .ok (.iaload, 1) := by decide +kernel
theorem dL_law_906 : decode cL_law 906 = .ok (.aload_n 0, 1) := by decide +kernel
theorem dL_law_907 : decode cL_law 907 = .ok (.iload_n 3, 1) := by decide +kernel
theorem dL_law_908 : decode cL_law 908 = .ok (.iconst 2, 1) := by decide +kernel
theorem dL_law_909 : decode cL_law 909 = .ok (.iadd, 1) := by decide +kernel
theorem dL_law_910 : decode cL_law 910 = .ok (.iaload, 1) := by decide +kernel
theorem dL_law_911 : decode cL_law 911 = .ok (.aload_n 0, 1) := by decide +kernel
theorem dL_law_912 : decode cL_law 912 = .ok (.iload_n 3, 1) := by decide +kernel
theorem dL_law_913 : decode cL_law 913 = .ok (.iconst 3, 1) := by decide +kernel
theorem dL_law_914 : decode cL_law 914 = .ok (.iadd, 1) := by decide +kernel
theorem dL_law_915 : decode cL_law 915 = .ok (.iaload, 1) := by decide +kernel
theorem dL_law_916 : decode cL_law 916 = .ok (.aload_n 0, 1) := by decide +kernel
theorem dL_law_917 : decode cL_law 917 = .ok (.iload_n 3, 1) := by decide +kernel
theorem dL_law_918 : decode cL_law 918 = .ok (.iconst 4, 1) := by decide +kernel
theorem dL_law_919 : decode cL_law 919 = .ok (.iadd, 1) := by decide +kernel
theorem dL_law_920 : decode cL_law 920 = .ok (.iaload, 1) := by decide +kernel
theorem dL_law_921 : decode cL_law 921 = .ok (.invokevirtual 126, 3) := by decide +kernel
theorem dL_law_924 : decode cL_law 924 = .ok (.if_icmp .eq 74, 3) := by decide +kernel
theorem dL_law_927 : decode cL_law 927 = .ok (.iconst 0, 1) := by decide +kernel
theorem dL_law_928 : decode cL_law 928 = .ok (.ireturn, 1) := by decide +kernel
theorem dL_law_929 : decode cL_law 929 = .ok (.aload_n 1, 1) := by decide +kernel
theorem dL_law_930 : decode cL_law 930 = .ok (.aload_n 0, 1) := by decide +kernel
theorem dL_law_931 : decode cL_law 931 = .ok (.iload_n 3, 1) := by decide +kernel
theorem dL_law_932 : decode cL_law 932 = .ok (.iconst 1, 1) := by decide +kernel
theorem dL_law_933 : decode cL_law 933 = .ok (.iadd, 1) := by decide +kernel
theorem dL_law_934 : decode cL_law 934 = .ok (.iaload, 1) := by decide +kernel
theorem dL_law_935 : decode cL_law 935 = .ok (.invokevirtual 127, 3) := by decide +kernel
theorem dL_law_938 : decode cL_law 938 = .ok (.aload_n 2, 1) := by decide +kernel
theorem dL_law_939 : decode cL_law 939 = .ok (.aload_n 0, 1) := by decide +kernel
theorem dL_law_940 : decode cL_law 940 = .ok (.iload_n 3, 1) := by decide +kernel
theorem dL_law_941 : decode cL_law 941 = .ok (.iconst 1, 1) := by decide +kernel
theorem dL_law_942 : decode cL_law 942 = .ok (.iadd, 1) := by decide +kernel
theorem dL_law_943 : decode cL_law 943 = .ok (.iaload, 1) := by decide +kernel
theorem dL_law_944 : decode cL_law 944 = .ok (.invokevirtual 130, 3) := by decide +kernel
theorem dL_law_947 : decode cL_law 947 = .ok (.if_icmp .eq 51, 3) := by decide +kernel
theorem dL_law_950 : decode cL_law 950 = .ok (.iconst 0, 1) := by decide +kernel
theorem dL_law_951 : decode cL_law 951 = .ok (.ireturn, 1) := by decide +kernel
theorem dL_law_952 : decode cL_law 952 = .ok (.aload_n 1, 1) := by decide +kernel
theorem dL_law_953 : decode cL_law 953 = .ok (.aload_n 0, 1) := by decide +kernel
theorem dL_law_954 : decode cL_law 954 = .ok (.iload_n 3, 1) := by decide +kernel
theorem dL_law_955 : decode cL_law 955 = .ok (.iconst 1, 1) := by decide +kernel
theorem dL_law_956 : decode cL_law 956 = .ok (.iadd, 1) := by decide +kernel
theorem dL_law_957 : decode cL_law 957 = .ok (.iaload, 1) := by decide +kernel
theorem dL_law_958 : decode cL_law 958 = .ok (.invokevirtual 131, 3) := by decide +kernel
theorem dL_law_961 : decode cL_law 961 = .ok (.aload_n 2, 1) := by decide +kernel
theorem dL_law_962 : decode cL_law 962 = .ok (.aload_n 0, 1) := by decide +kernel
theorem dL_law_963 : decode cL_law 963 = .ok (.iload_n 3, 1) := by decide +kernel
theorem dL_law_964 : decode cL_law 964 = .ok (.iconst 1, 1) := by decide +kernel
theorem dL_law_965 : decode cL_law 965 = .ok (.iadd, 1) := by decide +kernel
theorem dL_law_966 : decode cL_law 966 = .ok (.iaload, 1) := by decide +kernel
theorem dL_law_967 : decode cL_law 967 = .ok (.invokevirtual 134, 3) := by decide +kernel
theorem dL_law_970 : decode cL_law 970 = .ok (.if_icmp .eq 28, 3) := by decide +kernel
theorem dL_law_973 : decode cL_law 973 = .ok (.iconst 0, 1) := by decide +kernel
theorem dL_law_974 : decode cL_law 974 = .ok (.ireturn, 1) := by decide +kernel
theorem dL_law_975 : decode cL_law 975 = .ok (.aload_n 1, 1) := by decide +kernel
theorem dL_law_976 : decode cL_law 976 = .ok (.aload_n 0, 1) := by decide +kernel
theorem dL_law_977 : decode cL_law 977 = .ok (.iload_n 3, 1) := by decide +kernel
theorem dL_law_978 : decode cL_law 978 = .ok (.iconst 1, 1) := by decide +kernel
theorem dL_law_979 : decode cL_law 979 = .ok (.iadd, 1) := by decide +kernel
theorem dL_law_980 : decode cL_law 980 = .ok (.iaload, 1) := by decide +kernel
theorem dL_law_981 : decode cL_law 981 = .ok (.invokevirtual 135, 3) := by decide +kernel
theorem dL_law_984 : decode cL_law 984 = .ok (.aload_n 2, 1) := by decide +kernel
theorem dL_law_985 : decode cL_law 985 = .ok (.aload_n 0, 1) := by decide +kernel
theorem dL_law_986 : decode cL_law 986 = .ok (.iload_n 3, 1) := by decide +kernel
theorem dL_law_987 : decode cL_law 987 = .ok (.iconst 1, 1) := by decide +kernel
theorem dL_law_988 : decode cL_law 988 = .ok (.iadd, 1) := by decide +kernel
theorem dL_law_989 : decode cL_law 989 = .ok (.iaload, 1) := by decide +kernel
theorem dL_law_990 : decode cL_law 990 = .ok (.invokevirtual 138, 3) := by decide +kernel
theorem dL_law_993 : decode cL_law 993 = .ok (.if_icmp .eq 5, 3) := by decide +kernel
theorem dL_law_996 : decode cL_law 996 = .ok (.iconst 0, 1) := by decide +kernel
theorem dL_law_997 : decode cL_law 997 = .ok (.ireturn, 1) := by decide +kernel
theorem dL_law_998 : decode cL_law 998 = .ok (.iinc 3 6, 3) := by decide +kernel
theorem dL_law_1001 : decode cL_law 1001 = .ok (.goto (-983), 3) := by decide +kernel
theorem dL_law_1004 : decode cL_law 1004 = .ok (.iconst 1, 1) := by decide +kernel
theorem dL_law_1005 : decode cL_law 1005 = .ok (.ireturn, 1) := by decide +kernel
end
section
/-! THE FRAME: the whole store as one function (object id, slot) -> Int; a judgement G over it; a rule an instruction -/
theorem inX0 : ∀ w ∈ wsX00, w ∈ lw_tbl := by decide +kernel
theorem inX1 : ∀ w ∈ wsX10, w ∈ lw_tbl := by decide +kernel
theorem inX3 : ∀ w ∈ wsX30, w ∈ lw_tbl := by decide +kernel
theorem inX4 : ∀ w ∈ wsX40, w ∈ lw_tbl := by decide +kernel
theorem inX6 : ∀ w ∈ wsX60, w ∈ lw_tbl := by decide +kernel
theorem inX7 : ∀ w ∈ wsX70, w ∈ lw_tbl := by decide +kernel
theorem inX8 : ∀ w ∈ wsX80, w ∈ lw_tbl := by decide +kernel
theorem inX9 : ∀ w ∈ wsX90, w ∈ lw_tbl := by decide +kernel
theorem inX10 : ∀ w ∈ wsX100, w ∈ lw_tbl := by decide +kernel
theorem inX11 : ∀ w ∈ wsX110, w ∈ lw_tbl := by decide +kernel
def GW : List Cond := lw_tbl.filter goodWord
theorem gw_mem {w : Cond} (h : w ∈ lw_tbl) (g : goodWord w = true) : w ∈ GW := List.mem_filter.mpr ⟨h, g⟩
theorem gw_at {w : Cond} {i : Nat} (h : lw_tbl[i]? = some w) (g : goodWord w = true) : w ∈ GW := gw_mem (List.mem_of_getElem? h) g
theorem gw_good {w : Cond} (h : w ∈ GW) : goodWord w = true := (List.mem_filter.mp h).2
/-- the words of a class's fields are good -/
theorem u_ws_good {C : String} {T : u_T} {N : Nat} : ∀ w ∈ u_ws C T N, w ∈ lw_tbl → w ∈ GW := by
  intro w hw hm
  refine gw_mem hm ?_
  obtain ⟨k, -, rfl⟩ := List.mem_map.mp hw
  unfold u_lay
  split <;> rfl
/-- a class of the world: its number, its table -/
def ckT (ci : Nat) : Nat → FieldType := match ci with
  | 0 => tyX0 | 1 => tyX1 | 2 => tyX3 | 3 => tyX4 | 4 => tyX6 | 5 => tyX7 | 6 => tyX8 | 7 => tyX9 | 8 => tyX10 | _ => tyX11
theorem cl_in {ci : Nat} {q : vw_C} (h : vwCl[ci]? = some q) : ∀ w ∈ u_ws q.1 q.2.1 q.2.2, w ∈ GW := by
  intro w hw
  refine u_ws_good w hw ?_
  match ci, h with
  | 0, h => cases h; exact inX0 w hw
  | 1, h => cases h; exact inX1 w hw
  | 2, h => cases h; exact inX3 w hw
  | 3, h => cases h; exact inX4 w hw
  | 4, h => cases h; exact inX6 w hw
  | 5, h => cases h; exact inX7 w hw
  | 6, h => cases h; exact inX8 w hw
  | 7, h => cases h; exact inX9 w hw
  | 8, h => cases h; exact inX10 w hw
  | 9, h => cases h; exact inX11 w hw
  | n + 10, h => simp [vwCl] at h
theorem cl_ty {ci : Nat} {q : vw_C} (h : vwCl[ci]? = some q) : ∀ k, k < q.2.2 → parseFieldDescriptor (q.2.1 k).2.2.1 = some (ckT ci k) := by
  match ci, h with
  | 0, h => cases h; exact tyX0_ok
  | 1, h => cases h; exact tyX1_ok
  | 2, h => cases h; exact tyX3_ok
  | 3, h => cases h; exact tyX4_ok
  | 4, h => cases h; exact tyX6_ok
  | 5, h => cases h; exact tyX7_ok
  | 6, h => cases h; exact tyX8_ok
  | 7, h => cases h; exact tyX9_ok
  | 8, h => cases h; exact tyX10_ok
  | 9, h => cases h; exact tyX11_ok
  | n + 10, h => simp [vwCl] at h
theorem cl_nm {ci : Nat} {q : vw_C} (h : vwCl[ci]? = some q) : ∀ a, a < q.2.2 → ∀ b, b < q.2.2 → a ≠ b → (q.2.1 a).2.1 ≠ (q.2.1 b).2.1 := by
  match ci, h with
  | 0, h => cases h; exact nmX0
  | 1, h => cases h; exact nmX1
  | 2, h => cases h; exact nmX3
  | 3, h => cases h; exact nmX4
  | 4, h => cases h; exact nmX6
  | 5, h => cases h; exact nmX7
  | 6, h => cases h; exact nmX8
  | 7, h => cases h; exact nmX9
  | 8, h => cases h; exact nmX10
  | 9, h => cases h; exact nmX11
  | n + 10, h => simp [vwCl] at h
-- ints as Int
theorem oi_rng {z : Int} (h1 : -2147483648 ≤ z) (h2 : z < 2147483648) : (Int32.ofInt z).toInt = z := by
  rw [Int32.toInt_ofInt]
  have e : (Int32.size : Int) = 4294967296 := by decide
  exact Int.bmod_eq_of_le (by rw [e]; omega) (by rw [e]; omega)
def inI (z : Int) : Prop := -2147483648 ≤ z ∧ z < 2147483648
theorem oi_to {z : Int} (h : inI z) : (Int32.ofInt z).toInt = z := oi_rng h.1 h.2
theorem inI_of (x : Int32) : inI x.toInt := ⟨Int32.le_toInt x, Int32.toInt_lt x⟩
theorem oi_lt {x y : Int} (hx : inI x) (hy : inI y) : Int32.ofInt x < Int32.ofInt y ↔ x < y := by rw [Int32.lt_iff_toInt_lt, oi_to hx, oi_to hy]
theorem oi_le {x y : Int} (hx : inI x) (hy : inI y) : Int32.ofInt x ≤ Int32.ofInt y ↔ x ≤ y := by rw [Int32.le_iff_toInt_le, oi_to hx, oi_to hy]
theorem oi_eq {x y : Int} (hx : inI x) (hy : inI y) : Int32.ofInt x = Int32.ofInt y ↔ x = y := by
  constructor
  · intro h
    rw [← oi_to hx, ← oi_to hy, h]
  · intro h; rw [h]
theorem oi_0 : (0 : Int32) = Int32.ofInt 0 := rfl
theorem inI_0 : inI 0 := ⟨by decide, by decide⟩
theorem oi_cl {z : Int} (h0 : 0 ≤ z) (h : z < 2147483648) : (Int32.ofInt z).toNatClampNeg = z.toNat := by
  show (Int32.ofInt z).toInt.toNat = z.toNat
  rw [oi_rng (by omega) h]
theorem oi_in {z : Int} {n : Nat} (h0 : 0 ≤ z) (h : z < n) (hn : n < 2147483648) : vp_in (Int32.ofInt z) n := by
  intro q
  rcases q with q | q
  · rw [oi_0, oi_lt ⟨by omega, by omega⟩ inI_0] at q
    omega
  · rw [oi_cl h0 (by omega)] at q
    omega
theorem oi_div {x y : Int} (hx : inI x) (h0 : 0 < y) (hy : y < 2147483648) : Int32.ofInt x / Int32.ofInt y = Int32.ofInt (x.tdiv y) := by
  have hb : -2147483648 ≤ x.tdiv y ∧ x.tdiv y < 2147483648 := by
    obtain ⟨h1, h2⟩ := hx
    have h3 : (x.tdiv y).natAbs ≤ x.natAbs := Int.natAbs_tdiv_le_natAbs x y
    have h4 : 0 ≤ x → 0 ≤ x.tdiv y := fun h => Int.tdiv_nonneg h (Int.le_of_lt h0)
    have h5 : x ≤ 0 → x.tdiv y ≤ 0 := fun h => by
      have h6 : 0 ≤ (-x).tdiv y := Int.tdiv_nonneg (by omega) (Int.le_of_lt h0)
      rw [Int.neg_tdiv] at h6
      omega
    omega
  apply Int32.toInt_inj.mp
  rw [Int32.toInt_div, oi_to hx, oi_rng (by omega) hy, oi_rng hb.1 hb.2]
  exact Int.bmod_eq_of_le (by omega) (by omega)
theorem oi_rem {x y : Int} (hx : inI x) (h0 : 0 < y) (hy : y < 2147483648) : Int32.ofInt x - Int32.ofInt x / Int32.ofInt y * Int32.ofInt y = Int32.ofInt (x.tmod y) := by
  rw [oi_div hx h0 hy, ← Int32.ofInt_mul, ← Int32.ofInt_sub]
  congr 1
  have := Int.mul_tdiv_add_tmod x y
  have e : x.tdiv y * y = y * x.tdiv y := Int.mul_comm _ _
  omega
theorem oi_nz {y : Int} (h0 : 0 < y) (hy : y < 2147483648) : ¬ Int32.ofInt y = 0 := by
  rw [oi_0, oi_eq ⟨by omega, hy⟩ inI_0]
  omega
theorem oi_as (x : Int32) : Int32.ofInt x.toInt = x := by
  apply Int32.toInt_inj.mp
  exact oi_to (inI_of x)
theorem oi_nI {z : Int} (h : 0 ≤ z) : Int32.ofInt z = nI z.toNat := by
  obtain ⟨n, rfl⟩ := Int.eq_ofNat_of_zero_le h
  rfl
/-- x & (2^k - 1) -/
theorem oi_and {z m : Int} (k : Nat) (hm : m = 2 ^ k - 1) (hk : k ≤ 30) : Int32.ofInt z &&& Int32.ofInt m = Int32.ofInt (z % 2 ^ k) := by
  have hm2 : (Int32.ofInt m).toBitVec.toNat = 2 ^ k - 1 := by
    have hp : (2:Nat) ^ k ≤ 2 ^ 30 := Nat.pow_le_pow_right (by decide) hk
    have hp0 : 0 < (2:Nat) ^ k := Nat.pow_pos (by decide)
    have e : m = ((2 ^ k - 1 : Nat) : Int) := by
      rw [hm]; push_cast [Nat.one_le_two_pow]; rfl
    rw [e]
    show (BitVec.ofInt 32 _).toNat = _
    rw [BitVec.ofInt_natCast, BitVec.toNat_ofNat]
    apply Nat.mod_eq_of_lt
    have : (2:Nat)^30 = 1073741824 := by decide
    have : (2:Nat)^32 = 4294967296 := by decide
    omega
  rw [pk_and _ k hm2]
  have e1 : ((Int32.ofInt z).toBitVec.toNat : Int) = z % 4294967296 := by
    show ((BitVec.ofInt 32 z).toNat : Int) = _
    rw [BitVec.toNat_ofInt]
    have : (0:Int) ≤ z % 4294967296 := Int.emod_nonneg _ (by decide)
    exact Int.toNat_of_nonneg this
  have e2 : ((((Int32.ofInt z).toBitVec.toNat % 2 ^ k : Nat)) : Int) = z % 2 ^ k := by
    rw [Int.natCast_emod, e1]
    push_cast
    apply Int.emod_emod_of_dvd
    refine ⟨2 ^ (32 - k), ?_⟩
    rw [← Int.pow_add, show k + (32 - k) = 32 by omega]
    rfl
  rw [← e2]
  rfl
theorem oi_shr {x y : Int} (h0 : 0 ≤ x) (hx : x < 2147483648) (hy0 : 0 ≤ y) (hy : y < 32) : Int32.ofInt x >>> (Int32.ofInt y &&& 31) = Int32.ofInt (x / 2 ^ y.toNat) := by
  have e : Int32.ofInt y &&& 31 = Int32.ofInt y := by
    rw [show (31 : Int32) = Int32.ofInt 31 from rfl, oi_and (m := 31) 5 (by decide) (by decide)]
    rw [show y % 2 ^ 5 = y by omega]
  have hs : ((Int32.ofInt y).toBitVec.smod 32).toNat = y.toNat := by
    have : ∀ n, n < 32 → ((Int32.ofInt (n : Nat)).toBitVec.smod 32).toNat = n := by decide +kernel
    have h2 := this y.toNat (by omega)
    rwa [Int.toNat_of_nonneg hy0] at h2
  rw [e, oi_nI h0, pk_shrN (by omega) _ _ hs]
  show Int32.ofInt ((x.toNat / 2 ^ y.toNat : Nat) : Int) = _
  congr 1
  rw [Int.natCast_ediv, Int.toNat_of_nonneg h0]
  push_cast
  rfl
def bAnd (x y : Int) : Int := (Int32.ofInt x &&& Int32.ofInt y).toInt
def bOr (x y : Int) : Int := (Int32.ofInt x ||| Int32.ofInt y).toInt
def bXor (x y : Int) : Int := (Int32.ofInt x ^^^ Int32.ofInt y).toInt
def bShl (x y : Int) : Int := (Int32.ofInt x <<< (Int32.ofInt y &&& 31)).toInt
def bUshr (x y : Int) : Int := ((Int32.ofInt x).toUInt32 >>> ((Int32.ofInt y).toUInt32 &&& Int32.toUInt32 31)).toInt32.toInt
-- the world: object ids 0 .. 104; 105 .. 107 the static tables; 108 the law's script
abbrev AV : Type := Int ⊕ (Nat ⊕ UInt32)
abbrev vi (z : Int) : AV := .inl z
abbrev vr (o : Nat) : AV := .inr (.inl o)
abbrev vf (f : UInt32) : AV := .inr (.inr f)
abbrev St : Type := Nat → Int → Int
def cv (ad : Nat → Nat) (v : AV) : Value := match v with
  | .inl z => .int (Int32.ofInt z)
  | .inr (.inl o) => .ref (ad o)
  | .inr (.inr f) => .float f
theorem cv_cat (ad : Nat → Nat) (v : AV) : (cv ad v).category = 1 := by
  rcases v with z | o | f <;> rfl
def fl (z : Int) : UInt32 := UInt32.ofNat z.toNat
abbrev Shp : Type := Nat × Nat × List (Nat × Nat)
def shpT : List Shp := [
  (0, 8, [(2, 0), (2, 6), (2, 61), (2, 62), (2, 63), (2, 65), (2, 68), (2, 71), (2, 76), (2, 81), (2, 84), (2, 85), (2, 86)]),
  (4, 2, [(12, 0)]), (2, 2, []),
  (0, 2, [(2, 64), (0, 0), (0, 0)]), (4, 6, [(24, 0)]),
  (0, 7, [(2, 66), (2, 67), (0, 0), (0, 0), (0, 0), (0, 0), (5, 0)]), (1, 160, []), (1, 5, []),
  (0, 4, [(2, 69), (2, 70), (0, 0)]), (1, 6, []), (1, 6, []),
  (0, 1, [(2, 72), (2, 73), (2, 74), (2, 75)]), (1, 32, []), (1, 16, []), (1, 97, []), (0, 3, [(0, 0), (0, 0), (0, 0), (0, 0)]),
  (0, 1, [(2, 77), (2, 78), (2, 79), (2, 80)]), (1, 32, []), (1, 16, []), (1, 97, []), (0, 3, [(0, 0), (0, 0), (0, 0), (0, 0)]),
  (0, 0, [(2, 82), (2, 83), (0, 0)]), (1, 4, []), (1, 4, []),
  (1, 5, []), (0, 3, [(0, 0), (0, 0), (0, 0), (0, 0)]), (0, 3, [(0, 0), (0, 0), (0, 0), (0, 0)]),
  (0, 9, [(2, 88), (1, 0), (2, 89), (2, 90), (0, 0), (2, 91), (2, 92), (2, 93), (2, 94), (0, 0), (2, 95), (0, 0), (0, 0), (0, 0), (0, 0), (0, 0), (5, 0), (2, 96), (2, 97), (0, 0), (0, 0), (2, 98), (2, 99), (2, 100), (0, 0), (2, 101), (2, 102), (0, 0), (2, 103), (2, 104)]),
  (1, 86, []), (1, 516, []), (3, 6, []), (1, 172, []), (3, 2, []), (2, 2, []), (1, 160, []), (1, 86, []), (1, 32, []), (1, 32, []), (1, 4, []), (1, 4, []), (1, 4, []), (1, 20, []), (1, 32, []), (1, 6, []), (1, 6, [])]
def shp (o : Nat) : Shp :=
  if o < 60 then
    (match o % 6 with
    | 0 => (0, 5, [(2, o + 1), (0, 0), (2, o + 2), (2, o + 4), (1, 0), (0, 0)])
    | 1 => (1, 32, [])
    | 2 => (0, 6, [(2, o + 1), (0, 0), (0, 0)])
    | 3 => (1, 30, [])
    | 4 => (0, 6, [(2, o + 1), (0, 0), (0, 0)])
    | _ => (1, 30, []))
  else shpT.getD (o - 60) (9, 0, [])
def isSt (o : Nat) : Prop := o % 6 = 0 ∧ o < 60
def isSp (o : Nat) : Prop := (o % 6 = 2 ∨ o % 6 = 4) ∧ o < 60
def isBk (o : Nat) : Prop := o = 71 ∨ o = 76
def isMx (o : Nat) : Prop := o = 75 ∨ o = 80 ∨ o = 85 ∨ o = 86
theorem sh_st {o : Nat} (h : isSt o) : shp o = (0, 5, [(2, o + 1), (0, 0), (2, o + 2), (2, o + 4), (1, 0), (0, 0)]) := by
  obtain ⟨h1, h2⟩ := h
  simp [shp, h1, h2]
theorem sh_sent {o : Nat} (h : isSt o) : shp (o + 1) = (1, 32, []) := by
  obtain ⟨h1, h2⟩ := h
  simp [shp, show (o + 1) % 6 = 1 by omega, show o + 1 < 60 by omega]
theorem sp_line {o : Nat} (h : isSt o) : isSp (o + 2) := by
  obtain ⟨h1, h2⟩ := h
  exact ⟨by omega, by omega⟩
theorem sp_chain {o : Nat} (h : isSt o) : isSp (o + 4) := by
  obtain ⟨h1, h2⟩ := h
  exact ⟨by omega, by omega⟩
theorem sh_sp {o : Nat} (h : isSp o) : shp o = (0, 6, [(2, o + 1), (0, 0), (0, 0)]) := by
  obtain ⟨h1, h2⟩ := h
  rcases h1 with h1 | h1 <;> simp [shp, h1, h2]
theorem sh_spn {o : Nat} (h : isSp o) : shp (o + 1) = (1, 30, []) := by
  obtain ⟨h1, h2⟩ := h
  rcases h1 with h1 | h1
  · simp [shp, show (o + 1) % 6 = 3 by omega, show o + 1 < 60 by omega]
  · simp [shp, show (o + 1) % 6 = 5 by omega, show o + 1 < 60 by omega]
theorem sh_bk {o : Nat} (h : isBk o) : shp o = (0, 1, [(2, o + 1), (2, o + 2), (2, o + 3), (2, o + 4)]) := by
  rcases h with rfl | rfl <;> rfl
theorem sh_bkn {o : Nat} (h : isBk o) : shp (o + 1) = (1, 32, []) := by
  rcases h with rfl | rfl <;> rfl
theorem sh_bkm {o : Nat} (h : isBk o) : shp (o + 2) = (1, 16, []) := by
  rcases h with rfl | rfl <;> rfl
theorem sh_bkt {o : Nat} (h : isBk o) : shp (o + 3) = (1, 97, []) := by
  rcases h with rfl | rfl <;> rfl
theorem mx_bk {o : Nat} (h : isBk o) : isMx (o + 4) := by
  rcases h with rfl | rfl <;> simp [isMx]
theorem sh_mx {o : Nat} (h : isMx o) : shp o = (0, 3, [(0, 0), (0, 0), (0, 0), (0, 0)]) := by
  rcases h with rfl | rfl | rfl | rfl <;> rfl
theorem shp_lt {o : Nat} (h : (shp o).1 < 9) : o < 105 := by
  unfold shp at h
  split at h
  · omega
  · rcases Nat.lt_or_ge o 105 with q | q
    · exact q
    · have e : shpT.getD (o - 60) (9, 0, []) = (9, 0, []) := by
        rw [List.getD_eq_getElem?_getD, List.getElem?_eq_none (show shpT.length ≤ o - 60 by show 45 ≤ o - 60; omega)]
        rfl
      rw [e] at h
      exact absurd h (by decide)
def fv (ad : Nat → Nat) (row : Int → Int) (k : Nat) (q : Nat × Nat) : Value := match q.1 with
  | 0 => .int (Int32.ofInt (row k))
  | 5 => .int (Int32.ofInt (row k))
  | 1 => .float (fl (row k))
  | _ => .ref (ad q.2)
def fvs (ad : Nat → Nat) (row : Int → Int) (fs : List (Nat × Nat)) : List Value := fs.zipIdx.map (fun q => fv ad row q.2 q.1)
def ent (ad : Nat → Nat) (cA : Nat → ClassId) (h : Shp) (row : Int → Int) : va_E := match h.1 with
  | 0 => .inr (h.2.1, fvs ad row h.2.2)
  | 1 => .inl (cA 0, h.2.1, .inl (fun i => Int32.ofInt (row i)))
  | 2 => .inl (cA 1, h.2.1, .inl (fun i => Int32.ofInt (row i)))
  | 3 => .inl (cA 2, h.2.1, .inr (.inr (.inl (fun i => fl (row i)))))
  | _ => .inl (cA 3, h.2.1, .inr (.inr (.inr (.inr (fun i => some (ad (6 * i + (h.2.2.headD (0, 0)).1)))))))
def WL (ad : Nat → Nat) (cA : Nat → ClassId) (σ : St) : va_W := (List.range 105).map (fun o => (ad o, ent ad cA (shp o) (σ o)))
def tysA (cA : Nat → ClassId) : List (ClassId × FieldType) := [(cA 0, .int), (cA 1, .boolean), (cA 2, .float), (cA 3, .object RX7)]
theorem wl_at {ad : Nat → Nat} {cA : Nat → ClassId} {σ : St} {o : Nat} (h : o < 105) : (WL ad cA σ)[o]? = some (ad o, ent ad cA (shp o) (σ o)) := by
  simp [WL, h]
/-- a store at one slot -/
def wr (σ : St) (o : Nat) (i v : Int) : St := fun a j => if a = o ∧ j = i then v else σ a j
theorem wr_at (σ : St) (o : Nat) (i v : Int) (a : Nat) (j : Int) : wr σ o i v a j = if a = o ∧ j = i then v else σ a j := rfl
/-- a stretch copied -/
def cp (σ : St) (p : Nat) (sp : Int) (q : Nat) (dp n : Int) : St := fun a j => if a = q ∧ dp ≤ j ∧ j < dp + n then σ p (j - dp + sp) else σ a j
theorem wl_set {ad : Nat → Nat} {cA : Nat → ClassId} {σ σ' : St} {o : Nat} {e : va_E} (h : ∀ a, a ≠ o → σ' a = σ a) (he : e = ent ad cA (shp o) (σ' o)) : (WL ad cA σ).set o (ad o, e) = WL ad cA σ' := by
  apply List.ext_getElem?
  intro i
  by_cases hi : i < 105
  · rw [wl_at hi, List.getElem?_set]
    by_cases hio : o = i
    · subst hio
      rw [if_pos rfl, if_pos (by simp [WL]; exact hi), he]
    · rw [if_neg hio, wl_at hi, h i (fun q => hio q.symm)]
  · rw [List.getElem?_eq_none (by simp [WL]; omega), List.getElem?_eq_none (by simp [WL]; omega)]
theorem wr_ne (σ : St) (o : Nat) (i v : Int) : ∀ a, a ≠ o → wr σ o i v a = σ a := by
  intro a ha
  funext j
  simp [wr, ha]
theorem cp_ne (σ : St) (p : Nat) (sp : Int) (q : Nat) (dp n : Int) : ∀ a, a ≠ q → cp σ p sp q dp n a = σ a := by
  intro a ha
  funext j
  simp [cp, ha]
theorem fvs_at {ad : Nat → Nat} {row : Int → Int} {fs : List (Nat × Nat)} {k : Nat} {q : Nat × Nat} (h : fs[k]? = some q) : (fvs ad row fs)[k]? = some (fv ad row k q) := by
  simp [fvs, h]
theorem fvs_set {ad : Nat → Nat} {row row' : Int → Int} {fs : List (Nat × Nat)} {k : Nat} {q : Nat × Nat} (h : fs[k]? = some q) (hr : ∀ j : Nat, j ≠ k → row' j = row j) {v : Value} (hv : v = fv ad row' k q) : (fvs ad row fs).set k v = fvs ad row' fs := by
  apply List.ext_getElem?
  intro i
  rw [List.getElem?_set]
  by_cases hi : k = i
  · subst hi
    have hl : k < (fvs ad row fs).length := (List.getElem?_eq_some_iff.mp (fvs_at (ad := ad) (row := row) h)).1
    rw [if_pos rfl, if_pos hl, fvs_at h, hv]
  · rw [if_neg hi]
    simp only [fvs, List.getElem?_map, List.getElem?_zipIdx]
    cases fs[i]? with
    | none => rfl
    | some q' =>
      simp only [Option.map_some, Nat.zero_add]
      have e := hr i (fun z => hi z.symm)
      unfold fv
      rw [e]
-- the frame of a method: name, class, code, locals, answer, frames
abbrev MD : Type := MethodName × String × ByteArray × Nat × Option FieldType × Nat
abbrev mdY (md : MD) : MethodName := md.1
abbrev mdO (md : MD) : String := md.2.1
abbrev mdC (md : MD) : ByteArray := md.2.2.1
abbrev mdN (md : MD) : Nat := md.2.2.2.1
abbrev mdR (md : MD) : Option FieldType := md.2.2.2.2.1
abbrev mdF (md : MD) : Nat := md.2.2.2.2.2
def tblL (j : Nat) : Value := .int (Int32.ofInt (([1, 22, 96, 75] : List Int).getD j 0))
def rowD : List Int := [1, 96, 0, 0, 0, 0, 0, 0, 0, 96, 0, 96, 0, 96, 0, 96, 0, 15, 1, 3, 0, 0, 0, 0, 1, 15, 0, 0, 0, 0, 0, 0, 0, 1, 0, 15, 1, 96, 0, 0]
def rowS : List Int := [1, 96, 0, 0, 0, 0, 0, 0, 0, 96, 0, 96, 0, 96, 0, 96, 1, 15, 0, 0, 0, 0, 0, 0, 0, 0, 0, 0, 0, 0, 0, 0, 0, 0, 0, 0, 0, 0, 0, 0]
/-- what a static table holds: 105 LIGHT, 106 DEED, 107 STAGE -/
def rot (o : Nat) (i : Int) : Int := if o = 105 then ([1, 22, 96, 75] : List Int).getD i.toNat 0 else if o = 106 then rowD.getD i.toNat 0 else rowS.getD i.toNat 0
def rol (o : Nat) : Nat := if o = 105 then 4 else 40
def AD (ad : Nat → Nat) : Addr → Prop := fun q => ∃ o, o < 105 ∧ q = ad o
def NW (s : State) : Prop := va_Nw (.methodLinkNest RX9 93 yX10_isSymbol "TwistedLight") s ∧ va_Nw (.methodLinkNest RX9 99 yX10_isPlace "TwistedLight") s
theorem NW.same {u U : State} (h : u.vm = U.vm) (hN : NW u) : NW U := ⟨va_Nw.same rfl h hN.1, va_Nw.same rfl h hN.2⟩
theorem NW.warm {s U : State} (hW : s.WarmedH U.vm) (hN : NW s) : NW U := ⟨va_Nw.warmM hW hN.1, va_Nw.warmM hW hN.2⟩
/-- what is known of the start: classes, addresses apart, static tables -/
def KW (D : va_G) (cA : Nat → ClassId) (ad : Nat → Nat) (A : Addr → Prop) (s : State) (H : Heap) : Prop :=
  va_K D vwCl (tysA cA) s ∧ (∀ i j, i < 105 → j < 105 → ad i = ad j → i = j) ∧ (∀ i, i < 105 → A (ad i)) ∧
  va_Z RX2 "LIGHT" "[I" (.ref (ad 105)) A s H ∧ va_Z RX8 "DEED" "[I" (.ref (ad 106)) A s H ∧ va_Z RX8 "STAGE" "[I" (.ref (ad 107)) A s H ∧
  (∀ o, o = 105 ∨ o = 106 ∨ o = 107 → va_T .int (ad o) (rol o) (fun j => .int (Int32.ofInt (rot o j))) A s H) ∧ NW s
theorem KW.moved {D : va_G} {cA : Nat → ClassId} {ad : Nat → Nat} {A : Addr → Prop} {s U : State} {H : Heap} (hvm : s.vm.Alike U.vm) (hN : NW U) (h : KW D cA ad A s H) : KW D cA ad A U H := by
  obtain ⟨h1, h2, h3, h4, h5, h6, h7, h8⟩ := h
  exact ⟨va_K.moved hvm h1, h2, h3, va_Z.moved hvm h4, va_Z.moved hvm h5, va_Z.moved hvm h6, fun o ho => va_T.moved hvm (h7 o ho), hN⟩
theorem KW.kept {D : va_G} {cA : Nat → ClassId} {ad : Nat → Nat} {A : Addr → Prop} {s : State} {H H1 : Heap} (hq : ∀ a : Nat, a < H.size → ¬ A a → H1[a]? = H[a]?) (h : KW D cA ad A s H) : KW D cA ad A s H1 := by
  obtain ⟨h1, h2, h3, h4, h5, h6, h7, h8⟩ := h
  exact ⟨h1, h2, h3, va_Z.kept h4 hq, va_Z.kept h5 hq, va_Z.kept h6 hq, fun o ho => va_T.kept (h7 o ho) hq, h8⟩
theorem KW.narrow {D : va_G} {cA : Nat → ClassId} {ad : Nat → Nat} {A : Addr → Prop} {s : State} {H : Heap} (h : KW D cA ad A s H) : KW D cA ad (AD ad) s H := by
  obtain ⟨h1, h2, h3, h4, h5, h6, h7, h8⟩ := h
  have hAB : ∀ q, AD ad q → A q := fun q ⟨o, ho, e⟩ => e ▸ h3 o ho
  exact ⟨h1, h2, fun i hi => ⟨i, hi, rfl⟩, va_Z.narrow h4 hAB, va_Z.narrow h5 hAB, va_Z.narrow h6 hAB, fun o ho => va_T.narrow (h7 o ho) hAB, h8⟩
theorem wl_D {D : va_G} {cA : Nat → ClassId} {ad : Nat → Nat} {A : Addr → Prop} {s : State} {H : Heap} {σ : St} (h : KW D cA ad A s H) : va_D A (WL ad cA σ) := by
  have key : ∀ (k : Nat) (q : Nat × va_E), (WL ad cA σ)[k]? = some q → k < 105 ∧ q.1 = ad k := by
    intro k q hq
    have hk : k < 105 := by
      have := (List.getElem?_eq_some_iff.mp hq).1
      simpa [WL] using this
    rw [wl_at hk] at hq
    cases hq
    exact ⟨hk, rfl⟩
  refine ⟨fun i j p q hp hq e => ?_, fun k q hq => ?_⟩
  · obtain ⟨h1, e1⟩ := key i p hp
    obtain ⟨h2, e2⟩ := key j q hq
    exact h.2.1 i j h1 h2 (by rw [← e1, ← e2, e])
  · obtain ⟨h1, e1⟩ := key k q hq
    rw [e1]
    exact h.2.2.1 k h1
-- the judgement
abbrev CT : Type := (Launch × Program × Env × Room × State × MethodId × Array Value × List Frame × Method × Code) × (va_G × (Nat → ClassId) × (Nat → Nat) × (Addr → Prop)) × (Nat × Nat × (State → Prop))
def Fx (md : MD) (X : CT) : Prop := match X with
  | ((_, p, _, R, s, m, args, _, meth, c), (D, cA, ad, A), (k, n, _)) => p.tables.exec = Jvm.exec ∧ c.code = mdC md ∧ c.maxLocals = mdN md ∧ meth.sig.returnType = mdR md ∧ s.vm.findClass (mdO md) = some m.cls ∧ (∀ w ∈ GW, w.before args s = true) ∧ meth.locks = false ∧ mdF md ≤ R.frames ∧ 36 * mdF md ≤ R.locals ∧ k ≤ R.cells ∧ n ≤ R.slots ∧ KW D cA ad A s s.heap
def G (md : MD) (X : CT) (pc : Nat) (L : List (Nat × AV)) (S : List AV) (σ : St) : Prop := Fx md X → match X with
  | ((l, p, e, R, s, m, args, below, meth, c), (D, cA, ad, A), (k, n, Q)) => ∀ (H : Heap) (locs : List Loc) (ls : Array Slot), va_P D vwCl (WL ad cA σ) H → va_S A s.heap H locs → lv_has ls (mdN md) (L.map (fun q => (q.1, cv ad q.2))) → W p l e R s m args below meth c H locs k n Q (F0 m pc ls (S.map (cv ad)))
def lk : List (Nat × AV) → Nat → Option AV
  | [], _ => none
  | q :: L, i => bif q.1 == i then some q.2 else lk L i
def stL : List (Nat × AV) → Nat → AV → List (Nat × AV)
  | [], i, v => [(i, v)]
  | q :: L, i, v => bif q.1 == i then (i, v) :: L else q :: stL L i v
def pickL (L : List (Nat × AV)) : List Nat → List (Nat × AV)
  | [] => []
  | i :: is => match lk L i with
    | some v => (i, v) :: pickL L is
    | none => pickL L is
theorem lk_mem : ∀ {L : List (Nat × AV)} {i : Nat} {v : AV}, lk L i = some v → (i, v) ∈ L
  | [], _, _, h => by cases h
  | q :: L, i, v, h => by
    unfold lk at h
    by_cases hq : q.1 = i
    · rw [show (q.1 == i) = true by simpa using hq] at h
      simp only [cond_true, Option.some.injEq] at h
      subst hq; subst h
      exact List.mem_cons_self
    · rw [show (q.1 == i) = false by simpa using hq] at h
      exact List.mem_cons_of_mem _ (lk_mem h)
theorem stL_mem : ∀ {L : List (Nat × AV)} {i : Nat} {v : AV} {q : Nat × AV}, q ∈ stL L i v → q = (i, v) ∨ q ∈ L
  | [], _, _, _, h => by
    unfold stL at h
    exact Or.inl (List.mem_singleton.mp h)
  | r :: L, i, v, q, h => by
    unfold stL at h
    by_cases hq : r.1 = i
    · rw [show (r.1 == i) = true by simpa using hq] at h
      rcases List.mem_cons.mp h with h | h
      · exact Or.inl h
      · exact Or.inr (List.mem_cons_of_mem _ h)
    · rw [show (r.1 == i) = false by simpa using hq] at h
      rcases List.mem_cons.mp h with h | h
      · exact Or.inr (h ▸ List.mem_cons_self)
      · rcases stL_mem h with h | h
        · exact Or.inl h
        · exact Or.inr (List.mem_cons_of_mem _ h)
theorem lk_at {ad : Nat → Nat} {ls : Array Slot} {n : Nat} {L : List (Nat × AV)} {i : Nat} {v : AV} (h : lk L i = some v) (hl : lv_has ls n (L.map (fun q => (q.1, cv ad q.2)))) : ls[i]? = some (.val (cv ad v)) :=
  hl.2.2 (i, cv ad v) (List.mem_map.mpr ⟨(i, v), lk_mem h, rfl⟩)
theorem pick_mem {L : List (Nat × AV)} : ∀ {is : List Nat} {q : Nat × AV}, q ∈ pickL L is → q ∈ L
  | [], _, h => by cases h
  | i :: is, q, h => by
    unfold pickL at h
    cases hk : lk L i with
    | none => rw [hk] at h; exact pick_mem h
    | some v =>
      rw [hk] at h
      rcases List.mem_cons.mp h with h | h
      · rw [h]; exact lk_mem hk
      · exact pick_mem h
/-- the rows that store: at most one listed value a local, no long: what the store leaves -/
def dist (L : List (Nat × AV)) : Bool := match L with
  | [] => true
  | q :: L => !(L.any (fun r => r.1 == q.1)) && dist L
theorem st_has {ad : Nat → Nat} {ls : Array Slot} {n : Nat} {L : List (Nat × AV)} {i : Nat} {v : AV} (hd : dist L = true)
    (h : lv_has ls n ((i, cv ad v) :: (L.map (fun q => (q.1, cv ad q.2))).filter (fun q => !(q.1 == i) && !(q.1 + 1 == i && q.2.category == 2)))) : lv_has ls n ((stL L i v).map (fun q => (q.1, cv ad q.2))) := by
  refine ⟨h.1, h.2.1, fun q hq => ?_⟩
  obtain ⟨r, hr, rfl⟩ := List.mem_map.mp hq
  have key : r = (i, v) ∨ (r ∈ L ∧ ¬ r.1 = i) := by
    clear h hq
    induction L with
    | nil => exact Or.inl (List.mem_singleton.mp (by simpa [stL] using hr))
    | cons a L ih =>
      unfold dist at hd
      rw [Bool.and_eq_true] at hd
      unfold stL at hr
      by_cases ha : a.1 = i
      · rw [show (a.1 == i) = true by simpa using ha] at hr
        rcases List.mem_cons.mp hr with h1 | h1
        · exact Or.inl h1
        · refine Or.inr ⟨List.mem_cons_of_mem _ h1, fun e => ?_⟩
          have h2 := hd.1
          rw [Bool.not_eq_true', List.any_eq_false] at h2
          exact h2 r h1 (by simp [e, ha])
      · rw [show (a.1 == i) = false by simpa using ha] at hr
        rcases List.mem_cons.mp hr with h1 | h1
        · exact Or.inr ⟨h1 ▸ List.mem_cons_self, h1 ▸ ha⟩
        · rcases ih hd.2 h1 with h2 | h2
          · exact Or.inl h2
          · exact Or.inr ⟨List.mem_cons_of_mem _ h2.1, h2.2⟩
  rcases key with e | ⟨h1, h2⟩
  · subst e
    exact h.2.2 _ List.mem_cons_self
  · refine h.2.2 _ (List.mem_cons_of_mem _ (List.mem_filter.mpr ⟨List.mem_map.mpr ⟨r, h1, rfl⟩, ?_⟩))
    simp [h2, cv_cat]
section RULES
variable {md : MD} {X : CT} {pc : Nat} {L : List (Nat × AV)} {S : List AV} {σ : St}
theorem G.pick (is : List Nat) (k : G md X pc (pickL L is) S σ) : G md X pc L S σ := by
  obtain ⟨⟨l, p, e, R, s, m, args, below, meth, c⟩, ⟨D, cA, ad, A⟩, ⟨kc, n, Q⟩⟩ := X
  intro F H locs ls hP hS hl
  refine k F H locs ls hP hS ⟨hl.1, hl.2.1, fun q hq => ?_⟩
  obtain ⟨r, hr, rfl⟩ := List.mem_map.mp hq
  exact hl.2.2 _ (List.mem_map.mpr ⟨r, pick_mem hr, rfl⟩)
theorem G.iconst {n : Int} (hd : decode (mdC md) pc = .ok (.iconst n, 1)) (k : G md X (pc + 1) L (vi n :: S) σ) : G md X pc L S σ := by
  obtain ⟨⟨l, p, e, R, s, m, args, below, meth, c⟩, ⟨D, cA, ad, A⟩, ⟨kc, n', Q⟩⟩ := X
  intro F H locs ls hP hS hl
  exact lv_iconst F.1 F.2.1 hd rfl (k F H locs ls hP hS hl)
theorem G.bipush {n : Int} (hd : decode (mdC md) pc = .ok (.bipush n, 2)) (hn : (Int8.ofInt n).toInt32 = Int32.ofInt n) (k : G md X (pc + 2) L (vi n :: S) σ) : G md X pc L S σ := by
  obtain ⟨⟨l, p, e, R, s, m, args, below, meth, c⟩, ⟨D, cA, ad, A⟩, ⟨kc, n', Q⟩⟩ := X
  intro F H locs ls hP hS hl
  exact lv_bipush F.1 F.2.1 hd hn (k F H locs ls hP hS hl)
theorem G.sipush {n : Int} (hd : decode (mdC md) pc = .ok (.sipush n, 3)) (hn : (Int16.ofInt n).toInt32 = Int32.ofInt n) (k : G md X (pc + 3) L (vi n :: S) σ) : G md X pc L S σ := by
  obtain ⟨⟨l, p, e, R, s, m, args, below, meth, c⟩, ⟨D, cA, ad, A⟩, ⟨kc, n', Q⟩⟩ := X
  intro F H locs ls hP hS hl
  exact lv_sipush F.1 F.2.1 hd hn (k F H locs ls hP hS hl)
theorem G.ldcf {index i : Nat} {v : UInt32} (hd : decode (mdC md) pc = .ok (.ldc index, 2)) (hw : lw_tbl[i]? = some (.constantFloat (mdO md) index v)) (k : G md X (pc + 2) L (vf v :: S) σ) : G md X pc L S σ := by
  obtain ⟨⟨l, p, e, R, s, m, args, below, meth, c⟩, ⟨D, cA, ad, A⟩, ⟨kc, n', Q⟩⟩ := X
  intro F H locs ls hP hS hl
  obtain ⟨hx, hb, hml, hr, hown, hts, hlk, hf, hlo, hc, hsl, hK⟩ := id F
  exact lv_ldcf hx hb hown (hts _ (gw_at hw rfl)) hd (k F H locs ls hP hS hl)
theorem G.iload_n {j : Fin 4} {z : Int} (hd : decode (mdC md) pc = .ok (.iload_n j, 1)) (h : lk L j = some (vi z)) (k : G md X (pc + 1) L (vi z :: S) σ) : G md X pc L S σ := by
  obtain ⟨⟨l, p, e, R, s, m, args, below, meth, c⟩, ⟨D, cA, ad, A⟩, ⟨kc, n', Q⟩⟩ := X
  intro F H locs ls hP hS hl
  exact lv_iload_n F.1 F.2.1 hd rfl (lk_at h hl) (k F H locs ls hP hS hl)
theorem G.iload {j : Nat} {z : Int} (hd : decode (mdC md) pc = .ok (.iload j, 2)) (h : lk L j = some (vi z)) (k : G md X (pc + 2) L (vi z :: S) σ) : G md X pc L S σ := by
  obtain ⟨⟨l, p, e, R, s, m, args, below, meth, c⟩, ⟨D, cA, ad, A⟩, ⟨kc, n', Q⟩⟩ := X
  intro F H locs ls hP hS hl
  exact lv_iload F.1 F.2.1 hd (lk_at h hl) (k F H locs ls hP hS hl)
theorem G.aload_n {j : Fin 4} {o : Nat} (hd : decode (mdC md) pc = .ok (.aload_n j, 1)) (h : lk L j = some (vr o)) (k : G md X (pc + 1) L (vr o :: S) σ) : G md X pc L S σ := by
  obtain ⟨⟨l, p, e, R, s, m, args, below, meth, c⟩, ⟨D, cA, ad, A⟩, ⟨kc, n', Q⟩⟩ := X
  intro F H locs ls hP hS hl
  exact lv_aload_n F.1 F.2.1 hd rfl (lk_at h hl) (k F H locs ls hP hS hl)
theorem G.aload {j : Nat} {o : Nat} (hd : decode (mdC md) pc = .ok (.aload j, 2)) (h : lk L j = some (vr o)) (k : G md X (pc + 2) L (vr o :: S) σ) : G md X pc L S σ := by
  obtain ⟨⟨l, p, e, R, s, m, args, below, meth, c⟩, ⟨D, cA, ad, A⟩, ⟨kc, n', Q⟩⟩ := X
  intro F H locs ls hP hS hl
  exact lv_aload F.1 F.2.1 hd (lk_at h hl) (k F H locs ls hP hS hl)
theorem G.istore_n {j : Fin 4} {z : Int} (hd : decode (mdC md) pc = .ok (.istore_n j, 1)) (hn : (j : Nat) < mdN md) (hq : dist (L.map (fun q => (q.1, vi 0))) = true) (k : G md X (pc + 1) (stL L j (vi z)) S σ) : G md X pc L (vi z :: S) σ := by
  obtain ⟨⟨l, p, e, R, s, m, args, below, meth, c⟩, ⟨D, cA, ad, A⟩, ⟨kc, n', Q⟩⟩ := X
  intro F H locs ls hP hS hl
  have hq : dist L = true := by
    have e : ∀ L : List (Nat × AV), dist (L.map (fun q => (q.1, vi 0))) = dist L := by
      intro L
      induction L with
      | nil => rfl
      | cons a L ih =>
        show (!((L.map (fun q => (q.1, vi 0))).any (fun r => r.1 == a.1)) && dist (L.map (fun q => (q.1, vi 0)))) = (!(L.any (fun r => r.1 == a.1)) && dist L)
        rw [ih, List.any_map]
        rfl
    rw [← e]; exact hq
  exact lv_istore_n F.1 F.2.1 hd rfl hl hn rfl (fun ls' h' => k F H locs ls' hP hS (st_has hq h'))
theorem dist_vi (L : List (Nat × AV)) : dist (L.map (fun q => (q.1, vi 0))) = dist L := by
  induction L with
  | nil => rfl
  | cons a L ih =>
    show (!((L.map (fun q => (q.1, vi 0))).any (fun r => r.1 == a.1)) && dist (L.map (fun q => (q.1, vi 0)))) = (!(L.any (fun r => r.1 == a.1)) && dist L)
    rw [ih, List.any_map]
    rfl
theorem G.istore {j : Nat} {z : Int} (hd : decode (mdC md) pc = .ok (.istore j, 2)) (hn : j < mdN md) (hq : dist (L.map (fun q => (q.1, vi 0))) = true) (k : G md X (pc + 2) (stL L j (vi z)) S σ) : G md X pc L (vi z :: S) σ := by
  obtain ⟨⟨l, p, e, R, s, m, args, below, meth, c⟩, ⟨D, cA, ad, A⟩, ⟨kc, n', Q⟩⟩ := X
  intro F H locs ls hP hS hl
  rw [dist_vi] at hq
  exact lv_istore F.1 F.2.1 hd hl hn rfl (fun ls' h' => k F H locs ls' hP hS (st_has hq h'))
theorem G.astore_n {j : Fin 4} {o : Nat} (hd : decode (mdC md) pc = .ok (.astore_n j, 1)) (hn : (j : Nat) < mdN md) (hq : dist (L.map (fun q => (q.1, vi 0))) = true) (k : G md X (pc + 1) (stL L j (vr o)) S σ) : G md X pc L (vr o :: S) σ := by
  obtain ⟨⟨l, p, e, R, s, m, args, below, meth, c⟩, ⟨D, cA, ad, A⟩, ⟨kc, n', Q⟩⟩ := X
  intro F H locs ls hP hS hl
  rw [dist_vi] at hq
  exact lv_astore_n F.1 F.2.1 hd rfl hl hn rfl (fun ls' h' => k F H locs ls' hP hS (st_has hq h'))
theorem G.astore {j : Nat} {o : Nat} (hd : decode (mdC md) pc = .ok (.astore j, 2)) (hn : j < mdN md) (hq : dist (L.map (fun q => (q.1, vi 0))) = true) (k : G md X (pc + 2) (stL L j (vr o)) S σ) : G md X pc L (vr o :: S) σ := by
  obtain ⟨⟨l, p, e, R, s, m, args, below, meth, c⟩, ⟨D, cA, ad, A⟩, ⟨kc, n', Q⟩⟩ := X
  intro F H locs ls hP hS hl
  rw [dist_vi] at hq
  exact lv_astore F.1 F.2.1 hd hl hn rfl (fun ls' h' => k F H locs ls' hP hS (st_has hq h'))
theorem G.iinc {j : Nat} {n z : Int} (hd : decode (mdC md) pc = .ok (.iinc j n, 3)) (h : lk L j = some (vi z)) (hn : j < mdN md) (hq : dist (L.map (fun q => (q.1, vi 0))) = true) (k : G md X (pc + 3) (stL L j (vi (z + n))) S σ) : G md X pc L S σ := by
  obtain ⟨⟨l, p, e, R, s, m, args, below, meth, c⟩, ⟨D, cA, ad, A⟩, ⟨kc, n', Q⟩⟩ := X
  intro F H locs ls hP hS hl
  rw [dist_vi] at hq
  obtain ⟨i, hi⟩ := List.getElem?_of_mem (List.mem_map.mpr ⟨(j, vi z), lk_mem h, rfl⟩ : (j, cv ad (vi z)) ∈ L.map (fun q => (q.1, cv ad q.2)))
  exact lv_iinc F.1 F.2.1 hd hl hi (v := Int32.ofInt (z + n)) (by rw [Int32.ofInt_add]) hn rfl (fun ls' h' => k F H locs ls' hP hS (st_has hq h'))
theorem G.dup {v : AV} (hd : decode (mdC md) pc = .ok (.dup, 1)) (k : G md X (pc + 1) L (v :: v :: S) σ) : G md X pc L (v :: S) σ := by
  obtain ⟨⟨l, p, e, R, s, m, args, below, meth, c⟩, ⟨D, cA, ad, A⟩, ⟨kc, n', Q⟩⟩ := X
  intro F H locs ls hP hS hl
  exact lv_dup F.1 F.2.1 hd (cv_cat ad v) (k F H locs ls hP hS hl)
theorem G.dup2 {v w : AV} (hd : decode (mdC md) pc = .ok (.dup2, 1)) (k : G md X (pc + 1) L (v :: w :: v :: w :: S) σ) : G md X pc L (v :: w :: S) σ := by
  obtain ⟨⟨l, p, e, R, s, m, args, below, meth, c⟩, ⟨D, cA, ad, A⟩, ⟨kc, n', Q⟩⟩ := X
  intro F H locs ls hP hS hl
  exact lv_dup2_11 F.1 F.2.1 hd (cv_cat ad v) (cv_cat ad w) (k F H locs ls hP hS hl)
theorem G.pop {v : AV} (hd : decode (mdC md) pc = .ok (.pop, 1)) (k : G md X (pc + 1) L S σ) : G md X pc L (v :: S) σ := by
  obtain ⟨⟨l, p, e, R, s, m, args, below, meth, c⟩, ⟨D, cA, ad, A⟩, ⟨kc, n', Q⟩⟩ := X
  intro F H locs ls hP hS hl
  exact lv_pop F.1 F.2.1 hd (cv_cat ad v) (k F H locs ls hP hS hl)
theorem G.iadd {x y : Int} (hd : decode (mdC md) pc = .ok (.iadd, 1)) (k : G md X (pc + 1) L (vi (x + y) :: S) σ) : G md X pc L (vi y :: vi x :: S) σ := by
  obtain ⟨⟨l, p, e, R, s, m, args, below, meth, c⟩, ⟨D, cA, ad, A⟩, ⟨kc, n', Q⟩⟩ := X
  intro F H locs ls hP hS hl
  refine lv_iadd F.1 F.2.1 hd ?_
  rw [← Int32.ofInt_add]
  exact k F H locs ls hP hS hl
theorem G.isub {x y : Int} (hd : decode (mdC md) pc = .ok (.isub, 1)) (k : G md X (pc + 1) L (vi (x - y) :: S) σ) : G md X pc L (vi y :: vi x :: S) σ := by
  obtain ⟨⟨l, p, e, R, s, m, args, below, meth, c⟩, ⟨D, cA, ad, A⟩, ⟨kc, n', Q⟩⟩ := X
  intro F H locs ls hP hS hl
  refine lv_isub F.1 F.2.1 hd ?_
  rw [← Int32.ofInt_sub]
  exact k F H locs ls hP hS hl
theorem G.imul {x y : Int} (hd : decode (mdC md) pc = .ok (.imul, 1)) (k : G md X (pc + 1) L (vi (x * y) :: S) σ) : G md X pc L (vi y :: vi x :: S) σ := by
  obtain ⟨⟨l, p, e, R, s, m, args, below, meth, c⟩, ⟨D, cA, ad, A⟩, ⟨kc, n', Q⟩⟩ := X
  intro F H locs ls hP hS hl
  refine lv_imul F.1 F.2.1 hd ?_
  rw [← Int32.ofInt_mul]
  exact k F H locs ls hP hS hl
theorem G.ineg {x : Int} (hd : decode (mdC md) pc = .ok (.ineg, 1)) (k : G md X (pc + 1) L (vi (-x) :: S) σ) : G md X pc L (vi x :: S) σ := by
  obtain ⟨⟨l, p, e, R, s, m, args, below, meth, c⟩, ⟨D, cA, ad, A⟩, ⟨kc, n', Q⟩⟩ := X
  intro F H locs ls hP hS hl
  refine lv_ineg F.1 F.2.1 hd ?_
  rw [← Int32.ofInt_neg]
  exact k F H locs ls hP hS hl
/-- of a number that is not negative -/
theorem G.irem {x y : Int} (hd : decode (mdC md) pc = .ok (.irem, 1)) (hx : 0 ≤ x ∧ x < 2147483648) (hy : 0 < y ∧ y < 2147483648) (k : G md X (pc + 1) L (vi (x % y) :: S) σ) : G md X pc L (vi y :: vi x :: S) σ := by
  obtain ⟨⟨l, p, e, R, s, m, args, below, meth, c⟩, ⟨D, cA, ad, A⟩, ⟨kc, n', Q⟩⟩ := X
  intro F H locs ls hP hS hl
  refine lv_irem F.1 F.2.1 hd (oi_nz hy.1 hy.2) ?_
  rw [oi_rem ⟨by omega, hx.2⟩ hy.1 hy.2, Int.tmod_eq_emod_of_nonneg hx.1]
  exact k F H locs ls hP hS hl
theorem G.iremT {x y : Int} (hd : decode (mdC md) pc = .ok (.irem, 1)) (hx : inI x) (hy : 0 < y ∧ y < 2147483648) (k : G md X (pc + 1) L (vi (x.tmod y) :: S) σ) : G md X pc L (vi y :: vi x :: S) σ := by
  obtain ⟨⟨l, p, e, R, s, m, args, below, meth, c⟩, ⟨D, cA, ad, A⟩, ⟨kc, n', Q⟩⟩ := X
  intro F H locs ls hP hS hl
  refine lv_irem F.1 F.2.1 hd (oi_nz hy.1 hy.2) ?_
  rw [oi_rem hx hy.1 hy.2]
  exact k F H locs ls hP hS hl
theorem G.idiv {x y : Int} (hd : decode (mdC md) pc = .ok (.idiv, 1)) (hx : 0 ≤ x ∧ x < 2147483648) (hy : 0 < y ∧ y < 2147483648) (k : G md X (pc + 1) L (vi (x / y) :: S) σ) : G md X pc L (vi y :: vi x :: S) σ := by
  obtain ⟨⟨l, p, e, R, s, m, args, below, meth, c⟩, ⟨D, cA, ad, A⟩, ⟨kc, n', Q⟩⟩ := X
  intro F H locs ls hP hS hl
  refine lv_idiv F.1 F.2.1 hd (oi_nz hy.1 hy.2) ?_
  rw [oi_div ⟨by omega, hx.2⟩ hy.1 hy.2, Int.tdiv_eq_ediv_of_nonneg hx.1]
  exact k F H locs ls hP hS hl
theorem G.iandm {x m : Int} (kk : Nat) (hm : m = 2 ^ kk - 1) (hk : kk ≤ 30) (hd : decode (mdC md) pc = .ok (.iand, 1)) (k : G md X (pc + 1) L (vi (x % 2 ^ kk) :: S) σ) : G md X pc L (vi m :: vi x :: S) σ := by
  obtain ⟨⟨l, p, e, R, s, m', args, below, meth, c⟩, ⟨D, cA, ad, A⟩, ⟨kc, n', Q⟩⟩ := X
  intro F H locs ls hP hS hl
  refine lv_iand F.1 F.2.1 hd ?_
  rw [oi_and kk hm hk]
  exact k F H locs ls hP hS hl
theorem G.iand {x y : Int} (hd : decode (mdC md) pc = .ok (.iand, 1)) (k : G md X (pc + 1) L (vi (bAnd x y) :: S) σ) : G md X pc L (vi y :: vi x :: S) σ := by
  obtain ⟨⟨l, p, e, R, s, m', args, below, meth, c⟩, ⟨D, cA, ad, A⟩, ⟨kc, n', Q⟩⟩ := X
  intro F H locs ls hP hS hl
  refine lv_iand F.1 F.2.1 hd ?_
  have h := k F H locs ls hP hS hl
  unfold bAnd at h
  rw [← oi_as (Int32.ofInt x &&& Int32.ofInt y)]
  exact h
theorem G.ior {x y : Int} (hd : decode (mdC md) pc = .ok (.ior, 1)) (k : G md X (pc + 1) L (vi (bOr x y) :: S) σ) : G md X pc L (vi y :: vi x :: S) σ := by
  obtain ⟨⟨l, p, e, R, s, m', args, below, meth, c⟩, ⟨D, cA, ad, A⟩, ⟨kc, n', Q⟩⟩ := X
  intro F H locs ls hP hS hl
  refine lv_ior F.1 F.2.1 hd ?_
  have h := k F H locs ls hP hS hl
  unfold bOr at h
  rw [← oi_as (Int32.ofInt x ||| Int32.ofInt y)]
  exact h
theorem G.ixor {x y : Int} (hd : decode (mdC md) pc = .ok (.ixor, 1)) (k : G md X (pc + 1) L (vi (bXor x y) :: S) σ) : G md X pc L (vi y :: vi x :: S) σ := by
  obtain ⟨⟨l, p, e, R, s, m', args, below, meth, c⟩, ⟨D, cA, ad, A⟩, ⟨kc, n', Q⟩⟩ := X
  intro F H locs ls hP hS hl
  refine lv_ixor F.1 F.2.1 hd ?_
  have h := k F H locs ls hP hS hl
  unfold bXor at h
  rw [← oi_as (Int32.ofInt x ^^^ Int32.ofInt y)]
  exact h
theorem G.ishl {x y : Int} (hd : decode (mdC md) pc = .ok (.ishl, 1)) (k : G md X (pc + 1) L (vi (bShl x y) :: S) σ) : G md X pc L (vi y :: vi x :: S) σ := by
  obtain ⟨⟨l, p, e, R, s, m', args, below, meth, c⟩, ⟨D, cA, ad, A⟩, ⟨kc, n', Q⟩⟩ := X
  intro F H locs ls hP hS hl
  refine lv_ishl F.1 F.2.1 hd ?_
  have h := k F H locs ls hP hS hl
  unfold bShl at h
  rw [← oi_as (Int32.ofInt x <<< (Int32.ofInt y &&& 31))]
  exact h
theorem G.iushr {x y : Int} (hd : decode (mdC md) pc = .ok (.iushr, 1)) (k : G md X (pc + 1) L (vi (bUshr x y) :: S) σ) : G md X pc L (vi y :: vi x :: S) σ := by
  obtain ⟨⟨l, p, e, R, s, m', args, below, meth, c⟩, ⟨D, cA, ad, A⟩, ⟨kc, n', Q⟩⟩ := X
  intro F H locs ls hP hS hl
  refine lv_iushr F.1 F.2.1 hd (v := Int32.ofInt (bUshr x y)) (by unfold bUshr; rw [oi_as]) ?_
  exact k F H locs ls hP hS hl
theorem G.ishr {x y : Int} (hd : decode (mdC md) pc = .ok (.ishr, 1)) (hx : 0 ≤ x ∧ x < 2147483648) (hy : 0 ≤ y ∧ y < 32) (k : G md X (pc + 1) L (vi (x / 2 ^ y.toNat) :: S) σ) : G md X pc L (vi y :: vi x :: S) σ := by
  obtain ⟨⟨l, p, e, R, s, m', args, below, meth, c⟩, ⟨D, cA, ad, A⟩, ⟨kc, n', Q⟩⟩ := X
  intro F H locs ls hP hS hl
  refine lv_ishr F.1 F.2.1 hd ?_
  rw [oi_shr hx.1 hx.2 hy.1 hy.2]
  exact k F H locs ls hP hS hl
theorem G.goto {off : Int} {tgt : Nat} (hd : decode (mdC md) pc = .ok (.goto off, 3)) (ht : (pc : Int) + off = (tgt : Int)) (k : G md X tgt L S σ) : G md X pc L S σ := by
  obtain ⟨⟨l, p, e, R, s, m', args, below, meth, c⟩, ⟨D, cA, ad, A⟩, ⟨kc, n', Q⟩⟩ := X
  intro F H locs ls hP hS hl
  exact lv_goto F.1 F.2.1 hd ht (k F H locs ls hP hS hl)
theorem G.icmp_eq {x y : Int} {off : Int} {tgt : Nat} (hd : decode (mdC md) pc = .ok (.if_icmp .eq off, 3)) (ht : (pc : Int) + off = (tgt : Int)) (hx : inI x) (hy : inI y) (kt : x = y → G md X tgt L S σ) (kf : ¬ x = y → G md X (pc + 3) L S σ) : G md X pc L (vi y :: vi x :: S) σ := by
  obtain ⟨⟨l, p, e, R, s, m', args, below, meth, c⟩, ⟨D, cA, ad, A⟩, ⟨kc, n', Q⟩⟩ := X
  intro F H locs ls hP hS hl
  have cvv := oi_eq hx hy
  exact lv_icmp_eq (tgt := tgt) F.1 F.2.1 hd ht (fun q => kt (cvv.mp q) F H locs ls hP hS hl) (fun q => kf (fun z => q (cvv.mpr z)) F H locs ls hP hS hl)
theorem G.if_eq {x : Int} {off : Int} {tgt : Nat} (hd : decode (mdC md) pc = .ok (.ifCond .eq off, 3)) (ht : (pc : Int) + off = (tgt : Int)) (hx : inI x) (kt : x = 0 → G md X tgt L S σ) (kf : ¬ x = 0 → G md X (pc + 3) L S σ) : G md X pc L (vi x :: S) σ := by
  obtain ⟨⟨l, p, e, R, s, m', args, below, meth, c⟩, ⟨D, cA, ad, A⟩, ⟨kc, n', Q⟩⟩ := X
  intro F H locs ls hP hS hl
  have cvv := oi_eq hx inI_0
  exact lv_if_eq (tgt := tgt) F.1 F.2.1 hd ht (fun q => kt (cvv.mp q) F H locs ls hP hS hl) (fun q => kf (fun z => q (cvv.mpr z)) F H locs ls hP hS hl)
theorem G.icmp_ne {x y : Int} {off : Int} {tgt : Nat} (hd : decode (mdC md) pc = .ok (.if_icmp .ne off, 3)) (ht : (pc : Int) + off = (tgt : Int)) (hx : inI x) (hy : inI y) (kt : ¬ x = y → G md X tgt L S σ) (kf : x = y → G md X (pc + 3) L S σ) : G md X pc L (vi y :: vi x :: S) σ := by
  obtain ⟨⟨l, p, e, R, s, m', args, below, meth, c⟩, ⟨D, cA, ad, A⟩, ⟨kc, n', Q⟩⟩ := X
  intro F H locs ls hP hS hl
  have cvv := oi_eq hx hy
  exact lv_icmp_ne (tgt := tgt) F.1 F.2.1 hd ht (fun q => kt (fun z => q (cvv.mpr z)) F H locs ls hP hS hl) (fun q => kf (cvv.mp q) F H locs ls hP hS hl)
theorem G.if_ne {x : Int} {off : Int} {tgt : Nat} (hd : decode (mdC md) pc = .ok (.ifCond .ne off, 3)) (ht : (pc : Int) + off = (tgt : Int)) (hx : inI x) (kt : ¬ x = 0 → G md X tgt L S σ) (kf : x = 0 → G md X (pc + 3) L S σ) : G md X pc L (vi x :: S) σ := by
  obtain ⟨⟨l, p, e, R, s, m', args, below, meth, c⟩, ⟨D, cA, ad, A⟩, ⟨kc, n', Q⟩⟩ := X
  intro F H locs ls hP hS hl
  have cvv := oi_eq hx inI_0
  exact lv_if_ne (tgt := tgt) F.1 F.2.1 hd ht (fun q => kt (fun z => q (cvv.mpr z)) F H locs ls hP hS hl) (fun q => kf (cvv.mp q) F H locs ls hP hS hl)
theorem G.icmp_lt {x y : Int} {off : Int} {tgt : Nat} (hd : decode (mdC md) pc = .ok (.if_icmp .lt off, 3)) (ht : (pc : Int) + off = (tgt : Int)) (hx : inI x) (hy : inI y) (kt : x < y → G md X tgt L S σ) (kf : y ≤ x → G md X (pc + 3) L S σ) : G md X pc L (vi y :: vi x :: S) σ := by
  obtain ⟨⟨l, p, e, R, s, m', args, below, meth, c⟩, ⟨D, cA, ad, A⟩, ⟨kc, n', Q⟩⟩ := X
  intro F H locs ls hP hS hl
  have cvv := oi_lt hx hy
  exact lv_icmp_lt (tgt := tgt) F.1 F.2.1 hd ht (fun q => kt (cvv.mp q) F H locs ls hP hS hl) (fun q => kf (Int.not_lt.mp fun w => q (cvv.mpr w)) F H locs ls hP hS hl)
theorem G.if_lt {x : Int} {off : Int} {tgt : Nat} (hd : decode (mdC md) pc = .ok (.ifCond .lt off, 3)) (ht : (pc : Int) + off = (tgt : Int)) (hx : inI x) (kt : x < 0 → G md X tgt L S σ) (kf : 0 ≤ x → G md X (pc + 3) L S σ) : G md X pc L (vi x :: S) σ := by
  obtain ⟨⟨l, p, e, R, s, m', args, below, meth, c⟩, ⟨D, cA, ad, A⟩, ⟨kc, n', Q⟩⟩ := X
  intro F H locs ls hP hS hl
  have cvv := oi_lt hx inI_0
  exact lv_if_lt (tgt := tgt) F.1 F.2.1 hd ht (fun q => kt (cvv.mp q) F H locs ls hP hS hl) (fun q => kf (Int.not_lt.mp fun w => q (cvv.mpr w)) F H locs ls hP hS hl)
theorem G.icmp_le {x y : Int} {off : Int} {tgt : Nat} (hd : decode (mdC md) pc = .ok (.if_icmp .le off, 3)) (ht : (pc : Int) + off = (tgt : Int)) (hx : inI x) (hy : inI y) (kt : x ≤ y → G md X tgt L S σ) (kf : y < x → G md X (pc + 3) L S σ) : G md X pc L (vi y :: vi x :: S) σ := by
  obtain ⟨⟨l, p, e, R, s, m', args, below, meth, c⟩, ⟨D, cA, ad, A⟩, ⟨kc, n', Q⟩⟩ := X
  intro F H locs ls hP hS hl
  have cvv := oi_le hx hy
  exact lv_icmp_le (tgt := tgt) F.1 F.2.1 hd ht (fun q => kt (cvv.mp q) F H locs ls hP hS hl) (fun q => kf (Int.not_le.mp fun w => q (cvv.mpr w)) F H locs ls hP hS hl)
theorem G.if_le {x : Int} {off : Int} {tgt : Nat} (hd : decode (mdC md) pc = .ok (.ifCond .le off, 3)) (ht : (pc : Int) + off = (tgt : Int)) (hx : inI x) (kt : x ≤ 0 → G md X tgt L S σ) (kf : 0 < x → G md X (pc + 3) L S σ) : G md X pc L (vi x :: S) σ := by
  obtain ⟨⟨l, p, e, R, s, m', args, below, meth, c⟩, ⟨D, cA, ad, A⟩, ⟨kc, n', Q⟩⟩ := X
  intro F H locs ls hP hS hl
  have cvv := oi_le hx inI_0
  exact lv_if_le (tgt := tgt) F.1 F.2.1 hd ht (fun q => kt (cvv.mp q) F H locs ls hP hS hl) (fun q => kf (Int.not_le.mp fun w => q (cvv.mpr w)) F H locs ls hP hS hl)
theorem G.icmp_gt {x y : Int} {off : Int} {tgt : Nat} (hd : decode (mdC md) pc = .ok (.if_icmp .gt off, 3)) (ht : (pc : Int) + off = (tgt : Int)) (hx : inI x) (hy : inI y) (kt : y < x → G md X tgt L S σ) (kf : x ≤ y → G md X (pc + 3) L S σ) : G md X pc L (vi y :: vi x :: S) σ := by
  obtain ⟨⟨l, p, e, R, s, m', args, below, meth, c⟩, ⟨D, cA, ad, A⟩, ⟨kc, n', Q⟩⟩ := X
  intro F H locs ls hP hS hl
  have cvv := oi_lt hy hx
  exact lv_icmp_gt (tgt := tgt) F.1 F.2.1 hd ht (fun q => kt (cvv.mp q) F H locs ls hP hS hl) (fun q => kf (Int.not_lt.mp fun w => q (cvv.mpr w)) F H locs ls hP hS hl)
theorem G.if_gt {x : Int} {off : Int} {tgt : Nat} (hd : decode (mdC md) pc = .ok (.ifCond .gt off, 3)) (ht : (pc : Int) + off = (tgt : Int)) (hx : inI x) (kt : 0 < x → G md X tgt L S σ) (kf : x ≤ 0 → G md X (pc + 3) L S σ) : G md X pc L (vi x :: S) σ := by
  obtain ⟨⟨l, p, e, R, s, m', args, below, meth, c⟩, ⟨D, cA, ad, A⟩, ⟨kc, n', Q⟩⟩ := X
  intro F H locs ls hP hS hl
  have cvv := oi_lt inI_0 hx
  exact lv_if_gt (tgt := tgt) F.1 F.2.1 hd ht (fun q => kt (cvv.mp q) F H locs ls hP hS hl) (fun q => kf (Int.not_lt.mp fun w => q (cvv.mpr w)) F H locs ls hP hS hl)
theorem G.icmp_ge {x y : Int} {off : Int} {tgt : Nat} (hd : decode (mdC md) pc = .ok (.if_icmp .ge off, 3)) (ht : (pc : Int) + off = (tgt : Int)) (hx : inI x) (hy : inI y) (kt : y ≤ x → G md X tgt L S σ) (kf : x < y → G md X (pc + 3) L S σ) : G md X pc L (vi y :: vi x :: S) σ := by
  obtain ⟨⟨l, p, e, R, s, m', args, below, meth, c⟩, ⟨D, cA, ad, A⟩, ⟨kc, n', Q⟩⟩ := X
  intro F H locs ls hP hS hl
  have cvv := oi_le hy hx
  exact lv_icmp_ge (tgt := tgt) F.1 F.2.1 hd ht (fun q => kt (cvv.mp q) F H locs ls hP hS hl) (fun q => kf (Int.not_le.mp fun w => q (cvv.mpr w)) F H locs ls hP hS hl)
theorem G.if_ge {x : Int} {off : Int} {tgt : Nat} (hd : decode (mdC md) pc = .ok (.ifCond .ge off, 3)) (ht : (pc : Int) + off = (tgt : Int)) (hx : inI x) (kt : 0 ≤ x → G md X tgt L S σ) (kf : x < 0 → G md X (pc + 3) L S σ) : G md X pc L (vi x :: S) σ := by
  obtain ⟨⟨l, p, e, R, s, m', args, below, meth, c⟩, ⟨D, cA, ad, A⟩, ⟨kc, n', Q⟩⟩ := X
  intro F H locs ls hP hS hl
  have cvv := oi_le inI_0 hx
  exact lv_if_ge (tgt := tgt) F.1 F.2.1 hd ht (fun q => kt (cvv.mp q) F H locs ls hP hS hl) (fun q => kf (Int.not_le.mp fun w => q (cvv.mpr w)) F H locs ls hP hS hl)
theorem G.tswIn {dflt lo hi : Int} {offs : Array Int} {len : Nat} {x off v : Int} {tgt : Nat} (hd : decode (mdC md) pc = .ok (.tableswitch dflt lo hi offs, len)) (hx : inI x) (hv : x = v) (h1 : lo ≤ v ∧ v ≤ hi) (ho : offs[(v - lo).toNat]? = some off) (ht : (pc : Int) + off = (tgt : Int)) (k : G md X tgt L S σ) : G md X pc L (vi x :: S) σ := by
  obtain ⟨⟨l, p, e, R, s, m', args, below, meth, c⟩, ⟨D, cA, ad, A⟩, ⟨kc, n', Q⟩⟩ := X
  intro F H locs ls hP hS hl
  have e : (Int32.ofInt x).toInt = v := by rw [oi_to hx, hv]
  exact lv_tableIn F.1 F.2.1 hd (by rw [e]; omega) (by rw [e]; omega) (by rw [e]; exact ho) ht (k F H locs ls hP hS hl)
theorem G.tswOut {dflt lo hi : Int} {offs : Array Int} {len : Nat} {x : Int} {tgt : Nat} (hd : decode (mdC md) pc = .ok (.tableswitch dflt lo hi offs, len)) (hx : inI x) (h : x < lo ∨ hi < x) (ht : (pc : Int) + dflt = (tgt : Int)) (k : G md X tgt L S σ) : G md X pc L (vi x :: S) σ := by
  obtain ⟨⟨l, p, e, R, s, m', args, below, meth, c⟩, ⟨D, cA, ad, A⟩, ⟨kc, n', Q⟩⟩ := X
  intro F H locs ls hP hS hl
  exact lv_tableOut F.1 F.2.1 hd (by rw [oi_to hx]; exact h) ht (k F H locs ls hP hS hl)
theorem G.lsw {dflt : Int} {ps : Array (Int × Int)} {len : Nat} {x off : Int} {tgt : Nat} (hd : decode (mdC md) pc = .ok (.lookupswitch dflt ps, len)) (hp : (ps.toList.zip (ps.toList.drop 1)).all (fun (a, next) => a.1 < next.1) = true) (hx : inI x) (ho : Op.lookupswitch.offset ps.toList dflt x = off) (ht : (pc : Int) + off = (tgt : Int)) (k : G md X tgt L S σ) : G md X pc L (vi x :: S) σ := by
  obtain ⟨⟨l, p, e, R, s, m', args, below, meth, c⟩, ⟨D, cA, ad, A⟩, ⟨kc, n', Q⟩⟩ := X
  intro F H locs ls hP hS hl
  exact lv_lookup F.1 F.2.1 hd hp (by rw [oi_to hx]; exact ho) ht (k F H locs ls hP hS hl)
-- arrays
theorem shp_len (o : Nat) : (shp o).2.1 < 1000 := by
  unfold shp
  split
  · split <;> exact Nat.le_of_ble_eq_true rfl
  · rw [List.getD_eq_getElem?_getD]
    cases h : shpT[o - 60]? with
    | none => decide
    | some q =>
      have : ∀ q ∈ shpT, q.2.1 < 1000 := by decide +kernel
      exact this q (List.mem_of_getElem? h)
theorem sh_arr {ad : Nat → Nat} {cA : Nat → ClassId} {σ : St} {o t n : Nat} {fs : List (Nat × Nat)} (hs : shp o = (t, n, fs)) (ht : t < 9) : o < 105 ∧ n < 1000 ∧ (WL ad cA σ)[o]? = some (ad o, ent ad cA (t, n, fs) (σ o)) := by
  have h1 : o < 105 := shp_lt (by rw [hs]; exact ht)
  have h2 := shp_len o
  rw [hs] at h2
  exact ⟨h1, h2, by rw [wl_at h1, hs]⟩
theorem int_tn {z : Int} (h : 0 ≤ z) : ((z.toNat : Nat) : Int) = z := Int.toNat_of_nonneg h
theorem G.iald {o n : Nat} {z : Int} (hd : decode (mdC md) pc = .ok (.iaload, 1)) (hs : shp o = (1, n, [])) (hz : 0 ≤ z ∧ z < n) (k : G md X (pc + 1) L (vi (σ o z) :: S) σ) : G md X pc L (vi z :: vr o :: S) σ := by
  obtain ⟨⟨l, p, e, R, s, m', args, below, meth, c⟩, ⟨D, cA, ad, A⟩, ⟨kc, n', Q⟩⟩ := X
  intro F H locs ls hP hS hl
  obtain ⟨hx, hb, hml, hr, hown, hts, hlk, hf, hlo, hc, hsl, hK⟩ := id F
  obtain ⟨h1, h2, h3⟩ := sh_arr (ad := ad) (cA := cA) (σ := σ) hs (by decide)
  refine va_iald hx hb hK.1 hP o 0 h3 rfl (oi_in (n := n) hz.1 hz.2 (by omega)) hd ?_
  rw [oi_cl hz.1 (by omega), int_tn hz.1]
  exact k F H locs ls hP hS hl
theorem G.zald {o n : Nat} {z : Int} (hd : decode (mdC md) pc = .ok (.baload, 1)) (hs : shp o = (2, n, [])) (hz : 0 ≤ z ∧ z < n) (k : G md X (pc + 1) L (vi (σ o z) :: S) σ) : G md X pc L (vi z :: vr o :: S) σ := by
  obtain ⟨⟨l, p, e, R, s, m', args, below, meth, c⟩, ⟨D, cA, ad, A⟩, ⟨kc, n', Q⟩⟩ := X
  intro F H locs ls hP hS hl
  obtain ⟨hx, hb, hml, hr, hown, hts, hlk, hf, hlo, hc, hsl, hK⟩ := id F
  obtain ⟨h1, h2, h3⟩ := sh_arr (ad := ad) (cA := cA) (σ := σ) hs (by decide)
  refine va_zald hx hb hK.1 hP o 1 h3 rfl (oi_in (n := n) hz.1 hz.2 (by omega)) hd ?_
  rw [oi_cl hz.1 (by omega), int_tn hz.1]
  exact k F H locs ls hP hS hl
theorem G.fald {o n : Nat} {z : Int} (hd : decode (mdC md) pc = .ok (.faload, 1)) (hs : shp o = (3, n, [])) (hz : 0 ≤ z ∧ z < n) (k : G md X (pc + 1) L (vf (fl (σ o z)) :: S) σ) : G md X pc L (vi z :: vr o :: S) σ := by
  obtain ⟨⟨l, p, e, R, s, m', args, below, meth, c⟩, ⟨D, cA, ad, A⟩, ⟨kc, n', Q⟩⟩ := X
  intro F H locs ls hP hS hl
  obtain ⟨hx, hb, hml, hr, hown, hts, hlk, hf, hlo, hc, hsl, hK⟩ := id F
  obtain ⟨h1, h2, h3⟩ := sh_arr (ad := ad) (cA := cA) (σ := σ) hs (by decide)
  refine va_fald hx hb hK.1 hP o 2 h3 rfl (oi_in (n := n) hz.1 hz.2 (by omega)) hd ?_
  rw [oi_cl hz.1 (by omega), int_tn hz.1]
  exact k F H locs ls hP hS hl
theorem G.aald {o n b : Nat} {z : Int} (hd : decode (mdC md) pc = .ok (.aaload, 1)) (hs : shp o = (4, n, [(b, 0)])) (hz : 0 ≤ z ∧ z < n) (k : G md X (pc + 1) L (vr (6 * z.toNat + b) :: S) σ) : G md X pc L (vi z :: vr o :: S) σ := by
  obtain ⟨⟨l, p, e, R, s, m', args, below, meth, c⟩, ⟨D, cA, ad, A⟩, ⟨kc, n', Q⟩⟩ := X
  intro F H locs ls hP hS hl
  obtain ⟨hx, hb, hml, hr, hown, hts, hlk, hf, hlo, hc, hsl, hK⟩ := id F
  obtain ⟨h1, h2, h3⟩ := sh_arr (ad := ad) (cA := cA) (σ := σ) hs (by decide)
  refine va_aldq hx hb hK.1 hP o 3 h3 rfl (oi_in (n := n) hz.1 hz.2 (by omega)) hd ?_
  rw [oi_cl hz.1 (by omega)]
  exact k F H locs ls hP hS hl
theorem G.roald {o : Nat} {z : Int} (hd : decode (mdC md) pc = .ok (.iaload, 1)) (ho : o = 105 ∨ o = 106 ∨ o = 107) (hz : 0 ≤ z ∧ z < rol o) (k : G md X (pc + 1) L (vi (rot o z) :: S) σ) : G md X pc L (vi z :: vr o :: S) σ := by
  obtain ⟨⟨l, p, e, R, s, m', args, below, meth, c⟩, ⟨D, cA, ad, A⟩, ⟨kc, n', Q⟩⟩ := X
  intro F H locs ls hP hS hl
  obtain ⟨hx, hb, hml, hr, hown, hts, hlk, hf, hlo, hc, hsl, hK⟩ := id F
  have h2 : rol o ≤ 40 := by unfold rol; split <;> decide
  refine va_ti hx hb (hK.2.2.2.2.2.2.1 o ho) hS (oi_in hz.1 hz.2 (by omega)) rfl hd ?_
  rw [oi_cl hz.1 (by omega), int_tn hz.1]
  exact k F H locs ls hP hS hl
theorem G.alen {o n : Nat} (hd : decode (mdC md) pc = .ok (.arraylength, 1)) (hs : shp o = (1, n, [])) (k : G md X (pc + 1) L (vi n :: S) σ) : G md X pc L (vr o :: S) σ := by
  obtain ⟨⟨l, p, e, R, s, m', args, below, meth, c⟩, ⟨D, cA, ad, A⟩, ⟨kc, n', Q⟩⟩ := X
  intro F H locs ls hP hS hl
  obtain ⟨hx, hb, hml, hr, hown, hts, hlk, hf, hlo, hc, hsl, hK⟩ := id F
  obtain ⟨h1, h2, h3⟩ := sh_arr (ad := ad) (cA := cA) (σ := σ) hs (by decide)
  exact va_alen hx hb hK.1 hP o 0 h3 rfl (v := Int32.ofInt n) rfl hd (k F H locs ls hP hS hl)
theorem G.iast {o n : Nat} {z v : Int} (hd : decode (mdC md) pc = .ok (.iastore, 1)) (hs : shp o = (1, n, [])) (hz : 0 ≤ z ∧ z < n) (k : G md X (pc + 1) L S (wr σ o z v)) : G md X pc L (vi v :: vi z :: vr o :: S) σ := by
  obtain ⟨⟨l, p, e, R, s, m', args, below, meth, c⟩, ⟨D, cA, ad, A⟩, ⟨kc, n', Q⟩⟩ := X
  intro F H locs ls hP hS hl
  obtain ⟨hx, hb, hml, hr, hown, hts, hlk, hf, hlo, hc, hsl, hK⟩ := id F
  obtain ⟨h1, h2, h3⟩ := sh_arr (ad := ad) (cA := cA) (σ := σ) hs (by decide)
  refine va_iast hx hb hK.1 hP (wl_D hK) hS o 0 h3 rfl (oi_in (n := n) hz.1 hz.2 (by omega)) hd (fun H1 locs1 hP1 hD1 hS1 => ?_)
  rw [wl_set (wr_ne σ o z v) (by
    rw [hs]
    show _ = Sum.inl (cA 0, n, Sum.inl _)
    congr 4
    rw [oi_cl hz.1 (by omega)]
    funext j
    unfold upd wr
    by_cases hj : j = z.toNat
    · rw [if_pos hj, if_pos ⟨rfl, by omega⟩]
    · rw [if_neg hj, if_neg (by omega)])] at hP1
  exact k F H1 locs1 ls hP1 hS1 hl
theorem G.zast {o n : Nat} {z v : Int} (hd : decode (mdC md) pc = .ok (.bastore, 1)) (hs : shp o = (2, n, [])) (hz : 0 ≤ z ∧ z < n) (hv : v = 0 ∨ v = 1) (k : G md X (pc + 1) L S (wr σ o z v)) : G md X pc L (vi v :: vi z :: vr o :: S) σ := by
  obtain ⟨⟨l, p, e, R, s, m', args, below, meth, c⟩, ⟨D, cA, ad, A⟩, ⟨kc, n', Q⟩⟩ := X
  intro F H locs ls hP hS hl
  obtain ⟨hx, hb, hml, hr, hown, hts, hlk, hf, hlo, hc, hsl, hK⟩ := id F
  obtain ⟨h1, h2, h3⟩ := sh_arr (ad := ad) (cA := cA) (σ := σ) hs (by decide)
  refine va_zast hx hb hK.1 hP (wl_D hK) hS o 1 h3 rfl (oi_in (n := n) hz.1 hz.2 (by omega)) hd (fun H1 locs1 hP1 hD1 hS1 => ?_)
  rw [wl_set (wr_ne σ o z v) (by
    rw [hs]
    show _ = Sum.inl (cA 1, n, Sum.inl _)
    congr 4
    rw [oi_cl hz.1 (by omega)]
    have hnv : vp_nar .boolean (Int32.ofInt v) = Int32.ofInt v := by
      rcases hv with rfl | rfl <;> decide
    rw [hnv]
    funext j
    unfold upd wr
    by_cases hj : j = z.toNat
    · rw [if_pos hj, if_pos ⟨rfl, by omega⟩]
    · rw [if_neg hj, if_neg (by omega)])] at hP1
  exact k F H1 locs1 ls hP1 hS1 hl
theorem fl_nat (v : UInt32) : fl (v.toNat : Int) = v := by simp [fl]
theorem G.fast {o n : Nat} {z : Int} {v : UInt32} (hd : decode (mdC md) pc = .ok (.fastore, 1)) (hs : shp o = (3, n, [])) (hz : 0 ≤ z ∧ z < n) (k : G md X (pc + 1) L S (wr σ o z v.toNat)) : G md X pc L (vf v :: vi z :: vr o :: S) σ := by
  obtain ⟨⟨l, p, e, R, s, m', args, below, meth, c⟩, ⟨D, cA, ad, A⟩, ⟨kc, n', Q⟩⟩ := X
  intro F H locs ls hP hS hl
  obtain ⟨hx, hb, hml, hr, hown, hts, hlk, hf, hlo, hc, hsl, hK⟩ := id F
  obtain ⟨h1, h2, h3⟩ := sh_arr (ad := ad) (cA := cA) (σ := σ) hs (by decide)
  refine va_fast hx hb hK.1 hP (wl_D hK) hS o 2 h3 rfl (oi_in (n := n) hz.1 hz.2 (by omega)) hd (fun H1 locs1 hP1 hD1 hS1 => ?_)
  rw [wl_set (wr_ne σ o z v.toNat) (by
    rw [hs]
    show _ = Sum.inl (cA 2, n, Sum.inr (Sum.inr (Sum.inl _)))
    congr 6
    rw [oi_cl hz.1 (by omega)]
    funext j
    unfold vf_upd wr
    by_cases hj : j = z.toNat
    · rw [if_pos hj, if_pos ⟨rfl, by omega⟩, fl_nat]
    · rw [if_neg hj, if_neg (by omega)])] at hP1
  exact k F H1 locs1 ls hP1 hS1 hl
-- fields
def flk (own : String) (idx ci k : Nat) : Prop := ∃ q : vw_C, vwCl[ci]? = some q ∧ k < q.2.2 ∧ Cond.fieldLink own idx (q.2.1 k).1 (q.2.1 k).2.1 (q.2.1 k).2.2.1 ∈ GW
theorem G.getV {idx ci kf : Nat} {o : Nat} {fs : List (Nat × Nat)} {q : Nat × Nat} {v : AV} (hd : decode (mdC md) pc = .ok (.getfield idx, 3)) (hf : flk (mdO md) idx ci kf) (hs : shp o = (0, ci, fs)) (hk : fs[kf]? = some q) (hv : ∀ ad, fv ad (σ o) kf q = cv ad v) (k : G md X (pc + 3) L (v :: S) σ) : G md X pc L (vr o :: S) σ := by
  obtain ⟨⟨l, p, e, R, s, m', args, below, meth, c⟩, ⟨D, cA, ad, A⟩, ⟨kc, n', Q⟩⟩ := X
  intro F H locs ls hP hS hl
  obtain ⟨hx, hb, hml, hr, hown, hts, hlk, hff, hlo, hc, hsl, hK⟩ := id F
  obtain ⟨h1, h2, h3⟩ := sh_arr (ad := ad) (cA := cA) (σ := σ) hs (by decide)
  obtain ⟨⟨C, T, N⟩, g1, g2, g3⟩ := hf
  exact va_get hx hb hts (cl_in g1) hown hK.1 hP o h3 g1 kf g2 (hts _ g3) (fun x hx => hx) (v := cv ad v) (by rw [fvs_at hk, hv]) hd (k F H locs ls hP hS hl)
theorem G.getI {idx ci kf : Nat} {o t : Nat} {fs : List (Nat × Nat)} {j : Int} (hd : decode (mdC md) pc = .ok (.getfield idx, 3)) (hf : flk (mdO md) idx ci kf) (hs : shp o = (0, ci, fs)) (hk : fs[kf]? = some (t, 0)) (ht : (t == 0 || t == 5) = true) (hj : ((kf : Nat) : Int) = j) (k : G md X (pc + 3) L (vi (σ o j) :: S) σ) : G md X pc L (vr o :: S) σ := by
  subst hj
  refine G.getV hd hf hs hk (fun ad => ?_) k
  rcases Bool.or_eq_true_iff.mp ht with h | h
  · have e : t = 0 := by simpa using h
    subst e; rfl
  · have e : t = 5 := by simpa using h
    subst e; rfl
theorem G.getR {idx ci kf : Nat} {o o' : Nat} {fs : List (Nat × Nat)} (hd : decode (mdC md) pc = .ok (.getfield idx, 3)) (hf : flk (mdO md) idx ci kf) (hs : shp o = (0, ci, fs)) (hk : fs[kf]? = some (2, o')) (k : G md X (pc + 3) L (vr o' :: S) σ) : G md X pc L (vr o :: S) σ :=
  G.getV hd hf hs hk (fun ad => rfl) k
theorem G.getF {idx ci kf : Nat} {o : Nat} {fs : List (Nat × Nat)} {j : Int} (hd : decode (mdC md) pc = .ok (.getfield idx, 3)) (hf : flk (mdO md) idx ci kf) (hs : shp o = (0, ci, fs)) (hk : fs[kf]? = some (1, 0)) (hj : ((kf : Nat) : Int) = j) (k : G md X (pc + 3) L (vf (fl (σ o j)) :: S) σ) : G md X pc L (vr o :: S) σ := by
  subst hj
  exact G.getV hd hf hs hk (fun ad => rfl) k
theorem G.putV {idx ci kf : Nat} {o : Nat} {fs : List (Nat × Nat)} {q : Nat × Nat} {C : vw_C} {v : AV} {ty : FieldType} {w : Int} (hd : decode (mdC md) pc = .ok (.putfield idx, 3)) (hf : flk (mdO md) idx ci kf) (hs : shp o = (0, ci, fs)) (hk : fs[kf]? = some q) (hC : vwCl[ci]? = some C) (hfin : (C.2.1 kf).2.2.2 = false) (hty : ckT ci kf = ty)
    (hn : ∀ ad, narrow ty (cv ad v) = cv ad v ∧ fits ty (cv ad v) = true) (hv : ∀ ad, cv ad v = fv ad (wr σ o kf w o) kf q) (k : G md X (pc + 3) L S (wr σ o kf w)) : G md X pc L (v :: vr o :: S) σ := by
  obtain ⟨⟨l, p, e, R, s, m', args, below, meth, c⟩, ⟨D, cA, ad, A⟩, ⟨kc, n', Q⟩⟩ := X
  intro F H locs ls hP hS hl
  obtain ⟨hx, hb, hml, hr, hown, hts, hlk, hff, hlo, hc, hsl, hK⟩ := id F
  obtain ⟨h1, h2, h3⟩ := sh_arr (ad := ad) (cA := cA) (σ := σ) hs (by decide)
  obtain ⟨⟨C', T, N⟩, g1, g2, g3⟩ := hf
  cases hC.symm.trans g1
  subst hty
  refine va_put hx hb hts (cl_in g1) (ckT ci) (cl_ty g1) (cl_nm g1) hown hK.1 hP (wl_D hK) hS o h3 g1 kf g2 (hts _ g3) (fun x hx => hx) hfin (cl_ty g1 kf g2) (hn ad).1 (hn ad).2 (by have := (List.getElem?_eq_some_iff.mp (fvs_at (ad := ad) (row := σ o) hk)).1; exact this) hd (fun H1 locs1 hP1 hD1 hS1 => ?_)
  rw [wl_set (wr_ne σ o kf w) (by
    rw [hs]
    show _ = Sum.inr (ci, fvs ad (wr σ o kf w o) fs)
    rw [fvs_set (row' := wr σ o kf w o) hk (fun j hj => by unfold wr; rw [if_neg (by omega)]) (hv ad)])] at hP1
  exact k F H1 locs1 ls hP1 hS1 hl
theorem wr_self (σ : St) (o : Nat) (i v : Int) : wr σ o i v o i = v := by simp [wr]
theorem G.putI {idx ci kf : Nat} {o : Nat} {fs : List (Nat × Nat)} {C : vw_C} {v j : Int} (hd : decode (mdC md) pc = .ok (.putfield idx, 3)) (hf : flk (mdO md) idx ci kf) (hs : shp o = (0, ci, fs)) (hk : fs[kf]? = some (0, 0)) (hC : vwCl[ci]? = some C) (hfin : (C.2.1 kf).2.2.2 = false) (hty : ckT ci kf = .int) (hj : ((kf : Nat) : Int) = j) (k : G md X (pc + 3) L S (wr σ o j v)) : G md X pc L (vi v :: vr o :: S) σ := by
  subst hj
  refine G.putV hd hf hs hk hC hfin hty (fun ad => ⟨rfl, rfl⟩) (fun ad => ?_) k
  show Value.int (Int32.ofInt v) = Value.int (Int32.ofInt (wr σ o kf v o kf))
  rw [wr_self]
theorem G.putZ {idx ci kf : Nat} {o : Nat} {fs : List (Nat × Nat)} {C : vw_C} {v j : Int} (hd : decode (mdC md) pc = .ok (.putfield idx, 3)) (hf : flk (mdO md) idx ci kf) (hs : shp o = (0, ci, fs)) (hk : fs[kf]? = some (5, 0)) (hC : vwCl[ci]? = some C) (hfin : (C.2.1 kf).2.2.2 = false) (hty : ckT ci kf = .boolean) (hj : ((kf : Nat) : Int) = j) (hv : v = 0 ∨ v = 1) (k : G md X (pc + 3) L S (wr σ o j v)) : G md X pc L (vi v :: vr o :: S) σ := by
  subst hj
  refine G.putV hd hf hs hk hC hfin hty (fun ad => ?_) (fun ad => ?_) k
  · rcases hv with rfl | rfl
    · show narrow .boolean (.int (Int32.ofInt 0)) = .int (Int32.ofInt 0) ∧ fits .boolean (.int (Int32.ofInt 0)) = true
      exact ⟨by decide, by decide⟩
    · show narrow .boolean (.int (Int32.ofInt 1)) = .int (Int32.ofInt 1) ∧ fits .boolean (.int (Int32.ofInt 1)) = true
      exact ⟨by decide, by decide⟩
  · show Value.int (Int32.ofInt v) = Value.int (Int32.ofInt (wr σ o kf v o kf))
    rw [wr_self]
theorem G.putF {idx ci kf : Nat} {o : Nat} {fs : List (Nat × Nat)} {C : vw_C} {v : UInt32} {j : Int} (hd : decode (mdC md) pc = .ok (.putfield idx, 3)) (hf : flk (mdO md) idx ci kf) (hs : shp o = (0, ci, fs)) (hk : fs[kf]? = some (1, 0)) (hC : vwCl[ci]? = some C) (hfin : (C.2.1 kf).2.2.2 = false) (hty : ckT ci kf = .float) (hj : ((kf : Nat) : Int) = j) (k : G md X (pc + 3) L S (wr σ o j v.toNat)) : G md X pc L (vf v :: vr o :: S) σ := by
  subst hj
  refine G.putV hd hf hs hk hC hfin hty (fun ad => ⟨rfl, rfl⟩) (fun ad => ?_) k
  show Value.float v = Value.float (fl (wr σ o kf v.toNat o kf))
  rw [wr_self, fl_nat]
-- static tables
theorem G.getsL {idx i : Nat} (hd : decode (mdC md) pc = .ok (.getstatic idx, 3)) (hw : lw_tbl[i]? = some (.fieldLink (mdO md) idx RX2 "LIGHT" "[I")) (k : G md X (pc + 3) L (vr 105 :: S) σ) : G md X pc L S σ := by
  obtain ⟨⟨l, p, e, R, s, m', args, below, meth, c⟩, ⟨D, cA, ad, A⟩, ⟨kc, n', Q⟩⟩ := X
  intro F H locs ls hP hS hl
  obtain ⟨hx, hb, hml, hr, hown, hts, hlk, hff, hlo, hc, hsl, hK⟩ := id F
  exact va_gets hx hb hK.2.2.2.1 hS hown (hts _ (gw_at hw rfl)) (fun x hx => hx) hd (k F H locs ls hP hS hl)
theorem G.getsD {idx i : Nat} (hd : decode (mdC md) pc = .ok (.getstatic idx, 3)) (hw : lw_tbl[i]? = some (.fieldLink (mdO md) idx RX8 "DEED" "[I")) (k : G md X (pc + 3) L (vr 106 :: S) σ) : G md X pc L S σ := by
  obtain ⟨⟨l, p, e, R, s, m', args, below, meth, c⟩, ⟨D, cA, ad, A⟩, ⟨kc, n', Q⟩⟩ := X
  intro F H locs ls hP hS hl
  obtain ⟨hx, hb, hml, hr, hown, hts, hlk, hff, hlo, hc, hsl, hK⟩ := id F
  exact va_gets hx hb hK.2.2.2.2.1 hS hown (hts _ (gw_at hw rfl)) (fun x hx => hx) hd (k F H locs ls hP hS hl)
theorem G.getsS {idx i : Nat} (hd : decode (mdC md) pc = .ok (.getstatic idx, 3)) (hw : lw_tbl[i]? = some (.fieldLink (mdO md) idx RX8 "STAGE" "[I")) (k : G md X (pc + 3) L (vr 107 :: S) σ) : G md X pc L S σ := by
  obtain ⟨⟨l, p, e, R, s, m', args, below, meth, c⟩, ⟨D, cA, ad, A⟩, ⟨kc, n', Q⟩⟩ := X
  intro F H locs ls hP hS hl
  obtain ⟨hx, hb, hml, hr, hown, hts, hlk, hff, hlo, hc, hsl, hK⟩ := id F
  exact va_gets hx hb hK.2.2.2.2.2.1 hS hown (hts _ (gw_at hw rfl)) (fun x hx => hx) hd (k F H locs ls hP hS hl)
end RULES
section CALLS
variable {md : MD} {X : CT} {pc : Nat} {L : List (Nat × AV)} {S : List AV} {σ : St}
/-- contracts: from the store σ, with arguments av, the method answers z with a store: P z σ' -/
def WQ (D : va_G) (cA : Nat → ClassId) (ad : Nat → Nat) : St → State → Prop := fun u t => va_P D vwCl (WL ad cA u) t.heap
def PC (D : va_G) (cA : Nat → ClassId) (ad : Nat → Nat) (av : List AV) (σ : St) : Array Value → State → Prop := va_Pc (av.map (cv ad)) (fun U => va_P D vwCl (WL ad cA σ) U.heap ∧ KW D cA ad (AD ad) U U.heap)
def wsM (md : MD) : List Cond := Cond.code (mdY md) (mdC md) (mdN md) (mdR md) :: GW
def rmM (md : MD) : Room := { frames := mdF md, cells := 0, slots := 0, locals := 36 * mdF md }
def QI (P : Int → St → Prop) (D : va_G) (cA : Nat → ClassId) (ad : Nat → Nat) : Array Value → State → Outcome → State → Prop := va_Qi (fun (r : Int32) (u : St) => ∃ z, r = Int32.ofInt z ∧ inI z ∧ P z u) (WQ D cA ad) (AD ad)
def QV (P : St → Prop) (D : va_G) (cA : Nat → ClassId) (ad : Nat → Nat) : Array Value → State → Outcome → State → Prop := va_Qv (fun u : St => P u) (WQ D cA ad) (AD ad)
def CI (md : MD) (av : List AV) (σ : St) (P : Int → St → Prop) : Prop := ∀ (l : Launch) (D : va_G) (cA : Nat → ClassId) (ad : Nat → Nat), Met l (mdY md) (wsM md) (rmM md) (PC D cA ad av σ) (QI P D cA ad) 0 0 (AD ad)
def CV (md : MD) (av : List AV) (σ : St) (P : St → Prop) : Prop := ∀ (l : Launch) (D : va_G) (cA : Nat → ClassId) (ad : Nat → Nat), Met l (mdY md) (wsM md) (rmM md) (PC D cA ad av σ) (QV P D cA ad) 0 0 (AD ad)
def RI (X : CT) (P : Int → St → Prop) : Prop := match X with
  | ((_, _, _, _, s, _, args, below, _, _), (D, cA, ad, A), (k, n, Q)) => Q = MQ below (QI P D cA ad) args s 0 0 (AD ad) ∧ A = AD ad ∧ k = 0 ∧ n = 0
def RV (X : CT) (P : St → Prop) : Prop := match X with
  | ((_, _, _, _, s, _, args, below, _, _), (D, cA, ad, A), (k, n, Q)) => Q = MQ below (QV P D cA ad) args s 0 0 (AD ad) ∧ A = AD ad ∧ k = 0 ∧ n = 0
theorem G.iret {P : Int → St → Prop} {z : Int} (hX : RI X P) (hd : decode (mdC md) pc = .ok (.ireturn, 1)) (hr : mdR md = some .int) (hz : inI z) (hp : P z σ) : G md X pc L [vi z] σ := by
  obtain ⟨⟨l, p, e, R, s, m', args, below, meth, c⟩, ⟨D, cA, ad, A⟩, ⟨kc, n', Q⟩⟩ := X
  obtain ⟨hQ, hA, hk, hn⟩ := hX
  subst hQ; subst hA; subst hk; subst hn
  intro F H locs ls hP hS hl
  obtain ⟨hx, hb, hml, hr', hown, hts, hlk, hff, hlo, hc, hsl, hK⟩ := id F
  exact W.iret hx hb (hr'.trans hr) (fun t ht hW => ⟨⟨_, σ, rfl, ⟨z, rfl, hz, hp⟩, by unfold WQ; rw [ht]; exact hP⟩, hS.F ht⟩) (fun q hq => hS.2.2 q hq) hd hlk
theorem G.zret {P : Int → St → Prop} {z : Int} (hX : RI X P) (hd : decode (mdC md) pc = .ok (.ireturn, 1)) (hr : mdR md = some .boolean) (hz : z = 0 ∨ z = 1) (hp : P z σ) : G md X pc L [vi z] σ := by
  obtain ⟨⟨l, p, e, R, s, m', args, below, meth, c⟩, ⟨D, cA, ad, A⟩, ⟨kc, n', Q⟩⟩ := X
  obtain ⟨hQ, hA, hk, hn⟩ := hX
  subst hQ; subst hA; subst hk; subst hn
  intro F H locs ls hP hS hl
  obtain ⟨hx, hb, hml, hr', hown, hts, hlk, hff, hlo, hc, hsl, hK⟩ := id F
  exact W.zret hx hb (hr'.trans hr) (by rcases hz with rfl | rfl <;> decide) (fun t ht hW => ⟨⟨_, σ, rfl, ⟨z, rfl, by rcases hz with rfl | rfl <;> exact ⟨by decide, by decide⟩, hp⟩, by unfold WQ; rw [ht]; exact hP⟩, hS.F ht⟩) (fun q hq => hS.2.2 q hq) hd hlk
theorem G.vret {P : St → Prop} (hX : RV X P) (hd : decode (mdC md) pc = .ok (.return_, 1)) (hr : mdR md = none) (hp : P σ) : G md X pc L [] σ := by
  obtain ⟨⟨l, p, e, R, s, m', args, below, meth, c⟩, ⟨D, cA, ad, A⟩, ⟨kc, n', Q⟩⟩ := X
  obtain ⟨hQ, hA, hk, hn⟩ := hX
  subst hQ; subst hA; subst hk; subst hn
  intro F H locs ls hP hS hl
  obtain ⟨hx, hb, hml, hr', hown, hts, hlk, hff, hlo, hc, hsl, hK⟩ := id F
  exact W.vret hx hb (hr'.trans hr) (fun t ht hW => ⟨⟨σ, rfl, hp, by unfold WQ; rw [ht]; exact hP⟩, hS.F ht⟩) (fun q hq => hS.2.2 q hq) hd hlk
/-- the locals at a method's start -/
def arL : Nat → List AV → List (Nat × AV)
  | _, [] => []
  | i, v :: vs => (i, v) :: arL (i + 1) vs
theorem arL_args (ad : Nat → Nat) : ∀ (vs : List AV) (i : Nat), lv_args i (vs.map (cv ad)) = (arL i vs).map (fun q => (q.1, cv ad q.2))
  | [], _ => rfl
  | v :: vs, i => by
    have h := arL_args ad vs (i + 1)
    have hc := cv_cat ad v
    simp only [List.map_cons, arL, lv_args, hc]
    rw [← h]
    rfl
theorem arL_len (ad : Nat → Nat) (vs : List AV) : (lg_sl (vs.map (cv ad))).length = vs.length := by
  induction vs with
  | nil => rfl
  | cons v vs ih =>
    have hc := cv_cat ad v
    have h : lg_sl ((v :: vs).map (cv ad)) = lg_sl [cv ad v] ++ lg_sl (vs.map (cv ad)) := by simp [lg_sl]
    rw [h, List.length_append, ih]
    rcases v with z | o | f <;> simp [lg_sl, cv, Value.category] <;> omega
theorem fx_start {md : MD} {l : Launch} {D : va_G} {cA : Nat → ClassId} {ad : Nat → Nat} {av : List AV} {p : Program} {e : Env} {s : State} {m : MethodId} {args : Array Value} {below : List Frame} {meth : Method} {c : Code} {s₁ : State} {Q : State → Prop} (hown : mdO md = (mdY md).cls) (B : BodyLoose p l (mdY md) (headSpec (wsM md) (rmM md)) (mdC md) (mdN md) (mdR md) e s m args below meth c s₁) (hml : c.maxLocals = mdN md) (hK : KW D cA ad (AD ad) s s.heap) :
    Fx md ((l, p, e, (headSpec (wsM md) (rmM md)).room, s, m, args, below, meth, c), (D, cA, ad, AD ad), (0, 0, Q)) := by
  have hts := atoms_spec (ws := wsM md) B.pre
  refine ⟨B.exec, B.bytes, hml, B.returns, ?_, fun w hw => hts w (List.mem_cons_of_mem _ hw), B.notSynchronized, Nat.le_refl _, Nat.le_refl _, Nat.zero_le _, Nat.zero_le _, hK⟩
  rw [hown]
  exact findClass_of_methodNamed B.named
theorem CI_of {md : MD} {av : List AV} {σ : St} {P : Int → St → Prop} (hy : plainName (mdY md).cls = true) (hn : av.length ≤ mdN md) (hown : mdO md = (mdY md).cls) (h : ∀ X, RI X P → G md X 0 (arL 0 av) [] σ) : CI md av σ P := by
  intro l D cA ad
  refine Met.ofW (cc := mdC md) (maxL := mdN md) (ret := mdR md) hy rfl ?_
  intro p e s m args below meth c s₁ B hml hv
  obtain ⟨rfl, hP, hK⟩ := hv
  have hl := lv_entry (av.map (cv ad)) (n := mdN md) (by rw [arL_len]; exact hn)
  rw [lg_entry_eq]
  rw [arL_args] at hl
  exact h ((l, p, e, (headSpec (wsM md) (rmM md)).room, s, m, _, below, meth, c), (D, cA, ad, AD ad), (0, 0, MQ below (QI P D cA ad) _ s 0 0 (AD ad))) ⟨rfl, rfl, rfl, rfl⟩ (fx_start (av := av) hown B hml hK) s.heap [] _ hP va_S.rf hl
theorem CV_of {md : MD} {av : List AV} {σ : St} {P : St → Prop} (hy : plainName (mdY md).cls = true) (hn : av.length ≤ mdN md) (hown : mdO md = (mdY md).cls) (h : ∀ X, RV X P → G md X 0 (arL 0 av) [] σ) : CV md av σ P := by
  intro l D cA ad
  refine Met.ofW (cc := mdC md) (maxL := mdN md) (ret := mdR md) hy rfl ?_
  intro p e s m args below meth c s₁ B hml hv
  obtain ⟨rfl, hP, hK⟩ := hv
  have hl := lv_entry (av.map (cv ad)) (n := mdN md) (by rw [arL_len]; exact hn)
  rw [lg_entry_eq]
  rw [arL_args] at hl
  exact h ((l, p, e, (headSpec (wsM md) (rmM md)).room, s, m, _, below, meth, c), (D, cA, ad, AD ad), (0, 0, MQ below (QV P D cA ad) _ s 0 0 (AD ad))) ⟨rfl, rfl, rfl, rfl⟩ (fx_start (av := av) hown B hml hK) s.heap [] _ hP va_S.rf hl
theorem CI.mono {md : MD} {av : List AV} {σ : St} {P P' : Int → St → Prop} (h : CI md av σ P) (hp : ∀ z u, P z u → P' z u) : CI md av σ P' := by
  intro l D cA ad
  intro p e ha hc hk s m args below hf hfit hheap happ
  obtain ⟨k, o, h1, h2, h3, ⟨⟨⟨r, u, g1, ⟨z, g2, g3, g4⟩, g5⟩, g6⟩, g7⟩⟩ := h l D cA ad p e ha hc hk s m args below hf hfit hheap happ
  exact ⟨k, o, h1, h2, h3, ⟨⟨r, u, g1, ⟨z, g2, g3, hp z u g4⟩, g5⟩, g6⟩, g7⟩
theorem CV.mono {md : MD} {av : List AV} {σ : St} {P P' : St → Prop} (h : CV md av σ P) (hp : ∀ u, P u → P' u) : CV md av σ P' := by
  intro l D cA ad
  intro p e ha hc hk s m args below hf hfit hheap happ
  obtain ⟨k, o, h1, h2, h3, ⟨⟨⟨u, g1, g4, g5⟩, g6⟩, g7⟩⟩ := h l D cA ad p e ha hc hk s m args below hf hfit hheap happ
  exact ⟨k, o, h1, h2, h3, ⟨⟨u, g1, hp u g4, g5⟩, g6⟩, g7⟩
theorem PC_blind {D : va_G} {cA : Nat → ClassId} {ad : Nat → Nat} {av : List AV} {σ : St} : FrameBlind (PC D cA ad av σ) := by
  intro a U g mk q
  obtain ⟨h1, h2, h3⟩ := q
  exact ⟨h1, h2, KW.moved (U := U.calling g mk a) (Vm.Alike.refl U.vm) (NW.same (u := U) rfl h3.2.2.2.2.2.2.2) h3⟩
theorem cats_le {ad : Nat → Nat} {rest : List AV} (h : rest.length ≤ 8) : ((rest.map (cv ad)).map fun v => v.category).sum ≤ 8 := by
  have e : ∀ l : List AV, ((l.map (cv ad)).map fun v => v.category).sum = l.length := by
    intro l
    induction l with
    | nil => rfl
    | cons a l ih => simp only [List.map_cons, List.sum_cons, ih, cv_cat, List.length_cons]; omega
  rw [e]; exact h
def okM (md2 : MD) (n : Nat) : Prop := Cond.initialized (mdY md2).cls ∈ GW ∧ Cond.code (mdY md2) (mdC md2) (mdN md2) (mdR md2) ∈ GW ∧ (mdY md2).cls ≠ "java/lang/invoke/MethodHandle" ∧ (mdY md2).cls ≠ "java/lang/invoke/VarHandle" ∧ (parseMethodDescriptor (mdY md2).desc).map (fun d => d.parameters.length) = some n ∧ mdN md2 ≤ 17
def vlk (own : String) (idx : Nat) (md2 : MD) (n : Nat) : Prop := Cond.methodLink own idx (mdY md2) ∈ GW ∧ Cond.instanceMethod (mdY md2) ∈ GW ∧ Cond.selects (mdY md2).cls (mdY md2) (mdY md2) ∈ GW ∧ okM md2 n
def slk (own : String) (idx : Nat) (md2 : MD) (n : Nat) : Prop := Cond.methodLink own idx (mdY md2) ∈ GW ∧ Cond.static (mdY md2) ∈ GW ∧ okM md2 n
theorem gw_goodIn {ws : List Cond} (h : ∀ w ∈ ws, w ∈ GW) : GoodIn GW ws := fun w hw => ⟨h w hw, good_of_word (gw_good (h w hw))⟩
theorem KW.at {D : va_G} {cA : Nat → ClassId} {ad : Nat → Nat} {A : Addr → Prop} {s U : State} {H : Heap} {locs : List Loc} (hK : KW D cA ad A s s.heap) (hS : va_S A s.heap H locs) (hU : U.heap = H) (hW : s.WarmedH U.vm) : KW D cA ad (AD ad) U U.heap := by
  rw [hU]
  exact KW.moved hW.alike (NW.warm hW hK.2.2.2.2.2.2.2) (KW.narrow (KW.kept (fun a h1 h2 => hS.2.1 a h1 h2) hK))
theorem cwVm {md md2 : MD} {R : Room} {s : State} {args : Array Value} {idx n : Nat} (hts : ∀ w ∈ GW, w.before args s = true) (hw : vlk (mdO md) idx md2 n) (hf1 : mdF md2 + 1 ≤ mdF md) (hff : mdF md ≤ R.frames) (hlo : 36 * mdF md ≤ R.locals) :
    CallW R s args (mdO md) (mdY md2).cls idx (mdY md2) (mdC md2) (mdN md2) (mdR md2) (wsM md2) (rmM md2) 0 0 n := by
  obtain ⟨w1, w2, w3, w4, w5, w6, w7, w8, w9⟩ := hw
  refine cwV n hts (gw_goodIn (fun w h => ?_)) rfl rfl rfl ⟨rfl, w6, w7, w8⟩ ⟨?_, ?_⟩
  · unfold wsV wsM at h
    simp only [List.mem_append, List.mem_cons, List.not_mem_nil, or_false] at h
    rcases h with (rfl | rfl | rfl | rfl) | (rfl | h)
    · exact w1
    · exact w2
    · exact w3
    · exact w4
    · exact w5
    · exact h
  · show mdF md2 + 1 ≤ R.frames
    omega
  · show 8 + (mdN md2 + 11) + 36 * mdF md2 ≤ R.locals
    omega
theorem cwSm {md md2 : MD} {R : Room} {s : State} {args : Array Value} {idx n : Nat} (hts : ∀ w ∈ GW, w.before args s = true) (hw : slk (mdO md) idx md2 n) (hf1 : mdF md2 + 1 ≤ mdF md) (hff : mdF md ≤ R.frames) (hlo : 36 * mdF md ≤ R.locals) :
    CallB R s args (mdO md) idx (mdY md2) (mdC md2) (mdN md2) (mdR md2) (wsM md2) (rmM md2) 0 0 n ∧ (Cond.static (mdY md2)).before args s = true := by
  obtain ⟨w1, w2, w4, w5, w6, w7, w8, w9⟩ := hw
  refine va_cwS n hts (gw_goodIn (fun w h => ?_)) rfl rfl rfl ⟨w6, w7, w8⟩ ⟨?_, ?_⟩
  · unfold va_wsS wsM at h
    simp only [List.mem_append, List.mem_cons, List.not_mem_nil, or_false] at h
    rcases h with (rfl | rfl | rfl) | (rfl | h)
    · exact w1
    · exact w2
    · exact w4
    · exact w5
    · exact h
  · show mdF md2 + 1 ≤ R.frames
    omega
  · show 8 + (mdN md2 + 11) + 36 * mdF md2 ≤ R.locals
    omega
def clN (ci : Nat) : String := (vwCl.getD ci ("", fun _ => ("", "", "", false), 0)).1
theorem recvO {D : va_G} {cA : Nat → ClassId} {ad : Nat → Nat} {σ : St} {s : State} {H : Heap} {o ci : Nat} {fs : List (Nat × Nat)} {C : String} (hK : va_K D vwCl (tysA cA) s) (hP : va_P D vwCl (WL ad cA σ) H) (hs : shp o = (0, ci, fs)) (hc : clN ci = C) (hci : ci < 10) : ∃ cell : Cell, H[ad o]? = some cell ∧ cell.vm.isStatics = false ∧ s.vm.findClass C = some cell.cls := by
  obtain ⟨h1, h2, h3⟩ := sh_arr (ad := ad) (cA := cA) (σ := σ) hs (by decide)
  have e : vwCl[ci]? = some (vwCl.getD ci ("", fun _ => ("", "", "", false), 0)) := by
    rw [List.getD_eq_getElem?_getD, List.getElem?_eq_getElem (show ci < vwCl.length from hci)]
    rfl
  subst hc
  exact va_recv hK hP e h3
theorem G.callVI {md2 : MD} {idx o ci : Nat} {fs : List (Nat × Nat)} {as rest S0 : List AV} {P : Int → St → Prop} (hd : decode (mdC md) pc = .ok (.invokevirtual idx, 3)) (hS0 : S0 = as.reverse ++ vr o :: rest) (hw : vlk (mdO md) idx md2 as.length) (hf1 : mdF md2 + 1 ≤ mdF md) (hs : shp o = (0, ci, fs)) (hc : clN ci = (mdY md2).cls) (hci : ci < 10) (hr : rest.length ≤ 8)
    (hM : CI md2 (vr o :: as) σ P) (k : ∀ (z : Int) (σ' : St), inI z → P z σ' → G md X (pc + 3) L (vi z :: rest) σ') : G md X pc L S0 σ := by
  subst hS0
  obtain ⟨⟨l, p, e, R, s, m', args, below, meth, c⟩, ⟨D, cA, ad, A⟩, ⟨kc, n', Q⟩⟩ := X
  intro F H locs ls hP hS hl
  obtain ⟨hx, hb, hml, hr', hown, hts, hlk, hff, hlo, hcc, hsl, hK⟩ := id F
  have hAD : ∀ q, AD ad q → A q := fun q ⟨o, ho, e⟩ => e ▸ hK.2.2.1 o ho
  rw [show (as.reverse ++ vr o :: rest).map (cv ad) = (as.map (cv ad)).reverse ++ Value.ref (ad o) :: rest.map (cv ad) by simp [cv]]
  refine va_calli (va_runV (As := as.map (cv ad)) (rest := rest.map (cv ad)) ⟨hx, hb, hml, hown, hts⟩ (hM l D cA ad) (cwVm hts hw hf1 hff hlo) ⟨PC_blind, recvO hK.1 hP hs hc hci, fun U hU hW => ⟨rfl, by rw [hU]; exact hP, hK.at hS hU hW⟩⟩ rfl (by rw [List.length_map]) hl.1 rfl (lv_room (cats_le hr)) hd ⟨hcc, hsl⟩) hS (fun q _ h => hAD q h) hAD (fun r u t H1 locs1 ht hvm hp hB hz1 hk1 hS1 => ?_)
  obtain ⟨z, rfl, hz, hpz⟩ := hp
  unfold WQ at hB
  rw [ht] at hB
  exact k z u hz hpz F H1 locs1 ls hB hS1 hl
theorem G.callVV {md2 : MD} {idx o ci : Nat} {fs : List (Nat × Nat)} {as rest S0 : List AV} {P : St → Prop} (hd : decode (mdC md) pc = .ok (.invokevirtual idx, 3)) (hS0 : S0 = as.reverse ++ vr o :: rest) (hw : vlk (mdO md) idx md2 as.length) (hf1 : mdF md2 + 1 ≤ mdF md) (hs : shp o = (0, ci, fs)) (hc : clN ci = (mdY md2).cls) (hci : ci < 10) (hr : rest.length ≤ 8)
    (hM : CV md2 (vr o :: as) σ P) (k : ∀ (σ' : St), P σ' → G md X (pc + 3) L rest σ') : G md X pc L S0 σ := by
  subst hS0
  obtain ⟨⟨l, p, e, R, s, m', args, below, meth, c⟩, ⟨D, cA, ad, A⟩, ⟨kc, n', Q⟩⟩ := X
  intro F H locs ls hP hS hl
  obtain ⟨hx, hb, hml, hr', hown, hts, hlk, hff, hlo, hcc, hsl, hK⟩ := id F
  have hAD : ∀ q, AD ad q → A q := fun q ⟨o, ho, e⟩ => e ▸ hK.2.2.1 o ho
  rw [show (as.reverse ++ vr o :: rest).map (cv ad) = (as.map (cv ad)).reverse ++ Value.ref (ad o) :: rest.map (cv ad) by simp [cv]]
  refine va_callv (va_runV (As := as.map (cv ad)) (rest := rest.map (cv ad)) ⟨hx, hb, hml, hown, hts⟩ (hM l D cA ad) (cwVm hts hw hf1 hff hlo) ⟨PC_blind, recvO hK.1 hP hs hc hci, fun U hU hW => ⟨rfl, by rw [hU]; exact hP, hK.at hS hU hW⟩⟩ rfl (by rw [List.length_map]) hl.1 rfl (lv_room (cats_le hr)) hd ⟨hcc, hsl⟩) hS (fun q _ h => hAD q h) hAD (fun u t H1 locs1 ht hvm hp hB hz1 hk1 hS1 => ?_)
  unfold WQ at hB
  rw [ht] at hB
  exact k u hp F H1 locs1 ls hB hS1 hl
theorem G.callSI {md2 : MD} {idx : Nat} {as rest S0 : List AV} {P : Int → St → Prop} (hd : decode (mdC md) pc = .ok (.invokestatic idx, 3)) (hS0 : S0 = as.reverse ++ rest) (hw : slk (mdO md) idx md2 as.length) (hf1 : mdF md2 + 1 ≤ mdF md) (hr : rest.length ≤ 8)
    (hM : CI md2 as σ P) (k : ∀ (z : Int) (σ' : St), inI z → P z σ' → G md X (pc + 3) L (vi z :: rest) σ') : G md X pc L S0 σ := by
  subst hS0
  obtain ⟨⟨l, p, e, R, s, m', args, below, meth, c⟩, ⟨D, cA, ad, A⟩, ⟨kc, n', Q⟩⟩ := X
  intro F H locs ls hP hS hl
  obtain ⟨hx, hb, hml, hr', hown, hts, hlk, hff, hlo, hcc, hsl, hK⟩ := id F
  have hAD : ∀ q, AD ad q → A q := fun q ⟨o, ho, e⟩ => e ▸ hK.2.2.1 o ho
  rw [show (as.reverse ++ rest).map (cv ad) = (as.map (cv ad)).reverse ++ rest.map (cv ad) by simp]
  refine va_calli (va_runS (As := as.map (cv ad)) (rest := rest.map (cv ad)) ⟨hx, hb, hml, hown, hts⟩ (hM l D cA ad) (cwSm hts hw hf1 hff hlo) ⟨PC_blind, fun U hU hW => ⟨rfl, by rw [hU]; exact hP, hK.at hS hU hW⟩⟩ rfl (by rw [List.length_map]) hl.1 rfl (lv_room (cats_le hr)) hd ⟨hcc, hsl⟩) hS (fun q _ h => hAD q h) hAD (fun r u t H1 locs1 ht hvm hp hB hz1 hk1 hS1 => ?_)
  obtain ⟨z, rfl, hz, hpz⟩ := hp
  unfold WQ at hB
  rw [ht] at hB
  exact k z u hz hpz F H1 locs1 ls hB hS1 hl
theorem G.callSV {md2 : MD} {idx : Nat} {as rest S0 : List AV} {P : St → Prop} (hd : decode (mdC md) pc = .ok (.invokestatic idx, 3)) (hS0 : S0 = as.reverse ++ rest) (hw : slk (mdO md) idx md2 as.length) (hf1 : mdF md2 + 1 ≤ mdF md) (hr : rest.length ≤ 8)
    (hM : CV md2 as σ P) (k : ∀ (σ' : St), P σ' → G md X (pc + 3) L rest σ') : G md X pc L S0 σ := by
  subst hS0
  obtain ⟨⟨l, p, e, R, s, m', args, below, meth, c⟩, ⟨D, cA, ad, A⟩, ⟨kc, n', Q⟩⟩ := X
  intro F H locs ls hP hS hl
  obtain ⟨hx, hb, hml, hr', hown, hts, hlk, hff, hlo, hcc, hsl, hK⟩ := id F
  have hAD : ∀ q, AD ad q → A q := fun q ⟨o, ho, e⟩ => e ▸ hK.2.2.1 o ho
  rw [show (as.reverse ++ rest).map (cv ad) = (as.map (cv ad)).reverse ++ rest.map (cv ad) by simp]
  refine va_callv (va_runS (As := as.map (cv ad)) (rest := rest.map (cv ad)) ⟨hx, hb, hml, hown, hts⟩ (hM l D cA ad) (cwSm hts hw hf1 hff hlo) ⟨PC_blind, fun U hU hW => ⟨rfl, by rw [hU]; exact hP, hK.at hS hU hW⟩⟩ rfl (by rw [List.length_map]) hl.1 rfl (lv_room (cats_le hr)) hd ⟨hcc, hsl⟩) hS (fun q _ h => hAD q h) hAD (fun u t H1 locs1 ht hvm hp hB hz1 hk1 hS1 => ?_)
  unfold WQ at hB
  rw [ht] at hB
  exact k u hp F H1 locs1 ls hB hS1 hl
theorem G.acopy {i0 idx o1 n1 o2 n2 : Nat} {sp dp n : Int} (hd : decode (mdC md) pc = .ok (.invokestatic idx, 3)) (hw : lw_tbl[i0]? = some (.methodLink (mdO md) idx arraycopyName)) (hf1 : 1 ≤ mdF md) (h1 : shp o1 = (1, n1, [])) (h2 : shp o2 = (1, n2, [])) (hsp : 0 ≤ sp) (hdp : 0 ≤ dp) (hn : 0 ≤ n) (hs1 : sp + n ≤ n1) (hs2 : dp + n ≤ n2) (hr : S.length ≤ 8)
    (k : G md X (pc + 3) L S (cp σ o1 sp o2 dp n)) : G md X pc L (vi n :: vi dp :: vr o2 :: vi sp :: vr o1 :: S) σ := by
  obtain ⟨⟨l, p, e, R, s, m', args, below, meth, c⟩, ⟨D, cA, ad, A⟩, ⟨kc, n', Q⟩⟩ := X
  intro F H locs ls hP hS hl
  obtain ⟨hx, hb, hml, hr', hown, hts, hlk, hff, hlo, hcc, hsl, hK⟩ := id F
  obtain ⟨a1, a2, a3⟩ := sh_arr (ad := ad) (cA := cA) (σ := σ) h1 (by decide)
  obtain ⟨b1, b2, b3⟩ := sh_arr (ad := ad) (cA := cA) (σ := σ) h2 (by decide)
  have e1 := oi_cl hsp (by omega)
  have e2 := oi_cl hdp (by omega)
  have e3 := oi_cl hn (by omega)
  have nn : ∀ z : Int, 0 ≤ z → z < 2147483648 → ¬ Int32.ofInt z < 0 := fun z h h' q => by
    rw [oi_0, oi_lt ⟨by omega, h'⟩ inI_0] at q
    omega
  have h8 := cats_le (ad := ad) hr
  have h9 : nativeFrameWords "java/lang/System" "arraycopy" 5 ≤ 16 := by decide +kernel
  refine va_copyi hx hb (hml.trans hl.1.symm) hown (hts _ (gw_at hw rfl)) (hts (.native arraycopyName) (gw_at (i := 346) (by decide +kernel) rfl)) (hts (.static arraycopyName) (gw_at (i := 345) (by decide +kernel) rfl)) (hts (.initialized "java/lang/System") (gw_at (i := 76) (by decide +kernel) rfl)) hK.1 hP (wl_D hK) hS o1 o2 0 0 a3 b3 rfl rfl rfl (nn _ hsp (by omega)) (nn _ hdp (by omega)) (nn _ hn (by omega)) (by rw [e1, e3]; show _ ≤ n1; omega) (by rw [e2, e3]; show _ ≤ n2; omega) (fun i hi => rfl) (by omega) (by omega) hd (fun H1 locs1 hP1 hD1 hS1 => ?_)
  rw [wl_set (cp_ne σ o1 sp o2 dp n) (by
    rw [h2]
    show _ = Sum.inl (cA 0, n2, Sum.inl _)
    congr 4
    rw [e1, e2, e3]
    funext j
    unfold va_cpy cp
    by_cases hj : dp.toNat ≤ j ∧ j < dp.toNat + n.toNat
    · rw [if_pos hj, if_pos ⟨rfl, by omega, by omega⟩]
      have e4 : ((sp.toNat + (j - dp.toNat) : Nat) : Int) = (j : Int) - dp + sp := by omega
      rw [← e4]
    · rw [if_neg hj, if_neg (by omega)])] at hP1
  exact k F H1 locs1 ls hP1 hS1 hl
end CALLS
section MORE
variable {md : MD} {X : CT} {pc : Nat} {L : List (Nat × AV)} {S : List AV} {σ : St}
theorem G.iand1 {x : Int} (hd : decode (mdC md) pc = .ok (.iand, 1)) (k : G md X (pc + 1) L (vi (x % 2) :: S) σ) : G md X pc L (vi 1 :: vi x :: S) σ := G.iandm 1 (by decide) (by decide) hd k
theorem G.iand3 {x : Int} (hd : decode (mdC md) pc = .ok (.iand, 1)) (k : G md X (pc + 1) L (vi (x % 4) :: S) σ) : G md X pc L (vi 3 :: vi x :: S) σ := G.iandm 2 (by decide) (by decide) hd k
theorem G.iand31 {x : Int} (hd : decode (mdC md) pc = .ok (.iand, 1)) (k : G md X (pc + 1) L (vi (x % 32) :: S) σ) : G md X pc L (vi 31 :: vi x :: S) σ := G.iandm 5 (by decide) (by decide) hd k
theorem G.ishr1 {x : Int} (hd : decode (mdC md) pc = .ok (.ishr, 1)) (hx : 0 ≤ x ∧ x < 2147483648) (k : G md X (pc + 1) L (vi (x / 2) :: S) σ) : G md X pc L (vi 1 :: vi x :: S) σ := G.ishr hd hx ⟨by decide, by decide⟩ k
theorem G.i2f {x : Int} (hd : decode (mdC md) pc = .ok (.i2f, 1)) (k : G md X (pc + 1) L (vf (FP.i2f (Int32.ofInt x)) :: S) σ) : G md X pc L (vi x :: S) σ := by
  obtain ⟨⟨l, p, e, R, s, m', args, below, meth, c⟩, ⟨D, cA, ad, A⟩, ⟨kc, n', Q⟩⟩ := X
  intro F H locs ls hP hS hl
  exact lv_i2f F.1 F.2.1 hd (k F H locs ls hP hS hl)
theorem G.f2i {x : UInt32} (hd : decode (mdC md) pc = .ok (.f2i, 1)) (k : G md X (pc + 1) L (vi (FP.f2i x).toInt :: S) σ) : G md X pc L (vf x :: S) σ := by
  obtain ⟨⟨l, p, e, R, s, m', args, below, meth, c⟩, ⟨D, cA, ad, A⟩, ⟨kc, n', Q⟩⟩ := X
  intro F H locs ls hP hS hl
  refine lv_f2i F.1 F.2.1 hd ?_
  rw [← oi_as (FP.f2i x)]
  exact k F H locs ls hP hS hl
theorem G.fmul {x y : UInt32} (hd : decode (mdC md) pc = .ok (.fmul, 1)) (hn : vf_n32 (FP.fmul x y)) (k : G md X (pc + 1) L (vf (FP.fmul x y) :: S) σ) : G md X pc L (vf y :: vf x :: S) σ := by
  obtain ⟨⟨l, p, e, R, s, m', args, below, meth, c⟩, ⟨D, cA, ad, A⟩, ⟨kc, n', Q⟩⟩ := X
  intro F H locs ls hP hS hl
  exact lv_fmul F.1 F.2.1 hd hn (k F H locs ls hP hS hl)
theorem G.fadd {x y : UInt32} (hd : decode (mdC md) pc = .ok (.fadd, 1)) (hn : vf_n32 (FP.fadd x y)) (k : G md X (pc + 1) L (vf (FP.fadd x y) :: S) σ) : G md X pc L (vf y :: vf x :: S) σ := by
  obtain ⟨⟨l, p, e, R, s, m', args, below, meth, c⟩, ⟨D, cA, ad, A⟩, ⟨kc, n', Q⟩⟩ := X
  intro F H locs ls hP hS hl
  exact lv_fadd F.1 F.2.1 hd hn (k F H locs ls hP hS hl)
theorem G.ldcw {index i : Nat} {v : Int32} {n : Int} (hd : decode (mdC md) pc = .ok (.ldc_w index, 3)) (hw : lw_tbl[i]? = some (.constant (mdO md) index v)) (hn : v = Int32.ofInt n) (k : G md X (pc + 3) L (vi n :: S) σ) : G md X pc L S σ := by
  obtain ⟨⟨l, p, e, R, s, m, args, below, meth, c⟩, ⟨D, cA, ad, A⟩, ⟨kc, n', Q⟩⟩ := X
  intro F H locs ls hP hS hl
  obtain ⟨hx, hb, hml, hr, hown, hts, hlk, hf, hlo, hc, hsl, hK⟩ := id F
  subst hn
  exact lv_ldcw hx hb hown (hts _ (gw_at hw rfl)) hd (k F H locs ls hP hS hl)
theorem st_0 : isSt 0 := ⟨by decide, by decide⟩
theorem st_6 : isSt 6 := ⟨by decide, by decide⟩
theorem st_im {i : Int} (h : 0 ≤ i ∧ i < 2) : isSt (6 * i.toNat + 12) := ⟨by omega, by omega⟩
theorem st_pa {i : Int} (h : 0 ≤ i ∧ i < 6) : isSt (6 * i.toNat + 24) := ⟨by omega, by omega⟩
theorem bk_71 : isBk 71 := Or.inl rfl
theorem bk_76 : isBk 76 := Or.inr rfl
theorem mx_85 : isMx 85 := Or.inr (Or.inr (Or.inl rfl))
theorem mx_86 : isMx 86 := Or.inr (Or.inr (Or.inr rfl))
theorem G.callSNI {md2 : MD} {idx : Nat} {host : String} {as rest S0 : List AV} {P : Int → St → Prop} (hd : decode (mdC md) pc = .ok (.invokestatic idx, 3)) (hS0 : S0 = as.reverse ++ rest) (hw0 : ∀ s, NW s → va_Nw (.methodLinkNest (mdO md) idx (mdY md2) host) s) (hw1 : Cond.static (mdY md2) ∈ GW) (hw : okM md2 as.length) (hf1 : mdF md2 + 1 ≤ mdF md) (hr : rest.length ≤ 8)
    (hM : CI md2 as σ P) (k : ∀ (z : Int) (σ' : St), inI z → P z σ' → G md X (pc + 3) L (vi z :: rest) σ') : G md X pc L S0 σ := by
  subst hS0
  obtain ⟨⟨l, p, e, R, s, m', args, below, meth, c⟩, ⟨D, cA, ad, A⟩, ⟨kc, n', Q⟩⟩ := X
  intro F H locs ls hP hS hl
  obtain ⟨hx, hb, hml, hr', hown, hts, hlk, hff, hlo, hcc, hsl, hK⟩ := id F
  have hAD : ∀ q, AD ad q → A q := fun q ⟨o, ho, e⟩ => e ▸ hK.2.2.1 o ho
  rw [show (as.reverse ++ rest).map (cv ad) = (as.map (cv ad)).reverse ++ rest.map (cv ad) by simp]
  obtain ⟨w4, w5, w6, w7, w8, w9⟩ := hw
  have hcb : va_CN R s args (mdO md) idx (mdY md2) host (mdC md2) (mdN md2) (mdR md2) (wsM md2) (rmM md2) 0 0 as.length := by
    refine ⟨⟨rfl, rfl, by show mdF md2 + 1 ≤ R.frames; omega, by show 8 + (mdN md2 + 11) + 36 * mdF md2 ≤ R.locals; omega, pay_in hts (gw_goodIn (fun w h => ?_)), List.mem_cons_self⟩, hts _ w5, hts _ w4, ⟨w6, w7⟩, fun sig h => ?_, va_Nw.use rfl (hw0 s hK.2.2.2.2.2.2.2)⟩
    · unfold wsM at h
      rcases List.mem_cons.mp h with rfl | h
      · exact w5
      · exact h
    · rw [h] at w8
      exact (Option.some.inj w8).symm
  refine va_calli (va_runSN (As := as.map (cv ad)) (rest := rest.map (cv ad)) ⟨hx, hb, hml, hown, hts⟩ (hM l D cA ad) ⟨hcb, hts _ hw1, trivial⟩ ⟨PC_blind, fun U hU hW => ⟨rfl, by rw [hU]; exact hP, hK.at hS hU hW⟩⟩ rfl (by rw [List.length_map]) hl.1 rfl (lv_room (cats_le hr)) hd ⟨hcc, hsl⟩) hS (fun q _ h => hAD q h) hAD (fun r u t H1 locs1 ht hvm hp hB hz1 hk1 hS1 => ?_)
  obtain ⟨z, rfl, hz, hpz⟩ := hp
  unfold WQ at hB
  rw [ht] at hB
  exact k z u hz hpz F H1 locs1 ls hB hS1 hl
end MORE
end
section
/-! method frames and links -/
theorem sh60 : shp 60 = (0, 8, [(2, 0), (2, 6), (2, 61), (2, 62), (2, 63), (2, 65), (2, 68), (2, 71), (2, 76), (2, 81), (2, 84), (2, 85), (2, 86)]) := rfl
theorem sh61 : shp 61 = (4, 2, [(12, 0)]) := rfl
theorem sh62 : shp 62 = (2, 2, []) := rfl
theorem sh63 : shp 63 = (0, 2, [(2, 64), (0, 0), (0, 0)]) := rfl
theorem sh64 : shp 64 = (4, 6, [(24, 0)]) := rfl
theorem sh65 : shp 65 = (0, 7, [(2, 66), (2, 67), (0, 0), (0, 0), (0, 0), (0, 0), (5, 0)]) := rfl
theorem sh66 : shp 66 = (1, 160, []) := rfl
theorem sh67 : shp 67 = (1, 5, []) := rfl
theorem sh68 : shp 68 = (0, 4, [(2, 69), (2, 70), (0, 0)]) := rfl
theorem sh69 : shp 69 = (1, 6, []) := rfl
theorem sh70 : shp 70 = (1, 6, []) := rfl
theorem sh71 : shp 71 = (0, 1, [(2, 72), (2, 73), (2, 74), (2, 75)]) := rfl
theorem sh72 : shp 72 = (1, 32, []) := rfl
theorem sh73 : shp 73 = (1, 16, []) := rfl
theorem sh74 : shp 74 = (1, 97, []) := rfl
theorem sh75 : shp 75 = (0, 3, [(0, 0), (0, 0), (0, 0), (0, 0)]) := rfl
theorem sh76 : shp 76 = (0, 1, [(2, 77), (2, 78), (2, 79), (2, 80)]) := rfl
theorem sh77 : shp 77 = (1, 32, []) := rfl
theorem sh78 : shp 78 = (1, 16, []) := rfl
theorem sh79 : shp 79 = (1, 97, []) := rfl
theorem sh80 : shp 80 = (0, 3, [(0, 0), (0, 0), (0, 0), (0, 0)]) := rfl
theorem sh81 : shp 81 = (0, 0, [(2, 82), (2, 83), (0, 0)]) := rfl
theorem sh82 : shp 82 = (1, 4, []) := rfl
theorem sh83 : shp 83 = (1, 4, []) := rfl
theorem sh84 : shp 84 = (1, 5, []) := rfl
theorem sh85 : shp 85 = (0, 3, [(0, 0), (0, 0), (0, 0), (0, 0)]) := rfl
theorem sh86 : shp 86 = (0, 3, [(0, 0), (0, 0), (0, 0), (0, 0)]) := rfl
theorem sh87 : shp 87 = (0, 9, [(2, 88), (1, 0), (2, 89), (2, 90), (0, 0), (2, 91), (2, 92), (2, 93), (2, 94), (0, 0), (2, 95), (0, 0), (0, 0), (0, 0), (0, 0), (0, 0), (5, 0), (2, 96), (2, 97), (0, 0), (0, 0), (2, 98), (2, 99), (2, 100), (0, 0), (2, 101), (2, 102), (0, 0), (2, 103), (2, 104)]) := rfl
theorem sh88 : shp 88 = (1, 86, []) := rfl
theorem sh89 : shp 89 = (1, 516, []) := rfl
theorem sh90 : shp 90 = (3, 6, []) := rfl
theorem sh91 : shp 91 = (1, 172, []) := rfl
theorem sh92 : shp 92 = (3, 2, []) := rfl
theorem sh93 : shp 93 = (2, 2, []) := rfl
theorem sh94 : shp 94 = (1, 160, []) := rfl
theorem sh95 : shp 95 = (1, 86, []) := rfl
theorem sh96 : shp 96 = (1, 32, []) := rfl
theorem sh97 : shp 97 = (1, 32, []) := rfl
theorem sh98 : shp 98 = (1, 4, []) := rfl
theorem sh99 : shp 99 = (1, 4, []) := rfl
theorem sh100 : shp 100 = (1, 4, []) := rfl
theorem sh101 : shp 101 = (1, 20, []) := rfl
theorem sh102 : shp 102 = (1, 32, []) := rfl
theorem sh103 : shp 103 = (1, 6, []) := rfl
theorem sh104 : shp 104 = (1, 6, []) := rfl
abbrev mdX10_init : MD := (yX10_init, RX10, cX10_init, 2, none, 4)
abbrev mdX10_type : MD := (yX10_type, RX10, cX10_type, 2, (some .int), 1)
abbrev mdX10_clear : MD := (yX10_clear, RX10, cX10_clear, 2, (some .int), 0)
abbrev mdX10_block : MD := (yX10_block, RX10, cX10_block, 2, (some .int), 6)
abbrev mdX10_sends : MD := (yX10_sends, RX10, cX10_sends, 5, (some .int), 4)
abbrev mdX10_marks : MD := (yX10_marks, RX10, cX10_marks, 3, (some .int), 4)
abbrev mdX10_adds : MD := (yX10_adds, RX10, cX10_adds, 6, (some .int), 5)
abbrev mdX10_cuts : MD := (yX10_cuts, RX10, cX10_cuts, 2, (some .int), 4)
abbrev mdX10_stages : MD := (yX10_stages, RX10, cX10_stages, 6, (some .int), 5)
abbrev mdX10_drops : MD := (yX10_drops, RX10, cX10_drops, 3, (some .int), 4)
abbrev mdX10_learns : MD := (yX10_learns, RX10, cX10_learns, 3, (some .int), 6)
abbrev mdX10_orders : MD := (yX10_orders, RX10, cX10_orders, 2, (some .int), 7)
abbrev mdX10_hears : MD := (yX10_hears, RX10, cX10_hears, 2, (some .int), 6)
abbrev mdX10_undo : MD := (yX10_undo, RX10, cX10_undo, 1, (some .int), 4)
abbrev mdX10_at : MD := (yX10_at, RX10, cX10_at, 6, (some .int), 5)
abbrev mdX10_deed : MD := (yX10_deed, RX10, cX10_deed, 3, (some .int), 1)
abbrev mdX10_stage : MD := (yX10_stage, RX10, cX10_stage, 3, (some .int), 1)
abbrev mdX10_wrong : MD := (yX10_wrong, RX10, cX10_wrong, 2, (some .int), 6)
abbrev mdX10_loss : MD := (yX10_loss, RX10, cX10_loss, 1, (some .int), 0)
abbrev mdX10_taps : MD := (yX10_taps, RX10, cX10_taps, 4, (some .int), 6)
abbrev mdX10_skew : MD := (yX10_skew, RX10, cX10_skew, 5, (some .int), 5)
abbrev mdX10_spreads : MD := (yX10_spreads, RX10, cX10_spreads, 5, (some .int), 5)
abbrev mdX10_order : MD := (yX10_order, RX10, cX10_order, 3, (some .int), 7)
abbrev mdX10_lag : MD := (yX10_lag, RX10, cX10_lag, 3, (some .int), 1)
abbrev mdX10_sees : MD := (yX10_sees, RX10, cX10_sees, 4, (some .int), 2)
abbrev mdX10_forget : MD := (yX10_forget, RX10, cX10_forget, 2, (some .int), 0)
abbrev mdX10_fits : MD := (yX10_fits, RX10, cX10_fits, 6, (some .int), 5)
abbrev mdX10_odds : MD := (yX10_odds, RX10, cX10_odds, 8, (some .int), 2)
abbrev mdX10_keep : MD := (yX10_keep, RX10, cX10_keep, 2, (some .int), 3)
abbrev mdX10_back : MD := (yX10_back, RX10, cX10_back, 2, (some .int), 3)
abbrev mdX10_count : MD := (yX10_count, RX10, cX10_count, 2, (some .int), 6)
abbrev mdX10_isPlace : MD := (yX10_isPlace, RX10, cX10_isPlace, 1, (some .boolean), 0)
abbrev mdX10_isSpot : MD := (yX10_isSpot, RX10, cX10_isSpot, 2, (some .boolean), 1)
abbrev mdX10_isSymbol : MD := (yX10_isSymbol, RX10, cX10_isSymbol, 1, (some .boolean), 0)
abbrev mdX10_isPair : MD := (yX10_isPair, RX10, cX10_isPair, 2, (some .boolean), 1)
abbrev mdX10_putStep : MD := (yX10_putStep, RX10, cX10_putStep, 6, none, 0)
abbrev mdX10_appendStep : MD := (yX10_appendStep, RX10, cX10_appendStep, 2, (some .int), 4)
abbrev mdX10_errorsAfter : MD := (yX10_errorsAfter, RX10, cX10_errorsAfter, 2, (some .int), 5)
abbrev mdX10_unspreadFits : MD := (yX10_unspreadFits, RX10, cX10_unspreadFits, 2, (some .boolean), 3)
abbrev mdX10_slipFits : MD := (yX10_slipFits, RX10, cX10_slipFits, 4, (some .boolean), 4)
abbrev mdX10_findTaps : MD := (yX10_findTaps, RX10, cX10_findTaps, 5, (some .boolean), 5)
abbrev mdX10_findBestOrder : MD := (yX10_findBestOrder, RX10, cX10_findBestOrder, 4, (some .int), 6)
abbrev mdX10_errorsInOrder : MD := (yX10_errorsInOrder, RX10, cX10_errorsInOrder, 3, (some .int), 5)
abbrev mdX11_init : MD := (yX11_init, RX11, cX11_init, 1, none, 1)
abbrev mdX11_in : MD := (yX11_in, RX11, cX11_in, 3, (some .boolean), 0)
abbrev mdX11_has : MD := (yX11_has, RX11, cX11_has, 2, (some .boolean), 0)
abbrev mdX11_left : MD := (yX11_left, RX11, cX11_left, 1, (some .int), 0)
abbrev mdX11_power : MD := (yX11_power, RX11, cX11_power, 4, (some .int), 0)
abbrev mdX11_inverse : MD := (yX11_inverse, RX11, cX11_inverse, 1, (some .int), 1)
abbrev mdX11_light : MD := (yX11_light, RX11, cX11_light, 1, (some .int), 0)
abbrev mdX11_decided : MD := (yX11_decided, RX11, cX11_decided, 7, (some .int), 1)
abbrev mdX11_note : MD := (yX11_note, RX11, cX11_note, 2, none, 0)
abbrev mdX11_undo : MD := (yX11_undo, RX11, cX11_undo, 2, (some .int), 0)
abbrev mdX11_mayBe : MD := (yX11_mayBe, RX11, cX11_mayBe, 6, (some .boolean), 1)
abbrev mdX11_isDeed : MD := (yX11_isDeed, RX11, cX11_isDeed, 5, (some .boolean), 2)
abbrev mdX11_isStage : MD := (yX11_isStage, RX11, cX11_isStage, 5, (some .boolean), 3)
abbrev mdX11_type : MD := (yX11_type, RX11, cX11_type, 2, (some .int), 1)
abbrev mdX11_clear : MD := (yX11_clear, RX11, cX11_clear, 2, (some .int), 0)
abbrev mdX11_next : MD := (yX11_next, RX11, cX11_next, 2, none, 1)
abbrev mdX11_must : MD := (yX11_must, RX11, cX11_must, 2, none, 2)
abbrev mdX11_readRow : MD := (yX11_readRow, RX11, cX11_readRow, 3, none, 3)
abbrev mdX11_readMarks : MD := (yX11_readMarks, RX11, cX11_readMarks, 1, none, 3)
abbrev mdX11_readDeed : MD := (yX11_readDeed, RX11, cX11_readDeed, 3, none, 3)
abbrev mdX11_readItem : MD := (yX11_readItem, RX11, cX11_readItem, 3, none, 4)
abbrev mdX11_block : MD := (yX11_block, RX11, cX11_block, 3, (some .int), 5)
abbrev mdX11_sends : MD := (yX11_sends, RX11, cX11_sends, 5, (some .int), 1)
abbrev mdX11_marksMany : MD := (yX11_marksMany, RX11, cX11_marksMany, 3, (some .int), 0)
abbrev mdX11_marks : MD := (yX11_marks, RX11, cX11_marks, 3, (some .int), 1)
abbrev mdX11_lay : MD := (yX11_lay, RX11, cX11_lay, 7, none, 0)
abbrev mdX11_adds : MD := (yX11_adds, RX11, cX11_adds, 6, (some .int), 3)
abbrev mdX11_cuts : MD := (yX11_cuts, RX11, cX11_cuts, 1, (some .int), 1)
abbrev mdX11_takeMade : MD := (yX11_takeMade, RX11, cX11_takeMade, 2, none, 0)
abbrev mdX11_spread : MD := (yX11_spread, RX11, cX11_spread, 4, none, 1)
abbrev mdX11_unspread : MD := (yX11_unspread, RX11, cX11_unspread, 8, none, 2)
abbrev mdX11_twist : MD := (yX11_twist, RX11, cX11_twist, 8, none, 0)
abbrev mdX11_untwist : MD := (yX11_untwist, RX11, cX11_untwist, 6, none, 2)
abbrev mdX11_slip : MD := (yX11_slip, RX11, cX11_slip, 4, none, 1)
abbrev mdX11_late : MD := (yX11_late, RX11, cX11_late, 3, none, 1)
abbrev mdX11_isLight : MD := (yX11_isLight, RX11, cX11_isLight, 1, (some .boolean), 0)
abbrev mdX11_blind : MD := (yX11_blind, RX11, cX11_blind, 6, none, 1)
abbrev mdX11_mend : MD := (yX11_mend, RX11, cX11_mend, 6, none, 2)
abbrev mdX11_mendFrom : MD := (yX11_mendFrom, RX11, cX11_mendFrom, 5, none, 1)
abbrev mdX11_doDeed : MD := (yX11_doDeed, RX11, cX11_doDeed, 4, none, 2)
abbrev mdX11_doStage : MD := (yX11_doStage, RX11, cX11_doStage, 2, none, 3)
abbrev mdX11_layAir : MD := (yX11_layAir, RX11, cX11_layAir, 2, none, 3)
abbrev mdX11_goThrough : MD := (yX11_goThrough, RX11, cX11_goThrough, 3, none, 4)
abbrev mdX11_layReceived : MD := (yX11_layReceived, RX11, cX11_layReceived, 1, none, 5)
abbrev mdX11_wrongNow : MD := (yX11_wrongNow, RX11, cX11_wrongNow, 3, (some .int), 2)
abbrev mdX11_wrongAtMarks : MD := (yX11_wrongAtMarks, RX11, cX11_wrongAtMarks, 3, (some .int), 2)
abbrev mdX11_wrongReceived : MD := (yX11_wrongReceived, RX11, cX11_wrongReceived, 1, (some .int), 6)
abbrev mdX11_stages : MD := (yX11_stages, RX11, cX11_stages, 6, (some .int), 4)
abbrev mdX11_drops : MD := (yX11_drops, RX11, cX11_drops, 3, (some .int), 1)
abbrev mdX11_findTaps : MD := (yX11_findTaps, RX11, cX11_findTaps, 7, (some .boolean), 2)
abbrev mdX11_areTaps : MD := (yX11_areTaps, RX11, cX11_areTaps, 4, (some .boolean), 6)
abbrev mdX11_arePlaces : MD := (yX11_arePlaces, RX11, cX11_arePlaces, 2, (some .boolean), 1)
abbrev mdX11_learns : MD := (yX11_learns, RX11, cX11_learns, 4, (some .int), 7)
abbrev mdX11_taps : MD := (yX11_taps, RX11, cX11_taps, 4, (some .int), 7)
abbrev mdX11_turnsOn : MD := (yX11_turnsOn, RX11, cX11_turnsOn, 6, (some .boolean), 1)
abbrev mdX11_swap : MD := (yX11_swap, RX11, cX11_swap, 4, none, 0)
abbrev mdX11_findOrder : MD := (yX11_findOrder, RX11, cX11_findOrder, 5, none, 4)
abbrev mdX11_order : MD := (yX11_order, RX11, cX11_order, 2, (some .int), 5)
abbrev mdX11_orders : MD := (yX11_orders, RX11, cX11_orders, 3, (some .int), 5)
abbrev mdX11_hears : MD := (yX11_hears, RX11, cX11_hears, 2, (some .int), 7)
abbrev mdX11_at : MD := (yX11_at, RX11, cX11_at, 5, (some .int), 5)
abbrev mdX11_deed : MD := (yX11_deed, RX11, cX11_deed, 3, (some .int), 1)
abbrev mdX11_stage : MD := (yX11_stage, RX11, cX11_stage, 3, (some .int), 1)
abbrev mdX11_wrong : MD := (yX11_wrong, RX11, cX11_wrong, 2, (some .int), 5)
abbrev mdX11_loss : MD := (yX11_loss, RX11, cX11_loss, 1, (some .int), 0)
abbrev mdX11_keepReceived : MD := (yX11_keepReceived, RX11, cX11_keepReceived, 2, none, 6)
abbrev mdX11_layKept : MD := (yX11_layKept, RX11, cX11_layKept, 2, none, 0)
abbrev mdX11_skew : MD := (yX11_skew, RX11, cX11_skew, 5, (some .int), 7)
abbrev mdX11_spreads : MD := (yX11_spreads, RX11, cX11_spreads, 5, (some .int), 7)
abbrev mdX11_lag : MD := (yX11_lag, RX11, cX11_lag, 3, (some .int), 1)
abbrev mdX11_sees : MD := (yX11_sees, RX11, cX11_sees, 4, (some .int), 1)
abbrev mdX11_forget : MD := (yX11_forget, RX11, cX11_forget, 2, (some .int), 0)
abbrev mdX11_isSeenBy : MD := (yX11_isSeenBy, RX11, cX11_isSeenBy, 5, (some .boolean), 5)
abbrev mdX11_fits : MD := (yX11_fits, RX11, cX11_fits, 6, (some .int), 6)
abbrev mdX11_odds : MD := (yX11_odds, RX11, cX11_odds, 11, (some .int), 1)
abbrev mdX11_keep : MD := (yX11_keep, RX11, cX11_keep, 3, (some .int), 1)
abbrev mdX11_back : MD := (yX11_back, RX11, cX11_back, 3, (some .int), 1)
abbrev mdX11_count : MD := (yX11_count, RX11, cX11_count, 2, (some .int), 7)
abbrev mdX0_init : MD := (yX0_init, RX0, cX0_init, 1, none, 1)
abbrev mdX0_start : MD := (yX0_start, RX0, cX0_start, 3, none, 1)
abbrev mdX0_keepCurrent : MD := (yX0_keepCurrent, RX0, cX0_keepCurrent, 1, none, 1)
abbrev mdX0_bestIsPresent : MD := (yX0_bestIsPresent, RX0, cX0_bestIsPresent, 2, (some .boolean), 0)
abbrev mdX0_moveOn : MD := (yX0_moveOn, RX0, cX0_moveOn, 5, (some .boolean), 1)
abbrev mdX0_swap : MD := (yX0_swap, RX0, cX0_swap, 4, none, 0)
abbrev mdX1_init : MD := (yX1_init, RX1, cX1_init, 1, none, 2)
abbrev mdX1_takeFrom : MD := (yX1_takeFrom, RX1, cX1_takeFrom, 2, none, 1)
abbrev mdX1_receive : MD := (yX1_receive, RX1, cX1_receive, 4, none, 4)
abbrev mdX1_shine : MD := (yX1_shine, RX1, cX1_shine, 3, none, 1)
abbrev mdX1_passDeed : MD := (yX1_passDeed, RX1, cX1_passDeed, 6, none, 3)
abbrev mdX1_passStage : MD := (yX1_passStage, RX1, cX1_passStage, 5, none, 3)
abbrev mdX1_spread : MD := (yX1_spread, RX1, cX1_spread, 6, none, 0)
abbrev mdX1_unspread : MD := (yX1_unspread, RX1, cX1_unspread, 8, none, 2)
abbrev mdX1_twist : MD := (yX1_twist, RX1, cX1_twist, 4, none, 0)
abbrev mdX1_slip : MD := (yX1_slip, RX1, cX1_slip, 4, none, 2)
abbrev mdX1_turn : MD := (yX1_turn, RX1, cX1_turn, 3, none, 1)
abbrev mdX1_late : MD := (yX1_late, RX1, cX1_late, 3, none, 1)
abbrev mdX1_hit : MD := (yX1_hit, RX1, cX1_hit, 3, none, 0)
abbrev mdX1_multiply : MD := (yX1_multiply, RX1, cX1_multiply, 3, none, 0)
abbrev mdX1_brightestFactor : MD := (yX1_brightestFactor, RX1, cX1_brightestFactor, 4, (some .int), 2)
abbrev mdX1_mend : MD := (yX1_mend, RX1, cX1_mend, 6, none, 2)
abbrev mdX1_bestTurn : MD := (yX1_bestTurn, RX1, cX1_bestTurn, 9, (some .int), 1)
abbrev mdX1_errors : MD := (yX1_errors, RX1, cX1_errors, 4, (some .int), 1)
abbrev mdX1_errorsAtMarks : MD := (yX1_errorsAtMarks, RX1, cX1_errorsAtMarks, 4, (some .int), 1)
abbrev mdX2_light : MD := (yX2_light, RX2, cX2_light, 1, (some .int), 0)
abbrev mdX2_decided : MD := (yX2_decided, RX2, cX2_decided, 1, (some .int), 0)
abbrev mdX2_turned : MD := (yX2_turned, RX2, cX2_turned, 2, (some .int), 0)
abbrev mdX2_power : MD := (yX2_power, RX2, cX2_power, 5, (some .int), 0)
abbrev mdX2_inverse : MD := (yX2_inverse, RX2, cX2_inverse, 1, (some .int), 1)
abbrev mdX3_init : MD := (yX3_init, RX3, cX3_init, 2, none, 3)
abbrev mdX3_remember : MD := (yX3_remember, RX3, cX3_remember, 2, none, 3)
abbrev mdX3_restore : MD := (yX3_restore, RX3, cX3_restore, 2, none, 3)
abbrev mdX4_init : MD := (yX4_init, RX4, cX4_init, 1, none, 1)
abbrev mdX4_put : MD := (yX4_put, RX4, cX4_put, 5, none, 1)
abbrev mdX4_entry : MD := (yX4_entry, RX4, cX4_entry, 2, (some .int), 0)
abbrev mdX4_determinant : MD := (yX4_determinant, RX4, cX4_determinant, 1, (some .int), 1)
abbrev mdX4_invert : MD := (yX4_invert, RX4, cX4_invert, 2, none, 2)
abbrev mdX4_multiplyFromLeft : MD := (yX4_multiplyFromLeft, RX4, cX4_multiplyFromLeft, 2, none, 2)
abbrev mdX5_power : MD := (yX5_power, RX5, cX5_power, 4, (some .int), 0)
abbrev mdX5_atMost : MD := (yX5_atMost, RX5, cX5_atMost, 6, (some .int), 1)
abbrev mdX5_commonDivisor : MD := (yX5_commonDivisor, RX5, cX5_commonDivisor, 2, (some .int), 1)
abbrev mdX5_sharedPower : MD := (yX5_sharedPower, RX5, cX5_sharedPower, 5, (some .int), 0)
abbrev mdX6_init : MD := (yX6_init, RX6, cX6_init, 1, none, 1)
abbrev mdX6_append : MD := (yX6_append, RX6, cX6_append, 3, (some .boolean), 0)
abbrev mdX6_areTrueOf : MD := (yX6_areTrueOf, RX6, cX6_areTrueOf, 3, (some .boolean), 1)
abbrev mdX7_init : MD := (yX7_init, RX7, cX7_init, 1, none, 2)
abbrev mdX7_tellNothing : MD := (yX7_tellNothing, RX7, cX7_tellNothing, 1, none, 1)
abbrev mdX7_emptyRow : MD := (yX7_emptyRow, RX7, cX7_emptyRow, 3, none, 0)
abbrev mdX7_isMarked : MD := (yX7_isMarked, RX7, cX7_isMarked, 2, (some .boolean), 0)
abbrev mdX7_mark : MD := (yX7_mark, RX7, cX7_mark, 4, none, 0)
abbrev mdX7_firstMarked : MD := (yX7_firstMarked, RX7, cX7_firstMarked, 2, (some .int), 1)
abbrev mdX7_takeFrom : MD := (yX7_takeFrom, RX7, cX7_takeFrom, 2, none, 2)
abbrev mdX8_init : MD := (yX8_init, RX8, cX8_init, 2, none, 1)
abbrev mdX8_isPossible : MD := (yX8_isPossible, RX8, cX8_isPossible, 3, (some .boolean), 2)
abbrev mdX8_allows : MD := (yX8_allows, RX8, cX8_allows, 6, (some .boolean), 1)
abbrev mdX8_isFull : MD := (yX8_isFull, RX8, cX8_isFull, 1, (some .boolean), 0)
abbrev mdX8_append : MD := (yX8_append, RX8, cX8_append, 2, none, 1)
abbrev mdX8_remove : MD := (yX8_remove, RX8, cX8_remove, 3, none, 0)
abbrev mdX8_arrange : MD := (yX8_arrange, RX8, cX8_arrange, 4, none, 1)
abbrev mdX8_numberOf : MD := (yX8_numberOf, RX8, cX8_numberOf, 3, (some .int), 0)
abbrev mdX8_takeFrom : MD := (yX8_takeFrom, RX8, cX8_takeFrom, 2, none, 1)
abbrev mdX9_init : MD := (yX9_init, RX9, cX9_init, 1, none, 1)
abbrev mdX9_append : MD := (yX9_append, RX9, cX9_append, 2, (some .boolean), 0)
abbrev mdX9_readInto : MD := (yX9_readInto, RX9, cX9_readInto, 5, (some .int), 5)
abbrev mdX9_endOfToken : MD := (yX9_endOfToken, RX9, cX9_endOfToken, 3, (some .int), 1)
abbrev mdX9_isDigit : MD := (yX9_isDigit, RX9, cX9_isDigit, 1, (some .boolean), 0)
abbrev mdX9_takesToken : MD := (yX9_takesToken, RX9, cX9_takesToken, 5, (some .boolean), 4)
abbrev mdX9_valueOf : MD := (yX9_valueOf, RX9, cX9_valueOf, 4, (some .int), 0)
abbrev mdX9_beginsItem : MD := (yX9_beginsItem, RX9, cX9_beginsItem, 3, (some .boolean), 1)
abbrev mdX9_takesNumber : MD := (yX9_takesNumber, RX9, cX9_takesNumber, 3, (some .boolean), 3)
abbrev mdX9_takesSymbol : MD := (yX9_takesSymbol, RX9, cX9_takesSymbol, 4, (some .boolean), 1)
abbrev mdX9_takesMark : MD := (yX9_takesMark, RX9, cX9_takesMark, 3, (some .boolean), 1)
abbrev mdX9_takesPart : MD := (yX9_takesPart, RX9, cX9_takesPart, 2, (some .boolean), 2)
abbrev mdX9_endsItem : MD := (yX9_endsItem, RX9, cX9_endsItem, 2, (some .boolean), 2)
abbrev mdX9_isWhole : MD := (yX9_isWhole, RX9, cX9_isWhole, 1, (some .boolean), 0)
abbrev mdJ6_bitCount_0f7a4 : MD := (yJ6_bitCount_0f7a4, RJ6, cJ6_bitCount_0f7a4, 1, (some .int), 0)
abbrev mdJ9_floorMod_7cf53 : MD := (yJ9_floorMod_7cf53, RJ9, cJ9_floorMod_7cf53, 3, (some .int), 0)
abbrev mdJ9_max_7cf53 : MD := (yJ9_max_7cf53, RJ9, cJ9_max_7cf53, 2, (some .int), 0)
abbrev mdJ9_min_7cf53 : MD := (yJ9_min_7cf53, RJ9, cJ9_min_7cf53, 2, (some .int), 0)
abbrev mdJ7_fill_53178 : MD := (yJ7_fill_53178, RJ7, cJ7_fill_53178, 4, none, 0)
abbrev mdL_law : MD := (yL_law, RL, cL_law, 4, (some .boolean), 10)
theorem fX0_15 : flk RX0 15 0 1 := ⟨_, rfl, by decide, gw_at (i := 272) (by decide +kernel) rfl⟩
theorem fX0_24 : flk RX0 24 0 2 := ⟨_, rfl, by decide, gw_at (i := 274) (by decide +kernel) rfl⟩
theorem fX0_9 : flk RX0 9 0 0 := ⟨_, rfl, by decide, gw_at (i := 270) (by decide +kernel) rfl⟩
theorem fX10_100 : flk RX10 100 4 2 := ⟨_, rfl, by decide, gw_at (i := 208) (by decide +kernel) rfl⟩
theorem fX10_110 : flk RX10 110 5 0 := ⟨_, rfl, by decide, gw_at (i := 120) (by decide +kernel) rfl⟩
theorem fX10_12 : flk RX10 12 8 0 := ⟨_, rfl, by decide, gw_at (i := 284) (by decide +kernel) rfl⟩
theorem fX10_123 : flk RX10 123 5 1 := ⟨_, rfl, by decide, gw_at (i := 123) (by decide +kernel) rfl⟩
theorem fX10_143 : flk RX10 143 5 2 := ⟨_, rfl, by decide, gw_at (i := 127) (by decide +kernel) rfl⟩
theorem fX10_151 : flk RX10 151 6 2 := ⟨_, rfl, by decide, gw_at (i := 109) (by decide +kernel) rfl⟩
theorem fX10_159 : flk RX10 159 5 3 := ⟨_, rfl, by decide, gw_at (i := 131) (by decide +kernel) rfl⟩
theorem fX10_16 : flk RX10 16 8 1 := ⟨_, rfl, by decide, gw_at (i := 285) (by decide +kernel) rfl⟩
theorem fX10_171 : flk RX10 171 3 0 := ⟨_, rfl, by decide, gw_at (i := 230) (by decide +kernel) rfl⟩
theorem fX10_174 : flk RX10 174 3 1 := ⟨_, rfl, by decide, gw_at (i := 233) (by decide +kernel) rfl⟩
theorem fX10_177 : flk RX10 177 3 2 := ⟨_, rfl, by decide, gw_at (i := 236) (by decide +kernel) rfl⟩
theorem fX10_180 : flk RX10 180 3 3 := ⟨_, rfl, by decide, gw_at (i := 239) (by decide +kernel) rfl⟩
theorem fX10_19 : flk RX10 19 8 2 := ⟨_, rfl, by decide, gw_at (i := 286) (by decide +kernel) rfl⟩
theorem fX10_194 : flk RX10 194 0 1 := ⟨_, rfl, by decide, gw_at (i := 273) (by decide +kernel) rfl⟩
theorem fX10_204 : flk RX10 204 5 5 := ⟨_, rfl, by decide, gw_at (i := 135) (by decide +kernel) rfl⟩
theorem fX10_208 : flk RX10 208 5 4 := ⟨_, rfl, by decide, gw_at (i := 133) (by decide +kernel) rfl⟩
theorem fX10_213 : flk RX10 213 2 2 := ⟨_, rfl, by decide, gw_at (i := 161) (by decide +kernel) rfl⟩
theorem fX10_221 : flk RX10 221 1 0 := ⟨_, rfl, by decide, gw_at (i := 251) (by decide +kernel) rfl⟩
theorem fX10_23 : flk RX10 23 8 3 := ⟨_, rfl, by decide, gw_at (i := 287) (by decide +kernel) rfl⟩
theorem fX10_30 : flk RX10 30 8 4 := ⟨_, rfl, by decide, gw_at (i := 288) (by decide +kernel) rfl⟩
theorem fX10_312 : flk RX10 312 0 0 := ⟨_, rfl, by decide, gw_at (i := 271) (by decide +kernel) rfl⟩
theorem fX10_37 : flk RX10 37 8 5 := ⟨_, rfl, by decide, gw_at (i := 289) (by decide +kernel) rfl⟩
theorem fX10_44 : flk RX10 44 8 6 := ⟨_, rfl, by decide, gw_at (i := 290) (by decide +kernel) rfl⟩
theorem fX10_51 : flk RX10 51 8 7 := ⟨_, rfl, by decide, gw_at (i := 291) (by decide +kernel) rfl⟩
theorem fX10_55 : flk RX10 55 8 8 := ⟨_, rfl, by decide, gw_at (i := 292) (by decide +kernel) rfl⟩
theorem fX10_61 : flk RX10 61 8 9 := ⟨_, rfl, by decide, gw_at (i := 293) (by decide +kernel) rfl⟩
theorem fX10_67 : flk RX10 67 8 10 := ⟨_, rfl, by decide, gw_at (i := 294) (by decide +kernel) rfl⟩
theorem fX10_74 : flk RX10 74 8 11 := ⟨_, rfl, by decide, gw_at (i := 295) (by decide +kernel) rfl⟩
theorem fX10_78 : flk RX10 78 8 12 := ⟨_, rfl, by decide, gw_at (i := 296) (by decide +kernel) rfl⟩
theorem fX10_85 : flk RX10 85 7 2 := ⟨_, rfl, by decide, gw_at (i := 179) (by decide +kernel) rfl⟩
theorem fX11_100 : flk RX11 100 9 12 := ⟨_, rfl, by decide, gw_at (i := 832) (by decide +kernel) rfl⟩
theorem fX11_103 : flk RX11 103 9 14 := ⟨_, rfl, by decide, gw_at (i := 834) (by decide +kernel) rfl⟩
theorem fX11_106 : flk RX11 106 9 13 := ⟨_, rfl, by decide, gw_at (i := 833) (by decide +kernel) rfl⟩
theorem fX11_109 : flk RX11 109 9 15 := ⟨_, rfl, by decide, gw_at (i := 835) (by decide +kernel) rfl⟩
theorem fX11_119 : flk RX11 119 9 16 := ⟨_, rfl, by decide, gw_at (i := 836) (by decide +kernel) rfl⟩
theorem fX11_13 : flk RX11 13 9 2 := ⟨_, rfl, by decide, gw_at (i := 822) (by decide +kernel) rfl⟩
theorem fX11_143 : flk RX11 143 9 27 := ⟨_, rfl, by decide, gw_at (i := 847) (by decide +kernel) rfl⟩
theorem fX11_16 : flk RX11 16 9 3 := ⟨_, rfl, by decide, gw_at (i := 823) (by decide +kernel) rfl⟩
theorem fX11_20 : flk RX11 20 9 5 := ⟨_, rfl, by decide, gw_at (i := 825) (by decide +kernel) rfl⟩
theorem fX11_217 : flk RX11 217 9 19 := ⟨_, rfl, by decide, gw_at (i := 839) (by decide +kernel) rfl⟩
theorem fX11_220 : flk RX11 220 9 20 := ⟨_, rfl, by decide, gw_at (i := 840) (by decide +kernel) rfl⟩
theorem fX11_23 : flk RX11 23 9 6 := ⟨_, rfl, by decide, gw_at (i := 826) (by decide +kernel) rfl⟩
theorem fX11_235 : flk RX11 235 9 24 := ⟨_, rfl, by decide, gw_at (i := 844) (by decide +kernel) rfl⟩
theorem fX11_26 : flk RX11 26 9 7 := ⟨_, rfl, by decide, gw_at (i := 827) (by decide +kernel) rfl⟩
theorem fX11_30 : flk RX11 30 9 8 := ⟨_, rfl, by decide, gw_at (i := 828) (by decide +kernel) rfl⟩
theorem fX11_33 : flk RX11 33 9 10 := ⟨_, rfl, by decide, gw_at (i := 830) (by decide +kernel) rfl⟩
theorem fX11_36 : flk RX11 36 9 17 := ⟨_, rfl, by decide, gw_at (i := 837) (by decide +kernel) rfl⟩
theorem fX11_39 : flk RX11 39 9 18 := ⟨_, rfl, by decide, gw_at (i := 838) (by decide +kernel) rfl⟩
theorem fX11_42 : flk RX11 42 9 21 := ⟨_, rfl, by decide, gw_at (i := 841) (by decide +kernel) rfl⟩
theorem fX11_45 : flk RX11 45 9 22 := ⟨_, rfl, by decide, gw_at (i := 842) (by decide +kernel) rfl⟩
theorem fX11_48 : flk RX11 48 9 23 := ⟨_, rfl, by decide, gw_at (i := 843) (by decide +kernel) rfl⟩
theorem fX11_51 : flk RX11 51 9 25 := ⟨_, rfl, by decide, gw_at (i := 845) (by decide +kernel) rfl⟩
theorem fX11_54 : flk RX11 54 9 26 := ⟨_, rfl, by decide, gw_at (i := 846) (by decide +kernel) rfl⟩
theorem fX11_57 : flk RX11 57 9 28 := ⟨_, rfl, by decide, gw_at (i := 848) (by decide +kernel) rfl⟩
theorem fX11_60 : flk RX11 60 9 29 := ⟨_, rfl, by decide, gw_at (i := 849) (by decide +kernel) rfl⟩
theorem fX11_7 : flk RX11 7 9 0 := ⟨_, rfl, by decide, gw_at (i := 820) (by decide +kernel) rfl⟩
theorem fX11_74 : flk RX11 74 9 4 := ⟨_, rfl, by decide, gw_at (i := 824) (by decide +kernel) rfl⟩
theorem fX11_78 : flk RX11 78 9 1 := ⟨_, rfl, by decide, gw_at (i := 821) (by decide +kernel) rfl⟩
theorem fX11_94 : flk RX11 94 9 9 := ⟨_, rfl, by decide, gw_at (i := 829) (by decide +kernel) rfl⟩
theorem fX11_97 : flk RX11 97 9 11 := ⟨_, rfl, by decide, gw_at (i := 831) (by decide +kernel) rfl⟩
theorem fX1_122 : flk RX1 122 3 0 := ⟨_, rfl, by decide, gw_at (i := 229) (by decide +kernel) rfl⟩
theorem fX1_125 : flk RX1 125 3 1 := ⟨_, rfl, by decide, gw_at (i := 232) (by decide +kernel) rfl⟩
theorem fX1_128 : flk RX1 128 3 2 := ⟨_, rfl, by decide, gw_at (i := 235) (by decide +kernel) rfl⟩
theorem fX1_131 : flk RX1 131 3 3 := ⟨_, rfl, by decide, gw_at (i := 238) (by decide +kernel) rfl⟩
theorem fX1_15 : flk RX1 15 1 1 := ⟨_, rfl, by decide, gw_at (i := 252) (by decide +kernel) rfl⟩
theorem fX1_18 : flk RX1 18 1 2 := ⟨_, rfl, by decide, gw_at (i := 253) (by decide +kernel) rfl⟩
theorem fX1_24 : flk RX1 24 1 3 := ⟨_, rfl, by decide, gw_at (i := 254) (by decide +kernel) rfl⟩
theorem fX1_38 : flk RX1 38 5 2 := ⟨_, rfl, by decide, gw_at (i := 126) (by decide +kernel) rfl⟩
theorem fX1_44 : flk RX1 44 6 2 := ⟨_, rfl, by decide, gw_at (i := 107) (by decide +kernel) rfl⟩
theorem fX1_58 : flk RX1 58 5 0 := ⟨_, rfl, by decide, gw_at (i := 119) (by decide +kernel) rfl⟩
theorem fX1_9 : flk RX1 9 1 0 := ⟨_, rfl, by decide, gw_at (i := 249) (by decide +kernel) rfl⟩
theorem fX1_92 : flk RX1 92 5 3 := ⟨_, rfl, by decide, gw_at (i := 130) (by decide +kernel) rfl⟩
theorem fX3_11 : flk RX3 11 2 0 := ⟨_, rfl, by decide, gw_at (i := 158) (by decide +kernel) rfl⟩
theorem fX3_18 : flk RX3 18 2 1 := ⟨_, rfl, by decide, gw_at (i := 159) (by decide +kernel) rfl⟩
theorem fX3_26 : flk RX3 26 2 2 := ⟨_, rfl, by decide, gw_at (i := 160) (by decide +kernel) rfl⟩
theorem fX4_15 : flk RX4 15 3 0 := ⟨_, rfl, by decide, gw_at (i := 228) (by decide +kernel) rfl⟩
theorem fX4_21 : flk RX4 21 3 1 := ⟨_, rfl, by decide, gw_at (i := 231) (by decide +kernel) rfl⟩
theorem fX4_24 : flk RX4 24 3 2 := ⟨_, rfl, by decide, gw_at (i := 234) (by decide +kernel) rfl⟩
theorem fX4_27 : flk RX4 27 3 3 := ⟨_, rfl, by decide, gw_at (i := 237) (by decide +kernel) rfl⟩
theorem fX6_15 : flk RX6 15 4 1 := ⟨_, rfl, by decide, gw_at (i := 206) (by decide +kernel) rfl⟩
theorem fX6_18 : flk RX6 18 4 2 := ⟨_, rfl, by decide, gw_at (i := 207) (by decide +kernel) rfl⟩
theorem fX6_22 : flk RX6 22 1 0 := ⟨_, rfl, by decide, gw_at (i := 250) (by decide +kernel) rfl⟩
theorem fX6_9 : flk RX6 9 4 0 := ⟨_, rfl, by decide, gw_at (i := 205) (by decide +kernel) rfl⟩
theorem fX7_15 : flk RX7 15 5 1 := ⟨_, rfl, by decide, gw_at (i := 122) (by decide +kernel) rfl⟩
theorem fX7_24 : flk RX7 24 5 2 := ⟨_, rfl, by decide, gw_at (i := 125) (by decide +kernel) rfl⟩
theorem fX7_28 : flk RX7 28 5 3 := ⟨_, rfl, by decide, gw_at (i := 129) (by decide +kernel) rfl⟩
theorem fX7_37 : flk RX7 37 6 2 := ⟨_, rfl, by decide, gw_at (i := 106) (by decide +kernel) rfl⟩
theorem fX7_54 : flk RX7 54 5 4 := ⟨_, rfl, by decide, gw_at (i := 132) (by decide +kernel) rfl⟩
theorem fX7_58 : flk RX7 58 5 5 := ⟨_, rfl, by decide, gw_at (i := 134) (by decide +kernel) rfl⟩
theorem fX7_9 : flk RX7 9 5 0 := ⟨_, rfl, by decide, gw_at (i := 118) (by decide +kernel) rfl⟩
theorem fX8_11 : flk RX8 11 6 0 := ⟨_, rfl, by decide, gw_at (i := 104) (by decide +kernel) rfl⟩
theorem fX8_21 : flk RX8 21 6 1 := ⟨_, rfl, by decide, gw_at (i := 105) (by decide +kernel) rfl⟩
theorem fX8_37 : flk RX8 37 6 2 := ⟨_, rfl, by decide, gw_at (i := 108) (by decide +kernel) rfl⟩
theorem fX9_11 : flk RX9 11 7 0 := ⟨_, rfl, by decide, gw_at (i := 176) (by decide +kernel) rfl⟩
theorem fX9_17 : flk RX9 17 7 1 := ⟨_, rfl, by decide, gw_at (i := 177) (by decide +kernel) rfl⟩
theorem fX9_20 : flk RX9 20 7 2 := ⟨_, rfl, by decide, gw_at (i := 178) (by decide +kernel) rfl⟩
theorem fX9_29 : flk RX9 29 7 3 := ⟨_, rfl, by decide, gw_at (i := 180) (by decide +kernel) rfl⟩
theorem fX9_32 : flk RX9 32 7 5 := ⟨_, rfl, by decide, gw_at (i := 182) (by decide +kernel) rfl⟩
theorem fX9_35 : flk RX9 35 7 6 := ⟨_, rfl, by decide, gw_at (i := 183) (by decide +kernel) rfl⟩
theorem fX9_70 : flk RX9 70 5 1 := ⟨_, rfl, by decide, gw_at (i := 124) (by decide +kernel) rfl⟩
theorem fX9_73 : flk RX9 73 5 2 := ⟨_, rfl, by decide, gw_at (i := 128) (by decide +kernel) rfl⟩
theorem fX9_81 : flk RX9 81 7 4 := ⟨_, rfl, by decide, gw_at (i := 181) (by decide +kernel) rfl⟩
theorem fX9_96 : flk RX9 96 5 0 := ⟨_, rfl, by decide, gw_at (i := 121) (by decide +kernel) rfl⟩
theorem okJ6_bitCount_0f7a4 : okM mdJ6_bitCount_0f7a4 1 := ⟨gw_at (i := 79) (by decide +kernel) rfl, gw_at (i := 467) (by decide +kernel) rfl, by decide, by decide, by decide +kernel, by decide⟩
theorem okJ7_fill_53178 : okM mdJ7_fill_53178 2 := ⟨gw_at (i := 77) (by decide +kernel) rfl, gw_at (i := 362) (by decide +kernel) rfl, by decide, by decide, by decide +kernel, by decide⟩
theorem okJ9_floorMod_7cf53 : okM mdJ9_floorMod_7cf53 2 := ⟨gw_at (i := 68) (by decide +kernel) rfl, gw_at (i := 418) (by decide +kernel) rfl, by decide, by decide, by decide +kernel, by decide⟩
theorem okJ9_max_7cf53 : okM mdJ9_max_7cf53 2 := ⟨gw_at (i := 68) (by decide +kernel) rfl, gw_at (i := 695) (by decide +kernel) rfl, by decide, by decide, by decide +kernel, by decide⟩
theorem okJ9_min_7cf53 : okM mdJ9_min_7cf53 2 := ⟨gw_at (i := 68) (by decide +kernel) rfl, gw_at (i := 103) (by decide +kernel) rfl, by decide, by decide, by decide +kernel, by decide⟩
theorem okX0_bestIsPresent : okM mdX0_bestIsPresent 0 := ⟨gw_at (i := 74) (by decide +kernel) rfl, gw_at (i := 669) (by decide +kernel) rfl, by decide, by decide, by decide +kernel, by decide⟩
theorem okX0_keepCurrent : okM mdX0_keepCurrent 0 := ⟨gw_at (i := 74) (by decide +kernel) rfl, gw_at (i := 656) (by decide +kernel) rfl, by decide, by decide, by decide +kernel, by decide⟩
theorem okX0_moveOn : okM mdX0_moveOn 0 := ⟨gw_at (i := 74) (by decide +kernel) rfl, gw_at (i := 661) (by decide +kernel) rfl, by decide, by decide, by decide +kernel, by decide⟩
theorem okX0_start : okM mdX0_start 1 := ⟨gw_at (i := 74) (by decide +kernel) rfl, gw_at (i := 642) (by decide +kernel) rfl, by decide, by decide, by decide +kernel, by decide⟩
theorem okX0_swap : okM mdX0_swap 2 := ⟨gw_at (i := 74) (by decide +kernel) rfl, gw_at (i := 665) (by decide +kernel) rfl, by decide, by decide, by decide +kernel, by decide⟩
theorem okX10_appendStep : okM mdX10_appendStep 1 := ⟨gw_at (i := 65) (by decide +kernel) rfl, gw_at (i := 487) (by decide +kernel) rfl, by decide, by decide, by decide +kernel, by decide⟩
theorem okX10_errorsAfter : okM mdX10_errorsAfter 1 := ⟨gw_at (i := 65) (by decide +kernel) rfl, gw_at (i := 682) (by decide +kernel) rfl, by decide, by decide, by decide +kernel, by decide⟩
theorem okX10_errorsInOrder : okM mdX10_errorsInOrder 1 := ⟨gw_at (i := 65) (by decide +kernel) rfl, gw_at (i := 647) (by decide +kernel) rfl, by decide, by decide, by decide +kernel, by decide⟩
theorem okX10_findBestOrder : okM mdX10_findBestOrder 0 := ⟨gw_at (i := 65) (by decide +kernel) rfl, gw_at (i := 638) (by decide +kernel) rfl, by decide, by decide, by decide +kernel, by decide⟩
theorem okX10_findTaps : okM mdX10_findTaps 2 := ⟨gw_at (i := 65) (by decide +kernel) rfl, gw_at (i := 518) (by decide +kernel) rfl, by decide, by decide, by decide +kernel, by decide⟩
theorem okX10_isPair : okM mdX10_isPair 2 := ⟨gw_at (i := 65) (by decide +kernel) rfl, gw_at (i := 514) (by decide +kernel) rfl, by decide, by decide, by decide +kernel, by decide⟩
theorem okX10_isPlace : okM mdX10_isPlace 1 := ⟨gw_at (i := 65) (by decide +kernel) rfl, gw_at (i := 395) (by decide +kernel) rfl, by decide, by decide, by decide +kernel, by decide⟩
theorem okX10_isSpot : okM mdX10_isSpot 2 := ⟨gw_at (i := 65) (by decide +kernel) rfl, gw_at (i := 456) (by decide +kernel) rfl, by decide, by decide, by decide +kernel, by decide⟩
theorem okX10_isSymbol : okM mdX10_isSymbol 1 := ⟨gw_at (i := 65) (by decide +kernel) rfl, gw_at (i := 388) (by decide +kernel) rfl, by decide, by decide, by decide +kernel, by decide⟩
theorem okX10_putStep : okM mdX10_putStep 5 := ⟨gw_at (i := 65) (by decide +kernel) rfl, gw_at (i := 478) (by decide +kernel) rfl, by decide, by decide, by decide +kernel, by decide⟩
theorem okX10_slipFits : okM mdX10_slipFits 2 := ⟨gw_at (i := 65) (by decide +kernel) rfl, gw_at (i := 777) (by decide +kernel) rfl, by decide, by decide, by decide +kernel, by decide⟩
theorem okX10_unspreadFits : okM mdX10_unspreadFits 1 := ⟨gw_at (i := 65) (by decide +kernel) rfl, gw_at (i := 748) (by decide +kernel) rfl, by decide, by decide, by decide +kernel, by decide⟩
theorem okX11_arePlaces : okM mdX11_arePlaces 2 := ⟨gw_at (i := 75) (by decide +kernel) rfl, gw_at (i := 1015) (by decide +kernel) rfl, by decide, by decide, by decide +kernel, by decide⟩
theorem okX11_areTaps : okM mdX11_areTaps 2 := ⟨gw_at (i := 75) (by decide +kernel) rfl, gw_at (i := 1019) (by decide +kernel) rfl, by decide, by decide, by decide +kernel, by decide⟩
theorem okX11_blind : okM mdX11_blind 0 := ⟨gw_at (i := 75) (by decide +kernel) rfl, gw_at (i := 1077) (by decide +kernel) rfl, by decide, by decide, by decide +kernel, by decide⟩
theorem okX11_decided : okM mdX11_decided 1 := ⟨gw_at (i := 75) (by decide +kernel) rfl, gw_at (i := 1087) (by decide +kernel) rfl, by decide, by decide, by decide +kernel, by decide⟩
theorem okX11_doDeed : okM mdX11_doDeed 1 := ⟨gw_at (i := 75) (by decide +kernel) rfl, gw_at (i := 1034) (by decide +kernel) rfl, by decide, by decide, by decide +kernel, by decide⟩
theorem okX11_doStage : okM mdX11_doStage 1 := ⟨gw_at (i := 75) (by decide +kernel) rfl, gw_at (i := 1062) (by decide +kernel) rfl, by decide, by decide, by decide +kernel, by decide⟩
theorem okX11_findOrder : okM mdX11_findOrder 0 := ⟨gw_at (i := 75) (by decide +kernel) rfl, gw_at (i := 1107) (by decide +kernel) rfl, by decide, by decide, by decide +kernel, by decide⟩
theorem okX11_findTaps : okM mdX11_findTaps 3 := ⟨gw_at (i := 75) (by decide +kernel) rfl, gw_at (i := 1095) (by decide +kernel) rfl, by decide, by decide, by decide +kernel, by decide⟩
theorem okX11_goThrough : okM mdX11_goThrough 1 := ⟨gw_at (i := 75) (by decide +kernel) rfl, gw_at (i := 1058) (by decide +kernel) rfl, by decide, by decide, by decide +kernel, by decide⟩
theorem okX11_has : okM mdX11_has 2 := ⟨gw_at (i := 75) (by decide +kernel) rfl, gw_at (i := 949) (by decide +kernel) rfl, by decide, by decide, by decide +kernel, by decide⟩
theorem okX11_in : okM mdX11_in 3 := ⟨gw_at (i := 75) (by decide +kernel) rfl, gw_at (i := 922) (by decide +kernel) rfl, by decide, by decide, by decide +kernel, by decide⟩
theorem okX11_inverse : okM mdX11_inverse 1 := ⟨gw_at (i := 75) (by decide +kernel) rfl, gw_at (i := 1069) (by decide +kernel) rfl, by decide, by decide, by decide +kernel, by decide⟩
theorem okX11_isDeed : okM mdX11_isDeed 5 := ⟨gw_at (i := 75) (by decide +kernel) rfl, gw_at (i := 989) (by decide +kernel) rfl, by decide, by decide, by decide +kernel, by decide⟩
theorem okX11_isLight : okM mdX11_isLight 1 := ⟨gw_at (i := 75) (by decide +kernel) rfl, gw_at (i := 1080) (by decide +kernel) rfl, by decide, by decide, by decide +kernel, by decide⟩
theorem okX11_isSeenBy : okM mdX11_isSeenBy 2 := ⟨gw_at (i := 75) (by decide +kernel) rfl, gw_at (i := 1194) (by decide +kernel) rfl, by decide, by decide, by decide +kernel, by decide⟩
theorem okX11_isStage : okM mdX11_isStage 5 := ⟨gw_at (i := 75) (by decide +kernel) rfl, gw_at (i := 1004) (by decide +kernel) rfl, by decide, by decide, by decide +kernel, by decide⟩
theorem okX11_keepReceived : okM mdX11_keepReceived 0 := ⟨gw_at (i := 75) (by decide +kernel) rfl, gw_at (i := 1162) (by decide +kernel) rfl, by decide, by decide, by decide +kernel, by decide⟩
theorem okX11_late : okM mdX11_late 1 := ⟨gw_at (i := 75) (by decide +kernel) rfl, gw_at (i := 1054) (by decide +kernel) rfl, by decide, by decide, by decide +kernel, by decide⟩
theorem okX11_lay : okM mdX11_lay 6 := ⟨gw_at (i := 75) (by decide +kernel) rfl, gw_at (i := 993) (by decide +kernel) rfl, by decide, by decide, by decide +kernel, by decide⟩
theorem okX11_layAir : okM mdX11_layAir 0 := ⟨gw_at (i := 75) (by decide +kernel) rfl, gw_at (i := 1027) (by decide +kernel) rfl, by decide, by decide, by decide +kernel, by decide⟩
theorem okX11_layKept : okM mdX11_layKept 0 := ⟨gw_at (i := 75) (by decide +kernel) rfl, gw_at (i := 1166) (by decide +kernel) rfl, by decide, by decide, by decide +kernel, by decide⟩
theorem okX11_layReceived : okM mdX11_layReceived 0 := ⟨gw_at (i := 75) (by decide +kernel) rfl, gw_at (i := 1023) (by decide +kernel) rfl, by decide, by decide, by decide +kernel, by decide⟩
theorem okX11_left : okM mdX11_left 1 := ⟨gw_at (i := 75) (by decide +kernel) rfl, gw_at (i := 962) (by decide +kernel) rfl, by decide, by decide, by decide +kernel, by decide⟩
theorem okX11_light : okM mdX11_light 1 := ⟨gw_at (i := 75) (by decide +kernel) rfl, gw_at (i := 1030) (by decide +kernel) rfl, by decide, by decide, by decide +kernel, by decide⟩
theorem okX11_marksMany : okM mdX11_marksMany 0 := ⟨gw_at (i := 75) (by decide +kernel) rfl, gw_at (i := 982) (by decide +kernel) rfl, by decide, by decide, by decide +kernel, by decide⟩
theorem okX11_mayBe : okM mdX11_mayBe 6 := ⟨gw_at (i := 75) (by decide +kernel) rfl, gw_at (i := 956) (by decide +kernel) rfl, by decide, by decide, by decide +kernel, by decide⟩
theorem okX11_mend : okM mdX11_mend 0 := ⟨gw_at (i := 75) (by decide +kernel) rfl, gw_at (i := 1084) (by decide +kernel) rfl, by decide, by decide, by decide +kernel, by decide⟩
theorem okX11_mendFrom : okM mdX11_mendFrom 2 := ⟨gw_at (i := 75) (by decide +kernel) rfl, gw_at (i := 1091) (by decide +kernel) rfl, by decide, by decide, by decide +kernel, by decide⟩
theorem okX11_must : okM mdX11_must 1 := ⟨gw_at (i := 75) (by decide +kernel) rfl, gw_at (i := 942) (by decide +kernel) rfl, by decide, by decide, by decide +kernel, by decide⟩
theorem okX11_next : okM mdX11_next 0 := ⟨gw_at (i := 75) (by decide +kernel) rfl, gw_at (i := 934) (by decide +kernel) rfl, by decide, by decide, by decide +kernel, by decide⟩
theorem okX11_note : okM mdX11_note 0 := ⟨gw_at (i := 75) (by decide +kernel) rfl, gw_at (i := 970) (by decide +kernel) rfl, by decide, by decide, by decide +kernel, by decide⟩
theorem okX11_power : okM mdX11_power 2 := ⟨gw_at (i := 75) (by decide +kernel) rfl, gw_at (i := 959) (by decide +kernel) rfl, by decide, by decide, by decide +kernel, by decide⟩
theorem okX11_readDeed : okM mdX11_readDeed 0 := ⟨gw_at (i := 75) (by decide +kernel) rfl, gw_at (i := 953) (by decide +kernel) rfl, by decide, by decide, by decide +kernel, by decide⟩
theorem okX11_readItem : okM mdX11_readItem 0 := ⟨gw_at (i := 75) (by decide +kernel) rfl, gw_at (i := 938) (by decide +kernel) rfl, by decide, by decide, by decide +kernel, by decide⟩
theorem okX11_readMarks : okM mdX11_readMarks 0 := ⟨gw_at (i := 75) (by decide +kernel) rfl, gw_at (i := 946) (by decide +kernel) rfl, by decide, by decide, by decide +kernel, by decide⟩
theorem okX11_readRow : okM mdX11_readRow 1 := ⟨gw_at (i := 75) (by decide +kernel) rfl, gw_at (i := 966) (by decide +kernel) rfl, by decide, by decide, by decide +kernel, by decide⟩
theorem okX11_slip : okM mdX11_slip 2 := ⟨gw_at (i := 75) (by decide +kernel) rfl, gw_at (i := 1050) (by decide +kernel) rfl, by decide, by decide, by decide +kernel, by decide⟩
theorem okX11_spread : okM mdX11_spread 1 := ⟨gw_at (i := 75) (by decide +kernel) rfl, gw_at (i := 1038) (by decide +kernel) rfl, by decide, by decide, by decide +kernel, by decide⟩
theorem okX11_swap : okM mdX11_swap 2 := ⟨gw_at (i := 75) (by decide +kernel) rfl, gw_at (i := 1119) (by decide +kernel) rfl, by decide, by decide, by decide +kernel, by decide⟩
theorem okX11_takeMade : okM mdX11_takeMade 0 := ⟨gw_at (i := 75) (by decide +kernel) rfl, gw_at (i := 1042) (by decide +kernel) rfl, by decide, by decide, by decide +kernel, by decide⟩
theorem okX11_turnsOn : okM mdX11_turnsOn 1 := ⟨gw_at (i := 75) (by decide +kernel) rfl, gw_at (i := 1115) (by decide +kernel) rfl, by decide, by decide, by decide +kernel, by decide⟩
theorem okX11_twist : okM mdX11_twist 4 := ⟨gw_at (i := 75) (by decide +kernel) rfl, gw_at (i := 1046) (by decide +kernel) rfl, by decide, by decide, by decide +kernel, by decide⟩
theorem okX11_unspread : okM mdX11_unspread 1 := ⟨gw_at (i := 75) (by decide +kernel) rfl, gw_at (i := 1066) (by decide +kernel) rfl, by decide, by decide, by decide +kernel, by decide⟩
theorem okX11_untwist : okM mdX11_untwist 4 := ⟨gw_at (i := 75) (by decide +kernel) rfl, gw_at (i := 1073) (by decide +kernel) rfl, by decide, by decide, by decide +kernel, by decide⟩
theorem okX11_wrongAtMarks : okM mdX11_wrongAtMarks 0 := ⟨gw_at (i := 75) (by decide +kernel) rfl, gw_at (i := 1170) (by decide +kernel) rfl, by decide, by decide, by decide +kernel, by decide⟩
theorem okX11_wrongNow : okM mdX11_wrongNow 0 := ⟨gw_at (i := 75) (by decide +kernel) rfl, gw_at (i := 1111) (by decide +kernel) rfl, by decide, by decide, by decide +kernel, by decide⟩
theorem okX11_wrongReceived : okM mdX11_wrongReceived 0 := ⟨gw_at (i := 75) (by decide +kernel) rfl, gw_at (i := 1131) (by decide +kernel) rfl, by decide, by decide, by decide +kernel, by decide⟩
theorem okX1_bestTurn : okM mdX1_bestTurn 2 := ⟨gw_at (i := 72) (by decide +kernel) rfl, gw_at (i := 619) (by decide +kernel) rfl, by decide, by decide, by decide +kernel, by decide⟩
theorem okX1_brightestFactor : okM mdX1_brightestFactor 0 := ⟨gw_at (i := 72) (by decide +kernel) rfl, gw_at (i := 600) (by decide +kernel) rfl, by decide, by decide, by decide +kernel, by decide⟩
theorem okX1_errors : okM mdX1_errors 1 := ⟨gw_at (i := 72) (by decide +kernel) rfl, gw_at (i := 652) (by decide +kernel) rfl, by decide, by decide, by decide +kernel, by decide⟩
theorem okX1_errorsAtMarks : okM mdX1_errorsAtMarks 1 := ⟨gw_at (i := 72) (by decide +kernel) rfl, gw_at (i := 739) (by decide +kernel) rfl, by decide, by decide, by decide +kernel, by decide⟩
theorem okX1_hit : okM mdX1_hit 2 := ⟨gw_at (i := 72) (by decide +kernel) rfl, gw_at (i := 572) (by decide +kernel) rfl, by decide, by decide, by decide +kernel, by decide⟩
theorem okX1_late : okM mdX1_late 1 := ⟨gw_at (i := 72) (by decide +kernel) rfl, gw_at (i := 567) (by decide +kernel) rfl, by decide, by decide, by decide +kernel, by decide⟩
theorem okX1_mend : okM mdX1_mend 1 := ⟨gw_at (i := 72) (by decide +kernel) rfl, gw_at (i := 609) (by decide +kernel) rfl, by decide, by decide, by decide +kernel, by decide⟩
theorem okX1_multiply : okM mdX1_multiply 1 := ⟨gw_at (i := 72) (by decide +kernel) rfl, gw_at (i := 605) (by decide +kernel) rfl, by decide, by decide, by decide +kernel, by decide⟩
theorem okX1_passDeed : okM mdX1_passDeed 2 := ⟨gw_at (i := 72) (by decide +kernel) rfl, gw_at (i := 535) (by decide +kernel) rfl, by decide, by decide, by decide +kernel, by decide⟩
theorem okX1_passStage : okM mdX1_passStage 2 := ⟨gw_at (i := 72) (by decide +kernel) rfl, gw_at (i := 576) (by decide +kernel) rfl, by decide, by decide, by decide +kernel, by decide⟩
theorem okX1_receive : okM mdX1_receive 2 := ⟨gw_at (i := 72) (by decide +kernel) rfl, gw_at (i := 522) (by decide +kernel) rfl, by decide, by decide, by decide +kernel, by decide⟩
theorem okX1_shine : okM mdX1_shine 1 := ⟨gw_at (i := 72) (by decide +kernel) rfl, gw_at (i := 526) (by decide +kernel) rfl, by decide, by decide, by decide +kernel, by decide⟩
theorem okX1_slip : okM mdX1_slip 2 := ⟨gw_at (i := 72) (by decide +kernel) rfl, gw_at (i := 556) (by decide +kernel) rfl, by decide, by decide, by decide +kernel, by decide⟩
theorem okX1_spread : okM mdX1_spread 1 := ⟨gw_at (i := 72) (by decide +kernel) rfl, gw_at (i := 543) (by decide +kernel) rfl, by decide, by decide, by decide +kernel, by decide⟩
theorem okX1_takeFrom : okM mdX1_takeFrom 1 := ⟨gw_at (i := 72) (by decide +kernel) rfl, gw_at (i := 734) (by decide +kernel) rfl, by decide, by decide, by decide +kernel, by decide⟩
theorem okX1_turn : okM mdX1_turn 2 := ⟨gw_at (i := 72) (by decide +kernel) rfl, gw_at (i := 560) (by decide +kernel) rfl, by decide, by decide, by decide +kernel, by decide⟩
theorem okX1_twist : okM mdX1_twist 0 := ⟨gw_at (i := 72) (by decide +kernel) rfl, gw_at (i := 552) (by decide +kernel) rfl, by decide, by decide, by decide +kernel, by decide⟩
theorem okX1_unspread : okM mdX1_unspread 1 := ⟨gw_at (i := 72) (by decide +kernel) rfl, gw_at (i := 580) (by decide +kernel) rfl, by decide, by decide, by decide +kernel, by decide⟩
theorem okX2_decided : okM mdX2_decided 1 := ⟨gw_at (i := 78) (by decide +kernel) rfl, gw_at (i := 622) (by decide +kernel) rfl, by decide, by decide, by decide +kernel, by decide⟩
theorem okX2_inverse : okM mdX2_inverse 1 := ⟨gw_at (i := 78) (by decide +kernel) rfl, gw_at (i := 585) (by decide +kernel) rfl, by decide, by decide, by decide +kernel, by decide⟩
theorem okX2_light : okM mdX2_light 1 := ⟨gw_at (i := 78) (by decide +kernel) rfl, gw_at (i := 529) (by decide +kernel) rfl, by decide, by decide, by decide +kernel, by decide⟩
theorem okX2_power : okM mdX2_power 2 := ⟨gw_at (i := 78) (by decide +kernel) rfl, gw_at (i := 415) (by decide +kernel) rfl, by decide, by decide, by decide +kernel, by decide⟩
theorem okX2_turned : okM mdX2_turned 2 := ⟨gw_at (i := 78) (by decide +kernel) rfl, gw_at (i := 563) (by decide +kernel) rfl, by decide, by decide, by decide +kernel, by decide⟩
theorem okX3_remember : okM mdX3_remember 1 := ⟨gw_at (i := 69) (by decide +kernel) rfl, gw_at (i := 447) (by decide +kernel) rfl, by decide, by decide, by decide +kernel, by decide⟩
theorem okX3_restore : okM mdX3_restore 1 := ⟨gw_at (i := 69) (by decide +kernel) rfl, gw_at (i := 692) (by decide +kernel) rfl, by decide, by decide, by decide +kernel, by decide⟩
theorem okX4_determinant : okM mdX4_determinant 0 := ⟨gw_at (i := 73) (by decide +kernel) rfl, gw_at (i := 594) (by decide +kernel) rfl, by decide, by decide, by decide +kernel, by decide⟩
theorem okX4_entry : okM mdX4_entry 1 := ⟨gw_at (i := 73) (by decide +kernel) rfl, gw_at (i := 726) (by decide +kernel) rfl, by decide, by decide, by decide +kernel, by decide⟩
theorem okX4_invert : okM mdX4_invert 0 := ⟨gw_at (i := 73) (by decide +kernel) rfl, gw_at (i := 590) (by decide +kernel) rfl, by decide, by decide, by decide +kernel, by decide⟩
theorem okX4_multiplyFromLeft : okM mdX4_multiplyFromLeft 1 := ⟨gw_at (i := 73) (by decide +kernel) rfl, gw_at (i := 630) (by decide +kernel) rfl, by decide, by decide, by decide +kernel, by decide⟩
theorem okX4_put : okM mdX4_put 4 := ⟨gw_at (i := 73) (by decide +kernel) rfl, gw_at (i := 547) (by decide +kernel) rfl, by decide, by decide, by decide +kernel, by decide⟩
theorem okX5_atMost : okM mdX5_atMost 3 := ⟨gw_at (i := 80) (by decide +kernel) rfl, gw_at (i := 793) (by decide +kernel) rfl, by decide, by decide, by decide +kernel, by decide⟩
theorem okX5_commonDivisor : okM mdX5_commonDivisor 2 := ⟨gw_at (i := 80) (by decide +kernel) rfl, gw_at (i := 797) (by decide +kernel) rfl, by decide, by decide, by decide +kernel, by decide⟩
theorem okX5_power : okM mdX5_power 2 := ⟨gw_at (i := 80) (by decide +kernel) rfl, gw_at (i := 790) (by decide +kernel) rfl, by decide, by decide, by decide +kernel, by decide⟩
theorem okX5_sharedPower : okM mdX5_sharedPower 3 := ⟨gw_at (i := 80) (by decide +kernel) rfl, gw_at (i := 800) (by decide +kernel) rfl, by decide, by decide, by decide +kernel, by decide⟩
theorem okX6_append : okM mdX6_append 2 := ⟨gw_at (i := 71) (by decide +kernel) rfl, gw_at (i := 765) (by decide +kernel) rfl, by decide, by decide, by decide +kernel, by decide⟩
theorem okX6_areTrueOf : okM mdX6_areTrueOf 1 := ⟨gw_at (i := 71) (by decide +kernel) rfl, gw_at (i := 782) (by decide +kernel) rfl, by decide, by decide, by decide +kernel, by decide⟩
theorem okX7_emptyRow : okM mdX7_emptyRow 1 := ⟨gw_at (i := 66) (by decide +kernel) rfl, gw_at (i := 442) (by decide +kernel) rfl, by decide, by decide, by decide +kernel, by decide⟩
theorem okX7_firstMarked : okM mdX7_firstMarked 0 := ⟨gw_at (i := 66) (by decide +kernel) rfl, gw_at (i := 613) (by decide +kernel) rfl, by decide, by decide, by decide +kernel, by decide⟩
theorem okX7_isMarked : okM mdX7_isMarked 1 := ⟨gw_at (i := 66) (by decide +kernel) rfl, gw_at (i := 399) (by decide +kernel) rfl, by decide, by decide, by decide +kernel, by decide⟩
theorem okX7_mark : okM mdX7_mark 2 := ⟨gw_at (i := 66) (by decide +kernel) rfl, gw_at (i := 403) (by decide +kernel) rfl, by decide, by decide, by decide +kernel, by decide⟩
theorem okX7_takeFrom : okM mdX7_takeFrom 1 := ⟨gw_at (i := 66) (by decide +kernel) rfl, gw_at (i := 343) (by decide +kernel) rfl, by decide, by decide, by decide +kernel, by decide⟩
theorem okX7_tellNothing : okM mdX7_tellNothing 0 := ⟨gw_at (i := 66) (by decide +kernel) rfl, gw_at (i := 359) (by decide +kernel) rfl, by decide, by decide, by decide +kernel, by decide⟩
theorem okX8_allows : okM mdX8_allows 4 := ⟨gw_at (i := 67) (by decide +kernel) rfl, gw_at (i := 412) (by decide +kernel) rfl, by decide, by decide, by decide +kernel, by decide⟩
theorem okX8_append : okM mdX8_append 1 := ⟨gw_at (i := 67) (by decide +kernel) rfl, gw_at (i := 430) (by decide +kernel) rfl, by decide, by decide, by decide +kernel, by decide⟩
theorem okX8_arrange : okM mdX8_arrange 2 := ⟨gw_at (i := 67) (by decide +kernel) rfl, gw_at (i := 674) (by decide +kernel) rfl, by decide, by decide, by decide +kernel, by decide⟩
theorem okX8_isFull : okM mdX8_isFull 0 := ⟨gw_at (i := 67) (by decide +kernel) rfl, gw_at (i := 434) (by decide +kernel) rfl, by decide, by decide, by decide +kernel, by decide⟩
theorem okX8_isPossible : okM mdX8_isPossible 2 := ⟨gw_at (i := 67) (by decide +kernel) rfl, gw_at (i := 482) (by decide +kernel) rfl, by decide, by decide, by decide +kernel, by decide⟩
theorem okX8_numberOf : okM mdX8_numberOf 2 := ⟨gw_at (i := 67) (by decide +kernel) rfl, gw_at (i := 539) (by decide +kernel) rfl, by decide, by decide, by decide +kernel, by decide⟩
theorem okX8_remove : okM mdX8_remove 1 := ⟨gw_at (i := 67) (by decide +kernel) rfl, gw_at (i := 497) (by decide +kernel) rfl, by decide, by decide, by decide +kernel, by decide⟩
theorem okX8_takeFrom : okM mdX8_takeFrom 1 := ⟨gw_at (i := 67) (by decide +kernel) rfl, gw_at (i := 350) (by decide +kernel) rfl, by decide, by decide, by decide +kernel, by decide⟩
theorem okX9_append : okM mdX9_append 1 := ⟨gw_at (i := 70) (by decide +kernel) rfl, gw_at (i := 331) (by decide +kernel) rfl, by decide, by decide, by decide +kernel, by decide⟩
theorem okX9_beginsItem : okM mdX9_beginsItem 2 := ⟨gw_at (i := 70) (by decide +kernel) rfl, gw_at (i := 438) (by decide +kernel) rfl, by decide, by decide, by decide +kernel, by decide⟩
theorem okX9_endOfToken : okM mdX9_endOfToken 1 := ⟨gw_at (i := 70) (by decide +kernel) rfl, gw_at (i := 366) (by decide +kernel) rfl, by decide, by decide, by decide +kernel, by decide⟩
theorem okX9_endsItem : okM mdX9_endsItem 1 := ⟨gw_at (i := 70) (by decide +kernel) rfl, gw_at (i := 422) (by decide +kernel) rfl, by decide, by decide, by decide +kernel, by decide⟩
theorem okX9_isDigit : okM mdX9_isDigit 1 := ⟨gw_at (i := 70) (by decide +kernel) rfl, gw_at (i := 369) (by decide +kernel) rfl, by decide, by decide, by decide +kernel, by decide⟩
theorem okX9_isWhole : okM mdX9_isWhole 0 := ⟨gw_at (i := 70) (by decide +kernel) rfl, gw_at (i := 426) (by decide +kernel) rfl, by decide, by decide, by decide +kernel, by decide⟩
theorem okX9_readInto : okM mdX9_readInto 1 := ⟨gw_at (i := 70) (by decide +kernel) rfl, gw_at (i := 355) (by decide +kernel) rfl, by decide, by decide, by decide +kernel, by decide⟩
theorem okX9_takesMark : okM mdX9_takesMark 2 := ⟨gw_at (i := 70) (by decide +kernel) rfl, gw_at (i := 392) (by decide +kernel) rfl, by decide, by decide, by decide +kernel, by decide⟩
theorem okX9_takesNumber : okM mdX9_takesNumber 2 := ⟨gw_at (i := 70) (by decide +kernel) rfl, gw_at (i := 381) (by decide +kernel) rfl, by decide, by decide, by decide +kernel, by decide⟩
theorem okX9_takesPart : okM mdX9_takesPart 1 := ⟨gw_at (i := 70) (by decide +kernel) rfl, gw_at (i := 407) (by decide +kernel) rfl, by decide, by decide, by decide +kernel, by decide⟩
theorem okX9_takesSymbol : okM mdX9_takesSymbol 3 := ⟨gw_at (i := 70) (by decide +kernel) rfl, gw_at (i := 385) (by decide +kernel) rfl, by decide, by decide, by decide +kernel, by decide⟩
theorem okX9_takesToken : okM mdX9_takesToken 3 := ⟨gw_at (i := 70) (by decide +kernel) rfl, gw_at (i := 373) (by decide +kernel) rfl, by decide, by decide, by decide +kernel, by decide⟩
theorem okX9_valueOf : okM mdX9_valueOf 2 := ⟨gw_at (i := 70) (by decide +kernel) rfl, gw_at (i := 377) (by decide +kernel) rfl, by decide, by decide, by decide +kernel, by decide⟩
theorem vX0_18 : slk RX0 18 mdJ9_min_7cf53 2 := ⟨gw_at (i := 643) (by decide +kernel) rfl, gw_at (i := 102) (by decide +kernel) rfl, okJ9_min_7cf53⟩
theorem vX0_34 : vlk RX0 34 mdX0_swap 2 := ⟨gw_at (i := 662) (by decide +kernel) rfl, gw_at (i := 664) (by decide +kernel) rfl, gw_at (i := 25) (by decide +kernel) rfl, okX0_swap⟩
theorem vX10_103 : slk RX10 103 mdX10_isSpot 2 := ⟨gw_at (i := 454) (by decide +kernel) rfl, gw_at (i := 455) (by decide +kernel) rfl, okX10_isSpot⟩
theorem vX10_107 : slk RX10 107 mdX10_isSymbol 1 := ⟨gw_at (i := 458) (by decide +kernel) rfl, gw_at (i := 387) (by decide +kernel) rfl, okX10_isSymbol⟩
theorem vX10_113 : slk RX10 113 mdX10_isPlace 1 := ⟨gw_at (i := 457) (by decide +kernel) rfl, gw_at (i := 394) (by decide +kernel) rfl, okX10_isPlace⟩
theorem vX10_116 : vlk RX10 116 mdX7_isMarked 1 := ⟨gw_at (i := 463) (by decide +kernel) rfl, gw_at (i := 397) (by decide +kernel) rfl, gw_at (i := 398) (by decide +kernel) rfl, okX7_isMarked⟩
theorem vX10_119 : vlk RX10 119 mdX7_mark 2 := ⟨gw_at (i := 464) (by decide +kernel) rfl, gw_at (i := 401) (by decide +kernel) rfl, gw_at (i := 402) (by decide +kernel) rfl, okX7_mark⟩
theorem vX10_126 : slk RX10 126 mdJ6_bitCount_0f7a4 1 := ⟨gw_at (i := 465) (by decide +kernel) rfl, gw_at (i := 466) (by decide +kernel) rfl, okJ6_bitCount_0f7a4⟩
theorem vX10_132 : vlk RX10 132 mdX10_putStep 5 := ⟨gw_at (i := 475) (by decide +kernel) rfl, gw_at (i := 477) (by decide +kernel) rfl, gw_at (i := 10) (by decide +kernel) rfl, okX10_putStep⟩
theorem vX10_139 : slk RX10 139 mdX8_isPossible 2 := ⟨gw_at (i := 480) (by decide +kernel) rfl, gw_at (i := 481) (by decide +kernel) rfl, okX8_isPossible⟩
theorem vX10_147 : vlk RX10 147 mdX10_appendStep 1 := ⟨gw_at (i := 484) (by decide +kernel) rfl, gw_at (i := 486) (by decide +kernel) rfl, gw_at (i := 11) (by decide +kernel) rfl, okX10_appendStep⟩
theorem vX10_152 : vlk RX10 152 mdX8_remove 1 := ⟨gw_at (i := 494) (by decide +kernel) rfl, gw_at (i := 495) (by decide +kernel) rfl, gw_at (i := 496) (by decide +kernel) rfl, okX8_remove⟩
theorem vX10_162 : slk RX10 162 mdX10_isPair 2 := ⟨gw_at (i := 512) (by decide +kernel) rfl, gw_at (i := 513) (by decide +kernel) rfl, okX10_isPair⟩
theorem vX10_165 : vlk RX10 165 mdX10_findTaps 2 := ⟨gw_at (i := 515) (by decide +kernel) rfl, gw_at (i := 517) (by decide +kernel) rfl, gw_at (i := 12) (by decide +kernel) rfl, okX10_findTaps⟩
theorem vX10_168 : vlk RX10 168 mdX4_invert 0 := ⟨gw_at (i := 626) (by decide +kernel) rfl, gw_at (i := 588) (by decide +kernel) rfl, gw_at (i := 589) (by decide +kernel) rfl, okX4_invert⟩
theorem vX10_183 : vlk RX10 183 mdX10_findBestOrder 0 := ⟨gw_at (i := 635) (by decide +kernel) rfl, gw_at (i := 637) (by decide +kernel) rfl, gw_at (i := 23) (by decide +kernel) rfl, okX10_findBestOrder⟩
theorem vX10_187 : vlk RX10 187 mdX0_bestIsPresent 0 := ⟨gw_at (i := 666) (by decide +kernel) rfl, gw_at (i := 667) (by decide +kernel) rfl, gw_at (i := 668) (by decide +kernel) rfl, okX0_bestIsPresent⟩
theorem vX10_191 : vlk RX10 191 mdX8_takeFrom 1 := ⟨gw_at (i := 670) (by decide +kernel) rfl, gw_at (i := 348) (by decide +kernel) rfl, gw_at (i := 349) (by decide +kernel) rfl, okX8_takeFrom⟩
theorem vX10_197 : vlk RX10 197 mdX8_arrange 2 := ⟨gw_at (i := 671) (by decide +kernel) rfl, gw_at (i := 672) (by decide +kernel) rfl, gw_at (i := 673) (by decide +kernel) rfl, okX8_arrange⟩
theorem vX10_201 : vlk RX10 201 mdX10_errorsAfter 1 := ⟨gw_at (i := 679) (by decide +kernel) rfl, gw_at (i := 681) (by decide +kernel) rfl, gw_at (i := 26) (by decide +kernel) rfl, okX10_errorsAfter⟩
theorem vX10_214 : vlk RX10 214 mdX3_restore 1 := ⟨gw_at (i := 689) (by decide +kernel) rfl, gw_at (i := 690) (by decide +kernel) rfl, gw_at (i := 691) (by decide +kernel) rfl, okX3_restore⟩
theorem vX10_217 : vlk RX10 217 mdX1_receive 2 := ⟨gw_at (i := 519) (by decide +kernel) rfl, gw_at (i := 520) (by decide +kernel) rfl, gw_at (i := 521) (by decide +kernel) rfl, okX1_receive⟩
theorem vX10_224 : slk RX10 224 mdX2_decided 1 := ⟨gw_at (i := 700) (by decide +kernel) rfl, gw_at (i := 621) (by decide +kernel) rfl, okX2_decided⟩
theorem vX10_229 : vlk RX10 229 mdX8_numberOf 2 := ⟨gw_at (i := 705) (by decide +kernel) rfl, gw_at (i := 537) (by decide +kernel) rfl, gw_at (i := 538) (by decide +kernel) rfl, okX8_numberOf⟩
theorem vX10_234 : vlk RX10 234 mdX4_entry 1 := ⟨gw_at (i := 723) (by decide +kernel) rfl, gw_at (i := 724) (by decide +kernel) rfl, gw_at (i := 725) (by decide +kernel) rfl, okX4_entry⟩
theorem vX10_237 : vlk RX10 237 mdX1_takeFrom 1 := ⟨gw_at (i := 731) (by decide +kernel) rfl, gw_at (i := 732) (by decide +kernel) rfl, gw_at (i := 733) (by decide +kernel) rfl, okX1_takeFrom⟩
theorem vX10_240 : vlk RX10 240 mdX1_late 1 := ⟨gw_at (i := 735) (by decide +kernel) rfl, gw_at (i := 565) (by decide +kernel) rfl, gw_at (i := 566) (by decide +kernel) rfl, okX1_late⟩
theorem vX10_243 : vlk RX10 243 mdX1_errorsAtMarks 1 := ⟨gw_at (i := 736) (by decide +kernel) rfl, gw_at (i := 737) (by decide +kernel) rfl, gw_at (i := 738) (by decide +kernel) rfl, okX1_errorsAtMarks⟩
theorem vX10_246 : slk RX10 246 mdX2_power 2 := ⟨gw_at (i := 744) (by decide +kernel) rfl, gw_at (i := 414) (by decide +kernel) rfl, okX2_power⟩
theorem vX10_249 : vlk RX10 249 mdX10_unspreadFits 1 := ⟨gw_at (i := 745) (by decide +kernel) rfl, gw_at (i := 747) (by decide +kernel) rfl, gw_at (i := 27) (by decide +kernel) rfl, okX10_unspreadFits⟩
theorem vX10_252 : vlk RX10 252 mdX6_append 2 := ⟨gw_at (i := 762) (by decide +kernel) rfl, gw_at (i := 763) (by decide +kernel) rfl, gw_at (i := 764) (by decide +kernel) rfl, okX6_append⟩
theorem vX10_254 : vlk RX10 254 mdX10_slipFits 2 := ⟨gw_at (i := 774) (by decide +kernel) rfl, gw_at (i := 776) (by decide +kernel) rfl, gw_at (i := 28) (by decide +kernel) rfl, okX10_slipFits⟩
theorem vX10_257 : slk RX10 257 mdX5_power 2 := ⟨gw_at (i := 788) (by decide +kernel) rfl, gw_at (i := 789) (by decide +kernel) rfl, okX5_power⟩
theorem vX10_260 : slk RX10 260 mdX5_atMost 3 := ⟨gw_at (i := 791) (by decide +kernel) rfl, gw_at (i := 792) (by decide +kernel) rfl, okX5_atMost⟩
theorem vX10_264 : slk RX10 264 mdX5_commonDivisor 2 := ⟨gw_at (i := 795) (by decide +kernel) rfl, gw_at (i := 796) (by decide +kernel) rfl, okX5_commonDivisor⟩
theorem vX10_267 : slk RX10 267 mdJ9_max_7cf53 2 := ⟨gw_at (i := 801) (by decide +kernel) rfl, gw_at (i := 694) (by decide +kernel) rfl, okJ9_max_7cf53⟩
theorem vX10_272 : vlk RX10 272 mdX8_isFull 0 := ⟨gw_at (i := 488) (by decide +kernel) rfl, gw_at (i := 432) (by decide +kernel) rfl, gw_at (i := 433) (by decide +kernel) rfl, okX8_isFull⟩
theorem vX10_275 : vlk RX10 275 mdX8_append 1 := ⟨gw_at (i := 489) (by decide +kernel) rfl, gw_at (i := 428) (by decide +kernel) rfl, gw_at (i := 429) (by decide +kernel) rfl, okX8_append⟩
theorem vX10_278 : vlk RX10 278 mdX1_errors 1 := ⟨gw_at (i := 649) (by decide +kernel) rfl, gw_at (i := 650) (by decide +kernel) rfl, gw_at (i := 651) (by decide +kernel) rfl, okX1_errors⟩
theorem vX10_281 : vlk RX10 281 mdX1_unspread 1 := ⟨gw_at (i := 749) (by decide +kernel) rfl, gw_at (i := 578) (by decide +kernel) rfl, gw_at (i := 579) (by decide +kernel) rfl, okX1_unspread⟩
theorem vX10_284 : vlk RX10 284 mdX1_slip 2 := ⟨gw_at (i := 778) (by decide +kernel) rfl, gw_at (i := 554) (by decide +kernel) rfl, gw_at (i := 555) (by decide +kernel) rfl, okX1_slip⟩
theorem vX10_288 : vlk RX10 288 mdX1_passStage 2 := ⟨gw_at (i := 648) (by decide +kernel) rfl, gw_at (i := 574) (by decide +kernel) rfl, gw_at (i := 575) (by decide +kernel) rfl, okX1_passStage⟩
theorem vX10_291 : vlk RX10 291 mdX6_areTrueOf 1 := ⟨gw_at (i := 779) (by decide +kernel) rfl, gw_at (i := 780) (by decide +kernel) rfl, gw_at (i := 781) (by decide +kernel) rfl, okX6_areTrueOf⟩
theorem vX10_295 : vlk RX10 295 mdX4_put 4 := ⟨gw_at (i := 623) (by decide +kernel) rfl, gw_at (i := 545) (by decide +kernel) rfl, gw_at (i := 546) (by decide +kernel) rfl, okX4_put⟩
theorem vX10_299 : slk RX10 299 mdX2_light 1 := ⟨gw_at (i := 624) (by decide +kernel) rfl, gw_at (i := 528) (by decide +kernel) rfl, okX2_light⟩
theorem vX10_302 : vlk RX10 302 mdX4_determinant 0 := ⟨gw_at (i := 625) (by decide +kernel) rfl, gw_at (i := 592) (by decide +kernel) rfl, gw_at (i := 593) (by decide +kernel) rfl, okX4_determinant⟩
theorem vX10_305 : vlk RX10 305 mdX4_multiplyFromLeft 1 := ⟨gw_at (i := 627) (by decide +kernel) rfl, gw_at (i := 628) (by decide +kernel) rfl, gw_at (i := 629) (by decide +kernel) rfl, okX4_multiplyFromLeft⟩
theorem vX10_309 : vlk RX10 309 mdX0_start 1 := ⟨gw_at (i := 639) (by decide +kernel) rfl, gw_at (i := 640) (by decide +kernel) rfl, gw_at (i := 641) (by decide +kernel) rfl, okX0_start⟩
theorem vX10_315 : vlk RX10 315 mdX10_errorsInOrder 1 := ⟨gw_at (i := 644) (by decide +kernel) rfl, gw_at (i := 646) (by decide +kernel) rfl, gw_at (i := 24) (by decide +kernel) rfl, okX10_errorsInOrder⟩
theorem vX10_319 : vlk RX10 319 mdX0_keepCurrent 0 := ⟨gw_at (i := 653) (by decide +kernel) rfl, gw_at (i := 654) (by decide +kernel) rfl, gw_at (i := 655) (by decide +kernel) rfl, okX0_keepCurrent⟩
theorem vX10_322 : vlk RX10 322 mdX0_moveOn 0 := ⟨gw_at (i := 658) (by decide +kernel) rfl, gw_at (i := 659) (by decide +kernel) rfl, gw_at (i := 660) (by decide +kernel) rfl, okX0_moveOn⟩
theorem vX10_81 : vlk RX10 81 mdX9_append 1 := ⟨gw_at (i := 328) (by decide +kernel) rfl, gw_at (i := 329) (by decide +kernel) rfl, gw_at (i := 330) (by decide +kernel) rfl, okX9_append⟩
theorem vX10_89 : vlk RX10 89 mdX7_takeFrom 1 := ⟨gw_at (i := 340) (by decide +kernel) rfl, gw_at (i := 341) (by decide +kernel) rfl, gw_at (i := 342) (by decide +kernel) rfl, okX7_takeFrom⟩
theorem vX10_93 : vlk RX10 93 mdX9_readInto 1 := ⟨gw_at (i := 352) (by decide +kernel) rfl, gw_at (i := 353) (by decide +kernel) rfl, gw_at (i := 354) (by decide +kernel) rfl, okX9_readInto⟩
theorem vX10_97 : vlk RX10 97 mdX3_remember 1 := ⟨gw_at (i := 444) (by decide +kernel) rfl, gw_at (i := 445) (by decide +kernel) rfl, gw_at (i := 446) (by decide +kernel) rfl, okX3_remember⟩
theorem vX11_112 : vlk RX11 112 mdX11_next 0 := ⟨gw_at (i := 931) (by decide +kernel) rfl, gw_at (i := 933) (by decide +kernel) rfl, gw_at (i := 29) (by decide +kernel) rfl, okX11_next⟩
theorem vX11_115 : vlk RX11 115 mdX11_must 1 := ⟨gw_at (i := 939) (by decide +kernel) rfl, gw_at (i := 941) (by decide +kernel) rfl, gw_at (i := 31) (by decide +kernel) rfl, okX11_must⟩
theorem vX11_123 : slk RX11 123 mdX11_has 2 := ⟨gw_at (i := 947) (by decide +kernel) rfl, gw_at (i := 948) (by decide +kernel) rfl, okX11_has⟩
theorem vX11_127 : vlk RX11 127 mdX11_readMarks 0 := ⟨gw_at (i := 943) (by decide +kernel) rfl, gw_at (i := 945) (by decide +kernel) rfl, gw_at (i := 32) (by decide +kernel) rfl, okX11_readMarks⟩
theorem vX11_130 : vlk RX11 130 mdX11_readDeed 0 := ⟨gw_at (i := 950) (by decide +kernel) rfl, gw_at (i := 952) (by decide +kernel) rfl, gw_at (i := 33) (by decide +kernel) rfl, okX11_readDeed⟩
theorem vX11_133 : vlk RX11 133 mdX11_readRow 1 := ⟨gw_at (i := 963) (by decide +kernel) rfl, gw_at (i := 965) (by decide +kernel) rfl, gw_at (i := 34) (by decide +kernel) rfl, okX11_readRow⟩
theorem vX11_137 : vlk RX11 137 mdX11_readItem 0 := ⟨gw_at (i := 935) (by decide +kernel) rfl, gw_at (i := 937) (by decide +kernel) rfl, gw_at (i := 30) (by decide +kernel) rfl, okX11_readItem⟩
theorem vX11_140 : vlk RX11 140 mdX11_note 0 := ⟨gw_at (i := 967) (by decide +kernel) rfl, gw_at (i := 969) (by decide +kernel) rfl, gw_at (i := 35) (by decide +kernel) rfl, okX11_note⟩
theorem vX11_146 : vlk RX11 146 mdX11_marksMany 0 := ⟨gw_at (i := 979) (by decide +kernel) rfl, gw_at (i := 981) (by decide +kernel) rfl, gw_at (i := 36) (by decide +kernel) rfl, okX11_marksMany⟩
theorem vX11_150 : vlk RX11 150 mdX11_lay 6 := ⟨gw_at (i := 990) (by decide +kernel) rfl, gw_at (i := 992) (by decide +kernel) rfl, gw_at (i := 37) (by decide +kernel) rfl, okX11_lay⟩
theorem vX11_154 : vlk RX11 154 mdX11_takeMade 0 := ⟨gw_at (i := 1039) (by decide +kernel) rfl, gw_at (i := 1041) (by decide +kernel) rfl, gw_at (i := 43) (by decide +kernel) rfl, okX11_takeMade⟩
theorem vX11_157 : slk RX11 157 mdX11_inverse 1 := ⟨gw_at (i := 1067) (by decide +kernel) rfl, gw_at (i := 1068) (by decide +kernel) rfl, okX11_inverse⟩
theorem vX11_160 : vlk RX11 160 mdX11_twist 4 := ⟨gw_at (i := 1043) (by decide +kernel) rfl, gw_at (i := 1045) (by decide +kernel) rfl, gw_at (i := 44) (by decide +kernel) rfl, okX11_twist⟩
theorem vX11_164 : slk RX11 164 mdX11_isLight 1 := ⟨gw_at (i := 1078) (by decide +kernel) rfl, gw_at (i := 1079) (by decide +kernel) rfl, okX11_isLight⟩
theorem vX11_168 : slk RX11 168 mdX11_decided 1 := ⟨gw_at (i := 1085) (by decide +kernel) rfl, gw_at (i := 1086) (by decide +kernel) rfl, okX11_decided⟩
theorem vX11_171 : vlk RX11 171 mdX11_mendFrom 2 := ⟨gw_at (i := 1088) (by decide +kernel) rfl, gw_at (i := 1090) (by decide +kernel) rfl, gw_at (i := 53) (by decide +kernel) rfl, okX11_mendFrom⟩
theorem vX11_175 : vlk RX11 175 mdX11_spread 1 := ⟨gw_at (i := 1035) (by decide +kernel) rfl, gw_at (i := 1037) (by decide +kernel) rfl, gw_at (i := 42) (by decide +kernel) rfl, okX11_spread⟩
theorem vX11_178 : vlk RX11 178 mdX11_slip 2 := ⟨gw_at (i := 1047) (by decide +kernel) rfl, gw_at (i := 1049) (by decide +kernel) rfl, gw_at (i := 45) (by decide +kernel) rfl, okX11_slip⟩
theorem vX11_181 : vlk RX11 181 mdX11_late 1 := ⟨gw_at (i := 1051) (by decide +kernel) rfl, gw_at (i := 1053) (by decide +kernel) rfl, gw_at (i := 46) (by decide +kernel) rfl, okX11_late⟩
theorem vX11_184 : vlk RX11 184 mdX11_unspread 1 := ⟨gw_at (i := 1063) (by decide +kernel) rfl, gw_at (i := 1065) (by decide +kernel) rfl, gw_at (i := 49) (by decide +kernel) rfl, okX11_unspread⟩
theorem vX11_187 : vlk RX11 187 mdX11_untwist 4 := ⟨gw_at (i := 1070) (by decide +kernel) rfl, gw_at (i := 1072) (by decide +kernel) rfl, gw_at (i := 50) (by decide +kernel) rfl, okX11_untwist⟩
theorem vX11_190 : vlk RX11 190 mdX11_blind 0 := ⟨gw_at (i := 1074) (by decide +kernel) rfl, gw_at (i := 1076) (by decide +kernel) rfl, gw_at (i := 51) (by decide +kernel) rfl, okX11_blind⟩
theorem vX11_193 : vlk RX11 193 mdX11_mend 0 := ⟨gw_at (i := 1081) (by decide +kernel) rfl, gw_at (i := 1083) (by decide +kernel) rfl, gw_at (i := 52) (by decide +kernel) rfl, okX11_mend⟩
theorem vX11_196 : vlk RX11 196 mdX11_doDeed 1 := ⟨gw_at (i := 1031) (by decide +kernel) rfl, gw_at (i := 1033) (by decide +kernel) rfl, gw_at (i := 41) (by decide +kernel) rfl, okX11_doDeed⟩
theorem vX11_199 : vlk RX11 199 mdX11_doStage 1 := ⟨gw_at (i := 1059) (by decide +kernel) rfl, gw_at (i := 1061) (by decide +kernel) rfl, gw_at (i := 48) (by decide +kernel) rfl, okX11_doStage⟩
theorem vX11_202 : vlk RX11 202 mdX11_layAir 0 := ⟨gw_at (i := 1024) (by decide +kernel) rfl, gw_at (i := 1026) (by decide +kernel) rfl, gw_at (i := 40) (by decide +kernel) rfl, okX11_layAir⟩
theorem vX11_205 : vlk RX11 205 mdX11_goThrough 1 := ⟨gw_at (i := 1055) (by decide +kernel) rfl, gw_at (i := 1057) (by decide +kernel) rfl, gw_at (i := 47) (by decide +kernel) rfl, okX11_goThrough⟩
theorem vX11_208 : vlk RX11 208 mdX11_layReceived 0 := ⟨gw_at (i := 1020) (by decide +kernel) rfl, gw_at (i := 1022) (by decide +kernel) rfl, gw_at (i := 39) (by decide +kernel) rfl, okX11_layReceived⟩
theorem vX11_211 : vlk RX11 211 mdX11_wrongNow 0 := ⟨gw_at (i := 1108) (by decide +kernel) rfl, gw_at (i := 1110) (by decide +kernel) rfl, gw_at (i := 56) (by decide +kernel) rfl, okX11_wrongNow⟩
theorem vX11_214 : slk RX11 214 mdX11_isStage 5 := ⟨gw_at (i := 1002) (by decide +kernel) rfl, gw_at (i := 1003) (by decide +kernel) rfl, okX11_isStage⟩
theorem vX11_223 : vlk RX11 223 mdX11_findTaps 3 := ⟨gw_at (i := 1092) (by decide +kernel) rfl, gw_at (i := 1094) (by decide +kernel) rfl, gw_at (i := 54) (by decide +kernel) rfl, okX11_findTaps⟩
theorem vX11_226 : slk RX11 226 mdX11_arePlaces 2 := ⟨gw_at (i := 1013) (by decide +kernel) rfl, gw_at (i := 1014) (by decide +kernel) rfl, okX11_arePlaces⟩
theorem vX11_229 : vlk RX11 229 mdX11_areTaps 2 := ⟨gw_at (i := 1016) (by decide +kernel) rfl, gw_at (i := 1018) (by decide +kernel) rfl, gw_at (i := 38) (by decide +kernel) rfl, okX11_areTaps⟩
theorem vX11_232 : vlk RX11 232 mdX11_swap 2 := ⟨gw_at (i := 1116) (by decide +kernel) rfl, gw_at (i := 1118) (by decide +kernel) rfl, gw_at (i := 58) (by decide +kernel) rfl, okX11_swap⟩
theorem vX11_238 : vlk RX11 238 mdX11_turnsOn 1 := ⟨gw_at (i := 1112) (by decide +kernel) rfl, gw_at (i := 1114) (by decide +kernel) rfl, gw_at (i := 57) (by decide +kernel) rfl, okX11_turnsOn⟩
theorem vX11_241 : vlk RX11 241 mdX11_findOrder 0 := ⟨gw_at (i := 1104) (by decide +kernel) rfl, gw_at (i := 1106) (by decide +kernel) rfl, gw_at (i := 55) (by decide +kernel) rfl, okX11_findOrder⟩
theorem vX11_244 : vlk RX11 244 mdX11_wrongReceived 0 := ⟨gw_at (i := 1128) (by decide +kernel) rfl, gw_at (i := 1130) (by decide +kernel) rfl, gw_at (i := 59) (by decide +kernel) rfl, okX11_wrongReceived⟩
theorem vX11_250 : vlk RX11 250 mdX11_keepReceived 0 := ⟨gw_at (i := 1159) (by decide +kernel) rfl, gw_at (i := 1161) (by decide +kernel) rfl, gw_at (i := 60) (by decide +kernel) rfl, okX11_keepReceived⟩
theorem vX11_253 : vlk RX11 253 mdX11_layKept 0 := ⟨gw_at (i := 1163) (by decide +kernel) rfl, gw_at (i := 1165) (by decide +kernel) rfl, gw_at (i := 61) (by decide +kernel) rfl, okX11_layKept⟩
theorem vX11_256 : vlk RX11 256 mdX11_wrongAtMarks 0 := ⟨gw_at (i := 1167) (by decide +kernel) rfl, gw_at (i := 1169) (by decide +kernel) rfl, gw_at (i := 62) (by decide +kernel) rfl, okX11_wrongAtMarks⟩
theorem vX11_259 : vlk RX11 259 mdX11_isSeenBy 2 := ⟨gw_at (i := 1191) (by decide +kernel) rfl, gw_at (i := 1193) (by decide +kernel) rfl, gw_at (i := 63) (by decide +kernel) rfl, okX11_isSeenBy⟩
theorem vX11_63 : slk RX11 63 mdX11_power 2 := ⟨gw_at (i := 957) (by decide +kernel) rfl, gw_at (i := 958) (by decide +kernel) rfl, okX11_power⟩
theorem vX11_67 : slk RX11 67 mdX11_light 1 := ⟨gw_at (i := 1028) (by decide +kernel) rfl, gw_at (i := 1029) (by decide +kernel) rfl, okX11_light⟩
theorem vX11_71 : slk RX11 71 mdX11_left 1 := ⟨gw_at (i := 960) (by decide +kernel) rfl, gw_at (i := 961) (by decide +kernel) rfl, okX11_left⟩
theorem vX11_82 : slk RX11 82 mdX11_in 3 := ⟨gw_at (i := 920) (by decide +kernel) rfl, gw_at (i := 921) (by decide +kernel) rfl, okX11_in⟩
theorem vX11_86 : slk RX11 86 mdX11_mayBe 6 := ⟨gw_at (i := 954) (by decide +kernel) rfl, gw_at (i := 955) (by decide +kernel) rfl, okX11_mayBe⟩
theorem vX11_90 : slk RX11 90 mdX11_isDeed 5 := ⟨gw_at (i := 987) (by decide +kernel) rfl, gw_at (i := 988) (by decide +kernel) rfl, okX11_isDeed⟩
theorem vX1_101 : vlk RX1 101 mdX1_brightestFactor 0 := ⟨gw_at (i := 597) (by decide +kernel) rfl, gw_at (i := 599) (by decide +kernel) rfl, gw_at (i := 19) (by decide +kernel) rfl, okX1_brightestFactor⟩
theorem vX1_105 : vlk RX1 105 mdX1_multiply 1 := ⟨gw_at (i := 602) (by decide +kernel) rfl, gw_at (i := 604) (by decide +kernel) rfl, gw_at (i := 20) (by decide +kernel) rfl, okX1_multiply⟩
theorem vX1_108 : vlk RX1 108 mdX1_mend 1 := ⟨gw_at (i := 606) (by decide +kernel) rfl, gw_at (i := 608) (by decide +kernel) rfl, gw_at (i := 21) (by decide +kernel) rfl, okX1_mend⟩
theorem vX1_111 : slk RX1 111 mdX2_power 2 := ⟨gw_at (i := 581) (by decide +kernel) rfl, gw_at (i := 414) (by decide +kernel) rfl, okX2_power⟩
theorem vX1_114 : slk RX1 114 mdJ9_floorMod_7cf53 2 := ⟨gw_at (i := 582) (by decide +kernel) rfl, gw_at (i := 417) (by decide +kernel) rfl, okJ9_floorMod_7cf53⟩
theorem vX1_119 : slk RX1 119 mdX2_inverse 1 := ⟨gw_at (i := 583) (by decide +kernel) rfl, gw_at (i := 584) (by decide +kernel) rfl, okX2_inverse⟩
theorem vX1_134 : vlk RX1 134 mdX1_turn 2 := ⟨gw_at (i := 557) (by decide +kernel) rfl, gw_at (i := 559) (by decide +kernel) rfl, gw_at (i := 17) (by decide +kernel) rfl, okX1_turn⟩
theorem vX1_137 : slk RX1 137 mdX2_turned 2 := ⟨gw_at (i := 561) (by decide +kernel) rfl, gw_at (i := 562) (by decide +kernel) rfl, okX2_turned⟩
theorem vX1_140 : slk RX1 140 mdJ7_fill_53178 2 := ⟨gw_at (i := 601) (by decide +kernel) rfl, gw_at (i := 361) (by decide +kernel) rfl, okJ7_fill_53178⟩
theorem vX1_146 : vlk RX1 146 mdX7_firstMarked 0 := ⟨gw_at (i := 610) (by decide +kernel) rfl, gw_at (i := 611) (by decide +kernel) rfl, gw_at (i := 612) (by decide +kernel) rfl, okX7_firstMarked⟩
theorem vX1_149 : vlk RX1 149 mdX7_isMarked 1 := ⟨gw_at (i := 615) (by decide +kernel) rfl, gw_at (i := 397) (by decide +kernel) rfl, gw_at (i := 398) (by decide +kernel) rfl, okX7_isMarked⟩
theorem vX1_153 : vlk RX1 153 mdX1_bestTurn 2 := ⟨gw_at (i := 616) (by decide +kernel) rfl, gw_at (i := 618) (by decide +kernel) rfl, gw_at (i := 22) (by decide +kernel) rfl, okX1_bestTurn⟩
theorem vX1_157 : slk RX1 157 mdX2_decided 1 := ⟨gw_at (i := 620) (by decide +kernel) rfl, gw_at (i := 621) (by decide +kernel) rfl, okX2_decided⟩
theorem vX1_34 : vlk RX1 34 mdX1_shine 1 := ⟨gw_at (i := 523) (by decide +kernel) rfl, gw_at (i := 525) (by decide +kernel) rfl, gw_at (i := 13) (by decide +kernel) rfl, okX1_shine⟩
theorem vX1_50 : vlk RX1 50 mdX1_passDeed 2 := ⟨gw_at (i := 532) (by decide +kernel) rfl, gw_at (i := 534) (by decide +kernel) rfl, gw_at (i := 14) (by decide +kernel) rfl, okX1_passDeed⟩
theorem vX1_54 : vlk RX1 54 mdX1_passStage 2 := ⟨gw_at (i := 573) (by decide +kernel) rfl, gw_at (i := 574) (by decide +kernel) rfl, gw_at (i := 575) (by decide +kernel) rfl, okX1_passStage⟩
theorem vX1_61 : slk RX1 61 mdX2_light 1 := ⟨gw_at (i := 527) (by decide +kernel) rfl, gw_at (i := 528) (by decide +kernel) rfl, okX2_light⟩
theorem vX1_67 : vlk RX1 67 mdX8_numberOf 2 := ⟨gw_at (i := 536) (by decide +kernel) rfl, gw_at (i := 537) (by decide +kernel) rfl, gw_at (i := 538) (by decide +kernel) rfl, okX8_numberOf⟩
theorem vX1_71 : vlk RX1 71 mdX1_spread 1 := ⟨gw_at (i := 540) (by decide +kernel) rfl, gw_at (i := 542) (by decide +kernel) rfl, gw_at (i := 15) (by decide +kernel) rfl, okX1_spread⟩
theorem vX1_75 : vlk RX1 75 mdX4_put 4 := ⟨gw_at (i := 544) (by decide +kernel) rfl, gw_at (i := 545) (by decide +kernel) rfl, gw_at (i := 546) (by decide +kernel) rfl, okX4_put⟩
theorem vX1_79 : vlk RX1 79 mdX1_twist 0 := ⟨gw_at (i := 549) (by decide +kernel) rfl, gw_at (i := 551) (by decide +kernel) rfl, gw_at (i := 16) (by decide +kernel) rfl, okX1_twist⟩
theorem vX1_82 : vlk RX1 82 mdX1_slip 2 := ⟨gw_at (i := 553) (by decide +kernel) rfl, gw_at (i := 554) (by decide +kernel) rfl, gw_at (i := 555) (by decide +kernel) rfl, okX1_slip⟩
theorem vX1_86 : vlk RX1 86 mdX1_late 1 := ⟨gw_at (i := 564) (by decide +kernel) rfl, gw_at (i := 565) (by decide +kernel) rfl, gw_at (i := 566) (by decide +kernel) rfl, okX1_late⟩
theorem vX1_89 : vlk RX1 89 mdX1_hit 2 := ⟨gw_at (i := 569) (by decide +kernel) rfl, gw_at (i := 571) (by decide +kernel) rfl, gw_at (i := 18) (by decide +kernel) rfl, okX1_hit⟩
theorem vX1_95 : vlk RX1 95 mdX1_unspread 1 := ⟨gw_at (i := 577) (by decide +kernel) rfl, gw_at (i := 578) (by decide +kernel) rfl, gw_at (i := 579) (by decide +kernel) rfl, okX1_unspread⟩
theorem vX1_98 : vlk RX1 98 mdX4_invert 0 := ⟨gw_at (i := 587) (by decide +kernel) rfl, gw_at (i := 588) (by decide +kernel) rfl, gw_at (i := 589) (by decide +kernel) rfl, okX4_invert⟩
theorem vX2_15 : slk RX2 15 mdX2_power 2 := ⟨gw_at (i := 586) (by decide +kernel) rfl, gw_at (i := 414) (by decide +kernel) rfl, okX2_power⟩
theorem vX3_22 : vlk RX3 22 mdX7_takeFrom 1 := ⟨gw_at (i := 448) (by decide +kernel) rfl, gw_at (i := 341) (by decide +kernel) rfl, gw_at (i := 342) (by decide +kernel) rfl, okX7_takeFrom⟩
theorem vX3_29 : slk RX3 29 mdJ9_min_7cf53 2 := ⟨gw_at (i := 449) (by decide +kernel) rfl, gw_at (i := 102) (by decide +kernel) rfl, okJ9_min_7cf53⟩
theorem vX3_35 : slk RX3 35 mdJ9_max_7cf53 2 := ⟨gw_at (i := 693) (by decide +kernel) rfl, gw_at (i := 694) (by decide +kernel) rfl, okJ9_max_7cf53⟩
theorem vX4_30 : vlk RX4 30 mdX4_determinant 0 := ⟨gw_at (i := 591) (by decide +kernel) rfl, gw_at (i := 592) (by decide +kernel) rfl, gw_at (i := 593) (by decide +kernel) rfl, okX4_determinant⟩
theorem vX4_34 : slk RX4 34 mdX2_inverse 1 := ⟨gw_at (i := 595) (by decide +kernel) rfl, gw_at (i := 584) (by decide +kernel) rfl, okX2_inverse⟩
theorem vX4_40 : vlk RX4 40 mdX4_put 4 := ⟨gw_at (i := 596) (by decide +kernel) rfl, gw_at (i := 545) (by decide +kernel) rfl, gw_at (i := 546) (by decide +kernel) rfl, okX4_put⟩
theorem vX4_9 : slk RX4 9 mdJ9_floorMod_7cf53 2 := ⟨gw_at (i := 548) (by decide +kernel) rfl, gw_at (i := 417) (by decide +kernel) rfl, okJ9_floorMod_7cf53⟩
theorem vX5_13 : slk RX5 13 mdX5_sharedPower 3 := ⟨gw_at (i := 798) (by decide +kernel) rfl, gw_at (i := 799) (by decide +kernel) rfl, okX5_sharedPower⟩
theorem vX5_7 : slk RX5 7 mdX5_power 2 := ⟨gw_at (i := 794) (by decide +kernel) rfl, gw_at (i := 789) (by decide +kernel) rfl, okX5_power⟩
theorem vX6_27 : slk RX6 27 mdX2_decided 1 := ⟨gw_at (i := 783) (by decide +kernel) rfl, gw_at (i := 621) (by decide +kernel) rfl, okX2_decided⟩
theorem vX7_31 : slk RX7 31 mdJ7_fill_53178 2 := ⟨gw_at (i := 360) (by decide +kernel) rfl, gw_at (i := 361) (by decide +kernel) rfl, okJ7_fill_53178⟩
theorem vX7_40 : vlk RX7 40 mdX7_isMarked 1 := ⟨gw_at (i := 614) (by decide +kernel) rfl, gw_at (i := 397) (by decide +kernel) rfl, gw_at (i := 398) (by decide +kernel) rfl, okX7_isMarked⟩
theorem vX7_50 : vlk RX7 50 mdX8_takeFrom 1 := ⟨gw_at (i := 347) (by decide +kernel) rfl, gw_at (i := 348) (by decide +kernel) rfl, gw_at (i := 349) (by decide +kernel) rfl, okX8_takeFrom⟩
theorem vX8_25 : slk RX8 25 mdX8_allows 4 := ⟨gw_at (i := 483) (by decide +kernel) rfl, gw_at (i := 411) (by decide +kernel) rfl, okX8_allows⟩
theorem vX8_29 : slk RX8 29 mdX2_power 2 := ⟨gw_at (i := 413) (by decide +kernel) rfl, gw_at (i := 414) (by decide +kernel) rfl, okX2_power⟩
theorem vX8_34 : slk RX8 34 mdJ9_floorMod_7cf53 2 := ⟨gw_at (i := 416) (by decide +kernel) rfl, gw_at (i := 417) (by decide +kernel) rfl, okJ9_floorMod_7cf53⟩
theorem vX8_40 : vlk RX8 40 mdX8_isFull 0 := ⟨gw_at (i := 431) (by decide +kernel) rfl, gw_at (i := 432) (by decide +kernel) rfl, gw_at (i := 433) (by decide +kernel) rfl, okX8_isFull⟩
theorem vX9_102 : vlk RX9 102 mdX7_isMarked 1 := ⟨gw_at (i := 396) (by decide +kernel) rfl, gw_at (i := 397) (by decide +kernel) rfl, gw_at (i := 398) (by decide +kernel) rfl, okX7_isMarked⟩
theorem vX9_105 : vlk RX9 105 mdX7_mark 2 := ⟨gw_at (i := 400) (by decide +kernel) rfl, gw_at (i := 401) (by decide +kernel) rfl, gw_at (i := 402) (by decide +kernel) rfl, okX7_mark⟩
theorem vX9_112 : slk RX9 112 mdX8_allows 4 := ⟨gw_at (i := 410) (by decide +kernel) rfl, gw_at (i := 411) (by decide +kernel) rfl, okX8_allows⟩
theorem vX9_116 : vlk RX9 116 mdX9_isWhole 0 := ⟨gw_at (i := 423) (by decide +kernel) rfl, gw_at (i := 425) (by decide +kernel) rfl, gw_at (i := 8) (by decide +kernel) rfl, okX9_isWhole⟩
theorem vX9_119 : vlk RX9 119 mdX8_append 1 := ⟨gw_at (i := 427) (by decide +kernel) rfl, gw_at (i := 428) (by decide +kernel) rfl, gw_at (i := 429) (by decide +kernel) rfl, okX8_append⟩
theorem vX9_24 : vlk RX9 24 mdX7_tellNothing 0 := ⟨gw_at (i := 356) (by decide +kernel) rfl, gw_at (i := 357) (by decide +kernel) rfl, gw_at (i := 358) (by decide +kernel) rfl, okX7_tellNothing⟩
theorem vX9_39 : vlk RX9 39 mdX9_endOfToken 1 := ⟨gw_at (i := 363) (by decide +kernel) rfl, gw_at (i := 365) (by decide +kernel) rfl, gw_at (i := 0) (by decide +kernel) rfl, okX9_endOfToken⟩
theorem vX9_43 : vlk RX9 43 mdX9_takesToken 3 := ⟨gw_at (i := 370) (by decide +kernel) rfl, gw_at (i := 372) (by decide +kernel) rfl, gw_at (i := 1) (by decide +kernel) rfl, okX9_takesToken⟩
theorem vX9_47 : slk RX9 47 mdX9_isDigit 1 := ⟨gw_at (i := 367) (by decide +kernel) rfl, gw_at (i := 368) (by decide +kernel) rfl, okX9_isDigit⟩
theorem vX9_51 : vlk RX9 51 mdX9_valueOf 2 := ⟨gw_at (i := 374) (by decide +kernel) rfl, gw_at (i := 376) (by decide +kernel) rfl, gw_at (i := 2) (by decide +kernel) rfl, okX9_valueOf⟩
theorem vX9_55 : vlk RX9 55 mdX9_takesNumber 2 := ⟨gw_at (i := 378) (by decide +kernel) rfl, gw_at (i := 380) (by decide +kernel) rfl, gw_at (i := 3) (by decide +kernel) rfl, okX9_takesNumber⟩
theorem vX9_59 : vlk RX9 59 mdX9_endsItem 1 := ⟨gw_at (i := 419) (by decide +kernel) rfl, gw_at (i := 421) (by decide +kernel) rfl, gw_at (i := 7) (by decide +kernel) rfl, okX9_endsItem⟩
theorem vX9_63 : vlk RX9 63 mdX9_beginsItem 2 := ⟨gw_at (i := 435) (by decide +kernel) rfl, gw_at (i := 437) (by decide +kernel) rfl, gw_at (i := 9) (by decide +kernel) rfl, okX9_beginsItem⟩
theorem vX9_66 : vlk RX9 66 mdX7_emptyRow 1 := ⟨gw_at (i := 439) (by decide +kernel) rfl, gw_at (i := 440) (by decide +kernel) rfl, gw_at (i := 441) (by decide +kernel) rfl, okX7_emptyRow⟩
theorem vX9_77 : vlk RX9 77 mdX8_isFull 0 := ⟨gw_at (i := 443) (by decide +kernel) rfl, gw_at (i := 432) (by decide +kernel) rfl, gw_at (i := 433) (by decide +kernel) rfl, okX8_isFull⟩
theorem vX9_84 : vlk RX9 84 mdX9_takesSymbol 3 := ⟨gw_at (i := 382) (by decide +kernel) rfl, gw_at (i := 384) (by decide +kernel) rfl, gw_at (i := 4) (by decide +kernel) rfl, okX9_takesSymbol⟩
theorem vX9_87 : vlk RX9 87 mdX9_takesMark 2 := ⟨gw_at (i := 389) (by decide +kernel) rfl, gw_at (i := 391) (by decide +kernel) rfl, gw_at (i := 5) (by decide +kernel) rfl, okX9_takesMark⟩
theorem vX9_90 : vlk RX9 90 mdX9_takesPart 1 := ⟨gw_at (i := 404) (by decide +kernel) rfl, gw_at (i := 406) (by decide +kernel) rfl, gw_at (i := 6) (by decide +kernel) rfl, okX9_takesPart⟩
theorem vX9_93 : (∀ s, NW s → va_Nw (.methodLinkNest RX9 93 yX10_isSymbol "TwistedLight") s) ∧ Cond.static yX10_isSymbol ∈ GW ∧ okM mdX10_isSymbol 1 := ⟨fun s h => h.1, gw_at (i := 387) (by decide +kernel) rfl, okX10_isSymbol⟩
theorem vX9_99 : (∀ s, NW s → va_Nw (.methodLinkNest RX9 99 yX10_isPlace "TwistedLight") s) ∧ Cond.static yX10_isPlace ∈ GW ∧ okM mdX10_isPlace 1 := ⟨fun s h => h.2, gw_at (i := 394) (by decide +kernel) rfl, okX10_isPlace⟩
end
