-- ===== PART A: goes FIRST, ahead of the names: the tables' words, and 'selects' of the private methods out of them =====
/-- a private method of a class that the tables say can be made, by its rows of tables_1 -/
def lw_okq (q : MethodName × Nat) : Prop := (q.1.cls ≠ "java/lang/invoke/MethodHandle" ∧ q.1.cls ≠ "java/lang/invoke/VarHandle") ∧ Cond.instantiable q.1.cls q.2 ∈ tables_1 ∧ Cond.privateMethod q.1 ∈ tables_1 ∧ Cond.instanceMethod q.1 ∈ tables_1
theorem lw_p0 : lw_okq (⟨"TwistedLight$Text", "endOfToken", "(I)I"⟩, 7) := ⟨⟨by decide +kernel, by decide +kernel⟩, List.mem_of_getElem? (i := 107) (by decide +kernel), List.mem_of_getElem? (i := 300) (by decide +kernel), List.mem_of_getElem? (i := 301) (by decide +kernel)⟩
theorem lw_p1 : lw_okq (⟨"TwistedLight$Text", "takesToken", "(LTwistedLight$State;II)Z"⟩, 7) := ⟨⟨by decide +kernel, by decide +kernel⟩, List.mem_of_getElem? (i := 107) (by decide +kernel), List.mem_of_getElem? (i := 307) (by decide +kernel), List.mem_of_getElem? (i := 308) (by decide +kernel)⟩
theorem lw_p2 : lw_okq (⟨"TwistedLight$Text", "valueOf", "(II)I"⟩, 7) := ⟨⟨by decide +kernel, by decide +kernel⟩, List.mem_of_getElem? (i := 107) (by decide +kernel), List.mem_of_getElem? (i := 311) (by decide +kernel), List.mem_of_getElem? (i := 312) (by decide +kernel)⟩
theorem lw_p3 : lw_okq (⟨"TwistedLight$Text", "takesNumber", "(LTwistedLight$State;I)Z"⟩, 7) := ⟨⟨by decide +kernel, by decide +kernel⟩, List.mem_of_getElem? (i := 107) (by decide +kernel), List.mem_of_getElem? (i := 315) (by decide +kernel), List.mem_of_getElem? (i := 316) (by decide +kernel)⟩
theorem lw_p4 : lw_okq (⟨"TwistedLight$Text", "takesSymbol", "(LTwistedLight$State;II)Z"⟩, 7) := ⟨⟨by decide +kernel, by decide +kernel⟩, List.mem_of_getElem? (i := 107) (by decide +kernel), List.mem_of_getElem? (i := 319) (by decide +kernel), List.mem_of_getElem? (i := 320) (by decide +kernel)⟩
theorem lw_p5 : lw_okq (⟨"TwistedLight$Text", "takesMark", "(LTwistedLight$State;I)Z"⟩, 7) := ⟨⟨by decide +kernel, by decide +kernel⟩, List.mem_of_getElem? (i := 107) (by decide +kernel), List.mem_of_getElem? (i := 326) (by decide +kernel), List.mem_of_getElem? (i := 327) (by decide +kernel)⟩
theorem lw_p6 : lw_okq (⟨"TwistedLight$Text", "takesPart", "(I)Z"⟩, 7) := ⟨⟨by decide +kernel, by decide +kernel⟩, List.mem_of_getElem? (i := 107) (by decide +kernel), List.mem_of_getElem? (i := 341) (by decide +kernel), List.mem_of_getElem? (i := 342) (by decide +kernel)⟩
theorem lw_p7 : lw_okq (⟨"TwistedLight$Text", "endsItem", "(LTwistedLight$State;)Z"⟩, 7) := ⟨⟨by decide +kernel, by decide +kernel⟩, List.mem_of_getElem? (i := 107) (by decide +kernel), List.mem_of_getElem? (i := 356) (by decide +kernel), List.mem_of_getElem? (i := 357) (by decide +kernel)⟩
theorem lw_p8 : lw_okq (⟨"TwistedLight$Text", "isWhole", "()Z"⟩, 7) := ⟨⟨by decide +kernel, by decide +kernel⟩, List.mem_of_getElem? (i := 107) (by decide +kernel), List.mem_of_getElem? (i := 360) (by decide +kernel), List.mem_of_getElem? (i := 361) (by decide +kernel)⟩
theorem lw_p9 : lw_okq (⟨"TwistedLight$Text", "beginsItem", "(LTwistedLight$State;I)Z"⟩, 7) := ⟨⟨by decide +kernel, by decide +kernel⟩, List.mem_of_getElem? (i := 107) (by decide +kernel), List.mem_of_getElem? (i := 372) (by decide +kernel), List.mem_of_getElem? (i := 373) (by decide +kernel)⟩
theorem lw_p10 : lw_okq (⟨"TwistedLight", "putStep", "(IIIII)V"⟩, 13) := ⟨⟨by decide +kernel, by decide +kernel⟩, List.mem_of_getElem? (i := 18) (by decide +kernel), List.mem_of_getElem? (i := 412) (by decide +kernel), List.mem_of_getElem? (i := 413) (by decide +kernel)⟩
theorem lw_p11 : lw_okq (⟨"TwistedLight", "appendStep", "(LTwistedLight$Steps;)I"⟩, 13) := ⟨⟨by decide +kernel, by decide +kernel⟩, List.mem_of_getElem? (i := 18) (by decide +kernel), List.mem_of_getElem? (i := 421) (by decide +kernel), List.mem_of_getElem? (i := 422) (by decide +kernel)⟩
theorem lw_p12 : lw_okq (⟨"TwistedLight", "findTaps", "(II)Z"⟩, 13) := ⟨⟨by decide +kernel, by decide +kernel⟩, List.mem_of_getElem? (i := 18) (by decide +kernel), List.mem_of_getElem? (i := 452) (by decide +kernel), List.mem_of_getElem? (i := 453) (by decide +kernel)⟩
theorem lw_p13 : lw_okq (⟨"TwistedLight$Block", "shine", "(LTwistedLight$State;)V"⟩, 4) := ⟨⟨by decide +kernel, by decide +kernel⟩, List.mem_of_getElem? (i := 153) (by decide +kernel), List.mem_of_getElem? (i := 460) (by decide +kernel), List.mem_of_getElem? (i := 461) (by decide +kernel)⟩
theorem lw_p14 : lw_okq (⟨"TwistedLight$Block", "passDeed", "(LTwistedLight$Steps;I)V"⟩, 4) := ⟨⟨by decide +kernel, by decide +kernel⟩, List.mem_of_getElem? (i := 153) (by decide +kernel), List.mem_of_getElem? (i := 469) (by decide +kernel), List.mem_of_getElem? (i := 470) (by decide +kernel)⟩
theorem lw_p15 : lw_okq (⟨"TwistedLight$Block", "spread", "(I)V"⟩, 4) := ⟨⟨by decide +kernel, by decide +kernel⟩, List.mem_of_getElem? (i := 153) (by decide +kernel), List.mem_of_getElem? (i := 477) (by decide +kernel), List.mem_of_getElem? (i := 478) (by decide +kernel)⟩
def lw_privs_1 : List (MethodName × Nat) := [(⟨"TwistedLight$Text", "endOfToken", "(I)I"⟩, 7), (⟨"TwistedLight$Text", "takesToken", "(LTwistedLight$State;II)Z"⟩, 7), (⟨"TwistedLight$Text", "valueOf", "(II)I"⟩, 7), (⟨"TwistedLight$Text", "takesNumber", "(LTwistedLight$State;I)Z"⟩, 7), (⟨"TwistedLight$Text", "takesSymbol", "(LTwistedLight$State;II)Z"⟩, 7), (⟨"TwistedLight$Text", "takesMark", "(LTwistedLight$State;I)Z"⟩, 7), (⟨"TwistedLight$Text", "takesPart", "(I)Z"⟩, 7), (⟨"TwistedLight$Text", "endsItem", "(LTwistedLight$State;)Z"⟩, 7), (⟨"TwistedLight$Text", "isWhole", "()Z"⟩, 7), (⟨"TwistedLight$Text", "beginsItem", "(LTwistedLight$State;I)Z"⟩, 7), (⟨"TwistedLight", "putStep", "(IIIII)V"⟩, 13), (⟨"TwistedLight", "appendStep", "(LTwistedLight$Steps;)I"⟩, 13), (⟨"TwistedLight", "findTaps", "(II)Z"⟩, 13), (⟨"TwistedLight$Block", "shine", "(LTwistedLight$State;)V"⟩, 4), (⟨"TwistedLight$Block", "passDeed", "(LTwistedLight$Steps;I)V"⟩, 4), (⟨"TwistedLight$Block", "spread", "(I)V"⟩, 4)]
theorem lw_r1 : ∀ q ∈ lw_privs_1, lw_okq q := List.forall_mem_cons.mpr ⟨lw_p0, List.forall_mem_cons.mpr ⟨lw_p1, List.forall_mem_cons.mpr ⟨lw_p2, List.forall_mem_cons.mpr ⟨lw_p3, List.forall_mem_cons.mpr ⟨lw_p4, List.forall_mem_cons.mpr ⟨lw_p5, List.forall_mem_cons.mpr ⟨lw_p6, List.forall_mem_cons.mpr ⟨lw_p7, List.forall_mem_cons.mpr ⟨lw_p8, List.forall_mem_cons.mpr ⟨lw_p9, List.forall_mem_cons.mpr ⟨lw_p10, List.forall_mem_cons.mpr ⟨lw_p11, List.forall_mem_cons.mpr ⟨lw_p12, List.forall_mem_cons.mpr ⟨lw_p13, List.forall_mem_cons.mpr ⟨lw_p14, List.forall_mem_cons.mpr ⟨lw_p15, fun _ h => absurd h List.not_mem_nil⟩⟩⟩⟩⟩⟩⟩⟩⟩⟩⟩⟩⟩⟩⟩⟩
theorem lw_p16 : lw_okq (⟨"TwistedLight$Block", "twist", "()V"⟩, 4) := ⟨⟨by decide +kernel, by decide +kernel⟩, List.mem_of_getElem? (i := 153) (by decide +kernel), List.mem_of_getElem? (i := 486) (by decide +kernel), List.mem_of_getElem? (i := 487) (by decide +kernel)⟩
theorem lw_p17 : lw_okq (⟨"TwistedLight$Block", "turn", "(II)V"⟩, 4) := ⟨⟨by decide +kernel, by decide +kernel⟩, List.mem_of_getElem? (i := 153) (by decide +kernel), List.mem_of_getElem? (i := 494) (by decide +kernel), List.mem_of_getElem? (i := 495) (by decide +kernel)⟩
theorem lw_p18 : lw_okq (⟨"TwistedLight$Block", "hit", "(II)V"⟩, 4) := ⟨⟨by decide +kernel, by decide +kernel⟩, List.mem_of_getElem? (i := 153) (by decide +kernel), List.mem_of_getElem? (i := 506) (by decide +kernel), List.mem_of_getElem? (i := 507) (by decide +kernel)⟩
theorem lw_p19 : lw_okq (⟨"TwistedLight$Block", "brightestFactor", "()I"⟩, 4) := ⟨⟨by decide +kernel, by decide +kernel⟩, List.mem_of_getElem? (i := 153) (by decide +kernel), List.mem_of_getElem? (i := 534) (by decide +kernel), List.mem_of_getElem? (i := 535) (by decide +kernel)⟩
theorem lw_p20 : lw_okq (⟨"TwistedLight$Block", "multiply", "(I)V"⟩, 4) := ⟨⟨by decide +kernel, by decide +kernel⟩, List.mem_of_getElem? (i := 153) (by decide +kernel), List.mem_of_getElem? (i := 539) (by decide +kernel), List.mem_of_getElem? (i := 540) (by decide +kernel)⟩
theorem lw_p21 : lw_okq (⟨"TwistedLight$Block", "mend", "(LTwistedLight$State;)V"⟩, 4) := ⟨⟨by decide +kernel, by decide +kernel⟩, List.mem_of_getElem? (i := 153) (by decide +kernel), List.mem_of_getElem? (i := 543) (by decide +kernel), List.mem_of_getElem? (i := 544) (by decide +kernel)⟩
theorem lw_p22 : lw_okq (⟨"TwistedLight$Block", "bestTurn", "(LTwistedLight$State;I)I"⟩, 4) := ⟨⟨by decide +kernel, by decide +kernel⟩, List.mem_of_getElem? (i := 153) (by decide +kernel), List.mem_of_getElem? (i := 553) (by decide +kernel), List.mem_of_getElem? (i := 554) (by decide +kernel)⟩
theorem lw_p23 : lw_okq (⟨"TwistedLight", "findBestOrder", "()I"⟩, 13) := ⟨⟨by decide +kernel, by decide +kernel⟩, List.mem_of_getElem? (i := 18) (by decide +kernel), List.mem_of_getElem? (i := 572) (by decide +kernel), List.mem_of_getElem? (i := 573) (by decide +kernel)⟩
theorem lw_p24 : lw_okq (⟨"TwistedLight", "errorsInOrder", "([I)I"⟩, 13) := ⟨⟨by decide +kernel, by decide +kernel⟩, List.mem_of_getElem? (i := 18) (by decide +kernel), List.mem_of_getElem? (i := 581) (by decide +kernel), List.mem_of_getElem? (i := 582) (by decide +kernel)⟩
theorem lw_p25 : lw_okq (⟨"TwistedLight$Arrangement", "swap", "(II)V"⟩, 3) := ⟨⟨by decide +kernel, by decide +kernel⟩, List.mem_of_getElem? (i := 201) (by decide +kernel), List.mem_of_getElem? (i := 603) (by decide +kernel), List.mem_of_getElem? (i := 604) (by decide +kernel)⟩
theorem lw_p26 : lw_okq (⟨"TwistedLight", "errorsAfter", "(I)I"⟩, 13) := ⟨⟨by decide +kernel, by decide +kernel⟩, List.mem_of_getElem? (i := 18) (by decide +kernel), List.mem_of_getElem? (i := 620) (by decide +kernel), List.mem_of_getElem? (i := 621) (by decide +kernel)⟩
theorem lw_p27 : lw_okq (⟨"TwistedLight", "unspreadFits", "(I)Z"⟩, 13) := ⟨⟨by decide +kernel, by decide +kernel⟩, List.mem_of_getElem? (i := 18) (by decide +kernel), List.mem_of_getElem? (i := 682) (by decide +kernel), List.mem_of_getElem? (i := 683) (by decide +kernel)⟩
theorem lw_p28 : lw_okq (⟨"TwistedLight", "slipFits", "(II)Z"⟩, 13) := ⟨⟨by decide +kernel, by decide +kernel⟩, List.mem_of_getElem? (i := 18) (by decide +kernel), List.mem_of_getElem? (i := 711) (by decide +kernel), List.mem_of_getElem? (i := 712) (by decide +kernel)⟩
theorem lw_p29 : lw_okq (⟨"TwistedLightModel", "next", "()V"⟩, 30) := ⟨⟨by decide +kernel, by decide +kernel⟩, List.mem_of_getElem? (i := 751) (by decide +kernel), List.mem_of_getElem? (i := 868) (by decide +kernel), List.mem_of_getElem? (i := 869) (by decide +kernel)⟩
theorem lw_p30 : lw_okq (⟨"TwistedLightModel", "readItem", "()V"⟩, 30) := ⟨⟨by decide +kernel, by decide +kernel⟩, List.mem_of_getElem? (i := 751) (by decide +kernel), List.mem_of_getElem? (i := 872) (by decide +kernel), List.mem_of_getElem? (i := 873) (by decide +kernel)⟩
theorem lw_p31 : lw_okq (⟨"TwistedLightModel", "must", "(Z)V"⟩, 30) := ⟨⟨by decide +kernel, by decide +kernel⟩, List.mem_of_getElem? (i := 751) (by decide +kernel), List.mem_of_getElem? (i := 876) (by decide +kernel), List.mem_of_getElem? (i := 877) (by decide +kernel)⟩
def lw_privs_2 : List (MethodName × Nat) := [(⟨"TwistedLight$Block", "twist", "()V"⟩, 4), (⟨"TwistedLight$Block", "turn", "(II)V"⟩, 4), (⟨"TwistedLight$Block", "hit", "(II)V"⟩, 4), (⟨"TwistedLight$Block", "brightestFactor", "()I"⟩, 4), (⟨"TwistedLight$Block", "multiply", "(I)V"⟩, 4), (⟨"TwistedLight$Block", "mend", "(LTwistedLight$State;)V"⟩, 4), (⟨"TwistedLight$Block", "bestTurn", "(LTwistedLight$State;I)I"⟩, 4), (⟨"TwistedLight", "findBestOrder", "()I"⟩, 13), (⟨"TwistedLight", "errorsInOrder", "([I)I"⟩, 13), (⟨"TwistedLight$Arrangement", "swap", "(II)V"⟩, 3), (⟨"TwistedLight", "errorsAfter", "(I)I"⟩, 13), (⟨"TwistedLight", "unspreadFits", "(I)Z"⟩, 13), (⟨"TwistedLight", "slipFits", "(II)Z"⟩, 13), (⟨"TwistedLightModel", "next", "()V"⟩, 30), (⟨"TwistedLightModel", "readItem", "()V"⟩, 30), (⟨"TwistedLightModel", "must", "(Z)V"⟩, 30)]
theorem lw_r2 : ∀ q ∈ lw_privs_2, lw_okq q := List.forall_mem_cons.mpr ⟨lw_p16, List.forall_mem_cons.mpr ⟨lw_p17, List.forall_mem_cons.mpr ⟨lw_p18, List.forall_mem_cons.mpr ⟨lw_p19, List.forall_mem_cons.mpr ⟨lw_p20, List.forall_mem_cons.mpr ⟨lw_p21, List.forall_mem_cons.mpr ⟨lw_p22, List.forall_mem_cons.mpr ⟨lw_p23, List.forall_mem_cons.mpr ⟨lw_p24, List.forall_mem_cons.mpr ⟨lw_p25, List.forall_mem_cons.mpr ⟨lw_p26, List.forall_mem_cons.mpr ⟨lw_p27, List.forall_mem_cons.mpr ⟨lw_p28, List.forall_mem_cons.mpr ⟨lw_p29, List.forall_mem_cons.mpr ⟨lw_p30, List.forall_mem_cons.mpr ⟨lw_p31, fun _ h => absurd h List.not_mem_nil⟩⟩⟩⟩⟩⟩⟩⟩⟩⟩⟩⟩⟩⟩⟩⟩
theorem lw_p32 : lw_okq (⟨"TwistedLightModel", "readMarks", "()V"⟩, 30) := ⟨⟨by decide +kernel, by decide +kernel⟩, List.mem_of_getElem? (i := 751) (by decide +kernel), List.mem_of_getElem? (i := 880) (by decide +kernel), List.mem_of_getElem? (i := 881) (by decide +kernel)⟩
theorem lw_p33 : lw_okq (⟨"TwistedLightModel", "readDeed", "()V"⟩, 30) := ⟨⟨by decide +kernel, by decide +kernel⟩, List.mem_of_getElem? (i := 751) (by decide +kernel), List.mem_of_getElem? (i := 887) (by decide +kernel), List.mem_of_getElem? (i := 888) (by decide +kernel)⟩
theorem lw_p34 : lw_okq (⟨"TwistedLightModel", "readRow", "(I)V"⟩, 30) := ⟨⟨by decide +kernel, by decide +kernel⟩, List.mem_of_getElem? (i := 751) (by decide +kernel), List.mem_of_getElem? (i := 900) (by decide +kernel), List.mem_of_getElem? (i := 901) (by decide +kernel)⟩
theorem lw_p35 : lw_okq (⟨"TwistedLightModel", "note", "()V"⟩, 30) := ⟨⟨by decide +kernel, by decide +kernel⟩, List.mem_of_getElem? (i := 751) (by decide +kernel), List.mem_of_getElem? (i := 904) (by decide +kernel), List.mem_of_getElem? (i := 905) (by decide +kernel)⟩
theorem lw_p36 : lw_okq (⟨"TwistedLightModel", "marksMany", "()I"⟩, 30) := ⟨⟨by decide +kernel, by decide +kernel⟩, List.mem_of_getElem? (i := 751) (by decide +kernel), List.mem_of_getElem? (i := 916) (by decide +kernel), List.mem_of_getElem? (i := 917) (by decide +kernel)⟩
theorem lw_p37 : lw_okq (⟨"TwistedLightModel", "lay", "(IIIIII)V"⟩, 30) := ⟨⟨by decide +kernel, by decide +kernel⟩, List.mem_of_getElem? (i := 751) (by decide +kernel), List.mem_of_getElem? (i := 927) (by decide +kernel), List.mem_of_getElem? (i := 928) (by decide +kernel)⟩
theorem lw_p38 : lw_okq (⟨"TwistedLightModel", "areTaps", "(II)Z"⟩, 30) := ⟨⟨by decide +kernel, by decide +kernel⟩, List.mem_of_getElem? (i := 751) (by decide +kernel), List.mem_of_getElem? (i := 953) (by decide +kernel), List.mem_of_getElem? (i := 954) (by decide +kernel)⟩
theorem lw_p39 : lw_okq (⟨"TwistedLightModel", "layReceived", "()V"⟩, 30) := ⟨⟨by decide +kernel, by decide +kernel⟩, List.mem_of_getElem? (i := 751) (by decide +kernel), List.mem_of_getElem? (i := 957) (by decide +kernel), List.mem_of_getElem? (i := 958) (by decide +kernel)⟩
theorem lw_p40 : lw_okq (⟨"TwistedLightModel", "layAir", "()V"⟩, 30) := ⟨⟨by decide +kernel, by decide +kernel⟩, List.mem_of_getElem? (i := 751) (by decide +kernel), List.mem_of_getElem? (i := 961) (by decide +kernel), List.mem_of_getElem? (i := 962) (by decide +kernel)⟩
theorem lw_p41 : lw_okq (⟨"TwistedLightModel", "doDeed", "(I)V"⟩, 30) := ⟨⟨by decide +kernel, by decide +kernel⟩, List.mem_of_getElem? (i := 751) (by decide +kernel), List.mem_of_getElem? (i := 968) (by decide +kernel), List.mem_of_getElem? (i := 969) (by decide +kernel)⟩
theorem lw_p42 : lw_okq (⟨"TwistedLightModel", "spread", "(I)V"⟩, 30) := ⟨⟨by decide +kernel, by decide +kernel⟩, List.mem_of_getElem? (i := 751) (by decide +kernel), List.mem_of_getElem? (i := 972) (by decide +kernel), List.mem_of_getElem? (i := 973) (by decide +kernel)⟩
theorem lw_p43 : lw_okq (⟨"TwistedLightModel", "takeMade", "()V"⟩, 30) := ⟨⟨by decide +kernel, by decide +kernel⟩, List.mem_of_getElem? (i := 751) (by decide +kernel), List.mem_of_getElem? (i := 976) (by decide +kernel), List.mem_of_getElem? (i := 977) (by decide +kernel)⟩
theorem lw_p44 : lw_okq (⟨"TwistedLightModel", "twist", "(IIII)V"⟩, 30) := ⟨⟨by decide +kernel, by decide +kernel⟩, List.mem_of_getElem? (i := 751) (by decide +kernel), List.mem_of_getElem? (i := 980) (by decide +kernel), List.mem_of_getElem? (i := 981) (by decide +kernel)⟩
theorem lw_p45 : lw_okq (⟨"TwistedLightModel", "slip", "(II)V"⟩, 30) := ⟨⟨by decide +kernel, by decide +kernel⟩, List.mem_of_getElem? (i := 751) (by decide +kernel), List.mem_of_getElem? (i := 984) (by decide +kernel), List.mem_of_getElem? (i := 985) (by decide +kernel)⟩
theorem lw_p46 : lw_okq (⟨"TwistedLightModel", "late", "(I)V"⟩, 30) := ⟨⟨by decide +kernel, by decide +kernel⟩, List.mem_of_getElem? (i := 751) (by decide +kernel), List.mem_of_getElem? (i := 988) (by decide +kernel), List.mem_of_getElem? (i := 989) (by decide +kernel)⟩
theorem lw_p47 : lw_okq (⟨"TwistedLightModel", "goThrough", "(I)V"⟩, 30) := ⟨⟨by decide +kernel, by decide +kernel⟩, List.mem_of_getElem? (i := 751) (by decide +kernel), List.mem_of_getElem? (i := 992) (by decide +kernel), List.mem_of_getElem? (i := 993) (by decide +kernel)⟩
def lw_privs_3 : List (MethodName × Nat) := [(⟨"TwistedLightModel", "readMarks", "()V"⟩, 30), (⟨"TwistedLightModel", "readDeed", "()V"⟩, 30), (⟨"TwistedLightModel", "readRow", "(I)V"⟩, 30), (⟨"TwistedLightModel", "note", "()V"⟩, 30), (⟨"TwistedLightModel", "marksMany", "()I"⟩, 30), (⟨"TwistedLightModel", "lay", "(IIIIII)V"⟩, 30), (⟨"TwistedLightModel", "areTaps", "(II)Z"⟩, 30), (⟨"TwistedLightModel", "layReceived", "()V"⟩, 30), (⟨"TwistedLightModel", "layAir", "()V"⟩, 30), (⟨"TwistedLightModel", "doDeed", "(I)V"⟩, 30), (⟨"TwistedLightModel", "spread", "(I)V"⟩, 30), (⟨"TwistedLightModel", "takeMade", "()V"⟩, 30), (⟨"TwistedLightModel", "twist", "(IIII)V"⟩, 30), (⟨"TwistedLightModel", "slip", "(II)V"⟩, 30), (⟨"TwistedLightModel", "late", "(I)V"⟩, 30), (⟨"TwistedLightModel", "goThrough", "(I)V"⟩, 30)]
theorem lw_r3 : ∀ q ∈ lw_privs_3, lw_okq q := List.forall_mem_cons.mpr ⟨lw_p32, List.forall_mem_cons.mpr ⟨lw_p33, List.forall_mem_cons.mpr ⟨lw_p34, List.forall_mem_cons.mpr ⟨lw_p35, List.forall_mem_cons.mpr ⟨lw_p36, List.forall_mem_cons.mpr ⟨lw_p37, List.forall_mem_cons.mpr ⟨lw_p38, List.forall_mem_cons.mpr ⟨lw_p39, List.forall_mem_cons.mpr ⟨lw_p40, List.forall_mem_cons.mpr ⟨lw_p41, List.forall_mem_cons.mpr ⟨lw_p42, List.forall_mem_cons.mpr ⟨lw_p43, List.forall_mem_cons.mpr ⟨lw_p44, List.forall_mem_cons.mpr ⟨lw_p45, List.forall_mem_cons.mpr ⟨lw_p46, List.forall_mem_cons.mpr ⟨lw_p47, fun _ h => absurd h List.not_mem_nil⟩⟩⟩⟩⟩⟩⟩⟩⟩⟩⟩⟩⟩⟩⟩⟩
theorem lw_p48 : lw_okq (⟨"TwistedLightModel", "doStage", "(I)V"⟩, 30) := ⟨⟨by decide +kernel, by decide +kernel⟩, List.mem_of_getElem? (i := 751) (by decide +kernel), List.mem_of_getElem? (i := 996) (by decide +kernel), List.mem_of_getElem? (i := 997) (by decide +kernel)⟩
theorem lw_p49 : lw_okq (⟨"TwistedLightModel", "unspread", "(I)V"⟩, 30) := ⟨⟨by decide +kernel, by decide +kernel⟩, List.mem_of_getElem? (i := 751) (by decide +kernel), List.mem_of_getElem? (i := 1000) (by decide +kernel), List.mem_of_getElem? (i := 1001) (by decide +kernel)⟩
theorem lw_p50 : lw_okq (⟨"TwistedLightModel", "untwist", "(IIII)V"⟩, 30) := ⟨⟨by decide +kernel, by decide +kernel⟩, List.mem_of_getElem? (i := 751) (by decide +kernel), List.mem_of_getElem? (i := 1007) (by decide +kernel), List.mem_of_getElem? (i := 1008) (by decide +kernel)⟩
theorem lw_p51 : lw_okq (⟨"TwistedLightModel", "blind", "()V"⟩, 30) := ⟨⟨by decide +kernel, by decide +kernel⟩, List.mem_of_getElem? (i := 751) (by decide +kernel), List.mem_of_getElem? (i := 1011) (by decide +kernel), List.mem_of_getElem? (i := 1012) (by decide +kernel)⟩
theorem lw_p52 : lw_okq (⟨"TwistedLightModel", "mend", "()V"⟩, 30) := ⟨⟨by decide +kernel, by decide +kernel⟩, List.mem_of_getElem? (i := 751) (by decide +kernel), List.mem_of_getElem? (i := 1018) (by decide +kernel), List.mem_of_getElem? (i := 1019) (by decide +kernel)⟩
theorem lw_p53 : lw_okq (⟨"TwistedLightModel", "mendFrom", "(II)V"⟩, 30) := ⟨⟨by decide +kernel, by decide +kernel⟩, List.mem_of_getElem? (i := 751) (by decide +kernel), List.mem_of_getElem? (i := 1025) (by decide +kernel), List.mem_of_getElem? (i := 1026) (by decide +kernel)⟩
theorem lw_p54 : lw_okq (⟨"TwistedLightModel", "findTaps", "(III)Z"⟩, 30) := ⟨⟨by decide +kernel, by decide +kernel⟩, List.mem_of_getElem? (i := 751) (by decide +kernel), List.mem_of_getElem? (i := 1029) (by decide +kernel), List.mem_of_getElem? (i := 1030) (by decide +kernel)⟩
theorem lw_p55 : lw_okq (⟨"TwistedLightModel", "findOrder", "()V"⟩, 30) := ⟨⟨by decide +kernel, by decide +kernel⟩, List.mem_of_getElem? (i := 751) (by decide +kernel), List.mem_of_getElem? (i := 1041) (by decide +kernel), List.mem_of_getElem? (i := 1042) (by decide +kernel)⟩
theorem lw_p56 : lw_okq (⟨"TwistedLightModel", "wrongNow", "()I"⟩, 30) := ⟨⟨by decide +kernel, by decide +kernel⟩, List.mem_of_getElem? (i := 751) (by decide +kernel), List.mem_of_getElem? (i := 1045) (by decide +kernel), List.mem_of_getElem? (i := 1046) (by decide +kernel)⟩
theorem lw_p57 : lw_okq (⟨"TwistedLightModel", "turnsOn", "(I)Z"⟩, 30) := ⟨⟨by decide +kernel, by decide +kernel⟩, List.mem_of_getElem? (i := 751) (by decide +kernel), List.mem_of_getElem? (i := 1049) (by decide +kernel), List.mem_of_getElem? (i := 1050) (by decide +kernel)⟩
theorem lw_p58 : lw_okq (⟨"TwistedLightModel", "swap", "(II)V"⟩, 30) := ⟨⟨by decide +kernel, by decide +kernel⟩, List.mem_of_getElem? (i := 751) (by decide +kernel), List.mem_of_getElem? (i := 1053) (by decide +kernel), List.mem_of_getElem? (i := 1054) (by decide +kernel)⟩
theorem lw_p59 : lw_okq (⟨"TwistedLightModel", "wrongReceived", "()I"⟩, 30) := ⟨⟨by decide +kernel, by decide +kernel⟩, List.mem_of_getElem? (i := 751) (by decide +kernel), List.mem_of_getElem? (i := 1065) (by decide +kernel), List.mem_of_getElem? (i := 1066) (by decide +kernel)⟩
theorem lw_p60 : lw_okq (⟨"TwistedLightModel", "keepReceived", "()V"⟩, 30) := ⟨⟨by decide +kernel, by decide +kernel⟩, List.mem_of_getElem? (i := 751) (by decide +kernel), List.mem_of_getElem? (i := 1096) (by decide +kernel), List.mem_of_getElem? (i := 1097) (by decide +kernel)⟩
theorem lw_p61 : lw_okq (⟨"TwistedLightModel", "layKept", "()V"⟩, 30) := ⟨⟨by decide +kernel, by decide +kernel⟩, List.mem_of_getElem? (i := 751) (by decide +kernel), List.mem_of_getElem? (i := 1100) (by decide +kernel), List.mem_of_getElem? (i := 1101) (by decide +kernel)⟩
theorem lw_p62 : lw_okq (⟨"TwistedLightModel", "wrongAtMarks", "()I"⟩, 30) := ⟨⟨by decide +kernel, by decide +kernel⟩, List.mem_of_getElem? (i := 751) (by decide +kernel), List.mem_of_getElem? (i := 1104) (by decide +kernel), List.mem_of_getElem? (i := 1105) (by decide +kernel)⟩
theorem lw_p63 : lw_okq (⟨"TwistedLightModel", "isSeenBy", "(II)Z"⟩, 30) := ⟨⟨by decide +kernel, by decide +kernel⟩, List.mem_of_getElem? (i := 751) (by decide +kernel), List.mem_of_getElem? (i := 1128) (by decide +kernel), List.mem_of_getElem? (i := 1129) (by decide +kernel)⟩
def lw_privs_4 : List (MethodName × Nat) := [(⟨"TwistedLightModel", "doStage", "(I)V"⟩, 30), (⟨"TwistedLightModel", "unspread", "(I)V"⟩, 30), (⟨"TwistedLightModel", "untwist", "(IIII)V"⟩, 30), (⟨"TwistedLightModel", "blind", "()V"⟩, 30), (⟨"TwistedLightModel", "mend", "()V"⟩, 30), (⟨"TwistedLightModel", "mendFrom", "(II)V"⟩, 30), (⟨"TwistedLightModel", "findTaps", "(III)Z"⟩, 30), (⟨"TwistedLightModel", "findOrder", "()V"⟩, 30), (⟨"TwistedLightModel", "wrongNow", "()I"⟩, 30), (⟨"TwistedLightModel", "turnsOn", "(I)Z"⟩, 30), (⟨"TwistedLightModel", "swap", "(II)V"⟩, 30), (⟨"TwistedLightModel", "wrongReceived", "()I"⟩, 30), (⟨"TwistedLightModel", "keepReceived", "()V"⟩, 30), (⟨"TwistedLightModel", "layKept", "()V"⟩, 30), (⟨"TwistedLightModel", "wrongAtMarks", "()I"⟩, 30), (⟨"TwistedLightModel", "isSeenBy", "(II)Z"⟩, 30)]
theorem lw_r4 : ∀ q ∈ lw_privs_4, lw_okq q := List.forall_mem_cons.mpr ⟨lw_p48, List.forall_mem_cons.mpr ⟨lw_p49, List.forall_mem_cons.mpr ⟨lw_p50, List.forall_mem_cons.mpr ⟨lw_p51, List.forall_mem_cons.mpr ⟨lw_p52, List.forall_mem_cons.mpr ⟨lw_p53, List.forall_mem_cons.mpr ⟨lw_p54, List.forall_mem_cons.mpr ⟨lw_p55, List.forall_mem_cons.mpr ⟨lw_p56, List.forall_mem_cons.mpr ⟨lw_p57, List.forall_mem_cons.mpr ⟨lw_p58, List.forall_mem_cons.mpr ⟨lw_p59, List.forall_mem_cons.mpr ⟨lw_p60, List.forall_mem_cons.mpr ⟨lw_p61, List.forall_mem_cons.mpr ⟨lw_p62, List.forall_mem_cons.mpr ⟨lw_p63, fun _ h => absurd h List.not_mem_nil⟩⟩⟩⟩⟩⟩⟩⟩⟩⟩⟩⟩⟩⟩⟩⟩
def lw_privs : List (MethodName × Nat) := lw_privs_1 ++ (lw_privs_2 ++ (lw_privs_3 ++ (lw_privs_4)))
def lw_tbl : List Cond := k2_sels lw_privs ++ tables_1
theorem lw_privs_ok : ∀ q ∈ lw_privs, lw_okq q := by
  show ∀ q ∈ lw_privs_1 ++ (lw_privs_2 ++ (lw_privs_3 ++ (lw_privs_4))), lw_okq q
  exact List.forall_mem_append.mpr ⟨lw_r1, List.forall_mem_append.mpr ⟨lw_r2, List.forall_mem_append.mpr ⟨lw_r3, lw_r4⟩⟩⟩
/-- the streams that the claim lets the run draw from -/
abbrev lw_cs : List Choice := [Jvm.Choice.named "NaN.bits"]
theorem lw_bits : nanBits ∈ lw_cs := by first | decide | exact List.mem_cons_self | simp [lw_cs, nanBits]
-- ===== end of PART A; then your names; then what follows =====
def RX0 : String := "TwistedLight$Arrangement"
def TX0 : u_T := fun k => match k with
  | 0 => ("TwistedLight$Arrangement", "current", "[I", true)
  | 1 => ("TwistedLight$Arrangement", "best", "[I", true)
  | _ => ("TwistedLight$Arrangement", "size", "I", false)
def tyX0 : Nat → FieldType := fun k => match k with
  | 0 => .array .int
  | 1 => .array .int
  | _ => .int
abbrev wsX00 : List Cond := u_ws RX0 TX0 3
theorem nmX0 : ∀ a, a < 3 → ∀ b, b < 3 → a ≠ b → (TX0 a).2.1 ≠ (TX0 b).2.1 := by decide +kernel
theorem tyX0_ok : ∀ k, k < 3 → parseFieldDescriptor (TX0 k).2.2.1 = some (tyX0 k) := by decide +kernel
abbrev cX0_init : ByteArray := prog_2_method_1_code
def yX0_init : MethodName := ⟨RX0, "<init>", "()V"⟩
abbrev cX0_start : ByteArray := prog_2_method_2_code
def yX0_start : MethodName := ⟨RX0, "start", "(I)V"⟩
abbrev cX0_keepCurrent : ByteArray := prog_2_method_3_code
def yX0_keepCurrent : MethodName := ⟨RX0, "keepCurrent", "()V"⟩
abbrev cX0_bestIsPresent : ByteArray := prog_2_method_4_code
def yX0_bestIsPresent : MethodName := ⟨RX0, "bestIsPresent", "()Z"⟩
abbrev cX0_moveOn : ByteArray := prog_2_method_5_code
def yX0_moveOn : MethodName := ⟨RX0, "moveOn", "()Z"⟩
abbrev cX0_swap : ByteArray := prog_2_method_6_code
def yX0_swap : MethodName := ⟨RX0, "swap", "(II)V"⟩
def RX1 : String := "TwistedLight$Block"
def TX1 : u_T := fun k => match k with
  | 0 => ("TwistedLight$Block", "numbers", "[I", true)
  | 1 => ("TwistedLight$Block", "moved", "[I", true)
  | 2 => ("TwistedLight$Block", "tally", "[I", true)
  | _ => ("TwistedLight$Block", "matrix", "LTwistedLight$Matrix;", true)
def tyX1 : Nat → FieldType := fun k => match k with
  | 0 => .array .int
  | 1 => .array .int
  | 2 => .array .int
  | _ => .object "TwistedLight$Matrix"
abbrev wsX10 : List Cond := u_ws RX1 TX1 4
theorem nmX1 : ∀ a, a < 4 → ∀ b, b < 4 → a ≠ b → (TX1 a).2.1 ≠ (TX1 b).2.1 := by decide +kernel
theorem tyX1_ok : ∀ k, k < 4 → parseFieldDescriptor (TX1 k).2.2.1 = some (tyX1 k) := by decide +kernel
abbrev cX1_init : ByteArray := prog_3_method_1_code
def yX1_init : MethodName := ⟨RX1, "<init>", "()V"⟩
abbrev cX1_takeFrom : ByteArray := prog_3_method_2_code
def yX1_takeFrom : MethodName := ⟨RX1, "takeFrom", "(LTwistedLight$Block;)V"⟩
abbrev cX1_receive : ByteArray := prog_3_method_3_code
def yX1_receive : MethodName := ⟨RX1, "receive", "(LTwistedLight$State;I)V"⟩
abbrev cX1_shine : ByteArray := prog_3_method_4_code
def yX1_shine : MethodName := ⟨RX1, "shine", "(LTwistedLight$State;)V"⟩
abbrev cX1_passDeed : ByteArray := prog_3_method_5_code
def yX1_passDeed : MethodName := ⟨RX1, "passDeed", "(LTwistedLight$Steps;I)V"⟩
abbrev cX1_passStage : ByteArray := prog_3_method_6_code
def yX1_passStage : MethodName := ⟨RX1, "passStage", "(LTwistedLight$State;I)V"⟩
abbrev cX1_spread : ByteArray := prog_3_method_7_code
def yX1_spread : MethodName := ⟨RX1, "spread", "(I)V"⟩
abbrev cX1_unspread : ByteArray := prog_3_method_8_code
def yX1_unspread : MethodName := ⟨RX1, "unspread", "(I)V"⟩
abbrev cX1_twist : ByteArray := prog_3_method_9_code
def yX1_twist : MethodName := ⟨RX1, "twist", "()V"⟩
abbrev cX1_slip : ByteArray := prog_3_method_10_code
def yX1_slip : MethodName := ⟨RX1, "slip", "(II)V"⟩
abbrev cX1_turn : ByteArray := prog_3_method_11_code
def yX1_turn : MethodName := ⟨RX1, "turn", "(II)V"⟩
abbrev cX1_late : ByteArray := prog_3_method_12_code
def yX1_late : MethodName := ⟨RX1, "late", "(I)V"⟩
abbrev cX1_hit : ByteArray := prog_3_method_13_code
def yX1_hit : MethodName := ⟨RX1, "hit", "(II)V"⟩
abbrev cX1_multiply : ByteArray := prog_3_method_14_code
def yX1_multiply : MethodName := ⟨RX1, "multiply", "(I)V"⟩
abbrev cX1_brightestFactor : ByteArray := prog_3_method_15_code
def yX1_brightestFactor : MethodName := ⟨RX1, "brightestFactor", "()I"⟩
abbrev cX1_mend : ByteArray := prog_3_method_16_code
def yX1_mend : MethodName := ⟨RX1, "mend", "(LTwistedLight$State;)V"⟩
abbrev cX1_bestTurn : ByteArray := prog_3_method_17_code
def yX1_bestTurn : MethodName := ⟨RX1, "bestTurn", "(LTwistedLight$State;I)I"⟩
abbrev cX1_errors : ByteArray := prog_3_method_18_code
def yX1_errors : MethodName := ⟨RX1, "errors", "(LTwistedLight$State;)I"⟩
abbrev cX1_errorsAtMarks : ByteArray := prog_3_method_19_code
def yX1_errorsAtMarks : MethodName := ⟨RX1, "errorsAtMarks", "(LTwistedLight$State;)I"⟩
def RX2 : String := "TwistedLight$Field"
def TX2 : u_T := fun k => match k with
  | _ => ("", "", "", false)
def tyX2 : Nat → FieldType := fun k => match k with
  | _ => .int
abbrev wsX20 : List Cond := u_ws RX2 TX2 0
theorem nmX2 : ∀ a, a < 0 → ∀ b, b < 0 → a ≠ b → (TX2 a).2.1 ≠ (TX2 b).2.1 := by decide +kernel
theorem tyX2_ok : ∀ k, k < 0 → parseFieldDescriptor (TX2 k).2.2.1 = some (tyX2 k) := by decide +kernel
abbrev cX2_light : ByteArray := prog_4_method_2_code
def yX2_light : MethodName := ⟨RX2, "light", "(I)I"⟩
abbrev cX2_decided : ByteArray := prog_4_method_3_code
def yX2_decided : MethodName := ⟨RX2, "decided", "(I)I"⟩
abbrev cX2_turned : ByteArray := prog_4_method_4_code
def yX2_turned : MethodName := ⟨RX2, "turned", "(II)I"⟩
abbrev cX2_power : ByteArray := prog_4_method_5_code
def yX2_power : MethodName := ⟨RX2, "power", "(II)I"⟩
abbrev cX2_inverse : ByteArray := prog_4_method_6_code
def yX2_inverse : MethodName := ⟨RX2, "inverse", "(I)I"⟩
def RX3 : String := "TwistedLight$History"
def TX3 : u_T := fun k => match k with
  | 0 => ("TwistedLight$History", "past", "[LTwistedLight$State;", true)
  | 1 => ("TwistedLight$History", "next", "I", false)
  | _ => ("TwistedLight$History", "size", "I", false)
def tyX3 : Nat → FieldType := fun k => match k with
  | 0 => .array (.object "TwistedLight$State")
  | 1 => .int
  | _ => .int
abbrev wsX30 : List Cond := u_ws RX3 TX3 3
theorem nmX3 : ∀ a, a < 3 → ∀ b, b < 3 → a ≠ b → (TX3 a).2.1 ≠ (TX3 b).2.1 := by decide +kernel
theorem tyX3_ok : ∀ k, k < 3 → parseFieldDescriptor (TX3 k).2.2.1 = some (tyX3 k) := by decide +kernel
abbrev cX3_init : ByteArray := prog_5_method_1_code
def yX3_init : MethodName := ⟨RX3, "<init>", "()V"⟩
abbrev cX3_remember : ByteArray := prog_5_method_2_code
def yX3_remember : MethodName := ⟨RX3, "remember", "(LTwistedLight$State;)V"⟩
abbrev cX3_restore : ByteArray := prog_5_method_3_code
def yX3_restore : MethodName := ⟨RX3, "restore", "(LTwistedLight$State;)V"⟩
def RX4 : String := "TwistedLight$Matrix"
def TX4 : u_T := fun k => match k with
  | 0 => ("TwistedLight$Matrix", "a", "I", false)
  | 1 => ("TwistedLight$Matrix", "b", "I", false)
  | 2 => ("TwistedLight$Matrix", "c", "I", false)
  | _ => ("TwistedLight$Matrix", "d", "I", false)
def tyX4 : Nat → FieldType := fun k => match k with
  | 0 => .int
  | 1 => .int
  | 2 => .int
  | _ => .int
abbrev wsX40 : List Cond := u_ws RX4 TX4 4
theorem nmX4 : ∀ a, a < 4 → ∀ b, b < 4 → a ≠ b → (TX4 a).2.1 ≠ (TX4 b).2.1 := by decide +kernel
theorem tyX4_ok : ∀ k, k < 4 → parseFieldDescriptor (TX4 k).2.2.1 = some (tyX4 k) := by decide +kernel
abbrev cX4_init : ByteArray := prog_6_method_1_code
def yX4_init : MethodName := ⟨RX4, "<init>", "()V"⟩
abbrev cX4_put : ByteArray := prog_6_method_2_code
def yX4_put : MethodName := ⟨RX4, "put", "(IIII)V"⟩
abbrev cX4_entry : ByteArray := prog_6_method_3_code
def yX4_entry : MethodName := ⟨RX4, "entry", "(I)I"⟩
abbrev cX4_determinant : ByteArray := prog_6_method_4_code
def yX4_determinant : MethodName := ⟨RX4, "determinant", "()I"⟩
abbrev cX4_invert : ByteArray := prog_6_method_5_code
def yX4_invert : MethodName := ⟨RX4, "invert", "()V"⟩
abbrev cX4_multiplyFromLeft : ByteArray := prog_6_method_6_code
def yX4_multiplyFromLeft : MethodName := ⟨RX4, "multiplyFromLeft", "(LTwistedLight$Matrix;)V"⟩
def RX5 : String := "TwistedLight$Odds"
def TX5 : u_T := fun k => match k with
  | _ => ("", "", "", false)
def tyX5 : Nat → FieldType := fun k => match k with
  | _ => .int
abbrev wsX50 : List Cond := u_ws RX5 TX5 0
theorem nmX5 : ∀ a, a < 0 → ∀ b, b < 0 → a ≠ b → (TX5 a).2.1 ≠ (TX5 b).2.1 := by decide +kernel
theorem tyX5_ok : ∀ k, k < 0 → parseFieldDescriptor (TX5 k).2.2.1 = some (tyX5 k) := by decide +kernel
abbrev cX5_power : ByteArray := prog_7_method_2_code
def yX5_power : MethodName := ⟨RX5, "power", "(II)I"⟩
abbrev cX5_atMost : ByteArray := prog_7_method_3_code
def yX5_atMost : MethodName := ⟨RX5, "atMost", "(III)I"⟩
abbrev cX5_commonDivisor : ByteArray := prog_7_method_4_code
def yX5_commonDivisor : MethodName := ⟨RX5, "commonDivisor", "(II)I"⟩
abbrev cX5_sharedPower : ByteArray := prog_7_method_5_code
def yX5_sharedPower : MethodName := ⟨RX5, "sharedPower", "(III)I"⟩
def RX6 : String := "TwistedLight$Sightings"
def TX6 : u_T := fun k => match k with
  | 0 => ("TwistedLight$Sightings", "spots", "[I", true)
  | 1 => ("TwistedLight$Sightings", "symbols", "[I", true)
  | _ => ("TwistedLight$Sightings", "size", "I", false)
def tyX6 : Nat → FieldType := fun k => match k with
  | 0 => .array .int
  | 1 => .array .int
  | _ => .int
abbrev wsX60 : List Cond := u_ws RX6 TX6 3
theorem nmX6 : ∀ a, a < 3 → ∀ b, b < 3 → a ≠ b → (TX6 a).2.1 ≠ (TX6 b).2.1 := by decide +kernel
theorem tyX6_ok : ∀ k, k < 3 → parseFieldDescriptor (TX6 k).2.2.1 = some (tyX6 k) := by decide +kernel
abbrev cX6_init : ByteArray := prog_8_method_1_code
def yX6_init : MethodName := ⟨RX6, "<init>", "()V"⟩
abbrev cX6_append : ByteArray := prog_8_method_2_code
def yX6_append : MethodName := ⟨RX6, "append", "(II)Z"⟩
abbrev cX6_areTrueOf : ByteArray := prog_8_method_3_code
def yX6_areTrueOf : MethodName := ⟨RX6, "areTrueOf", "(LTwistedLight$Block;)Z"⟩
def RX7 : String := "TwistedLight$State"
def TX7 : u_T := fun k => match k with
  | 0 => ("TwistedLight$State", "sent", "[I", true)
  | 1 => ("TwistedLight$State", "marked", "I", false)
  | 2 => ("TwistedLight$State", "line", "LTwistedLight$Steps;", true)
  | 3 => ("TwistedLight$State", "chain", "LTwistedLight$Steps;", true)
  | 4 => ("TwistedLight$State", "loss", "F", false)
  | _ => ("TwistedLight$State", "heard", "I", false)
def tyX7 : Nat → FieldType := fun k => match k with
  | 0 => .array .int
  | 1 => .int
  | 2 => .object "TwistedLight$Steps"
  | 3 => .object "TwistedLight$Steps"
  | 4 => .float
  | _ => .int
abbrev wsX70 : List Cond := u_ws RX7 TX7 6
theorem nmX7 : ∀ a, a < 6 → ∀ b, b < 6 → a ≠ b → (TX7 a).2.1 ≠ (TX7 b).2.1 := by decide +kernel
theorem tyX7_ok : ∀ k, k < 6 → parseFieldDescriptor (TX7 k).2.2.1 = some (tyX7 k) := by decide +kernel
abbrev cX7_init : ByteArray := prog_9_method_1_code
def yX7_init : MethodName := ⟨RX7, "<init>", "()V"⟩
abbrev cX7_tellNothing : ByteArray := prog_9_method_2_code
def yX7_tellNothing : MethodName := ⟨RX7, "tellNothing", "()V"⟩
abbrev cX7_emptyRow : ByteArray := prog_9_method_3_code
def yX7_emptyRow : MethodName := ⟨RX7, "emptyRow", "(I)V"⟩
abbrev cX7_isMarked : ByteArray := prog_9_method_4_code
def yX7_isMarked : MethodName := ⟨RX7, "isMarked", "(I)Z"⟩
abbrev cX7_mark : ByteArray := prog_9_method_5_code
def yX7_mark : MethodName := ⟨RX7, "mark", "(IZ)V"⟩
abbrev cX7_firstMarked : ByteArray := prog_9_method_6_code
def yX7_firstMarked : MethodName := ⟨RX7, "firstMarked", "()I"⟩
abbrev cX7_takeFrom : ByteArray := prog_9_method_7_code
def yX7_takeFrom : MethodName := ⟨RX7, "takeFrom", "(LTwistedLight$State;)V"⟩
def RX8 : String := "TwistedLight$Steps"
def TX8 : u_T := fun k => match k with
  | 0 => ("TwistedLight$Steps", "numbers", "[I", true)
  | 1 => ("TwistedLight$Steps", "room", "I", true)
  | _ => ("TwistedLight$Steps", "size", "I", false)
def tyX8 : Nat → FieldType := fun k => match k with
  | 0 => .array .int
  | 1 => .int
  | _ => .int
abbrev wsX80 : List Cond := u_ws RX8 TX8 3
theorem nmX8 : ∀ a, a < 3 → ∀ b, b < 3 → a ≠ b → (TX8 a).2.1 ≠ (TX8 b).2.1 := by decide +kernel
theorem tyX8_ok : ∀ k, k < 3 → parseFieldDescriptor (TX8 k).2.2.1 = some (tyX8 k) := by decide +kernel
abbrev cX8_init : ByteArray := prog_10_method_1_code
def yX8_init : MethodName := ⟨RX8, "<init>", "(I)V"⟩
abbrev cX8_isPossible : ByteArray := prog_10_method_2_code
def yX8_isPossible : MethodName := ⟨RX8, "isPossible", "([I[I)Z"⟩
abbrev cX8_allows : ByteArray := prog_10_method_3_code
def yX8_allows : MethodName := ⟨RX8, "allows", "([I[III)Z"⟩
abbrev cX8_isFull : ByteArray := prog_10_method_4_code
def yX8_isFull : MethodName := ⟨RX8, "isFull", "()Z"⟩
abbrev cX8_append : ByteArray := prog_10_method_5_code
def yX8_append : MethodName := ⟨RX8, "append", "([I)V"⟩
abbrev cX8_remove : ByteArray := prog_10_method_6_code
def yX8_remove : MethodName := ⟨RX8, "remove", "(I)V"⟩
abbrev cX8_arrange : ByteArray := prog_10_method_7_code
def yX8_arrange : MethodName := ⟨RX8, "arrange", "(LTwistedLight$Steps;[I)V"⟩
abbrev cX8_numberOf : ByteArray := prog_10_method_8_code
def yX8_numberOf : MethodName := ⟨RX8, "numberOf", "(II)I"⟩
abbrev cX8_takeFrom : ByteArray := prog_10_method_9_code
def yX8_takeFrom : MethodName := ⟨RX8, "takeFrom", "(LTwistedLight$Steps;)V"⟩
def RX9 : String := "TwistedLight$Text"
def TX9 : u_T := fun k => match k with
  | 0 => ("TwistedLight$Text", "letters", "[I", true)
  | 1 => ("TwistedLight$Text", "step", "[I", true)
  | 2 => ("TwistedLight$Text", "length", "I", false)
  | 3 => ("TwistedLight$Text", "item", "I", false)
  | 4 => ("TwistedLight$Text", "told", "I", false)
  | 5 => ("TwistedLight$Text", "items", "I", false)
  | _ => ("TwistedLight$Text", "marksTold", "Z", false)
def tyX9 : Nat → FieldType := fun k => match k with
  | 0 => .array .int
  | 1 => .array .int
  | 2 => .int
  | 3 => .int
  | 4 => .int
  | 5 => .int
  | _ => .boolean
abbrev wsX90 : List Cond := u_ws RX9 TX9 7
theorem nmX9 : ∀ a, a < 7 → ∀ b, b < 7 → a ≠ b → (TX9 a).2.1 ≠ (TX9 b).2.1 := by decide +kernel
theorem tyX9_ok : ∀ k, k < 7 → parseFieldDescriptor (TX9 k).2.2.1 = some (tyX9 k) := by decide +kernel
abbrev cX9_init : ByteArray := prog_11_method_1_code
def yX9_init : MethodName := ⟨RX9, "<init>", "()V"⟩
abbrev cX9_append : ByteArray := prog_11_method_2_code
def yX9_append : MethodName := ⟨RX9, "append", "(I)Z"⟩
abbrev cX9_readInto : ByteArray := prog_11_method_3_code
def yX9_readInto : MethodName := ⟨RX9, "readInto", "(LTwistedLight$State;)I"⟩
abbrev cX9_endOfToken : ByteArray := prog_11_method_4_code
def yX9_endOfToken : MethodName := ⟨RX9, "endOfToken", "(I)I"⟩
abbrev cX9_isDigit : ByteArray := prog_11_method_5_code
def yX9_isDigit : MethodName := ⟨RX9, "isDigit", "(I)Z"⟩
abbrev cX9_takesToken : ByteArray := prog_11_method_6_code
def yX9_takesToken : MethodName := ⟨RX9, "takesToken", "(LTwistedLight$State;II)Z"⟩
abbrev cX9_valueOf : ByteArray := prog_11_method_7_code
def yX9_valueOf : MethodName := ⟨RX9, "valueOf", "(II)I"⟩
abbrev cX9_beginsItem : ByteArray := prog_11_method_8_code
def yX9_beginsItem : MethodName := ⟨RX9, "beginsItem", "(LTwistedLight$State;I)Z"⟩
abbrev cX9_takesNumber : ByteArray := prog_11_method_9_code
def yX9_takesNumber : MethodName := ⟨RX9, "takesNumber", "(LTwistedLight$State;I)Z"⟩
abbrev cX9_takesSymbol : ByteArray := prog_11_method_10_code
def yX9_takesSymbol : MethodName := ⟨RX9, "takesSymbol", "(LTwistedLight$State;II)Z"⟩
abbrev cX9_takesMark : ByteArray := prog_11_method_11_code
def yX9_takesMark : MethodName := ⟨RX9, "takesMark", "(LTwistedLight$State;I)Z"⟩
abbrev cX9_takesPart : ByteArray := prog_11_method_12_code
def yX9_takesPart : MethodName := ⟨RX9, "takesPart", "(I)Z"⟩
abbrev cX9_endsItem : ByteArray := prog_11_method_13_code
def yX9_endsItem : MethodName := ⟨RX9, "endsItem", "(LTwistedLight$State;)Z"⟩
abbrev cX9_isWhole : ByteArray := prog_11_method_14_code
def yX9_isWhole : MethodName := ⟨RX9, "isWhole", "()Z"⟩
def RX10 : String := "TwistedLight"
def TX10 : u_T := fun k => match k with
  | 0 => ("TwistedLight", "present", "LTwistedLight$State;", true)
  | 1 => ("TwistedLight", "draft", "LTwistedLight$State;", true)
  | 2 => ("TwistedLight", "images", "[LTwistedLight$State;", true)
  | 3 => ("TwistedLight", "saved", "[Z", true)
  | 4 => ("TwistedLight", "history", "LTwistedLight$History;", true)
  | 5 => ("TwistedLight", "text", "LTwistedLight$Text;", true)
  | 6 => ("TwistedLight", "sightings", "LTwistedLight$Sightings;", true)
  | 7 => ("TwistedLight", "received", "LTwistedLight$Block;", true)
  | 8 => ("TwistedLight", "trial", "LTwistedLight$Block;", true)
  | 9 => ("TwistedLight", "arrangement", "LTwistedLight$Arrangement;", true)
  | 10 => ("TwistedLight", "step", "[I", true)
  | 11 => ("TwistedLight", "learnt", "LTwistedLight$Matrix;", true)
  | _ => ("TwistedLight", "lights", "LTwistedLight$Matrix;", true)
def tyX10 : Nat → FieldType := fun k => match k with
  | 0 => .object "TwistedLight$State"
  | 1 => .object "TwistedLight$State"
  | 2 => .array (.object "TwistedLight$State")
  | 3 => .array .boolean
  | 4 => .object "TwistedLight$History"
  | 5 => .object "TwistedLight$Text"
  | 6 => .object "TwistedLight$Sightings"
  | 7 => .object "TwistedLight$Block"
  | 8 => .object "TwistedLight$Block"
  | 9 => .object "TwistedLight$Arrangement"
  | 10 => .array .int
  | 11 => .object "TwistedLight$Matrix"
  | _ => .object "TwistedLight$Matrix"
abbrev wsX100 : List Cond := u_ws RX10 TX10 13
theorem nmX10 : ∀ a, a < 13 → ∀ b, b < 13 → a ≠ b → (TX10 a).2.1 ≠ (TX10 b).2.1 := by decide +kernel
theorem tyX10_ok : ∀ k, k < 13 → parseFieldDescriptor (TX10 k).2.2.1 = some (tyX10 k) := by decide +kernel
abbrev cX10_init : ByteArray := prog_1_method_1_code
def yX10_init : MethodName := ⟨RX10, "<init>", "()V"⟩
abbrev cX10_type : ByteArray := prog_1_method_2_code
def yX10_type : MethodName := ⟨RX10, "type", "(I)I"⟩
abbrev cX10_clear : ByteArray := prog_1_method_3_code
def yX10_clear : MethodName := ⟨RX10, "clear", "()I"⟩
abbrev cX10_block : ByteArray := prog_1_method_4_code
def yX10_block : MethodName := ⟨RX10, "block", "()I"⟩
abbrev cX10_sends : ByteArray := prog_1_method_5_code
def yX10_sends : MethodName := ⟨RX10, "sends", "(III)I"⟩
abbrev cX10_marks : ByteArray := prog_1_method_6_code
def yX10_marks : MethodName := ⟨RX10, "marks", "(II)I"⟩
abbrev cX10_adds : ByteArray := prog_1_method_7_code
def yX10_adds : MethodName := ⟨RX10, "adds", "(IIIII)I"⟩
abbrev cX10_cuts : ByteArray := prog_1_method_8_code
def yX10_cuts : MethodName := ⟨RX10, "cuts", "()I"⟩
abbrev cX10_stages : ByteArray := prog_1_method_9_code
def yX10_stages : MethodName := ⟨RX10, "stages", "(IIIII)I"⟩
abbrev cX10_drops : ByteArray := prog_1_method_10_code
def yX10_drops : MethodName := ⟨RX10, "drops", "(I)I"⟩
abbrev cX10_learns : ByteArray := prog_1_method_11_code
def yX10_learns : MethodName := ⟨RX10, "learns", "(II)I"⟩
abbrev cX10_orders : ByteArray := prog_1_method_12_code
def yX10_orders : MethodName := ⟨RX10, "orders", "()I"⟩
abbrev cX10_hears : ByteArray := prog_1_method_13_code
def yX10_hears : MethodName := ⟨RX10, "hears", "()I"⟩
abbrev cX10_undo : ByteArray := prog_1_method_14_code
def yX10_undo : MethodName := ⟨RX10, "undo", "()I"⟩
abbrev cX10_at : ByteArray := prog_1_method_15_code
def yX10_at : MethodName := ⟨RX10, "at", "(III)I"⟩
abbrev cX10_deed : ByteArray := prog_1_method_16_code
def yX10_deed : MethodName := ⟨RX10, "deed", "(II)I"⟩
abbrev cX10_stage : ByteArray := prog_1_method_17_code
def yX10_stage : MethodName := ⟨RX10, "stage", "(II)I"⟩
abbrev cX10_wrong : ByteArray := prog_1_method_18_code
def yX10_wrong : MethodName := ⟨RX10, "wrong", "(I)I"⟩
abbrev cX10_loss : ByteArray := prog_1_method_19_code
def yX10_loss : MethodName := ⟨RX10, "loss", "()I"⟩
abbrev cX10_taps : ByteArray := prog_1_method_20_code
def yX10_taps : MethodName := ⟨RX10, "taps", "(III)I"⟩
abbrev cX10_skew : ByteArray := prog_1_method_21_code
def yX10_skew : MethodName := ⟨RX10, "skew", "()I"⟩
abbrev cX10_spreads : ByteArray := prog_1_method_22_code
def yX10_spreads : MethodName := ⟨RX10, "spreads", "(I)I"⟩
abbrev cX10_order : ByteArray := prog_1_method_23_code
def yX10_order : MethodName := ⟨RX10, "order", "(I)I"⟩
abbrev cX10_lag : ByteArray := prog_1_method_24_code
def yX10_lag : MethodName := ⟨RX10, "lag", "(I)I"⟩
abbrev cX10_sees : ByteArray := prog_1_method_25_code
def yX10_sees : MethodName := ⟨RX10, "sees", "(III)I"⟩
abbrev cX10_forget : ByteArray := prog_1_method_26_code
def yX10_forget : MethodName := ⟨RX10, "forget", "()I"⟩
abbrev cX10_fits : ByteArray := prog_1_method_27_code
def yX10_fits : MethodName := ⟨RX10, "fits", "(I)I"⟩
abbrev cX10_odds : ByteArray := prog_1_method_28_code
def yX10_odds : MethodName := ⟨RX10, "odds", "(IIII)I"⟩
abbrev cX10_keep : ByteArray := prog_1_method_29_code
def yX10_keep : MethodName := ⟨RX10, "keep", "(I)I"⟩
abbrev cX10_back : ByteArray := prog_1_method_30_code
def yX10_back : MethodName := ⟨RX10, "back", "(I)I"⟩
abbrev cX10_count : ByteArray := prog_1_method_31_code
def yX10_count : MethodName := ⟨RX10, "count", "(I)I"⟩
abbrev cX10_isPlace : ByteArray := prog_1_method_32_code
def yX10_isPlace : MethodName := ⟨RX10, "isPlace", "(I)Z"⟩
abbrev cX10_isSpot : ByteArray := prog_1_method_33_code
def yX10_isSpot : MethodName := ⟨RX10, "isSpot", "(II)Z"⟩
abbrev cX10_isSymbol : ByteArray := prog_1_method_34_code
def yX10_isSymbol : MethodName := ⟨RX10, "isSymbol", "(I)Z"⟩
abbrev cX10_isPair : ByteArray := prog_1_method_35_code
def yX10_isPair : MethodName := ⟨RX10, "isPair", "(II)Z"⟩
abbrev cX10_putStep : ByteArray := prog_1_method_36_code
def yX10_putStep : MethodName := ⟨RX10, "putStep", "(IIIII)V"⟩
abbrev cX10_appendStep : ByteArray := prog_1_method_37_code
def yX10_appendStep : MethodName := ⟨RX10, "appendStep", "(LTwistedLight$Steps;)I"⟩
abbrev cX10_errorsAfter : ByteArray := prog_1_method_38_code
def yX10_errorsAfter : MethodName := ⟨RX10, "errorsAfter", "(I)I"⟩
abbrev cX10_unspreadFits : ByteArray := prog_1_method_39_code
def yX10_unspreadFits : MethodName := ⟨RX10, "unspreadFits", "(I)Z"⟩
abbrev cX10_slipFits : ByteArray := prog_1_method_40_code
def yX10_slipFits : MethodName := ⟨RX10, "slipFits", "(II)Z"⟩
abbrev cX10_findTaps : ByteArray := prog_1_method_41_code
def yX10_findTaps : MethodName := ⟨RX10, "findTaps", "(II)Z"⟩
abbrev cX10_findBestOrder : ByteArray := prog_1_method_42_code
def yX10_findBestOrder : MethodName := ⟨RX10, "findBestOrder", "()I"⟩
abbrev cX10_errorsInOrder : ByteArray := prog_1_method_43_code
def yX10_errorsInOrder : MethodName := ⟨RX10, "errorsInOrder", "([I)I"⟩
def RX11 : String := "TwistedLightModel"
def TX11 : u_T := fun k => match k with
  | 0 => ("TwistedLightModel", "now", "[I", true)
  | 1 => ("TwistedLightModel", "lost", "F", false)
  | 2 => ("TwistedLightModel", "past", "[I", true)
  | 3 => ("TwistedLightModel", "pastLost", "[F", true)
  | 4 => ("TwistedLightModel", "pasts", "I", false)
  | 5 => ("TwistedLightModel", "images", "[I", true)
  | 6 => ("TwistedLightModel", "imageLost", "[F", true)
  | 7 => ("TwistedLightModel", "isKept", "[Z", true)
  | 8 => ("TwistedLightModel", "text", "[I", true)
  | 9 => ("TwistedLightModel", "typed", "I", false)
  | 10 => ("TwistedLightModel", "draft", "[I", true)
  | 11 => ("TwistedLightModel", "at", "I", false)
  | 12 => ("TwistedLightModel", "tokenAt", "I", false)
  | 13 => ("TwistedLightModel", "token", "I", false)
  | 14 => ("TwistedLightModel", "value", "I", false)
  | 15 => ("TwistedLightModel", "fault", "I", false)
  | 16 => ("TwistedLightModel", "isMarkTold", "Z", false)
  | 17 => ("TwistedLightModel", "way", "[I", true)
  | 18 => ("TwistedLightModel", "made", "[I", true)
  | 19 => ("TwistedLightModel", "tapU", "I", false)
  | 20 => ("TwistedLightModel", "tapV", "I", false)
  | 21 => ("TwistedLightModel", "four", "[I", true)
  | 22 => ("TwistedLightModel", "tried", "[I", true)
  | 23 => ("TwistedLightModel", "best", "[I", true)
  | 24 => ("TwistedLightModel", "bestWrong", "I", false)
  | 25 => ("TwistedLightModel", "chain", "[I", true)
  | 26 => ("TwistedLightModel", "received", "[I", true)
  | 27 => ("TwistedLightModel", "seen", "I", false)
  | 28 => ("TwistedLightModel", "seenAt", "[I", true)
  | _ => ("TwistedLightModel", "seenAs", "[I", true)
def tyX11 : Nat → FieldType := fun k => match k with
  | 0 => .array .int
  | 1 => .float
  | 2 => .array .int
  | 3 => .array .float
  | 4 => .int
  | 5 => .array .int
  | 6 => .array .float
  | 7 => .array .boolean
  | 8 => .array .int
  | 9 => .int
  | 10 => .array .int
  | 11 => .int
  | 12 => .int
  | 13 => .int
  | 14 => .int
  | 15 => .int
  | 16 => .boolean
  | 17 => .array .int
  | 18 => .array .int
  | 19 => .int
  | 20 => .int
  | 21 => .array .int
  | 22 => .array .int
  | 23 => .array .int
  | 24 => .int
  | 25 => .array .int
  | 26 => .array .int
  | 27 => .int
  | 28 => .array .int
  | _ => .array .int
abbrev wsX110 : List Cond := u_ws RX11 TX11 30
theorem nmX11 : ∀ a, a < 30 → ∀ b, b < 30 → a ≠ b → (TX11 a).2.1 ≠ (TX11 b).2.1 := by decide +kernel
theorem tyX11_ok : ∀ k, k < 30 → parseFieldDescriptor (TX11 k).2.2.1 = some (tyX11 k) := by decide +kernel
abbrev cX11_init : ByteArray := prog_13_method_1_code
def yX11_init : MethodName := ⟨RX11, "<init>", "()V"⟩
abbrev cX11_in : ByteArray := prog_13_method_2_code
def yX11_in : MethodName := ⟨RX11, "in", "(III)Z"⟩
abbrev cX11_has : ByteArray := prog_13_method_3_code
def yX11_has : MethodName := ⟨RX11, "has", "(II)Z"⟩
abbrev cX11_left : ByteArray := prog_13_method_4_code
def yX11_left : MethodName := ⟨RX11, "left", "(I)I"⟩
abbrev cX11_power : ByteArray := prog_13_method_5_code
def yX11_power : MethodName := ⟨RX11, "power", "(II)I"⟩
abbrev cX11_inverse : ByteArray := prog_13_method_6_code
def yX11_inverse : MethodName := ⟨RX11, "inverse", "(I)I"⟩
abbrev cX11_light : ByteArray := prog_13_method_7_code
def yX11_light : MethodName := ⟨RX11, "light", "(I)I"⟩
abbrev cX11_decided : ByteArray := prog_13_method_8_code
def yX11_decided : MethodName := ⟨RX11, "decided", "(I)I"⟩
abbrev cX11_note : ByteArray := prog_13_method_9_code
def yX11_note : MethodName := ⟨RX11, "note", "()V"⟩
abbrev cX11_undo : ByteArray := prog_13_method_10_code
def yX11_undo : MethodName := ⟨RX11, "undo", "()I"⟩
abbrev cX11_mayBe : ByteArray := prog_13_method_11_code
def yX11_mayBe : MethodName := ⟨RX11, "mayBe", "(IIIIII)Z"⟩
abbrev cX11_isDeed : ByteArray := prog_13_method_12_code
def yX11_isDeed : MethodName := ⟨RX11, "isDeed", "(IIIII)Z"⟩
abbrev cX11_isStage : ByteArray := prog_13_method_13_code
def yX11_isStage : MethodName := ⟨RX11, "isStage", "(IIIII)Z"⟩
abbrev cX11_type : ByteArray := prog_13_method_14_code
def yX11_type : MethodName := ⟨RX11, "type", "(I)I"⟩
abbrev cX11_clear : ByteArray := prog_13_method_15_code
def yX11_clear : MethodName := ⟨RX11, "clear", "()I"⟩
abbrev cX11_next : ByteArray := prog_13_method_16_code
def yX11_next : MethodName := ⟨RX11, "next", "()V"⟩
abbrev cX11_must : ByteArray := prog_13_method_17_code
def yX11_must : MethodName := ⟨RX11, "must", "(Z)V"⟩
abbrev cX11_readRow : ByteArray := prog_13_method_18_code
def yX11_readRow : MethodName := ⟨RX11, "readRow", "(I)V"⟩
abbrev cX11_readMarks : ByteArray := prog_13_method_19_code
def yX11_readMarks : MethodName := ⟨RX11, "readMarks", "()V"⟩
abbrev cX11_readDeed : ByteArray := prog_13_method_20_code
def yX11_readDeed : MethodName := ⟨RX11, "readDeed", "()V"⟩
abbrev cX11_readItem : ByteArray := prog_13_method_21_code
def yX11_readItem : MethodName := ⟨RX11, "readItem", "()V"⟩
abbrev cX11_block : ByteArray := prog_13_method_22_code
def yX11_block : MethodName := ⟨RX11, "block", "()I"⟩
abbrev cX11_sends : ByteArray := prog_13_method_23_code
def yX11_sends : MethodName := ⟨RX11, "sends", "(III)I"⟩
abbrev cX11_marksMany : ByteArray := prog_13_method_24_code
def yX11_marksMany : MethodName := ⟨RX11, "marksMany", "()I"⟩
abbrev cX11_marks : ByteArray := prog_13_method_25_code
def yX11_marks : MethodName := ⟨RX11, "marks", "(II)I"⟩
abbrev cX11_lay : ByteArray := prog_13_method_26_code
def yX11_lay : MethodName := ⟨RX11, "lay", "(IIIIII)V"⟩
abbrev cX11_adds : ByteArray := prog_13_method_27_code
def yX11_adds : MethodName := ⟨RX11, "adds", "(IIIII)I"⟩
abbrev cX11_cuts : ByteArray := prog_13_method_28_code
def yX11_cuts : MethodName := ⟨RX11, "cuts", "()I"⟩
abbrev cX11_takeMade : ByteArray := prog_13_method_29_code
def yX11_takeMade : MethodName := ⟨RX11, "takeMade", "()V"⟩
abbrev cX11_spread : ByteArray := prog_13_method_30_code
def yX11_spread : MethodName := ⟨RX11, "spread", "(I)V"⟩
abbrev cX11_unspread : ByteArray := prog_13_method_31_code
def yX11_unspread : MethodName := ⟨RX11, "unspread", "(I)V"⟩
abbrev cX11_twist : ByteArray := prog_13_method_32_code
def yX11_twist : MethodName := ⟨RX11, "twist", "(IIII)V"⟩
abbrev cX11_untwist : ByteArray := prog_13_method_33_code
def yX11_untwist : MethodName := ⟨RX11, "untwist", "(IIII)V"⟩
abbrev cX11_slip : ByteArray := prog_13_method_34_code
def yX11_slip : MethodName := ⟨RX11, "slip", "(II)V"⟩
abbrev cX11_late : ByteArray := prog_13_method_35_code
def yX11_late : MethodName := ⟨RX11, "late", "(I)V"⟩
abbrev cX11_isLight : ByteArray := prog_13_method_36_code
def yX11_isLight : MethodName := ⟨RX11, "isLight", "(I)Z"⟩
abbrev cX11_blind : ByteArray := prog_13_method_37_code
def yX11_blind : MethodName := ⟨RX11, "blind", "()V"⟩
abbrev cX11_mend : ByteArray := prog_13_method_38_code
def yX11_mend : MethodName := ⟨RX11, "mend", "()V"⟩
abbrev cX11_mendFrom : ByteArray := prog_13_method_39_code
def yX11_mendFrom : MethodName := ⟨RX11, "mendFrom", "(II)V"⟩
abbrev cX11_doDeed : ByteArray := prog_13_method_40_code
def yX11_doDeed : MethodName := ⟨RX11, "doDeed", "(I)V"⟩
abbrev cX11_doStage : ByteArray := prog_13_method_41_code
def yX11_doStage : MethodName := ⟨RX11, "doStage", "(I)V"⟩
abbrev cX11_layAir : ByteArray := prog_13_method_42_code
def yX11_layAir : MethodName := ⟨RX11, "layAir", "()V"⟩
abbrev cX11_goThrough : ByteArray := prog_13_method_43_code
def yX11_goThrough : MethodName := ⟨RX11, "goThrough", "(I)V"⟩
abbrev cX11_layReceived : ByteArray := prog_13_method_44_code
def yX11_layReceived : MethodName := ⟨RX11, "layReceived", "()V"⟩
abbrev cX11_wrongNow : ByteArray := prog_13_method_45_code
def yX11_wrongNow : MethodName := ⟨RX11, "wrongNow", "()I"⟩
abbrev cX11_wrongAtMarks : ByteArray := prog_13_method_46_code
def yX11_wrongAtMarks : MethodName := ⟨RX11, "wrongAtMarks", "()I"⟩
abbrev cX11_wrongReceived : ByteArray := prog_13_method_47_code
def yX11_wrongReceived : MethodName := ⟨RX11, "wrongReceived", "()I"⟩
abbrev cX11_stages : ByteArray := prog_13_method_48_code
def yX11_stages : MethodName := ⟨RX11, "stages", "(IIIII)I"⟩
abbrev cX11_drops : ByteArray := prog_13_method_49_code
def yX11_drops : MethodName := ⟨RX11, "drops", "(I)I"⟩
abbrev cX11_findTaps : ByteArray := prog_13_method_50_code
def yX11_findTaps : MethodName := ⟨RX11, "findTaps", "(III)Z"⟩
abbrev cX11_areTaps : ByteArray := prog_13_method_51_code
def yX11_areTaps : MethodName := ⟨RX11, "areTaps", "(II)Z"⟩
abbrev cX11_arePlaces : ByteArray := prog_13_method_52_code
def yX11_arePlaces : MethodName := ⟨RX11, "arePlaces", "(II)Z"⟩
abbrev cX11_learns : ByteArray := prog_13_method_53_code
def yX11_learns : MethodName := ⟨RX11, "learns", "(II)I"⟩
abbrev cX11_taps : ByteArray := prog_13_method_54_code
def yX11_taps : MethodName := ⟨RX11, "taps", "(III)I"⟩
abbrev cX11_turnsOn : ByteArray := prog_13_method_55_code
def yX11_turnsOn : MethodName := ⟨RX11, "turnsOn", "(I)Z"⟩
abbrev cX11_swap : ByteArray := prog_13_method_56_code
def yX11_swap : MethodName := ⟨RX11, "swap", "(II)V"⟩
abbrev cX11_findOrder : ByteArray := prog_13_method_57_code
def yX11_findOrder : MethodName := ⟨RX11, "findOrder", "()V"⟩
abbrev cX11_order : ByteArray := prog_13_method_58_code
def yX11_order : MethodName := ⟨RX11, "order", "(I)I"⟩
abbrev cX11_orders : ByteArray := prog_13_method_59_code
def yX11_orders : MethodName := ⟨RX11, "orders", "()I"⟩
abbrev cX11_hears : ByteArray := prog_13_method_60_code
def yX11_hears : MethodName := ⟨RX11, "hears", "()I"⟩
abbrev cX11_at : ByteArray := prog_13_method_61_code
def yX11_at : MethodName := ⟨RX11, "at", "(III)I"⟩
abbrev cX11_deed : ByteArray := prog_13_method_62_code
def yX11_deed : MethodName := ⟨RX11, "deed", "(II)I"⟩
abbrev cX11_stage : ByteArray := prog_13_method_63_code
def yX11_stage : MethodName := ⟨RX11, "stage", "(II)I"⟩
abbrev cX11_wrong : ByteArray := prog_13_method_64_code
def yX11_wrong : MethodName := ⟨RX11, "wrong", "(I)I"⟩
abbrev cX11_loss : ByteArray := prog_13_method_65_code
def yX11_loss : MethodName := ⟨RX11, "loss", "()I"⟩
abbrev cX11_keepReceived : ByteArray := prog_13_method_66_code
def yX11_keepReceived : MethodName := ⟨RX11, "keepReceived", "()V"⟩
abbrev cX11_layKept : ByteArray := prog_13_method_67_code
def yX11_layKept : MethodName := ⟨RX11, "layKept", "()V"⟩
abbrev cX11_skew : ByteArray := prog_13_method_68_code
def yX11_skew : MethodName := ⟨RX11, "skew", "()I"⟩
abbrev cX11_spreads : ByteArray := prog_13_method_69_code
def yX11_spreads : MethodName := ⟨RX11, "spreads", "(I)I"⟩
abbrev cX11_lag : ByteArray := prog_13_method_70_code
def yX11_lag : MethodName := ⟨RX11, "lag", "(I)I"⟩
abbrev cX11_sees : ByteArray := prog_13_method_71_code
def yX11_sees : MethodName := ⟨RX11, "sees", "(III)I"⟩
abbrev cX11_forget : ByteArray := prog_13_method_72_code
def yX11_forget : MethodName := ⟨RX11, "forget", "()I"⟩
abbrev cX11_isSeenBy : ByteArray := prog_13_method_73_code
def yX11_isSeenBy : MethodName := ⟨RX11, "isSeenBy", "(II)Z"⟩
abbrev cX11_fits : ByteArray := prog_13_method_74_code
def yX11_fits : MethodName := ⟨RX11, "fits", "(I)I"⟩
abbrev cX11_odds : ByteArray := prog_13_method_75_code
def yX11_odds : MethodName := ⟨RX11, "odds", "(IIII)I"⟩
abbrev cX11_keep : ByteArray := prog_13_method_76_code
def yX11_keep : MethodName := ⟨RX11, "keep", "(I)I"⟩
abbrev cX11_back : ByteArray := prog_13_method_77_code
def yX11_back : MethodName := ⟨RX11, "back", "(I)I"⟩
abbrev cX11_count : ByteArray := prog_13_method_78_code
def yX11_count : MethodName := ⟨RX11, "count", "(I)I"⟩
def RJ6 : String := "java/lang/Integer"
abbrev cJ6_bitCount_0f7a4 : ByteArray := prog_14_method_49_code
def yJ6_bitCount_0f7a4 : MethodName := ⟨RJ6, "bitCount", "(I)I"⟩
def RJ9 : String := "java/lang/Math"
abbrev cJ9_floorMod_7cf53 : ByteArray := prog_15_method_50_code
def yJ9_floorMod_7cf53 : MethodName := ⟨RJ9, "floorMod", "(II)I"⟩
abbrev cJ9_max_7cf53 : ByteArray := prog_15_method_65_code
def yJ9_max_7cf53 : MethodName := ⟨RJ9, "max", "(II)I"⟩
abbrev cJ9_min_7cf53 : ByteArray := prog_15_method_69_code
def yJ9_min_7cf53 : MethodName := ⟨RJ9, "min", "(II)I"⟩
def RJ10 : String := "java/lang/System"
def RJ7 : String := "java/util/Arrays"
abbrev cJ7_fill_53178 : ByteArray := prog_17_method_103_code
def yJ7_fill_53178 : MethodName := ⟨RJ7, "fill", "([II)V"⟩
def RL : String := "TwistedLightLaw"
abbrev cL_law : ByteArray := code
def yL_law : MethodName := ⟨RL, "law", "([I)Z"⟩
abbrev vwCl : List vw_C := [(RX0, TX0, 3), (RX1, TX1, 4), (RX3, TX3, 3), (RX4, TX4, 4), (RX6, TX6, 3), (RX7, TX7, 6), (RX8, TX8, 3), (RX9, TX9, 7), (RX10, TX10, 13), (RX11, TX11, 30)]
