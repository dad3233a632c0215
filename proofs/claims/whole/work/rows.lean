section
-- ===== PART A: goes FIRST, ahead of the names: the tables' words, and 'selects' of the private methods out of them =====
/-- a private method of a class that the tables say can be made, by its rows of tables_1 -/
def lw_okq (q : MethodName × Nat) : Prop := (q.1.cls ≠ "java/lang/invoke/MethodHandle" ∧ q.1.cls ≠ "java/lang/invoke/VarHandle") ∧ Cond.instantiable q.1.cls q.2 ∈ tables_1 ∧ Cond.privateMethod q.1 ∈ tables_1 ∧ Cond.instanceMethod q.1 ∈ tables_1
theorem lw_p0 : lw_okq (⟨"TwistedLight$Text", "endOfToken", "(I)I"⟩, 7) := ⟨⟨by decide +kernel, by decide +kernel⟩, List.mem_of_getElem? (i := 107) (by decide +kernel), List.mem_of_getElem? (i := 300) (by decide +kernel), List.mem_of_getElem? (i := 301) (by decide +kernel)⟩
theorem lw_p1 : lw_okq (⟨"TwistedLight$Text", "takesToken", "(LTwistedLight$State;II)Z"⟩, 7) := ⟨⟨by decide +kernel, by decide +kernel⟩, List.mem_of_getElem? (i := 107) (by decide +kernel), List.mem_of_getElem? (i := 307) (by decide +kernel), List.mem_of_getElem? (i := 308) (by decide +kernel)⟩
theorem lw_p2 : lw_okq (⟨"TwistedLight$Text", "valueOf", "(II)I"⟩, 7) := ⟨⟨by decide +kernel, by decide +kernel⟩, List.mem_of_getElem? (i := 107) (by decide +kernel), List.mem_of_getElem? (i := 311) (by decide +kernel), List.mem_of_getElem? (i := 312) (by decide +kernel)⟩
theorem lw_p3 : lw_okq (⟨"TwistedLight$Text", "takesNumber", "(LTwistedLight$State;I)Z"⟩, 7) := ⟨⟨by decide +kernel, by decide +kernel⟩, List.mem_of_getElem? (i := 107) (by decide +kernel), List.mem_of_getElem? (i := 315) (by decide +kernel), List.mem_of_getElem? (i := 316) (by decide +kernel)⟩
theorem lw_p4 : lw_okq (⟨"TwistedLight$Text", "takesSymbol", "(LTwistedLight$State;II)Z"⟩, 7) := ⟨⟨by decide +kernel, by decide +kernel⟩, List.mem_of_getElem? (i := 107) (by decide +kernel), List.mem_of_getElem? (i := 319) (by decide +kernel), List.mem_of_getElem? (i := 320) (by decide +kernel)⟩
theorem lw_p5 : lw_okq (⟨"TwistedLight$Text", "takesMark", "(LTwistedLight$State;I)Z"⟩, 7) := ⟨⟨by decide +kernel, by decide +kernel⟩, List.mem_of_getElem? (i := 107) (by decide +kernel), List.mem_of_getElem? (i := 326) (by decide +kernel), List.mem_of_getElem? (i := 327) (by decide +kernel)⟩
theorem lw_p6 : lw_okq (⟨"TwistedLight$Text", "takesPart", "(I)Z"⟩, 7) := ⟨⟨by decide +kernel, by decide +kernel⟩, List.mem_of_getElem? (i := 107) (by decide +kernel), List.mem_of_getElem? (i := 341) (by decide +kernel), List.mem_of_getElem? (i := 342) (by decide +kernel)⟩
theorem lw_p7 : lw_okq (⟨"TwistedLight$Text", "endsItem", "(LTwistedLight$State;)Z"⟩, 7) := ⟨⟨by decide +kernel, by decide +kernel⟩, List.mem_of_getElem? (i := 107) (by decide +kernel), List.mem_of_getElem? (i := 356) (by decide +kernel), List.mem_of_getElem? (i := 357) (by decide +kernel)⟩
theorem lw_p8 : lw_okq (⟨"TwistedLight$Text", "isWhole", "()Z"⟩, 7) := ⟨⟨by decide +kernel, by decide +kernel⟩, List.mem_of_getElem? (i := 107) (by decide +kernel), List.mem_of_getElem? (i := 360) (by decide +kernel), List.mem_of_getElem? (i := 361) (by decide +kernel)⟩
theorem lw_p9 : lw_okq (⟨"TwistedLight$Text", "beginsItem", "(LTwistedLight$State;I)Z"⟩, 7) := ⟨⟨by decide +kernel, by decide +kernel⟩, List.mem_of_getElem? (i := 107) (by decide +kernel), List.mem_of_getElem? (i := 372) (by decide +kernel), List.mem_of_getElem? (i := 373) (by decide +kernel)⟩
theorem lw_p10 : lw_okq (⟨"TwistedLight", "putStep", "(IIIII)V"⟩, 13) := ⟨⟨by decide +kernel, by decide +kernel⟩, List.mem_of_getElem? (i := 18) (by decide +kernel), List.mem_of_getElem? (i := 412) (by decide +kernel), List.mem_of_getElem? (i := 413) (by decide +kernel)⟩
theorem lw_p11 : lw_okq (⟨"TwistedLight", "appendStep", "(LTwistedLight$Steps;)I"⟩, 13) := ⟨⟨by decide +kernel, by decide +kernel⟩, List.mem_of_getElem? (i := 18) (by decide +kernel), List.mem_of_getElem? (i := 421) (by decide +kernel), List.mem_of_getElem? (i := 422) (by decide +kernel)⟩
theorem lw_p12 : lw_okq (⟨"TwistedLight", "findTaps", "(II)Z"⟩, 13) := ⟨⟨by decide +kernel, by decide +kernel⟩, List.mem_of_getElem? (i := 18) (by decide +kernel), List.mem_of_getElem? (i := 452) (by decide +kernel), List.mem_of_getElem? (i := 453) (by decide +kernel)⟩
theorem lw_p13 : lw_okq (⟨"TwistedLight$Block", "shine", "(LTwistedLight$State;)V"⟩, 4) := ⟨⟨by decide +kernel, by decide +kernel⟩, List.mem_of_getElem? (i := 153) (by decide +kernel), List.mem_of_getElem? (i := 460) (by decide +kernel), List.mem_of_getElem? (i := 461) (by decide +kernel)⟩
theorem lw_p14 : lw_okq (⟨"TwistedLight$Block", "passDeed", "(LTwistedLight$Steps;I)V"⟩, 4) := ⟨⟨by decide +kernel, by decide +kernel⟩, List.mem_of_getElem? (i := 153) (by decide +kernel), List.mem_of_getElem? (i := 469) (by decide +kernel), List.mem_of_getElem? (i := 470) (by decide +kernel)⟩
theorem lw_p15 : lw_okq (⟨"TwistedLight$Block", "spread", "(I)V"⟩, 4) := ⟨⟨by decide +kernel, by decide +kernel⟩, List.mem_of_getElem? (i := 153) (by decide +kernel), List.mem_of_getElem? (i := 477) (by decide +kernel), List.mem_of_getElem? (i := 478) (by decide +kernel)⟩
def lw_privs_1 : List (MethodName × Nat) := [(⟨"TwistedLight$Text", "endOfToken", "(I)I"⟩, 7), (⟨"TwistedLight$Text", "takesToken", "(LTwistedLight$State;II)Z"⟩, 7), (⟨"TwistedLight$Text", "valueOf", "(II)I"⟩, 7), (⟨"TwistedLight$Text", "takesNumber", "(LTwistedLight$State;I)Z"⟩, 7), (⟨"TwistedLight$Text", "takesSymbol", "(LTwistedLight$State;II)Z"⟩, 7), (⟨"TwistedLight$Text", "takesMark", "(LTwistedLight$State;I)Z"⟩, 7), (⟨"TwistedLight$Text", "takesPart", "(I)Z"⟩, 7), (⟨"TwistedLight$Text", "endsItem", "(LTwistedLight$State;)Z"⟩, 7), (⟨"TwistedLight$Text", "isWhole", "()Z"⟩, 7), (⟨"TwistedLight$Text", "beginsItem", "(LTwistedLight$State;I)Z"⟩, 7), (⟨"TwistedLight", "putStep", "(IIIII)V"⟩, 13), (⟨"TwistedLight", "appendStep", "(LTwistedLight$Steps;)I"⟩, 13), (⟨"TwistedLight", "findTaps", "(II)Z"⟩, 13), (⟨"TwistedLight$Block", "shine", "(LTwistedLight$State;)V"⟩, 4), (⟨"TwistedLight$Block", "passDeed", "(LTwistedLight$Steps;I)V"⟩, 4), (⟨"TwistedLight$Block", "spread", "(I)V"⟩, 4)]
theorem lw_r1 : ∀ q ∈ lw_privs_1, lw_okq q := List.forall_mem_cons.mpr ⟨lw_p0, List.forall_mem_cons.mpr ⟨lw_p1, List.forall_mem_cons.mpr ⟨lw_p2, List.forall_mem_cons.mpr ⟨lw_p3, List.forall_mem_cons.mpr ⟨lw_p4, List.forall_mem_cons.mpr ⟨lw_p5, List.forall_mem_cons.mpr ⟨lw_p6, List.forall_mem_cons.mpr ⟨lw_p7, List.forall_mem_cons.mpr ⟨lw_p8, List.forall_mem_cons.mpr ⟨lw_p9, List.forall_mem_cons.mpr ⟨lw_p10, List.forall_mem_cons.mpr ⟨lw_p11, List.forall_mem_cons.mpr ⟨lw_p12, List.forall_mem_cons.mpr ⟨lw_p13, List.forall_mem_cons.mpr ⟨lw_p14, List.forall_mem_cons.mpr ⟨lw_p15, fun _ h => absurd h List.not_mem_nil⟩⟩⟩⟩⟩⟩⟩⟩⟩⟩⟩⟩⟩⟩⟩⟩
theorem lw_p16 : lw_okq (⟨"TwistedLight$Block", "twist", "()V"⟩, 4) := ⟨⟨by decide +kernel, by decide +kernel⟩, List.mem_of_getElem? (i := 153) (by decide +kernel), List.mem_of_getElem? (i := 486) (by decide +kernel), List.mem_of_getElem? (i := 487) (by decide +kernel)⟩
theorem lw_p17 : lw_okq (⟨"TwistedLight$Block", "turn", "(II)V"⟩, 4) := ⟨⟨by decide +kernel, by decide +kernel⟩, List.mem_of_getElem? (i := 153) (by decide +kernel), List.mem_of_getElem? (i := 494) (by decide +kernel), List.mem_of_getElem? (i := 495) (by decide +kernel)⟩
theorem lw_p18 : lw_okq (⟨"TwistedLight$Block", "hit", "(II)V"⟩, 4) := ⟨⟨by decide +kernel, by decide +kernel⟩, List.mem_of_getElem? (i := 153) (by decide +kernel), List.mem_of_getElem? (i := 506) (by decide +kernel), List.mem_of_getElem? (i := 507) (by decide +kernel)⟩
theorem lw_p19 : lw_okq (⟨"TwistedLight$Block", "brightestFactor", "()I"⟩, 4) := ⟨⟨by decide +kernel, by decide +kernel⟩, List.mem_of_getElem? (i := 153) (by decide +kernel), List.mem_of_getElem? (i := 534) (by decide +kernel), List.mem_of_getElem? (i := 535) (by decide +kernel)⟩
theorem lw_p20 : lw_okq (⟨"TwistedLight$Block", "multiply", "(I)V"⟩, 4) := ⟨⟨by decide +kernel, by decide +kernel⟩, List.mem_of_getElem? (i := 153) (by decide +kernel), List.mem_of_getElem? (i := 539) (by decide +kernel), List.mem_of_getElem? (i := 540) (by decide +kernel)⟩
theorem lw_p21 : lw_okq (⟨"TwistedLight$Block", "mend", "(LTwistedLight$State;)V"⟩, 4) := ⟨⟨by decide +kernel, by decide +kernel⟩, List.mem_of_getElem? (i := 153) (by decide +kernel), List.mem_of_getElem? (i := 543) (by decide +kernel), List.mem_of_getElem? (i := 544) (by decide +kernel)⟩
theorem lw_p22 : lw_okq (⟨"TwistedLight$Block", "bestTurn", "(LTwistedLight$State;I)I"⟩, 4) := ⟨⟨by decide +kernel, by decide +kernel⟩, List.mem_of_getElem? (i := 153) (by decide +kernel), List.mem_of_getElem? (i := 553) (by decide +kernel), List.mem_of_getElem? (i := 554) (by decide +kernel)⟩
theorem lw_p23 : lw_okq (⟨"TwistedLight", "findBestOrder", "()I"⟩, 13) := ⟨⟨by decide +kernel, by decide +kernel⟩, List.mem_of_getElem? (i := 18) (by decide +kernel), List.mem_of_getElem? (i := 572) (by decide +kernel), List.mem_of_getElem? (i := 573) (by decide +kernel)⟩
theorem lw_p24 : lw_okq (⟨"TwistedLight", "errorsInOrder", "([I)I"⟩, 13) := ⟨⟨by decide +kernel, by decide +kernel⟩, List.mem_of_getElem? (i := 18) (by decide +kernel), List.mem_of_getElem? (i := 581) (by decide +kernel), List.mem_of_getElem? (i := 582) (by decide +kernel)⟩
theorem lw_p25 : lw_okq (⟨"TwistedLight$Arrangement", "swap", "(II)V"⟩, 3) := ⟨⟨by decide +kernel, by decide +kernel⟩, List.mem_of_getElem? (i := 201) (by decide +kernel), List.mem_of_getElem? (i := 599) (by decide +kernel), List.mem_of_getElem? (i := 600) (by decide +kernel)⟩
theorem lw_p26 : lw_okq (⟨"TwistedLight", "errorsAfter", "(I)I"⟩, 13) := ⟨⟨by decide +kernel, by decide +kernel⟩, List.mem_of_getElem? (i := 18) (by decide +kernel), List.mem_of_getElem? (i := 616) (by decide +kernel), List.mem_of_getElem? (i := 617) (by decide +kernel)⟩
theorem lw_p27 : lw_okq (⟨"TwistedLight", "unspreadFits", "(I)Z"⟩, 13) := ⟨⟨by decide +kernel, by decide +kernel⟩, List.mem_of_getElem? (i := 18) (by decide +kernel), List.mem_of_getElem? (i := 682) (by decide +kernel), List.mem_of_getElem? (i := 683) (by decide +kernel)⟩
theorem lw_p28 : lw_okq (⟨"TwistedLight", "slipFits", "(II)Z"⟩, 13) := ⟨⟨by decide +kernel, by decide +kernel⟩, List.mem_of_getElem? (i := 18) (by decide +kernel), List.mem_of_getElem? (i := 711) (by decide +kernel), List.mem_of_getElem? (i := 712) (by decide +kernel)⟩
theorem lw_p29 : lw_okq (⟨"TwistedLightModel", "next", "()V"⟩, 30) := ⟨⟨by decide +kernel, by decide +kernel⟩, List.mem_of_getElem? (i := 751) (by decide +kernel), List.mem_of_getElem? (i := 868) (by decide +kernel), List.mem_of_getElem? (i := 869) (by decide +kernel)⟩
theorem lw_p30 : lw_okq (⟨"TwistedLightModel", "readItem", "()V"⟩, 30) := ⟨⟨by decide +kernel, by decide +kernel⟩, List.mem_of_getElem? (i := 751) (by decide +kernel), List.mem_of_getElem? (i := 872) (by decide +kernel), List.mem_of_getElem? (i := 873) (by decide +kernel)⟩
theorem lw_p31 : lw_okq (⟨"TwistedLightModel", "must", "(Z)V"⟩, 30) := ⟨⟨by decide +kernel, by decide +kernel⟩, List.mem_of_getElem? (i := 751) (by decide +kernel), List.mem_of_getElem? (i := 876) (by decide +kernel), List.mem_of_getElem? (i := 877) (by decide +kernel)⟩
def lw_privs_2 : List (MethodName × Nat) := [(⟨"TwistedLight$Block", "twist", "()V"⟩, 4), (⟨"TwistedLight$Block", "turn", "(II)V"⟩, 4), (⟨"TwistedLight$Block", "hit", "(II)V"⟩, 4), (⟨"TwistedLight$Block", "brightestFactor", "()I"⟩, 4), (⟨"TwistedLight$Block", "multiply", "(I)V"⟩, 4), (⟨"TwistedLight$Block", "mend", "(LTwistedLight$State;)V"⟩, 4), (⟨"TwistedLight$Block", "bestTurn", "(LTwistedLight$State;I)I"⟩, 4), (⟨"TwistedLight", "findBestOrder", "()I"⟩, 13), (⟨"TwistedLight", "errorsInOrder", "([I)I"⟩, 13), (⟨"TwistedLight$Arrangement", "swap", "(II)V"⟩, 3), (⟨"TwistedLight", "errorsAfter", "(I)I"⟩, 13), (⟨"TwistedLight", "unspreadFits", "(I)Z"⟩, 13), (⟨"TwistedLight", "slipFits", "(II)Z"⟩, 13), (⟨"TwistedLightModel", "next", "()V"⟩, 30), (⟨"TwistedLightModel", "readItem", "()V"⟩, 30), (⟨"TwistedLightModel", "must", "(Z)V"⟩, 30)]
theorem lw_r2 : ∀ q ∈ lw_privs_2, lw_okq q := List.forall_mem_cons.mpr ⟨lw_p16, List.forall_mem_cons.mpr ⟨lw_p17, List.forall_mem_cons.mpr ⟨lw_p18, List.forall_mem_cons.mpr ⟨lw_p19, List.forall_mem_cons.mpr ⟨lw_p20, List.forall_mem_cons.mpr ⟨lw_p21, List.forall_mem_cons.mpr ⟨lw_p22, List.forall_mem_cons.mpr ⟨lw_p23, List.forall_mem_cons.mpr ⟨lw_p24, List.forall_mem_cons.mpr ⟨lw_p25, List.forall_mem_cons.mpr ⟨lw_p26, List.forall_mem_cons.mpr ⟨lw_p27, List.forall_mem_cons.mpr ⟨lw_p28, List.forall_mem_cons.mpr ⟨lw_p29, List.forall_mem_cons.mpr ⟨lw_p30, List.forall_mem_cons.mpr ⟨lw_p31, fun _ h => absurd h List.not_mem_nil⟩⟩⟩⟩⟩⟩⟩⟩⟩⟩⟩⟩⟩⟩⟩⟩
theorem lw_p32 : lw_okq (⟨"TwistedLightModel", "readMarks", "()V"⟩, 30) := ⟨⟨by decide +kernel, by decide +kernel⟩, List.mem_of_getElem? (i := 751) (by decide +kernel), List.mem_of_getElem? (i := 880) (by decide +kernel), List.mem_of_getElem? (i := 881) (by decide +kernel)⟩
theorem lw_p33 : lw_okq (⟨"TwistedLightModel", "readDeed", "()V"⟩, 30) := ⟨⟨by decide +kernel, by decide +kernel⟩, List.mem_of_getElem? (i := 751) (by decide +kernel), List.mem_of_getElem? (i := 887) (by decide +kernel), List.mem_of_getElem? (i := 888) (by decide +kernel)⟩
theorem lw_p34 : lw_okq (⟨"TwistedLightModel", "readRow", "(I)V"⟩, 30) := ⟨⟨by decide +kernel, by decide +kernel⟩, List.mem_of_getElem? (i := 751) (by decide +kernel), List.mem_of_getElem? (i := 900) (by decide +kernel), List.mem_of_getElem? (i := 901) (by decide +kernel)⟩
theorem lw_p35 : lw_okq (⟨"TwistedLightModel", "note", "()V"⟩, 30) := ⟨⟨by decide +kernel, by decide +kernel⟩, List.mem_of_getElem? (i := 751) (by decide +kernel), List.mem_of_getElem? (i := 904) (by decide +kernel), List.mem_of_getElem? (i := 905) (by decide +kernel)⟩
theorem lw_p36 : lw_okq (⟨"TwistedLightModel", "marksMany", "()I"⟩, 30) := ⟨⟨by decide +kernel, by decide +kernel⟩, List.mem_of_getElem? (i := 751) (by decide +kernel), List.mem_of_getElem? (i := 916) (by decide +kernel), List.mem_of_getElem? (i := 917) (by decide +kernel)⟩
theorem lw_p37 : lw_okq (⟨"TwistedLightModel", "lay", "(IIIIII)V"⟩, 30) := ⟨⟨by decide +kernel, by decide +kernel⟩, List.mem_of_getElem? (i := 751) (by decide +kernel), List.mem_of_getElem? (i := 927) (by decide +kernel), List.mem_of_getElem? (i := 928) (by decide +kernel)⟩
theorem lw_p38 : lw_okq (⟨"TwistedLightModel", "areTaps", "(II)Z"⟩, 30) := ⟨⟨by decide +kernel, by decide +kernel⟩, List.mem_of_getElem? (i := 751) (by decide +kernel), List.mem_of_getElem? (i := 953) (by decide +kernel), List.mem_of_getElem? (i := 954) (by decide +kernel)⟩
theorem lw_p39 : lw_okq (⟨"TwistedLightModel", "layReceived", "()V"⟩, 30) := ⟨⟨by decide +kernel, by decide +kernel⟩, List.mem_of_getElem? (i := 751) (by decide +kernel), List.mem_of_getElem? (i := 957) (by decide +kernel), List.mem_of_getElem? (i := 958) (by decide +kernel)⟩
theorem lw_p40 : lw_okq (⟨"TwistedLightModel", "layAir", "()V"⟩, 30) := ⟨⟨by decide +kernel, by decide +kernel⟩, List.mem_of_getElem? (i := 751) (by decide +kernel), List.mem_of_getElem? (i := 961) (by decide +kernel), List.mem_of_getElem? (i := 962) (by decide +kernel)⟩
theorem lw_p41 : lw_okq (⟨"TwistedLightModel", "doDeed", "(I)V"⟩, 30) := ⟨⟨by decide +kernel, by decide +kernel⟩, List.mem_of_getElem? (i := 751) (by decide +kernel), List.mem_of_getElem? (i := 968) (by decide +kernel), List.mem_of_getElem? (i := 969) (by decide +kernel)⟩
theorem lw_p42 : lw_okq (⟨"TwistedLightModel", "spread", "(I)V"⟩, 30) := ⟨⟨by decide +kernel, by decide +kernel⟩, List.mem_of_getElem? (i := 751) (by decide +kernel), List.mem_of_getElem? (i := 972) (by decide +kernel), List.mem_of_getElem? (i := 973) (by decide +kernel)⟩
theorem lw_p43 : lw_okq (⟨"TwistedLightModel", "takeMade", "()V"⟩, 30) := ⟨⟨by decide +kernel, by decide +kernel⟩, List.mem_of_getElem? (i := 751) (by decide +kernel), List.mem_of_getElem? (i := 976) (by decide +kernel), List.mem_of_getElem? (i := 977) (by decide +kernel)⟩
theorem lw_p44 : lw_okq (⟨"TwistedLightModel", "twist", "(IIII)V"⟩, 30) := ⟨⟨by decide +kernel, by decide +kernel⟩, List.mem_of_getElem? (i := 751) (by decide +kernel), List.mem_of_getElem? (i := 980) (by decide +kernel), List.mem_of_getElem? (i := 981) (by decide +kernel)⟩
theorem lw_p45 : lw_okq (⟨"TwistedLightModel", "slip", "(II)V"⟩, 30) := ⟨⟨by decide +kernel, by decide +kernel⟩, List.mem_of_getElem? (i := 751) (by decide +kernel), List.mem_of_getElem? (i := 984) (by decide +kernel), List.mem_of_getElem? (i := 985) (by decide +kernel)⟩
theorem lw_p46 : lw_okq (⟨"TwistedLightModel", "late", "(I)V"⟩, 30) := ⟨⟨by decide +kernel, by decide +kernel⟩, List.mem_of_getElem? (i := 751) (by decide +kernel), List.mem_of_getElem? (i := 988) (by decide +kernel), List.mem_of_getElem? (i := 989) (by decide +kernel)⟩
theorem lw_p47 : lw_okq (⟨"TwistedLightModel", "goThrough", "(I)V"⟩, 30) := ⟨⟨by decide +kernel, by decide +kernel⟩, List.mem_of_getElem? (i := 751) (by decide +kernel), List.mem_of_getElem? (i := 992) (by decide +kernel), List.mem_of_getElem? (i := 993) (by decide +kernel)⟩
def lw_privs_3 : List (MethodName × Nat) := [(⟨"TwistedLightModel", "readMarks", "()V"⟩, 30), (⟨"TwistedLightModel", "readDeed", "()V"⟩, 30), (⟨"TwistedLightModel", "readRow", "(I)V"⟩, 30), (⟨"TwistedLightModel", "note", "()V"⟩, 30), (⟨"TwistedLightModel", "marksMany", "()I"⟩, 30), (⟨"TwistedLightModel", "lay", "(IIIIII)V"⟩, 30), (⟨"TwistedLightModel", "areTaps", "(II)Z"⟩, 30), (⟨"TwistedLightModel", "layReceived", "()V"⟩, 30), (⟨"TwistedLightModel", "layAir", "()V"⟩, 30), (⟨"TwistedLightModel", "doDeed", "(I)V"⟩, 30), (⟨"TwistedLightModel", "spread", "(I)V"⟩, 30), (⟨"TwistedLightModel", "takeMade", "()V"⟩, 30), (⟨"TwistedLightModel", "twist", "(IIII)V"⟩, 30), (⟨"TwistedLightModel", "slip", "(II)V"⟩, 30), (⟨"TwistedLightModel", "late", "(I)V"⟩, 30), (⟨"TwistedLightModel", "goThrough", "(I)V"⟩, 30)]
theorem lw_r3 : ∀ q ∈ lw_privs_3, lw_okq q := List.forall_mem_cons.mpr ⟨lw_p32, List.forall_mem_cons.mpr ⟨lw_p33, List.forall_mem_cons.mpr ⟨lw_p34, List.forall_mem_cons.mpr ⟨lw_p35, List.forall_mem_cons.mpr ⟨lw_p36, List.forall_mem_cons.mpr ⟨lw_p37, List.forall_mem_cons.mpr ⟨lw_p38, List.forall_mem_cons.mpr ⟨lw_p39, List.forall_mem_cons.mpr ⟨lw_p40, List.forall_mem_cons.mpr ⟨lw_p41, List.forall_mem_cons.mpr ⟨lw_p42, List.forall_mem_cons.mpr ⟨lw_p43, List.forall_mem_cons.mpr ⟨lw_p44, List.forall_mem_cons.mpr ⟨lw_p45, List.forall_mem_cons.mpr ⟨lw_p46, List.forall_mem_cons.mpr ⟨lw_p47, fun _ h => absurd h List.not_mem_nil⟩⟩⟩⟩⟩⟩⟩⟩⟩⟩⟩⟩⟩⟩⟩⟩
theorem lw_p48 : lw_okq (⟨"TwistedLightModel", "doStage", "(I)V"⟩, 30) := ⟨⟨by decide +kernel, by decide +kernel⟩, List.mem_of_getElem? (i := 751) (by decide +kernel), List.mem_of_getElem? (i := 996) (by decide +kernel), List.mem_of_getElem? (i := 997) (by decide +kernel)⟩
theorem lw_p49 : lw_okq (⟨"TwistedLightModel", "unspread", "(I)V"⟩, 30) := ⟨⟨by decide +kernel, by decide +kernel⟩, List.mem_of_getElem? (i := 751) (by decide +kernel), List.mem_of_getElem? (i := 1000) (by decide +kernel), List.mem_of_getElem? (i := 1001) (by decide +kernel)⟩
theorem lw_p50 : lw_okq (⟨"TwistedLightModel", "untwist", "(IIII)V"⟩, 30) := ⟨⟨by decide +kernel, by decide +kernel⟩, List.mem_of_getElem? (i := 751) (by decide +kernel), List.mem_of_getElem? (i := 1007) (by decide +kernel), List.mem_of_getElem? (i := 1008) (by decide +kernel)⟩
theorem lw_p51 : lw_okq (⟨"TwistedLightModel", "blind", "()V"⟩, 30) := ⟨⟨by decide +kernel, by decide +kernel⟩, List.mem_of_getElem? (i := 751) (by decide +kernel), List.mem_of_getElem? (i := 1011) (by decide +kernel), List.mem_of_getElem? (i := 1012) (by decide +kernel)⟩
theorem lw_p52 : lw_okq (⟨"TwistedLightModel", "mend", "()V"⟩, 30) := ⟨⟨by decide +kernel, by decide +kernel⟩, List.mem_of_getElem? (i := 751) (by decide +kernel), List.mem_of_getElem? (i := 1018) (by decide +kernel), List.mem_of_getElem? (i := 1019) (by decide +kernel)⟩
theorem lw_p53 : lw_okq (⟨"TwistedLightModel", "mendFrom", "(II)V"⟩, 30) := ⟨⟨by decide +kernel, by decide +kernel⟩, List.mem_of_getElem? (i := 751) (by decide +kernel), List.mem_of_getElem? (i := 1025) (by decide +kernel), List.mem_of_getElem? (i := 1026) (by decide +kernel)⟩
theorem lw_p54 : lw_okq (⟨"TwistedLightModel", "findTaps", "(III)Z"⟩, 30) := ⟨⟨by decide +kernel, by decide +kernel⟩, List.mem_of_getElem? (i := 751) (by decide +kernel), List.mem_of_getElem? (i := 1029) (by decide +kernel), List.mem_of_getElem? (i := 1030) (by decide +kernel)⟩
theorem lw_p55 : lw_okq (⟨"TwistedLightModel", "findOrder", "()V"⟩, 30) := ⟨⟨by decide +kernel, by decide +kernel⟩, List.mem_of_getElem? (i := 751) (by decide +kernel), List.mem_of_getElem? (i := 1041) (by decide +kernel), List.mem_of_getElem? (i := 1042) (by decide +kernel)⟩
theorem lw_p56 : lw_okq (⟨"TwistedLightModel", "wrongNow", "()I"⟩, 30) := ⟨⟨by decide +kernel, by decide +kernel⟩, List.mem_of_getElem? (i := 751) (by decide +kernel), List.mem_of_getElem? (i := 1045) (by decide +kernel), List.mem_of_getElem? (i := 1046) (by decide +kernel)⟩
theorem lw_p57 : lw_okq (⟨"TwistedLightModel", "turnsOn", "(I)Z"⟩, 30) := ⟨⟨by decide +kernel, by decide +kernel⟩, List.mem_of_getElem? (i := 751) (by decide +kernel), List.mem_of_getElem? (i := 1049) (by decide +kernel), List.mem_of_getElem? (i := 1050) (by decide +kernel)⟩
theorem lw_p58 : lw_okq (⟨"TwistedLightModel", "swap", "(II)V"⟩, 30) := ⟨⟨by decide +kernel, by decide +kernel⟩, List.mem_of_getElem? (i := 751) (by decide +kernel), List.mem_of_getElem? (i := 1053) (by decide +kernel), List.mem_of_getElem? (i := 1054) (by decide +kernel)⟩
theorem lw_p59 : lw_okq (⟨"TwistedLightModel", "wrongReceived", "()I"⟩, 30) := ⟨⟨by decide +kernel, by decide +kernel⟩, List.mem_of_getElem? (i := 751) (by decide +kernel), List.mem_of_getElem? (i := 1065) (by decide +kernel), List.mem_of_getElem? (i := 1066) (by decide +kernel)⟩
theorem lw_p60 : lw_okq (⟨"TwistedLightModel", "keepReceived", "()V"⟩, 30) := ⟨⟨by decide +kernel, by decide +kernel⟩, List.mem_of_getElem? (i := 751) (by decide +kernel), List.mem_of_getElem? (i := 1096) (by decide +kernel), List.mem_of_getElem? (i := 1097) (by decide +kernel)⟩
theorem lw_p61 : lw_okq (⟨"TwistedLightModel", "layKept", "()V"⟩, 30) := ⟨⟨by decide +kernel, by decide +kernel⟩, List.mem_of_getElem? (i := 751) (by decide +kernel), List.mem_of_getElem? (i := 1100) (by decide +kernel), List.mem_of_getElem? (i := 1101) (by decide +kernel)⟩
theorem lw_p62 : lw_okq (⟨"TwistedLightModel", "wrongAtMarks", "()I"⟩, 30) := ⟨⟨by decide +kernel, by decide +kernel⟩, List.mem_of_getElem? (i := 751) (by decide +kernel), List.mem_of_getElem? (i := 1104) (by decide +kernel), List.mem_of_getElem? (i := 1105) (by decide +kernel)⟩
theorem lw_p63 : lw_okq (⟨"TwistedLightModel", "isSeenBy", "(II)Z"⟩, 30) := ⟨⟨by decide +kernel, by decide +kernel⟩, List.mem_of_getElem? (i := 751) (by decide +kernel), List.mem_of_getElem? (i := 1128) (by decide +kernel), List.mem_of_getElem? (i := 1129) (by decide +kernel)⟩
def lw_privs_4 : List (MethodName × Nat) := [(⟨"TwistedLightModel", "doStage", "(I)V"⟩, 30), (⟨"TwistedLightModel", "unspread", "(I)V"⟩, 30), (⟨"TwistedLightModel", "untwist", "(IIII)V"⟩, 30), (⟨"TwistedLightModel", "blind", "()V"⟩, 30), (⟨"TwistedLightModel", "mend", "()V"⟩, 30), (⟨"TwistedLightModel", "mendFrom", "(II)V"⟩, 30), (⟨"TwistedLightModel", "findTaps", "(III)Z"⟩, 30), (⟨"TwistedLightModel", "findOrder", "()V"⟩, 30), (⟨"TwistedLightModel", "wrongNow", "()I"⟩, 30), (⟨"TwistedLightModel", "turnsOn", "(I)Z"⟩, 30), (⟨"TwistedLightModel", "swap", "(II)V"⟩, 30), (⟨"TwistedLightModel", "wrongReceived", "()I"⟩, 30), (⟨"TwistedLightModel", "keepReceived", "()V"⟩, 30), (⟨"TwistedLightModel", "layKept", "()V"⟩, 30), (⟨"TwistedLightModel", "wrongAtMarks", "()I"⟩, 30), (⟨"TwistedLightModel", "isSeenBy", "(II)Z"⟩, 30)]
theorem lw_r4 : ∀ q ∈ lw_privs_4, lw_okq q := List.forall_mem_cons.mpr ⟨lw_p48, List.forall_mem_cons.mpr ⟨lw_p49, List.forall_mem_cons.mpr ⟨lw_p50, List.forall_mem_cons.mpr ⟨lw_p51, List.forall_mem_cons.mpr ⟨lw_p52, List.forall_mem_cons.mpr ⟨lw_p53, List.forall_mem_cons.mpr ⟨lw_p54, List.forall_mem_cons.mpr ⟨lw_p55, List.forall_mem_cons.mpr ⟨lw_p56, List.forall_mem_cons.mpr ⟨lw_p57, List.forall_mem_cons.mpr ⟨lw_p58, List.forall_mem_cons.mpr ⟨lw_p59, List.forall_mem_cons.mpr ⟨lw_p60, List.forall_mem_cons.mpr ⟨lw_p61, List.forall_mem_cons.mpr ⟨lw_p62, List.forall_mem_cons.mpr ⟨lw_p63, fun _ h => absurd h List.not_mem_nil⟩⟩⟩⟩⟩⟩⟩⟩⟩⟩⟩⟩⟩⟩⟩⟩
def lw_privs : List (MethodName × Nat) := lw_privs_1 ++ (lw_privs_2 ++ (lw_privs_3 ++ (lw_privs_4)))
def lw_tbl : List Cond := k2_sels lw_privs ++ tables_1
theorem lw_privs_ok : ∀ q ∈ lw_privs, lw_okq q := by
  show ∀ q ∈ lw_privs_1 ++ (lw_privs_2 ++ (lw_privs_3 ++ (lw_privs_4))), lw_okq q
  exact List.forall_mem_append.mpr ⟨lw_r1, List.forall_mem_append.mpr ⟨lw_r2, List.forall_mem_append.mpr ⟨lw_r3, lw_r4⟩⟩⟩
/-- the streams that the claim lets the run draw from -/
abbrev lw_cs : List Choice := [Jvm.Choice.named "NaN.bits"]
theorem lw_bits : nanBits ∈ lw_cs := by first | decide | exact List.mem_cons_self | simp [lw_cs, nanBits]
-- ===== end of PART A; then your names; then what follows =====
def RX0 : String := "TwistedLight$Arrangement"
def TX0 : u_T := fun k => match k with
  | 0 => ("TwistedLight$Arrangement", "current", "[I", true)
  | 1 => ("TwistedLight$Arrangement", "best", "[I", true)
  | _ => ("TwistedLight$Arrangement", "size", "I", false)
def tyX0 : Nat → FieldType := fun k => match k with
  | 0 => .array .int
  | 1 => .array .int
  | _ => .int
abbrev wsX00 : List Cond := u_ws RX0 TX0 3
theorem nmX0 : ∀ a, a < 3 → ∀ b, b < 3 → a ≠ b → (TX0 a).2.1 ≠ (TX0 b).2.1 := by decide +kernel
theorem tyX0_ok : ∀ k, k < 3 → parseFieldDescriptor (TX0 k).2.2.1 = some (tyX0 k) := by decide +kernel
abbrev cX0_init : ByteArray := prog_2_method_1_code
def yX0_init : MethodName := ⟨RX0, "<init>", "()V"⟩
abbrev cX0_start : ByteArray := prog_2_method_2_code
def yX0_start : MethodName := ⟨RX0, "start", "(I)V"⟩
abbrev cX0_keepCurrent : ByteArray := prog_2_method_3_code
def yX0_keepCurrent : MethodName := ⟨RX0, "keepCurrent", "()V"⟩
abbrev cX0_bestIsPresent : ByteArray := prog_2_method_4_code
def yX0_bestIsPresent : MethodName := ⟨RX0, "bestIsPresent", "()Z"⟩
abbrev cX0_moveOn : ByteArray := prog_2_method_5_code
def yX0_moveOn : MethodName := ⟨RX0, "moveOn", "()Z"⟩
abbrev cX0_swap : ByteArray := prog_2_method_6_code
def yX0_swap : MethodName := ⟨RX0, "swap", "(II)V"⟩
def RX1 : String := "TwistedLight$Block"
def TX1 : u_T := fun k => match k with
  | 0 => ("TwistedLight$Block", "numbers", "[I", true)
  | 1 => ("TwistedLight$Block", "moved", "[I", true)
  | 2 => ("TwistedLight$Block", "tally", "[I", true)
  | _ => ("TwistedLight$Block", "matrix", "LTwistedLight$Matrix;", true)
def tyX1 : Nat → FieldType := fun k => match k with
  | 0 => .array .int
  | 1 => .array .int
  | 2 => .array .int
  | _ => .object "TwistedLight$Matrix"
abbrev wsX10 : List Cond := u_ws RX1 TX1 4
theorem nmX1 : ∀ a, a < 4 → ∀ b, b < 4 → a ≠ b → (TX1 a).2.1 ≠ (TX1 b).2.1 := by decide +kernel
theorem tyX1_ok : ∀ k, k < 4 → parseFieldDescriptor (TX1 k).2.2.1 = some (tyX1 k) := by decide +kernel
abbrev cX1_init : ByteArray := prog_3_method_1_code
def yX1_init : MethodName := ⟨RX1, "<init>", "()V"⟩
abbrev cX1_takeFrom : ByteArray := prog_3_method_2_code
def yX1_takeFrom : MethodName := ⟨RX1, "takeFrom", "(LTwistedLight$Block;)V"⟩
abbrev cX1_receive : ByteArray := prog_3_method_3_code
def yX1_receive : MethodName := ⟨RX1, "receive", "(LTwistedLight$State;I)V"⟩
abbrev cX1_shine : ByteArray := prog_3_method_4_code
def yX1_shine : MethodName := ⟨RX1, "shine", "(LTwistedLight$State;)V"⟩
abbrev cX1_passDeed : ByteArray := prog_3_method_5_code
def yX1_passDeed : MethodName := ⟨RX1, "passDeed", "(LTwistedLight$Steps;I)V"⟩
abbrev cX1_passStage : ByteArray := prog_3_method_6_code
def yX1_passStage : MethodName := ⟨RX1, "passStage", "(LTwistedLight$State;I)V"⟩
abbrev cX1_spread : ByteArray := prog_3_method_7_code
def yX1_spread : MethodName := ⟨RX1, "spread", "(I)V"⟩
abbrev cX1_unspread : ByteArray := prog_3_method_8_code
def yX1_unspread : MethodName := ⟨RX1, "unspread", "(I)V"⟩
abbrev cX1_twist : ByteArray := prog_3_method_9_code
def yX1_twist : MethodName := ⟨RX1, "twist", "()V"⟩
abbrev cX1_slip : ByteArray := prog_3_method_10_code
def yX1_slip : MethodName := ⟨RX1, "slip", "(II)V"⟩
abbrev cX1_turn : ByteArray := prog_3_method_11_code
def yX1_turn : MethodName := ⟨RX1, "turn", "(II)V"⟩
abbrev cX1_late : ByteArray := prog_3_method_12_code
def yX1_late : MethodName := ⟨RX1, "late", "(I)V"⟩
abbrev cX1_hit : ByteArray := prog_3_method_13_code
def yX1_hit : MethodName := ⟨RX1, "hit", "(II)V"⟩
abbrev cX1_multiply : ByteArray := prog_3_method_14_code
def yX1_multiply : MethodName := ⟨RX1, "multiply", "(I)V"⟩
abbrev cX1_brightestFactor : ByteArray := prog_3_method_15_code
def yX1_brightestFactor : MethodName := ⟨RX1, "brightestFactor", "()I"⟩
abbrev cX1_mend : ByteArray := prog_3_method_16_code
def yX1_mend : MethodName := ⟨RX1, "mend", "(LTwistedLight$State;)V"⟩
abbrev cX1_bestTurn : ByteArray := prog_3_method_17_code
def yX1_bestTurn : MethodName := ⟨RX1, "bestTurn", "(LTwistedLight$State;I)I"⟩
abbrev cX1_errors : ByteArray := prog_3_method_18_code
def yX1_errors : MethodName := ⟨RX1, "errors", "(LTwistedLight$State;)I"⟩
abbrev cX1_errorsAtMarks : ByteArray := prog_3_method_19_code
def yX1_errorsAtMarks : MethodName := ⟨RX1, "errorsAtMarks", "(LTwistedLight$State;)I"⟩
def RX2 : String := "TwistedLight$Field"
def TX2 : u_T := fun k => match k with
  | _ => ("", "", "", false)
def tyX2 : Nat → FieldType := fun k => match k with
  | _ => .int
abbrev wsX20 : List Cond := u_ws RX2 TX2 0
theorem nmX2 : ∀ a, a < 0 → ∀ b, b < 0 → a ≠ b → (TX2 a).2.1 ≠ (TX2 b).2.1 := by decide +kernel
theorem tyX2_ok : ∀ k, k < 0 → parseFieldDescriptor (TX2 k).2.2.1 = some (tyX2 k) := by decide +kernel
abbrev cX2_light : ByteArray := prog_4_method_2_code
def yX2_light : MethodName := ⟨RX2, "light", "(I)I"⟩
abbrev cX2_decided : ByteArray := prog_4_method_3_code
def yX2_decided : MethodName := ⟨RX2, "decided", "(I)I"⟩
abbrev cX2_turned : ByteArray := prog_4_method_4_code
def yX2_turned : MethodName := ⟨RX2, "turned", "(II)I"⟩
abbrev cX2_power : ByteArray := prog_4_method_5_code
def yX2_power : MethodName := ⟨RX2, "power", "(II)I"⟩
abbrev cX2_inverse : ByteArray := prog_4_method_6_code
def yX2_inverse : MethodName := ⟨RX2, "inverse", "(I)I"⟩
def RX3 : String := "TwistedLight$History"
def TX3 : u_T := fun k => match k with
  | 0 => ("TwistedLight$History", "past", "[LTwistedLight$State;", true)
  | 1 => ("TwistedLight$History", "next", "I", false)
  | _ => ("TwistedLight$History", "size", "I", false)
def tyX3 : Nat → FieldType := fun k => match k with
  | 0 => .array (.object "TwistedLight$State")
  | 1 => .int
  | _ => .int
abbrev wsX30 : List Cond := u_ws RX3 TX3 3
theorem nmX3 : ∀ a, a < 3 → ∀ b, b < 3 → a ≠ b → (TX3 a).2.1 ≠ (TX3 b).2.1 := by decide +kernel
theorem tyX3_ok : ∀ k, k < 3 → parseFieldDescriptor (TX3 k).2.2.1 = some (tyX3 k) := by decide +kernel
abbrev cX3_init : ByteArray := prog_5_method_1_code
def yX3_init : MethodName := ⟨RX3, "<init>", "()V"⟩
abbrev cX3_remember : ByteArray := prog_5_method_2_code
def yX3_remember : MethodName := ⟨RX3, "remember", "(LTwistedLight$State;)V"⟩
abbrev cX3_restore : ByteArray := prog_5_method_3_code
def yX3_restore : MethodName := ⟨RX3, "restore", "(LTwistedLight$State;)V"⟩
def RX4 : String := "TwistedLight$Matrix"
def TX4 : u_T := fun k => match k with
  | 0 => ("TwistedLight$Matrix", "a", "I", false)
  | 1 => ("TwistedLight$Matrix", "b", "I", false)
  | 2 => ("TwistedLight$Matrix", "c", "I", false)
  | _ => ("TwistedLight$Matrix", "d", "I", false)
def tyX4 : Nat → FieldType := fun k => match k with
  | 0 => .int
  | 1 => .int
  | 2 => .int
  | _ => .int
abbrev wsX40 : List Cond := u_ws RX4 TX4 4
theorem nmX4 : ∀ a, a < 4 → ∀ b, b < 4 → a ≠ b → (TX4 a).2.1 ≠ (TX4 b).2.1 := by decide +kernel
theorem tyX4_ok : ∀ k, k < 4 → parseFieldDescriptor (TX4 k).2.2.1 = some (tyX4 k) := by decide +kernel
abbrev cX4_init : ByteArray := prog_6_method_1_code
def yX4_init : MethodName := ⟨RX4, "<init>", "()V"⟩
abbrev cX4_put : ByteArray := prog_6_method_2_code
def yX4_put : MethodName := ⟨RX4, "put", "(IIII)V"⟩
abbrev cX4_entry : ByteArray := prog_6_method_3_code
def yX4_entry : MethodName := ⟨RX4, "entry", "(I)I"⟩
abbrev cX4_determinant : ByteArray := prog_6_method_4_code
def yX4_determinant : MethodName := ⟨RX4, "determinant", "()I"⟩
abbrev cX4_invert : ByteArray := prog_6_method_5_code
def yX4_invert : MethodName := ⟨RX4, "invert", "()V"⟩
abbrev cX4_multiplyFromLeft : ByteArray := prog_6_method_6_code
def yX4_multiplyFromLeft : MethodName := ⟨RX4, "multiplyFromLeft", "(LTwistedLight$Matrix;)V"⟩
def RX5 : String := "TwistedLight$Odds"
def TX5 : u_T := fun k => match k with
  | _ => ("", "", "", false)
def tyX5 : Nat → FieldType := fun k => match k with
  | _ => .int
abbrev wsX50 : List Cond := u_ws RX5 TX5 0
theorem nmX5 : ∀ a, a < 0 → ∀ b, b < 0 → a ≠ b → (TX5 a).2.1 ≠ (TX5 b).2.1 := by decide +kernel
theorem tyX5_ok : ∀ k, k < 0 → parseFieldDescriptor (TX5 k).2.2.1 = some (tyX5 k) := by decide +kernel
abbrev cX5_power : ByteArray := prog_7_method_2_code
def yX5_power : MethodName := ⟨RX5, "power", "(II)I"⟩
abbrev cX5_atMost : ByteArray := prog_7_method_3_code
def yX5_atMost : MethodName := ⟨RX5, "atMost", "(III)I"⟩
abbrev cX5_commonDivisor : ByteArray := prog_7_method_4_code
def yX5_commonDivisor : MethodName := ⟨RX5, "commonDivisor", "(II)I"⟩
abbrev cX5_sharedPower : ByteArray := prog_7_method_5_code
def yX5_sharedPower : MethodName := ⟨RX5, "sharedPower", "(III)I"⟩
def RX6 : String := "TwistedLight$Sightings"
def TX6 : u_T := fun k => match k with
  | 0 => ("TwistedLight$Sightings", "spots", "[I", true)
  | 1 => ("TwistedLight$Sightings", "symbols", "[I", true)
  | _ => ("TwistedLight$Sightings", "size", "I", false)
def tyX6 : Nat → FieldType := fun k => match k with
  | 0 => .array .int
  | 1 => .array .int
  | _ => .int
abbrev wsX60 : List Cond := u_ws RX6 TX6 3
theorem nmX6 : ∀ a, a < 3 → ∀ b, b < 3 → a ≠ b → (TX6 a).2.1 ≠ (TX6 b).2.1 := by decide +kernel
theorem tyX6_ok : ∀ k, k < 3 → parseFieldDescriptor (TX6 k).2.2.1 = some (tyX6 k) := by decide +kernel
abbrev cX6_init : ByteArray := prog_8_method_1_code
def yX6_init : MethodName := ⟨RX6, "<init>", "()V"⟩
abbrev cX6_append : ByteArray := prog_8_method_2_code
def yX6_append : MethodName := ⟨RX6, "append", "(II)Z"⟩
abbrev cX6_areTrueOf : ByteArray := prog_8_method_3_code
def yX6_areTrueOf : MethodName := ⟨RX6, "areTrueOf", "(LTwistedLight$Block;)Z"⟩
def RX7 : String := "TwistedLight$State"
def TX7 : u_T := fun k => match k with
  | 0 => ("TwistedLight$State", "sent", "[I", true)
  | 1 => ("TwistedLight$State", "marked", "I", false)
  | 2 => ("TwistedLight$State", "line", "LTwistedLight$Steps;", true)
  | 3 => ("TwistedLight$State", "chain", "LTwistedLight$Steps;", true)
  | 4 => ("TwistedLight$State", "loss", "F", false)
  | _ => ("TwistedLight$State", "heard", "I", false)
def tyX7 : Nat → FieldType := fun k => match k with
  | 0 => .array .int
  | 1 => .int
  | 2 => .object "TwistedLight$Steps"
  | 3 => .object "TwistedLight$Steps"
  | 4 => .float
  | _ => .int
abbrev wsX70 : List Cond := u_ws RX7 TX7 6
theorem nmX7 : ∀ a, a < 6 → ∀ b, b < 6 → a ≠ b → (TX7 a).2.1 ≠ (TX7 b).2.1 := by decide +kernel
theorem tyX7_ok : ∀ k, k < 6 → parseFieldDescriptor (TX7 k).2.2.1 = some (tyX7 k) := by decide +kernel
abbrev cX7_init : ByteArray := prog_9_method_1_code
def yX7_init : MethodName := ⟨RX7, "<init>", "()V"⟩
abbrev cX7_tellNothing : ByteArray := prog_9_method_2_code
def yX7_tellNothing : MethodName := ⟨RX7, "tellNothing", "()V"⟩
abbrev cX7_emptyRow : ByteArray := prog_9_method_3_code
def yX7_emptyRow : MethodName := ⟨RX7, "emptyRow", "(I)V"⟩
abbrev cX7_isMarked : ByteArray := prog_9_method_4_code
def yX7_isMarked : MethodName := ⟨RX7, "isMarked", "(I)Z"⟩
abbrev cX7_mark : ByteArray := prog_9_method_5_code
def yX7_mark : MethodName := ⟨RX7, "mark", "(IZ)V"⟩
abbrev cX7_firstMarked : ByteArray := prog_9_method_6_code
def yX7_firstMarked : MethodName := ⟨RX7, "firstMarked", "()I"⟩
abbrev cX7_takeFrom : ByteArray := prog_9_method_7_code
def yX7_takeFrom : MethodName := ⟨RX7, "takeFrom", "(LTwistedLight$State;)V"⟩
def RX8 : String := "TwistedLight$Steps"
def TX8 : u_T := fun k => match k with
  | 0 => ("TwistedLight$Steps", "numbers", "[I", true)
  | 1 => ("TwistedLight$Steps", "room", "I", true)
  | _ => ("TwistedLight$Steps", "size", "I", false)
def tyX8 : Nat → FieldType := fun k => match k with
  | 0 => .array .int
  | 1 => .int
  | _ => .int
abbrev wsX80 : List Cond := u_ws RX8 TX8 3
theorem nmX8 : ∀ a, a < 3 → ∀ b, b < 3 → a ≠ b → (TX8 a).2.1 ≠ (TX8 b).2.1 := by decide +kernel
theorem tyX8_ok : ∀ k, k < 3 → parseFieldDescriptor (TX8 k).2.2.1 = some (tyX8 k) := by decide +kernel
abbrev cX8_init : ByteArray := prog_10_method_1_code
def yX8_init : MethodName := ⟨RX8, "<init>", "(I)V"⟩
abbrev cX8_isPossible : ByteArray := prog_10_method_2_code
def yX8_isPossible : MethodName := ⟨RX8, "isPossible", "([I[I)Z"⟩
abbrev cX8_allows : ByteArray := prog_10_method_3_code
def yX8_allows : MethodName := ⟨RX8, "allows", "([I[III)Z"⟩
abbrev cX8_isFull : ByteArray := prog_10_method_4_code
def yX8_isFull : MethodName := ⟨RX8, "isFull", "()Z"⟩
abbrev cX8_append : ByteArray := prog_10_method_5_code
def yX8_append : MethodName := ⟨RX8, "append", "([I)V"⟩
abbrev cX8_remove : ByteArray := prog_10_method_6_code
def yX8_remove : MethodName := ⟨RX8, "remove", "(I)V"⟩
abbrev cX8_arrange : ByteArray := prog_10_method_7_code
def yX8_arrange : MethodName := ⟨RX8, "arrange", "(LTwistedLight$Steps;[I)V"⟩
abbrev cX8_numberOf : ByteArray := prog_10_method_8_code
def yX8_numberOf : MethodName := ⟨RX8, "numberOf", "(II)I"⟩
abbrev cX8_takeFrom : ByteArray := prog_10_method_9_code
def yX8_takeFrom : MethodName := ⟨RX8, "takeFrom", "(LTwistedLight$Steps;)V"⟩
def RX9 : String := "TwistedLight$Text"
def TX9 : u_T := fun k => match k with
  | 0 => ("TwistedLight$Text", "letters", "[I", true)
  | 1 => ("TwistedLight$Text", "step", "[I", true)
  | 2 => ("TwistedLight$Text", "length", "I", false)
  | 3 => ("TwistedLight$Text", "item", "I", false)
  | 4 => ("TwistedLight$Text", "told", "I", false)
  | 5 => ("TwistedLight$Text", "items", "I", false)
  | _ => ("TwistedLight$Text", "marksTold", "Z", false)
def tyX9 : Nat → FieldType := fun k => match k with
  | 0 => .array .int
  | 1 => .array .int
  | 2 => .int
  | 3 => .int
  | 4 => .int
  | 5 => .int
  | _ => .boolean
abbrev wsX90 : List Cond := u_ws RX9 TX9 7
theorem nmX9 : ∀ a, a < 7 → ∀ b, b < 7 → a ≠ b → (TX9 a).2.1 ≠ (TX9 b).2.1 := by decide +kernel
theorem tyX9_ok : ∀ k, k < 7 → parseFieldDescriptor (TX9 k).2.2.1 = some (tyX9 k) := by decide +kernel
abbrev cX9_init : ByteArray := prog_11_method_1_code
def yX9_init : MethodName := ⟨RX9, "<init>", "()V"⟩
abbrev cX9_append : ByteArray := prog_11_method_2_code
def yX9_append : MethodName := ⟨RX9, "append", "(I)Z"⟩
abbrev cX9_readInto : ByteArray := prog_11_method_3_code
def yX9_readInto : MethodName := ⟨RX9, "readInto", "(LTwistedLight$State;)I"⟩
abbrev cX9_endOfToken : ByteArray := prog_11_method_4_code
def yX9_endOfToken : MethodName := ⟨RX9, "endOfToken", "(I)I"⟩
abbrev cX9_isDigit : ByteArray := prog_11_method_5_code
def yX9_isDigit : MethodName := ⟨RX9, "isDigit", "(I)Z"⟩
abbrev cX9_takesToken : ByteArray := prog_11_method_6_code
def yX9_takesToken : MethodName := ⟨RX9, "takesToken", "(LTwistedLight$State;II)Z"⟩
abbrev cX9_valueOf : ByteArray := prog_11_method_7_code
def yX9_valueOf : MethodName := ⟨RX9, "valueOf", "(II)I"⟩
abbrev cX9_beginsItem : ByteArray := prog_11_method_8_code
def yX9_beginsItem : MethodName := ⟨RX9, "beginsItem", "(LTwistedLight$State;I)Z"⟩
abbrev cX9_takesNumber : ByteArray := prog_11_method_9_code
def yX9_takesNumber : MethodName := ⟨RX9, "takesNumber", "(LTwistedLight$State;I)Z"⟩
abbrev cX9_takesSymbol : ByteArray := prog_11_method_10_code
def yX9_takesSymbol : MethodName := ⟨RX9, "takesSymbol", "(LTwistedLight$State;II)Z"⟩
abbrev cX9_takesMark : ByteArray := prog_11_method_11_code
def yX9_takesMark : MethodName := ⟨RX9, "takesMark", "(LTwistedLight$State;I)Z"⟩
abbrev cX9_takesPart : ByteArray := prog_11_method_12_code
def yX9_takesPart : MethodName := ⟨RX9, "takesPart", "(I)Z"⟩
abbrev cX9_endsItem : ByteArray := prog_11_method_13_code
def yX9_endsItem : MethodName := ⟨RX9, "endsItem", "(LTwistedLight$State;)Z"⟩
abbrev cX9_isWhole : ByteArray := prog_11_method_14_code
def yX9_isWhole : MethodName := ⟨RX9, "isWhole", "()Z"⟩
def RX10 : String := "TwistedLight"
def TX10 : u_T := fun k => match k with
  | 0 => ("TwistedLight", "present", "LTwistedLight$State;", true)
  | 1 => ("TwistedLight", "draft", "LTwistedLight$State;", true)
  | 2 => ("TwistedLight", "images", "[LTwistedLight$State;", true)
  | 3 => ("TwistedLight", "saved", "[Z", true)
  | 4 => ("TwistedLight", "history", "LTwistedLight$History;", true)
  | 5 => ("TwistedLight", "text", "LTwistedLight$Text;", true)
  | 6 => ("TwistedLight", "sightings", "LTwistedLight$Sightings;", true)
  | 7 => ("TwistedLight", "received", "LTwistedLight$Block;", true)
  | 8 => ("TwistedLight", "trial", "LTwistedLight$Block;", true)
  | 9 => ("TwistedLight", "arrangement", "LTwistedLight$Arrangement;", true)
  | 10 => ("TwistedLight", "step", "[I", true)
  | 11 => ("TwistedLight", "learnt", "LTwistedLight$Matrix;", true)
  | _ => ("TwistedLight", "lights", "LTwistedLight$Matrix;", true)
def tyX10 : Nat → FieldType := fun k => match k with
  | 0 => .object "TwistedLight$State"
  | 1 => .object "TwistedLight$State"
  | 2 => .array (.object "TwistedLight$State")
  | 3 => .array .boolean
  | 4 => .object "TwistedLight$History"
  | 5 => .object "TwistedLight$Text"
  | 6 => .object "TwistedLight$Sightings"
  | 7 => .object "TwistedLight$Block"
  | 8 => .object "TwistedLight$Block"
  | 9 => .object "TwistedLight$Arrangement"
  | 10 => .array .int
  | 11 => .object "TwistedLight$Matrix"
  | _ => .object "TwistedLight$Matrix"
abbrev wsX100 : List Cond := u_ws RX10 TX10 13
theorem nmX10 : ∀ a, a < 13 → ∀ b, b < 13 → a ≠ b → (TX10 a).2.1 ≠ (TX10 b).2.1 := by decide +kernel
theorem tyX10_ok : ∀ k, k < 13 → parseFieldDescriptor (TX10 k).2.2.1 = some (tyX10 k) := by decide +kernel
abbrev cX10_init : ByteArray := prog_1_method_1_code
def yX10_init : MethodName := ⟨RX10, "<init>", "()V"⟩
abbrev cX10_type : ByteArray := prog_1_method_2_code
def yX10_type : MethodName := ⟨RX10, "type", "(I)I"⟩
abbrev cX10_clear : ByteArray := prog_1_method_3_code
def yX10_clear : MethodName := ⟨RX10, "clear", "()I"⟩
abbrev cX10_block : ByteArray := prog_1_method_4_code
def yX10_block : MethodName := ⟨RX10, "block", "()I"⟩
abbrev cX10_sends : ByteArray := prog_1_method_5_code
def yX10_sends : MethodName := ⟨RX10, "sends", "(III)I"⟩
abbrev cX10_marks : ByteArray := prog_1_method_6_code
def yX10_marks : MethodName := ⟨RX10, "marks", "(II)I"⟩
abbrev cX10_adds : ByteArray := prog_1_method_7_code
def yX10_adds : MethodName := ⟨RX10, "adds", "(IIIII)I"⟩
abbrev cX10_cuts : ByteArray := prog_1_method_8_code
def yX10_cuts : MethodName := ⟨RX10, "cuts", "()I"⟩
abbrev cX10_stages : ByteArray := prog_1_method_9_code
def yX10_stages : MethodName := ⟨RX10, "stages", "(IIIII)I"⟩
abbrev cX10_drops : ByteArray := prog_1_method_10_code
def yX10_drops : MethodName := ⟨RX10, "drops", "(I)I"⟩
abbrev cX10_learns : ByteArray := prog_1_method_11_code
def yX10_learns : MethodName := ⟨RX10, "learns", "(II)I"⟩
abbrev cX10_orders : ByteArray := prog_1_method_12_code
def yX10_orders : MethodName := ⟨RX10, "orders", "()I"⟩
abbrev cX10_hears : ByteArray := prog_1_method_13_code
def yX10_hears : MethodName := ⟨RX10, "hears", "()I"⟩
abbrev cX10_undo : ByteArray := prog_1_method_14_code
def yX10_undo : MethodName := ⟨RX10, "undo", "()I"⟩
abbrev cX10_at : ByteArray := prog_1_method_15_code
def yX10_at : MethodName := ⟨RX10, "at", "(III)I"⟩
abbrev cX10_deed : ByteArray := prog_1_method_16_code
def yX10_deed : MethodName := ⟨RX10, "deed", "(II)I"⟩
abbrev cX10_stage : ByteArray := prog_1_method_17_code
def yX10_stage : MethodName := ⟨RX10, "stage", "(II)I"⟩
abbrev cX10_wrong : ByteArray := prog_1_method_18_code
def yX10_wrong : MethodName := ⟨RX10, "wrong", "(I)I"⟩
abbrev cX10_loss : ByteArray := prog_1_method_19_code
def yX10_loss : MethodName := ⟨RX10, "loss", "()I"⟩
abbrev cX10_taps : ByteArray := prog_1_method_20_code
def yX10_taps : MethodName := ⟨RX10, "taps", "(III)I"⟩
abbrev cX10_skew : ByteArray := prog_1_method_21_code
def yX10_skew : MethodName := ⟨RX10, "skew", "()I"⟩
abbrev cX10_spreads : ByteArray := prog_1_method_22_code
def yX10_spreads : MethodName := ⟨RX10, "spreads", "(I)I"⟩
abbrev cX10_order : ByteArray := prog_1_method_23_code
def yX10_order : MethodName := ⟨RX10, "order", "(I)I"⟩
abbrev cX10_lag : ByteArray := prog_1_method_24_code
def yX10_lag : MethodName := ⟨RX10, "lag", "(I)I"⟩
abbrev cX10_sees : ByteArray := prog_1_method_25_code
def yX10_sees : MethodName := ⟨RX10, "sees", "(III)I"⟩
abbrev cX10_forget : ByteArray := prog_1_method_26_code
def yX10_forget : MethodName := ⟨RX10, "forget", "()I"⟩
abbrev cX10_fits : ByteArray := prog_1_method_27_code
def yX10_fits : MethodName := ⟨RX10, "fits", "(I)I"⟩
abbrev cX10_odds : ByteArray := prog_1_method_28_code
def yX10_odds : MethodName := ⟨RX10, "odds", "(IIII)I"⟩
abbrev cX10_keep : ByteArray := prog_1_method_29_code
def yX10_keep : MethodName := ⟨RX10, "keep", "(I)I"⟩
abbrev cX10_back : ByteArray := prog_1_method_30_code
def yX10_back : MethodName := ⟨RX10, "back", "(I)I"⟩
abbrev cX10_count : ByteArray := prog_1_method_31_code
def yX10_count : MethodName := ⟨RX10, "count", "(I)I"⟩
abbrev cX10_isPlace : ByteArray := prog_1_method_32_code
def yX10_isPlace : MethodName := ⟨RX10, "isPlace", "(I)Z"⟩
abbrev cX10_isSpot : ByteArray := prog_1_method_33_code
def yX10_isSpot : MethodName := ⟨RX10, "isSpot", "(II)Z"⟩
abbrev cX10_isSymbol : ByteArray := prog_1_method_34_code
def yX10_isSymbol : MethodName := ⟨RX10, "isSymbol", "(I)Z"⟩
abbrev cX10_isPair : ByteArray := prog_1_method_35_code
def yX10_isPair : MethodName := ⟨RX10, "isPair", "(II)Z"⟩
abbrev cX10_putStep : ByteArray := prog_1_method_36_code
def yX10_putStep : MethodName := ⟨RX10, "putStep", "(IIIII)V"⟩
abbrev cX10_appendStep : ByteArray := prog_1_method_37_code
def yX10_appendStep : MethodName := ⟨RX10, "appendStep", "(LTwistedLight$Steps;)I"⟩
abbrev cX10_errorsAfter : ByteArray := prog_1_method_38_code
def yX10_errorsAfter : MethodName := ⟨RX10, "errorsAfter", "(I)I"⟩
abbrev cX10_unspreadFits : ByteArray := prog_1_method_39_code
def yX10_unspreadFits : MethodName := ⟨RX10, "unspreadFits", "(I)Z"⟩
abbrev cX10_slipFits : ByteArray := prog_1_method_40_code
def yX10_slipFits : MethodName := ⟨RX10, "slipFits", "(II)Z"⟩
abbrev cX10_findTaps : ByteArray := prog_1_method_41_code
def yX10_findTaps : MethodName := ⟨RX10, "findTaps", "(II)Z"⟩
abbrev cX10_findBestOrder : ByteArray := prog_1_method_42_code
def yX10_findBestOrder : MethodName := ⟨RX10, "findBestOrder", "()I"⟩
abbrev cX10_errorsInOrder : ByteArray := prog_1_method_43_code
def yX10_errorsInOrder : MethodName := ⟨RX10, "errorsInOrder", "([I)I"⟩
def RX11 : String := "TwistedLightModel"
def TX11 : u_T := fun k => match k with
  | 0 => ("TwistedLightModel", "now", "[I", true)
  | 1 => ("TwistedLightModel", "lost", "F", false)
  | 2 => ("TwistedLightModel", "past", "[I", true)
  | 3 => ("TwistedLightModel", "pastLost", "[F", true)
  | 4 => ("TwistedLightModel", "pasts", "I", false)
  | 5 => ("TwistedLightModel", "images", "[I", true)
  | 6 => ("TwistedLightModel", "imageLost", "[F", true)
  | 7 => ("TwistedLightModel", "isKept", "[Z", true)
  | 8 => ("TwistedLightModel", "text", "[I", true)
  | 9 => ("TwistedLightModel", "typed", "I", false)
  | 10 => ("TwistedLightModel", "draft", "[I", true)
  | 11 => ("TwistedLightModel", "at", "I", false)
  | 12 => ("TwistedLightModel", "tokenAt", "I", false)
  | 13 => ("TwistedLightModel", "token", "I", false)
  | 14 => ("TwistedLightModel", "value", "I", false)
  | 15 => ("TwistedLightModel", "fault", "I", false)
  | 16 => ("TwistedLightModel", "isMarkTold", "Z", false)
  | 17 => ("TwistedLightModel", "way", "[I", true)
  | 18 => ("TwistedLightModel", "made", "[I", true)
  | 19 => ("TwistedLightModel", "tapU", "I", false)
  | 20 => ("TwistedLightModel", "tapV", "I", false)
  | 21 => ("TwistedLightModel", "four", "[I", true)
  | 22 => ("TwistedLightModel", "tried", "[I", true)
  | 23 => ("TwistedLightModel", "best", "[I", true)
  | 24 => ("TwistedLightModel", "bestWrong", "I", false)
  | 25 => ("TwistedLightModel", "chain", "[I", true)
  | 26 => ("TwistedLightModel", "received", "[I", true)
  | 27 => ("TwistedLightModel", "seen", "I", false)
  | 28 => ("TwistedLightModel", "seenAt", "[I", true)
  | _ => ("TwistedLightModel", "seenAs", "[I", true)
def tyX11 : Nat → FieldType := fun k => match k with
  | 0 => .array .int
  | 1 => .float
  | 2 => .array .int
  | 3 => .array .float
  | 4 => .int
  | 5 => .array .int
  | 6 => .array .float
  | 7 => .array .boolean
  | 8 => .array .int
  | 9 => .int
  | 10 => .array .int
  | 11 => .int
  | 12 => .int
  | 13 => .int
  | 14 => .int
  | 15 => .int
  | 16 => .boolean
  | 17 => .array .int
  | 18 => .array .int
  | 19 => .int
  | 20 => .int
  | 21 => .array .int
  | 22 => .array .int
  | 23 => .array .int
  | 24 => .int
  | 25 => .array .int
  | 26 => .array .int
  | 27 => .int
  | 28 => .array .int
  | _ => .array .int
abbrev wsX110 : List Cond := u_ws RX11 TX11 30
theorem nmX11 : ∀ a, a < 30 → ∀ b, b < 30 → a ≠ b → (TX11 a).2.1 ≠ (TX11 b).2.1 := by decide +kernel
theorem tyX11_ok : ∀ k, k < 30 → parseFieldDescriptor (TX11 k).2.2.1 = some (tyX11 k) := by decide +kernel
abbrev cX11_init : ByteArray := prog_13_method_1_code
def yX11_init : MethodName := ⟨RX11, "<init>", "()V"⟩
abbrev cX11_in : ByteArray := prog_13_method_2_code
def yX11_in : MethodName := ⟨RX11, "in", "(III)Z"⟩
abbrev cX11_has : ByteArray := prog_13_method_3_code
def yX11_has : MethodName := ⟨RX11, "has", "(II)Z"⟩
abbrev cX11_left : ByteArray := prog_13_method_4_code
def yX11_left : MethodName := ⟨RX11, "left", "(I)I"⟩
abbrev cX11_power : ByteArray := prog_13_method_5_code
def yX11_power : MethodName := ⟨RX11, "power", "(II)I"⟩
abbrev cX11_inverse : ByteArray := prog_13_method_6_code
def yX11_inverse : MethodName := ⟨RX11, "inverse", "(I)I"⟩
abbrev cX11_light : ByteArray := prog_13_method_7_code
def yX11_light : MethodName := ⟨RX11, "light", "(I)I"⟩
abbrev cX11_decided : ByteArray := prog_13_method_8_code
def yX11_decided : MethodName := ⟨RX11, "decided", "(I)I"⟩
abbrev cX11_note : ByteArray := prog_13_method_9_code
def yX11_note : MethodName := ⟨RX11, "note", "()V"⟩
abbrev cX11_undo : ByteArray := prog_13_method_10_code
def yX11_undo : MethodName := ⟨RX11, "undo", "()I"⟩
abbrev cX11_mayBe : ByteArray := prog_13_method_11_code
def yX11_mayBe : MethodName := ⟨RX11, "mayBe", "(IIIIII)Z"⟩
abbrev cX11_isDeed : ByteArray := prog_13_method_12_code
def yX11_isDeed : MethodName := ⟨RX11, "isDeed", "(IIIII)Z"⟩
abbrev cX11_isStage : ByteArray := prog_13_method_13_code
def yX11_isStage : MethodName := ⟨RX11, "isStage", "(IIIII)Z"⟩
abbrev cX11_type : ByteArray := prog_13_method_14_code
def yX11_type : MethodName := ⟨RX11, "type", "(I)I"⟩
abbrev cX11_clear : ByteArray := prog_13_method_15_code
def yX11_clear : MethodName := ⟨RX11, "clear", "()I"⟩
abbrev cX11_next : ByteArray := prog_13_method_16_code
def yX11_next : MethodName := ⟨RX11, "next", "()V"⟩
abbrev cX11_must : ByteArray := prog_13_method_17_code
def yX11_must : MethodName := ⟨RX11, "must", "(Z)V"⟩
abbrev cX11_readRow : ByteArray := prog_13_method_18_code
def yX11_readRow : MethodName := ⟨RX11, "readRow", "(I)V"⟩
abbrev cX11_readMarks : ByteArray := prog_13_method_19_code
def yX11_readMarks : MethodName := ⟨RX11, "readMarks", "()V"⟩
abbrev cX11_readDeed : ByteArray := prog_13_method_20_code
def yX11_readDeed : MethodName := ⟨RX11, "readDeed", "()V"⟩
abbrev cX11_readItem : ByteArray := prog_13_method_21_code
def yX11_readItem : MethodName := ⟨RX11, "readItem", "()V"⟩
abbrev cX11_block : ByteArray := prog_13_method_22_code
def yX11_block : MethodName := ⟨RX11, "block", "()I"⟩
abbrev cX11_sends : ByteArray := prog_13_method_23_code
def yX11_sends : MethodName := ⟨RX11, "sends", "(III)I"⟩
abbrev cX11_marksMany : ByteArray := prog_13_method_24_code
def yX11_marksMany : MethodName := ⟨RX11, "marksMany", "()I"⟩
abbrev cX11_marks : ByteArray := prog_13_method_25_code
def yX11_marks : MethodName := ⟨RX11, "marks", "(II)I"⟩
abbrev cX11_lay : ByteArray := prog_13_method_26_code
def yX11_lay : MethodName := ⟨RX11, "lay", "(IIIIII)V"⟩
abbrev cX11_adds : ByteArray := prog_13_method_27_code
def yX11_adds : MethodName := ⟨RX11, "adds", "(IIIII)I"⟩
abbrev cX11_cuts : ByteArray := prog_13_method_28_code
def yX11_cuts : MethodName := ⟨RX11, "cuts", "()I"⟩
abbrev cX11_takeMade : ByteArray := prog_13_method_29_code
def yX11_takeMade : MethodName := ⟨RX11, "takeMade", "()V"⟩
abbrev cX11_spread : ByteArray := prog_13_method_30_code
def yX11_spread : MethodName := ⟨RX11, "spread", "(I)V"⟩
abbrev cX11_unspread : ByteArray := prog_13_method_31_code
def yX11_unspread : MethodName := ⟨RX11, "unspread", "(I)V"⟩
abbrev cX11_twist : ByteArray := prog_13_method_32_code
def yX11_twist : MethodName := ⟨RX11, "twist", "(IIII)V"⟩
abbrev cX11_untwist : ByteArray := prog_13_method_33_code
def yX11_untwist : MethodName := ⟨RX11, "untwist", "(IIII)V"⟩
abbrev cX11_slip : ByteArray := prog_13_method_34_code
def yX11_slip : MethodName := ⟨RX11, "slip", "(II)V"⟩
abbrev cX11_late : ByteArray := prog_13_method_35_code
def yX11_late : MethodName := ⟨RX11, "late", "(I)V"⟩
abbrev cX11_isLight : ByteArray := prog_13_method_36_code
def yX11_isLight : MethodName := ⟨RX11, "isLight", "(I)Z"⟩
abbrev cX11_blind : ByteArray := prog_13_method_37_code
def yX11_blind : MethodName := ⟨RX11, "blind", "()V"⟩
abbrev cX11_mend : ByteArray := prog_13_method_38_code
def yX11_mend : MethodName := ⟨RX11, "mend", "()V"⟩
abbrev cX11_mendFrom : ByteArray := prog_13_method_39_code
def yX11_mendFrom : MethodName := ⟨RX11, "mendFrom", "(II)V"⟩
abbrev cX11_doDeed : ByteArray := prog_13_method_40_code
def yX11_doDeed : MethodName := ⟨RX11, "doDeed", "(I)V"⟩
abbrev cX11_doStage : ByteArray := prog_13_method_41_code
def yX11_doStage : MethodName := ⟨RX11, "doStage", "(I)V"⟩
abbrev cX11_layAir : ByteArray := prog_13_method_42_code
def yX11_layAir : MethodName := ⟨RX11, "layAir", "()V"⟩
abbrev cX11_goThrough : ByteArray := prog_13_method_43_code
def yX11_goThrough : MethodName := ⟨RX11, "goThrough", "(I)V"⟩
abbrev cX11_layReceived : ByteArray := prog_13_method_44_code
def yX11_layReceived : MethodName := ⟨RX11, "layReceived", "()V"⟩
abbrev cX11_wrongNow : ByteArray := prog_13_method_45_code
def yX11_wrongNow : MethodName := ⟨RX11, "wrongNow", "()I"⟩
abbrev cX11_wrongAtMarks : ByteArray := prog_13_method_46_code
def yX11_wrongAtMarks : MethodName := ⟨RX11, "wrongAtMarks", "()I"⟩
abbrev cX11_wrongReceived : ByteArray := prog_13_method_47_code
def yX11_wrongReceived : MethodName := ⟨RX11, "wrongReceived", "()I"⟩
abbrev cX11_stages : ByteArray := prog_13_method_48_code
def yX11_stages : MethodName := ⟨RX11, "stages", "(IIIII)I"⟩
abbrev cX11_drops : ByteArray := prog_13_method_49_code
def yX11_drops : MethodName := ⟨RX11, "drops", "(I)I"⟩
abbrev cX11_findTaps : ByteArray := prog_13_method_50_code
def yX11_findTaps : MethodName := ⟨RX11, "findTaps", "(III)Z"⟩
abbrev cX11_areTaps : ByteArray := prog_13_method_51_code
def yX11_areTaps : MethodName := ⟨RX11, "areTaps", "(II)Z"⟩
abbrev cX11_arePlaces : ByteArray := prog_13_method_52_code
def yX11_arePlaces : MethodName := ⟨RX11, "arePlaces", "(II)Z"⟩
abbrev cX11_learns : ByteArray := prog_13_method_53_code
def yX11_learns : MethodName := ⟨RX11, "learns", "(II)I"⟩
abbrev cX11_taps : ByteArray := prog_13_method_54_code
def yX11_taps : MethodName := ⟨RX11, "taps", "(III)I"⟩
abbrev cX11_turnsOn : ByteArray := prog_13_method_55_code
def yX11_turnsOn : MethodName := ⟨RX11, "turnsOn", "(I)Z"⟩
abbrev cX11_swap : ByteArray := prog_13_method_56_code
def yX11_swap : MethodName := ⟨RX11, "swap", "(II)V"⟩
abbrev cX11_findOrder : ByteArray := prog_13_method_57_code
def yX11_findOrder : MethodName := ⟨RX11, "findOrder", "()V"⟩
abbrev cX11_order : ByteArray := prog_13_method_58_code
def yX11_order : MethodName := ⟨RX11, "order", "(I)I"⟩
abbrev cX11_orders : ByteArray := prog_13_method_59_code
def yX11_orders : MethodName := ⟨RX11, "orders", "()I"⟩
abbrev cX11_hears : ByteArray := prog_13_method_60_code
def yX11_hears : MethodName := ⟨RX11, "hears", "()I"⟩
abbrev cX11_at : ByteArray := prog_13_method_61_code
def yX11_at : MethodName := ⟨RX11, "at", "(III)I"⟩
abbrev cX11_deed : ByteArray := prog_13_method_62_code
def yX11_deed : MethodName := ⟨RX11, "deed", "(II)I"⟩
abbrev cX11_stage : ByteArray := prog_13_method_63_code
def yX11_stage : MethodName := ⟨RX11, "stage", "(II)I"⟩
abbrev cX11_wrong : ByteArray := prog_13_method_64_code
def yX11_wrong : MethodName := ⟨RX11, "wrong", "(I)I"⟩
abbrev cX11_loss : ByteArray := prog_13_method_65_code
def yX11_loss : MethodName := ⟨RX11, "loss", "()I"⟩
abbrev cX11_keepReceived : ByteArray := prog_13_method_66_code
def yX11_keepReceived : MethodName := ⟨RX11, "keepReceived", "()V"⟩
abbrev cX11_layKept : ByteArray := prog_13_method_67_code
def yX11_layKept : MethodName := ⟨RX11, "layKept", "()V"⟩
abbrev cX11_skew : ByteArray := prog_13_method_68_code
def yX11_skew : MethodName := ⟨RX11, "skew", "()I"⟩
abbrev cX11_spreads : ByteArray := prog_13_method_69_code
def yX11_spreads : MethodName := ⟨RX11, "spreads", "(I)I"⟩
abbrev cX11_lag : ByteArray := prog_13_method_70_code
def yX11_lag : MethodName := ⟨RX11, "lag", "(I)I"⟩
abbrev cX11_sees : ByteArray := prog_13_method_71_code
def yX11_sees : MethodName := ⟨RX11, "sees", "(III)I"⟩
abbrev cX11_forget : ByteArray := prog_13_method_72_code
def yX11_forget : MethodName := ⟨RX11, "forget", "()I"⟩
abbrev cX11_isSeenBy : ByteArray := prog_13_method_73_code
def yX11_isSeenBy : MethodName := ⟨RX11, "isSeenBy", "(II)Z"⟩
abbrev cX11_fits : ByteArray := prog_13_method_74_code
def yX11_fits : MethodName := ⟨RX11, "fits", "(I)I"⟩
abbrev cX11_odds : ByteArray := prog_13_method_75_code
def yX11_odds : MethodName := ⟨RX11, "odds", "(IIII)I"⟩
abbrev cX11_keep : ByteArray := prog_13_method_76_code
def yX11_keep : MethodName := ⟨RX11, "keep", "(I)I"⟩
abbrev cX11_back : ByteArray := prog_13_method_77_code
def yX11_back : MethodName := ⟨RX11, "back", "(I)I"⟩
abbrev cX11_count : ByteArray := prog_13_method_78_code
def yX11_count : MethodName := ⟨RX11, "count", "(I)I"⟩
def RJ6 : String := "java/lang/Integer"
abbrev cJ6_bitCount_0f7a4 : ByteArray := prog_14_method_49_code
def yJ6_bitCount_0f7a4 : MethodName := ⟨RJ6, "bitCount", "(I)I"⟩
def RJ9 : String := "java/lang/Math"
abbrev cJ9_floorMod_7cf53 : ByteArray := prog_15_method_50_code
def yJ9_floorMod_7cf53 : MethodName := ⟨RJ9, "floorMod", "(II)I"⟩
abbrev cJ9_max_7cf53 : ByteArray := prog_15_method_65_code
def yJ9_max_7cf53 : MethodName := ⟨RJ9, "max", "(II)I"⟩
abbrev cJ9_min_7cf53 : ByteArray := prog_15_method_69_code
def yJ9_min_7cf53 : MethodName := ⟨RJ9, "min", "(II)I"⟩
def RJ10 : String := "java/lang/System"
def RJ7 : String := "java/util/Arrays"
abbrev cJ7_fill_53178 : ByteArray := prog_17_method_103_code
def yJ7_fill_53178 : MethodName := ⟨RJ7, "fill", "([II)V"⟩
def RL : String := "TwistedLightLaw"
abbrev cL_law : ByteArray := code
def yL_law : MethodName := ⟨RL, "law", "([I)Z"⟩
abbrev vwCl : List vw_C := [(RX0, TX0, 3), (RX1, TX1, 4), (RX3, TX3, 3), (RX4, TX4, 4), (RX6, TX6, 3), (RX7, TX7, 6), (RX8, TX8, 3), (RX9, TX9, 7), (RX10, TX10, 13), (RX11, TX11, 30)]
end
section
/-! THE FRAME: the whole store as one function (object id, slot) -> Int; a judgement G over it; a rule an instruction -/
theorem inX0 : ∀ w ∈ wsX00, w ∈ lw_tbl := by decide +kernel
theorem inX1 : ∀ w ∈ wsX10, w ∈ lw_tbl := by decide +kernel
theorem inX3 : ∀ w ∈ wsX30, w ∈ lw_tbl := by decide +kernel
theorem inX4 : ∀ w ∈ wsX40, w ∈ lw_tbl := by decide +kernel
theorem inX6 : ∀ w ∈ wsX60, w ∈ lw_tbl := by decide +kernel
theorem inX7 : ∀ w ∈ wsX70, w ∈ lw_tbl := by decide +kernel
theorem inX8 : ∀ w ∈ wsX80, w ∈ lw_tbl := by decide +kernel
theorem inX9 : ∀ w ∈ wsX90, w ∈ lw_tbl := by decide +kernel
theorem inX10 : ∀ w ∈ wsX100, w ∈ lw_tbl := by decide +kernel
theorem inX11 : ∀ w ∈ wsX110, w ∈ lw_tbl := by decide +kernel
def GW : List Cond := lw_tbl.filter goodWord
theorem gw_mem {w : Cond} (h : w ∈ lw_tbl) (g : goodWord w = true) : w ∈ GW := List.mem_filter.mpr ⟨h, g⟩
theorem gw_at {w : Cond} {i : Nat} (h : lw_tbl[i]? = some w) (g : goodWord w = true) : w ∈ GW := gw_mem (List.mem_of_getElem? h) g
theorem gw_good {w : Cond} (h : w ∈ GW) : goodWord w = true := (List.mem_filter.mp h).2
/-- the words of a class's fields are good -/
theorem u_ws_good {C : String} {T : u_T} {N : Nat} : ∀ w ∈ u_ws C T N, w ∈ lw_tbl → w ∈ GW := by
  intro w hw hm
  refine gw_mem hm ?_
  obtain ⟨k, -, rfl⟩ := List.mem_map.mp hw
  unfold u_lay
  split <;> rfl
/-- a class of the world: its number, its table -/
def ckT (ci : Nat) : Nat → FieldType := match ci with
  | 0 => tyX0 | 1 => tyX1 | 2 => tyX3 | 3 => tyX4 | 4 => tyX6 | 5 => tyX7 | 6 => tyX8 | 7 => tyX9 | 8 => tyX10 | _ => tyX11
theorem cl_in {ci : Nat} {q : vw_C} (h : vwCl[ci]? = some q) : ∀ w ∈ u_ws q.1 q.2.1 q.2.2, w ∈ GW := by
  intro w hw
  refine u_ws_good w hw ?_
  match ci, h with
  | 0, h => cases h; exact inX0 w hw
  | 1, h => cases h; exact inX1 w hw
  | 2, h => cases h; exact inX3 w hw
  | 3, h => cases h; exact inX4 w hw
  | 4, h => cases h; exact inX6 w hw
  | 5, h => cases h; exact inX7 w hw
  | 6, h => cases h; exact inX8 w hw
  | 7, h => cases h; exact inX9 w hw
  | 8, h => cases h; exact inX10 w hw
  | 9, h => cases h; exact inX11 w hw
  | n + 10, h => simp [vwCl] at h
theorem cl_ty {ci : Nat} {q : vw_C} (h : vwCl[ci]? = some q) : ∀ k, k < q.2.2 → parseFieldDescriptor (q.2.1 k).2.2.1 = some (ckT ci k) := by
  match ci, h with
  | 0, h => cases h; exact tyX0_ok
  | 1, h => cases h; exact tyX1_ok
  | 2, h => cases h; exact tyX3_ok
  | 3, h => cases h; exact tyX4_ok
  | 4, h => cases h; exact tyX6_ok
  | 5, h => cases h; exact tyX7_ok
  | 6, h => cases h; exact tyX8_ok
  | 7, h => cases h; exact tyX9_ok
  | 8, h => cases h; exact tyX10_ok
  | 9, h => cases h; exact tyX11_ok
  | n + 10, h => simp [vwCl] at h
theorem cl_nm {ci : Nat} {q : vw_C} (h : vwCl[ci]? = some q) : ∀ a, a < q.2.2 → ∀ b, b < q.2.2 → a ≠ b → (q.2.1 a).2.1 ≠ (q.2.1 b).2.1 := by
  match ci, h with
  | 0, h => cases h; exact nmX0
  | 1, h => cases h; exact nmX1
  | 2, h => cases h; exact nmX3
  | 3, h => cases h; exact nmX4
  | 4, h => cases h; exact nmX6
  | 5, h => cases h; exact nmX7
  | 6, h => cases h; exact nmX8
  | 7, h => cases h; exact nmX9
  | 8, h => cases h; exact nmX10
  | 9, h => cases h; exact nmX11
  | n + 10, h => simp [vwCl] at h
-- ints as Int
theorem oi_rng {z : Int} (h1 : -2147483648 ≤ z) (h2 : z < 2147483648) : (Int32.ofInt z).toInt = z := by
  rw [Int32.toInt_ofInt]
  have e : (Int32.size : Int) = 4294967296 := by decide
  exact Int.bmod_eq_of_le (by rw [e]; omega) (by rw [e]; omega)
def inI (z : Int) : Prop := -2147483648 ≤ z ∧ z < 2147483648
theorem oi_to {z : Int} (h : inI z) : (Int32.ofInt z).toInt = z := oi_rng h.1 h.2
theorem inI_of (x : Int32) : inI x.toInt := ⟨Int32.le_toInt x, Int32.toInt_lt x⟩
theorem oi_lt {x y : Int} (hx : inI x) (hy : inI y) : Int32.ofInt x < Int32.ofInt y ↔ x < y := by rw [Int32.lt_iff_toInt_lt, oi_to hx, oi_to hy]
theorem oi_le {x y : Int} (hx : inI x) (hy : inI y) : Int32.ofInt x ≤ Int32.ofInt y ↔ x ≤ y := by rw [Int32.le_iff_toInt_le, oi_to hx, oi_to hy]
theorem oi_eq {x y : Int} (hx : inI x) (hy : inI y) : Int32.ofInt x = Int32.ofInt y ↔ x = y := by
  constructor
  · intro h
    rw [← oi_to hx, ← oi_to hy, h]
  · intro h; rw [h]
theorem oi_0 : (0 : Int32) = Int32.ofInt 0 := rfl
theorem inI_0 : inI 0 := ⟨by decide, by decide⟩
theorem oi_cl {z : Int} (h0 : 0 ≤ z) (h : z < 2147483648) : (Int32.ofInt z).toNatClampNeg = z.toNat := by
  show (Int32.ofInt z).toInt.toNat = z.toNat
  rw [oi_rng (by omega) h]
theorem oi_in {z : Int} {n : Nat} (h0 : 0 ≤ z) (h : z < n) (hn : n < 2147483648) : vp_in (Int32.ofInt z) n := by
  intro q
  rcases q with q | q
  · rw [oi_0, oi_lt ⟨by omega, by omega⟩ inI_0] at q
    omega
  · rw [oi_cl h0 (by omega)] at q
    omega
theorem oi_div {x y : Int} (hx : inI x) (h0 : 0 < y) (hy : y < 2147483648) : Int32.ofInt x / Int32.ofInt y = Int32.ofInt (x.tdiv y) := by
  have hb : -2147483648 ≤ x.tdiv y ∧ x.tdiv y < 2147483648 := by
    obtain ⟨h1, h2⟩ := hx
    have h3 : (x.tdiv y).natAbs ≤ x.natAbs := Int.natAbs_tdiv_le_natAbs x y
    have h4 : 0 ≤ x → 0 ≤ x.tdiv y := fun h => Int.tdiv_nonneg h (Int.le_of_lt h0)
    have h5 : x ≤ 0 → x.tdiv y ≤ 0 := fun h => by
      have h6 : 0 ≤ (-x).tdiv y := Int.tdiv_nonneg (by omega) (Int.le_of_lt h0)
      rw [Int.neg_tdiv] at h6
      omega
    omega
  apply Int32.toInt_inj.mp
  rw [Int32.toInt_div, oi_to hx, oi_rng (by omega) hy, oi_rng hb.1 hb.2]
  exact Int.bmod_eq_of_le (by omega) (by omega)
theorem oi_rem {x y : Int} (hx : inI x) (h0 : 0 < y) (hy : y < 2147483648) : Int32.ofInt x - Int32.ofInt x / Int32.ofInt y * Int32.ofInt y = Int32.ofInt (x.tmod y) := by
  rw [oi_div hx h0 hy, ← Int32.ofInt_mul, ← Int32.ofInt_sub]
  congr 1
  have := Int.mul_tdiv_add_tmod x y
  have e : x.tdiv y * y = y * x.tdiv y := Int.mul_comm _ _
  omega
theorem oi_nz {y : Int} (h0 : 0 < y) (hy : y < 2147483648) : ¬ Int32.ofInt y = 0 := by
  rw [oi_0, oi_eq ⟨by omega, hy⟩ inI_0]
  omega
theorem oi_as (x : Int32) : Int32.ofInt x.toInt = x := by
  apply Int32.toInt_inj.mp
  exact oi_to (inI_of x)
theorem oi_nI {z : Int} (h : 0 ≤ z) : Int32.ofInt z = nI z.toNat := by
  obtain ⟨n, rfl⟩ := Int.eq_ofNat_of_zero_le h
  rfl
/-- x & (2^k - 1) -/
theorem oi_and {z m : Int} (k : Nat) (hm : m = 2 ^ k - 1) (hk : k ≤ 30) : Int32.ofInt z &&& Int32.ofInt m = Int32.ofInt (z % 2 ^ k) := by
  have hm2 : (Int32.ofInt m).toBitVec.toNat = 2 ^ k - 1 := by
    have hp : (2:Nat) ^ k ≤ 2 ^ 30 := Nat.pow_le_pow_right (by decide) hk
    have hp0 : 0 < (2:Nat) ^ k := Nat.pow_pos (by decide)
    have e : m = ((2 ^ k - 1 : Nat) : Int) := by
      rw [hm]; push_cast [Nat.one_le_two_pow]; rfl
    rw [e]
    show (BitVec.ofInt 32 _).toNat = _
    rw [BitVec.ofInt_natCast, BitVec.toNat_ofNat]
    apply Nat.mod_eq_of_lt
    have : (2:Nat)^30 = 1073741824 := by decide
    have : (2:Nat)^32 = 4294967296 := by decide
    omega
  rw [pk_and _ k hm2]
  have e1 : ((Int32.ofInt z).toBitVec.toNat : Int) = z % 4294967296 := by
    show ((BitVec.ofInt 32 z).toNat : Int) = _
    rw [BitVec.toNat_ofInt]
    have : (0:Int) ≤ z % 4294967296 := Int.emod_nonneg _ (by decide)
    exact Int.toNat_of_nonneg this
  have e2 : ((((Int32.ofInt z).toBitVec.toNat % 2 ^ k : Nat)) : Int) = z % 2 ^ k := by
    rw [Int.natCast_emod, e1]
    push_cast
    apply Int.emod_emod_of_dvd
    refine ⟨2 ^ (32 - k), ?_⟩
    rw [← Int.pow_add, show k + (32 - k) = 32 by omega]
    rfl
  rw [← e2]
  rfl
theorem oi_shr {x y : Int} (h0 : 0 ≤ x) (hx : x < 2147483648) (hy0 : 0 ≤ y) (hy : y < 32) : Int32.ofInt x >>> (Int32.ofInt y &&& 31) = Int32.ofInt (x / 2 ^ y.toNat) := by
  have e : Int32.ofInt y &&& 31 = Int32.ofInt y := by
    rw [show (31 : Int32) = Int32.ofInt 31 from rfl, oi_and (m := 31) 5 (by decide) (by decide)]
    rw [show y % 2 ^ 5 = y by omega]
  have hs : ((Int32.ofInt y).toBitVec.smod 32).toNat = y.toNat := by
    have : ∀ n, n < 32 → ((Int32.ofInt (n : Nat)).toBitVec.smod 32).toNat = n := by decide +kernel
    have h2 := this y.toNat (by omega)
    rwa [Int.toNat_of_nonneg hy0] at h2
  rw [e, oi_nI h0, pk_shrN (by omega) _ _ hs]
  show Int32.ofInt ((x.toNat / 2 ^ y.toNat : Nat) : Int) = _
  congr 1
  rw [Int.natCast_ediv, Int.toNat_of_nonneg h0]
  push_cast
  rfl
def bAnd (x y : Int) : Int := (Int32.ofInt x &&& Int32.ofInt y).toInt
def bOr (x y : Int) : Int := (Int32.ofInt x ||| Int32.ofInt y).toInt
def bXor (x y : Int) : Int := (Int32.ofInt x ^^^ Int32.ofInt y).toInt
def bShl (x y : Int) : Int := (Int32.ofInt x <<< (Int32.ofInt y &&& 31)).toInt
def bUshr (x y : Int) : Int := ((Int32.ofInt x).toUInt32 >>> ((Int32.ofInt y).toUInt32 &&& Int32.toUInt32 31)).toInt32.toInt
-- the world: object ids 0 .. 104; 105 .. 107 the static tables; 108 the law's script
abbrev AV : Type := Int ⊕ (Nat ⊕ UInt32)
abbrev vi (z : Int) : AV := .inl z
abbrev vr (o : Nat) : AV := .inr (.inl o)
abbrev vf (f : UInt32) : AV := .inr (.inr f)
abbrev St : Type := Nat → Int → Int
def cv (ad : Nat → Nat) (v : AV) : Value := match v with
  | .inl z => .int (Int32.ofInt z)
  | .inr (.inl o) => .ref (ad o)
  | .inr (.inr f) => .float f
theorem cv_cat (ad : Nat → Nat) (v : AV) : (cv ad v).category = 1 := by
  rcases v with z | o | f <;> rfl
def fl (z : Int) : UInt32 := UInt32.ofNat z.toNat
abbrev Shp : Type := Nat × Nat × List (Nat × Nat)
def shpT : List Shp := [
  (0, 8, [(2, 0), (2, 6), (2, 61), (2, 62), (2, 63), (2, 65), (2, 68), (2, 71), (2, 76), (2, 81), (2, 84), (2, 85), (2, 86)]),
  (4, 2, [(12, 0)]), (2, 2, []),
  (0, 2, [(2, 64), (0, 0), (0, 0)]), (4, 6, [(24, 0)]),
  (0, 7, [(2, 66), (2, 67), (0, 0), (0, 0), (0, 0), (0, 0), (5, 0)]), (1, 160, []), (1, 5, []),
  (0, 4, [(2, 69), (2, 70), (0, 0)]), (1, 6, []), (1, 6, []),
  (0, 1, [(2, 72), (2, 73), (2, 74), (2, 75)]), (1, 32, []), (1, 16, []), (1, 97, []), (0, 3, [(0, 0), (0, 0), (0, 0), (0, 0)]),
  (0, 1, [(2, 77), (2, 78), (2, 79), (2, 80)]), (1, 32, []), (1, 16, []), (1, 97, []), (0, 3, [(0, 0), (0, 0), (0, 0), (0, 0)]),
  (0, 0, [(2, 82), (2, 83), (0, 0)]), (1, 4, []), (1, 4, []),
  (1, 5, []), (0, 3, [(0, 0), (0, 0), (0, 0), (0, 0)]), (0, 3, [(0, 0), (0, 0), (0, 0), (0, 0)]),
  (0, 9, [(2, 88), (1, 0), (2, 89), (2, 90), (0, 0), (2, 91), (2, 92), (2, 93), (2, 94), (0, 0), (2, 95), (0, 0), (0, 0), (0, 0), (0, 0), (0, 0), (5, 0), (2, 96), (2, 97), (0, 0), (0, 0), (2, 98), (2, 99), (2, 100), (0, 0), (2, 101), (2, 102), (0, 0), (2, 103), (2, 104)]),
  (1, 86, []), (1, 516, []), (3, 6, []), (1, 172, []), (3, 2, []), (2, 2, []), (1, 160, []), (1, 86, []), (1, 32, []), (1, 32, []), (1, 4, []), (1, 4, []), (1, 4, []), (1, 20, []), (1, 32, []), (1, 6, []), (1, 6, [])]
def shp (o : Nat) : Shp :=
  if o < 60 then
    (match o % 6 with
    | 0 => (0, 5, [(2, o + 1), (0, 0), (2, o + 2), (2, o + 4), (1, 0), (0, 0)])
    | 1 => (1, 32, [])
    | 2 => (0, 6, [(2, o + 1), (0, 0), (0, 0)])
    | 3 => (1, 30, [])
    | 4 => (0, 6, [(2, o + 1), (0, 0), (0, 0)])
    | _ => (1, 30, []))
  else shpT.getD (o - 60) (9, 0, [])
def isSt (o : Nat) : Prop := o % 6 = 0 ∧ o < 60
def isSp (o : Nat) : Prop := (o % 6 = 2 ∨ o % 6 = 4) ∧ o < 60
def isBk (o : Nat) : Prop := o = 71 ∨ o = 76
def isMx (o : Nat) : Prop := o = 75 ∨ o = 80 ∨ o = 85 ∨ o = 86
theorem sh_st {o : Nat} (h : isSt o) : shp o = (0, 5, [(2, o + 1), (0, 0), (2, o + 2), (2, o + 4), (1, 0), (0, 0)]) := by
  obtain ⟨h1, h2⟩ := h
  simp [shp, h1, h2]
theorem sh_sent {o : Nat} (h : isSt o) : shp (o + 1) = (1, 32, []) := by
  obtain ⟨h1, h2⟩ := h
  simp [shp, show (o + 1) % 6 = 1 by omega, show o + 1 < 60 by omega]
theorem sp_line {o : Nat} (h : isSt o) : isSp (o + 2) := by
  obtain ⟨h1, h2⟩ := h
  exact ⟨by omega, by omega⟩
theorem sp_chain {o : Nat} (h : isSt o) : isSp (o + 4) := by
  obtain ⟨h1, h2⟩ := h
  exact ⟨by omega, by omega⟩
theorem sh_sp {o : Nat} (h : isSp o) : shp o = (0, 6, [(2, o + 1), (0, 0), (0, 0)]) := by
  obtain ⟨h1, h2⟩ := h
  rcases h1 with h1 | h1 <;> simp [shp, h1, h2]
theorem sh_spn {o : Nat} (h : isSp o) : shp (o + 1) = (1, 30, []) := by
  obtain ⟨h1, h2⟩ := h
  rcases h1 with h1 | h1
  · simp [shp, show (o + 1) % 6 = 3 by omega, show o + 1 < 60 by omega]
  · simp [shp, show (o + 1) % 6 = 5 by omega, show o + 1 < 60 by omega]
theorem sh_bk {o : Nat} (h : isBk o) : shp o = (0, 1, [(2, o + 1), (2, o + 2), (2, o + 3), (2, o + 4)]) := by
  rcases h with rfl | rfl <;> rfl
theorem sh_bkn {o : Nat} (h : isBk o) : shp (o + 1) = (1, 32, []) := by
  rcases h with rfl | rfl <;> rfl
theorem sh_bkm {o : Nat} (h : isBk o) : shp (o + 2) = (1, 16, []) := by
  rcases h with rfl | rfl <;> rfl
theorem sh_bkt {o : Nat} (h : isBk o) : shp (o + 3) = (1, 97, []) := by
  rcases h with rfl | rfl <;> rfl
theorem mx_bk {o : Nat} (h : isBk o) : isMx (o + 4) := by
  rcases h with rfl | rfl <;> simp [isMx]
theorem sh_mx {o : Nat} (h : isMx o) : shp o = (0, 3, [(0, 0), (0, 0), (0, 0), (0, 0)]) := by
  rcases h with rfl | rfl | rfl | rfl <;> rfl
theorem shp_lt {o : Nat} (h : (shp o).1 < 9) : o < 105 := by
  unfold shp at h
  split at h
  · omega
  · rcases Nat.lt_or_ge o 105 with q | q
    · exact q
    · have e : shpT.getD (o - 60) (9, 0, []) = (9, 0, []) := by
        rw [List.getD_eq_getElem?_getD, List.getElem?_eq_none (show shpT.length ≤ o - 60 by show 45 ≤ o - 60; omega)]
        rfl
      rw [e] at h
      exact absurd h (by decide)
def fv (ad : Nat → Nat) (row : Int → Int) (k : Nat) (q : Nat × Nat) : Value := match q.1 with
  | 0 => .int (Int32.ofInt (row k))
  | 5 => .int (Int32.ofInt (row k))
  | 1 => .float (fl (row k))
  | _ => .ref (ad q.2)
def fvs (ad : Nat → Nat) (row : Int → Int) (fs : List (Nat × Nat)) : List Value := fs.zipIdx.map (fun q => fv ad row q.2 q.1)
def ent (ad : Nat → Nat) (cA : Nat → ClassId) (h : Shp) (row : Int → Int) : va_E := match h.1 with
  | 0 => .inr (h.2.1, fvs ad row h.2.2)
  | 1 => .inl (cA 0, h.2.1, .inl (fun i => Int32.ofInt (row i)))
  | 2 => .inl (cA 1, h.2.1, .inl (fun i => Int32.ofInt (row i)))
  | 3 => .inl (cA 2, h.2.1, .inr (.inr (.inl (fun i => fl (row i)))))
  | _ => .inl (cA 3, h.2.1, .inr (.inr (.inr (.inr (fun i => some (ad (6 * i + (h.2.2.headD (0, 0)).1)))))))
def WL (ad : Nat → Nat) (cA : Nat → ClassId) (σ : St) : va_W := (List.range 105).map (fun o => (ad o, ent ad cA (shp o) (σ o)))
def tysA (cA : Nat → ClassId) : List (ClassId × FieldType) := [(cA 0, .int), (cA 1, .boolean), (cA 2, .float), (cA 3, .object RX7)]
theorem wl_at {ad : Nat → Nat} {cA : Nat → ClassId} {σ : St} {o : Nat} (h : o < 105) : (WL ad cA σ)[o]? = some (ad o, ent ad cA (shp o) (σ o)) := by
  simp [WL, h]
/-- a store at one slot -/
def wr (σ : St) (o : Nat) (i v : Int) : St := fun a j => if a = o ∧ j = i then v else σ a j
theorem wr_at (σ : St) (o : Nat) (i v : Int) (a : Nat) (j : Int) : wr σ o i v a j = if a = o ∧ j = i then v else σ a j := rfl
/-- a stretch copied -/
def cp (σ : St) (p : Nat) (sp : Int) (q : Nat) (dp n : Int) : St := fun a j => if a = q ∧ dp ≤ j ∧ j < dp + n then σ p (j - dp + sp) else σ a j
theorem wl_set {ad : Nat → Nat} {cA : Nat → ClassId} {σ σ' : St} {o : Nat} {e : va_E} (h : ∀ a, a ≠ o → σ' a = σ a) (he : e = ent ad cA (shp o) (σ' o)) : (WL ad cA σ).set o (ad o, e) = WL ad cA σ' := by
  apply List.ext_getElem?
  intro i
  by_cases hi : i < 105
  · rw [wl_at hi, List.getElem?_set]
    by_cases hio : o = i
    · subst hio
      rw [if_pos rfl, if_pos (by simp [WL]; exact hi), he]
    · rw [if_neg hio, wl_at hi, h i (fun q => hio q.symm)]
  · rw [List.getElem?_eq_none (by simp [WL]; omega), List.getElem?_eq_none (by simp [WL]; omega)]
theorem wr_ne (σ : St) (o : Nat) (i v : Int) : ∀ a, a ≠ o → wr σ o i v a = σ a := by
  intro a ha
  funext j
  simp [wr, ha]
theorem cp_ne (σ : St) (p : Nat) (sp : Int) (q : Nat) (dp n : Int) : ∀ a, a ≠ q → cp σ p sp q dp n a = σ a := by
  intro a ha
  funext j
  simp [cp, ha]
theorem fvs_at {ad : Nat → Nat} {row : Int → Int} {fs : List (Nat × Nat)} {k : Nat} {q : Nat × Nat} (h : fs[k]? = some q) : (fvs ad row fs)[k]? = some (fv ad row k q) := by
  simp [fvs, h]
theorem fvs_set {ad : Nat → Nat} {row row' : Int → Int} {fs : List (Nat × Nat)} {k : Nat} {q : Nat × Nat} (h : fs[k]? = some q) (hr : ∀ j : Nat, j ≠ k → row' j = row j) {v : Value} (hv : v = fv ad row' k q) : (fvs ad row fs).set k v = fvs ad row' fs := by
  apply List.ext_getElem?
  intro i
  rw [List.getElem?_set]
  by_cases hi : k = i
  · subst hi
    have hl : k < (fvs ad row fs).length := (List.getElem?_eq_some_iff.mp (fvs_at (ad := ad) (row := row) h)).1
    rw [if_pos rfl, if_pos hl, fvs_at h, hv]
  · rw [if_neg hi]
    simp only [fvs, List.getElem?_map, List.getElem?_zipIdx]
    cases fs[i]? with
    | none => rfl
    | some q' =>
      simp only [Option.map_some, Nat.zero_add]
      have e := hr i (fun z => hi z.symm)
      unfold fv
      rw [e]
-- the frame of a method: name, class, code, locals, answer, frames
abbrev MD : Type := MethodName × String × ByteArray × Nat × Option FieldType × Nat
abbrev mdY (md : MD) : MethodName := md.1
abbrev mdO (md : MD) : String := md.2.1
abbrev mdC (md : MD) : ByteArray := md.2.2.1
abbrev mdN (md : MD) : Nat := md.2.2.2.1
abbrev mdR (md : MD) : Option FieldType := md.2.2.2.2.1
abbrev mdF (md : MD) : Nat := md.2.2.2.2.2
def tblL (j : Nat) : Value := .int (Int32.ofInt (([1, 22, 96, 75] : List Int).getD j 0))
def rowD : List Int := [1, 96, 0, 0, 0, 0, 0, 0, 0, 96, 0, 96, 0, 96, 0, 96, 0, 15, 1, 3, 0, 0, 0, 0, 1, 15, 0, 0, 0, 0, 0, 0, 0, 1, 0, 15, 1, 96, 0, 0]
def rowS : List Int := [1, 96, 0, 0, 0, 0, 0, 0, 0, 96, 0, 96, 0, 96, 0, 96, 1, 15, 0, 0, 0, 0, 0, 0, 0, 0, 0, 0, 0, 0, 0, 0, 0, 0, 0, 0, 0, 0, 0, 0]
/-- what a static table holds: 105 LIGHT, 106 DEED, 107 STAGE -/
def rot (o : Nat) (i : Int) : Int := if o = 105 then ([1, 22, 96, 75] : List Int).getD i.toNat 0 else if o = 106 then rowD.getD i.toNat 0 else rowS.getD i.toNat 0
def rol (o : Nat) : Nat := if o = 105 then 4 else 40
def AD (ad : Nat → Nat) : Addr → Prop := fun q => ∃ o, o < 105 ∧ q = ad o
/-- what is known of the start: classes, addresses apart, static tables -/
def KW (D : va_G) (cA : Nat → ClassId) (ad : Nat → Nat) (A : Addr → Prop) (s : State) (H : Heap) : Prop :=
  va_K D vwCl (tysA cA) s ∧ (∀ i j, i < 105 → j < 105 → ad i = ad j → i = j) ∧ (∀ i, i < 105 → A (ad i)) ∧
  va_Z RX2 "LIGHT" "[I" (.ref (ad 105)) A s H ∧ va_Z RX8 "DEED" "[I" (.ref (ad 106)) A s H ∧ va_Z RX8 "STAGE" "[I" (.ref (ad 107)) A s H ∧
  ∀ o, o = 105 ∨ o = 106 ∨ o = 107 → va_T .int (ad o) (rol o) (fun j => .int (Int32.ofInt (rot o j))) A s H
theorem KW.moved {D : va_G} {cA : Nat → ClassId} {ad : Nat → Nat} {A : Addr → Prop} {s U : State} {H : Heap} (hvm : s.vm.Alike U.vm) (h : KW D cA ad A s H) : KW D cA ad A U H := by
  obtain ⟨h1, h2, h3, h4, h5, h6, h7⟩ := h
  exact ⟨va_K.moved hvm h1, h2, h3, va_Z.moved hvm h4, va_Z.moved hvm h5, va_Z.moved hvm h6, fun o ho => va_T.moved hvm (h7 o ho)⟩
theorem KW.kept {D : va_G} {cA : Nat → ClassId} {ad : Nat → Nat} {A : Addr → Prop} {s : State} {H H1 : Heap} (hq : ∀ a : Nat, a < H.size → ¬ A a → H1[a]? = H[a]?) (h : KW D cA ad A s H) : KW D cA ad A s H1 := by
  obtain ⟨h1, h2, h3, h4, h5, h6, h7⟩ := h
  exact ⟨h1, h2, h3, va_Z.kept h4 hq, va_Z.kept h5 hq, va_Z.kept h6 hq, fun o ho => va_T.kept (h7 o ho) hq⟩
theorem KW.narrow {D : va_G} {cA : Nat → ClassId} {ad : Nat → Nat} {A : Addr → Prop} {s : State} {H : Heap} (h : KW D cA ad A s H) : KW D cA ad (AD ad) s H := by
  obtain ⟨h1, h2, h3, h4, h5, h6, h7⟩ := h
  have hAB : ∀ q, AD ad q → A q := fun q ⟨o, ho, e⟩ => e ▸ h3 o ho
  exact ⟨h1, h2, fun i hi => ⟨i, hi, rfl⟩, va_Z.narrow h4 hAB, va_Z.narrow h5 hAB, va_Z.narrow h6 hAB, fun o ho => va_T.narrow (h7 o ho) hAB⟩
theorem wl_D {D : va_G} {cA : Nat → ClassId} {ad : Nat → Nat} {A : Addr → Prop} {s : State} {H : Heap} {σ : St} (h : KW D cA ad A s H) : va_D A (WL ad cA σ) := by
  have key : ∀ (k : Nat) (q : Nat × va_E), (WL ad cA σ)[k]? = some q → k < 105 ∧ q.1 = ad k := by
    intro k q hq
    have hk : k < 105 := by
      have := (List.getElem?_eq_some_iff.mp hq).1
      simpa [WL] using this
    rw [wl_at hk] at hq
    cases hq
    exact ⟨hk, rfl⟩
  refine ⟨fun i j p q hp hq e => ?_, fun k q hq => ?_⟩
  · obtain ⟨h1, e1⟩ := key i p hp
    obtain ⟨h2, e2⟩ := key j q hq
    exact h.2.1 i j h1 h2 (by rw [← e1, ← e2, e])
  · obtain ⟨h1, e1⟩ := key k q hq
    rw [e1]
    exact h.2.2.1 k h1
-- the judgement
abbrev CT : Type := (Launch × Program × Env × Room × State × MethodId × Array Value × List Frame × Method × Code) × (va_G × (Nat → ClassId) × (Nat → Nat) × (Addr → Prop)) × (Nat × Nat × (State → Prop))
def Fx (md : MD) (X : CT) : Prop := match X with
  | ((_, p, _, R, s, m, args, _, meth, c), (D, cA, ad, A), (k, n, _)) => p.tables.exec = Jvm.exec ∧ c.code = mdC md ∧ c.maxLocals = mdN md ∧ meth.sig.returnType = mdR md ∧ s.vm.findClass (mdO md) = some m.cls ∧ (∀ w ∈ GW, w.before args s = true) ∧ meth.locks = false ∧ mdF md ≤ R.frames ∧ 36 * mdF md ≤ R.locals ∧ k ≤ R.cells ∧ n ≤ R.slots ∧ KW D cA ad A s s.heap
def G (md : MD) (X : CT) (pc : Nat) (L : List (Nat × AV)) (S : List AV) (σ : St) : Prop := Fx md X → match X with
  | ((l, p, e, R, s, m, args, below, meth, c), (D, cA, ad, A), (k, n, Q)) => ∀ (H : Heap) (locs : List Loc) (ls : Array Slot), va_P D vwCl (WL ad cA σ) H → va_S A s.heap H locs → lv_has ls (mdN md) (L.map (fun q => (q.1, cv ad q.2))) → W p l e R s m args below meth c H locs k n Q (F0 m pc ls (S.map (cv ad)))
def lk : List (Nat × AV) → Nat → Option AV
  | [], _ => none
  | q :: L, i => bif q.1 == i then some q.2 else lk L i
def stL : List (Nat × AV) → Nat → AV → List (Nat × AV)
  | [], i, v => [(i, v)]
  | q :: L, i, v => bif q.1 == i then (i, v) :: L else q :: stL L i v
def pickL (L : List (Nat × AV)) : List Nat → List (Nat × AV)
  | [] => []
  | i :: is => match lk L i with
    | some v => (i, v) :: pickL L is
    | none => pickL L is
theorem lk_mem : ∀ {L : List (Nat × AV)} {i : Nat} {v : AV}, lk L i = some v → (i, v) ∈ L
  | [], _, _, h => by cases h
  | q :: L, i, v, h => by
    unfold lk at h
    by_cases hq : q.1 = i
    · rw [show (q.1 == i) = true by simpa using hq] at h
      simp only [cond_true, Option.some.injEq] at h
      subst hq; subst h
      exact List.mem_cons_self
    · rw [show (q.1 == i) = false by simpa using hq] at h
      exact List.mem_cons_of_mem _ (lk_mem h)
theorem stL_mem : ∀ {L : List (Nat × AV)} {i : Nat} {v : AV} {q : Nat × AV}, q ∈ stL L i v → q = (i, v) ∨ q ∈ L
  | [], _, _, _, h => by
    unfold stL at h
    exact Or.inl (List.mem_singleton.mp h)
  | r :: L, i, v, q, h => by
    unfold stL at h
    by_cases hq : r.1 = i
    · rw [show (r.1 == i) = true by simpa using hq] at h
      rcases List.mem_cons.mp h with h | h
      · exact Or.inl h
      · exact Or.inr (List.mem_cons_of_mem _ h)
    · rw [show (r.1 == i) = false by simpa using hq] at h
      rcases List.mem_cons.mp h with h | h
      · exact Or.inr (h ▸ List.mem_cons_self)
      · rcases stL_mem h with h | h
        · exact Or.inl h
        · exact Or.inr (List.mem_cons_of_mem _ h)
theorem lk_at {ad : Nat → Nat} {ls : Array Slot} {n : Nat} {L : List (Nat × AV)} {i : Nat} {v : AV} (h : lk L i = some v) (hl : lv_has ls n (L.map (fun q => (q.1, cv ad q.2)))) : ls[i]? = some (.val (cv ad v)) :=
  hl.2.2 (i, cv ad v) (List.mem_map.mpr ⟨(i, v), lk_mem h, rfl⟩)
theorem pick_mem {L : List (Nat × AV)} : ∀ {is : List Nat} {q : Nat × AV}, q ∈ pickL L is → q ∈ L
  | [], _, h => by cases h
  | i :: is, q, h => by
    unfold pickL at h
    cases hk : lk L i with
    | none => rw [hk] at h; exact pick_mem h
    | some v =>
      rw [hk] at h
      rcases List.mem_cons.mp h with h | h
      · rw [h]; exact lk_mem hk
      · exact pick_mem h
/-- the rows that store: at most one listed value a local, no long: what the store leaves -/
def dist (L : List (Nat × AV)) : Bool := match L with
  | [] => true
  | q :: L => !(L.any (fun r => r.1 == q.1)) && dist L
theorem st_has {ad : Nat → Nat} {ls : Array Slot} {n : Nat} {L : List (Nat × AV)} {i : Nat} {v : AV} (hd : dist L = true)
    (h : lv_has ls n ((i, cv ad v) :: (L.map (fun q => (q.1, cv ad q.2))).filter (fun q => !(q.1 == i) && !(q.1 + 1 == i && q.2.category == 2)))) : lv_has ls n ((stL L i v).map (fun q => (q.1, cv ad q.2))) := by
  refine ⟨h.1, h.2.1, fun q hq => ?_⟩
  obtain ⟨r, hr, rfl⟩ := List.mem_map.mp hq
  have key : r = (i, v) ∨ (r ∈ L ∧ ¬ r.1 = i) := by
    clear h hq
    induction L with
    | nil => exact Or.inl (List.mem_singleton.mp (by simpa [stL] using hr))
    | cons a L ih =>
      unfold dist at hd
      rw [Bool.and_eq_true] at hd
      unfold stL at hr
      by_cases ha : a.1 = i
      · rw [show (a.1 == i) = true by simpa using ha] at hr
        rcases List.mem_cons.mp hr with h1 | h1
        · exact Or.inl h1
        · refine Or.inr ⟨List.mem_cons_of_mem _ h1, fun e => ?_⟩
          have h2 := hd.1
          rw [Bool.not_eq_true', List.any_eq_false] at h2
          exact h2 r h1 (by simp [e, ha])
      · rw [show (a.1 == i) = false by simpa using ha] at hr
        rcases List.mem_cons.mp hr with h1 | h1
        · exact Or.inr ⟨h1 ▸ List.mem_cons_self, h1 ▸ ha⟩
        · rcases ih hd.2 h1 with h2 | h2
          · exact Or.inl h2
          · exact Or.inr ⟨List.mem_cons_of_mem _ h2.1, h2.2⟩
  rcases key with e | ⟨h1, h2⟩
  · subst e
    exact h.2.2 _ List.mem_cons_self
  · refine h.2.2 _ (List.mem_cons_of_mem _ (List.mem_filter.mpr ⟨List.mem_map.mpr ⟨r, h1, rfl⟩, ?_⟩))
    simp [h2, cv_cat]
section RULES
variable {md : MD} {X : CT} {pc : Nat} {L : List (Nat × AV)} {S : List AV} {σ : St}
theorem G.pick (is : List Nat) (k : G md X pc (pickL L is) S σ) : G md X pc L S σ := by
  obtain ⟨⟨l, p, e, R, s, m, args, below, meth, c⟩, ⟨D, cA, ad, A⟩, ⟨kc, n, Q⟩⟩ := X
  intro F H locs ls hP hS hl
  refine k F H locs ls hP hS ⟨hl.1, hl.2.1, fun q hq => ?_⟩
  obtain ⟨r, hr, rfl⟩ := List.mem_map.mp hq
  exact hl.2.2 _ (List.mem_map.mpr ⟨r, pick_mem hr, rfl⟩)
theorem G.iconst {n : Int} (hd : decode (mdC md) pc = .ok (.iconst n, 1)) (k : G md X (pc + 1) L (vi n :: S) σ) : G md X pc L S σ := by
  obtain ⟨⟨l, p, e, R, s, m, args, below, meth, c⟩, ⟨D, cA, ad, A⟩, ⟨kc, n', Q⟩⟩ := X
  intro F H locs ls hP hS hl
  exact lv_iconst F.1 F.2.1 hd rfl (k F H locs ls hP hS hl)
theorem G.bipush {n : Int} (hd : decode (mdC md) pc = .ok (.bipush n, 2)) (hn : (Int8.ofInt n).toInt32 = Int32.ofInt n) (k : G md X (pc + 2) L (vi n :: S) σ) : G md X pc L S σ := by
  obtain ⟨⟨l, p, e, R, s, m, args, below, meth, c⟩, ⟨D, cA, ad, A⟩, ⟨kc, n', Q⟩⟩ := X
  intro F H locs ls hP hS hl
  exact lv_bipush F.1 F.2.1 hd hn (k F H locs ls hP hS hl)
theorem G.sipush {n : Int} (hd : decode (mdC md) pc = .ok (.sipush n, 3)) (hn : (Int16.ofInt n).toInt32 = Int32.ofInt n) (k : G md X (pc + 3) L (vi n :: S) σ) : G md X pc L S σ := by
  obtain ⟨⟨l, p, e, R, s, m, args, below, meth, c⟩, ⟨D, cA, ad, A⟩, ⟨kc, n', Q⟩⟩ := X
  intro F H locs ls hP hS hl
  exact lv_sipush F.1 F.2.1 hd hn (k F H locs ls hP hS hl)
theorem G.ldcf {index i : Nat} {v : UInt32} (hd : decode (mdC md) pc = .ok (.ldc index, 2)) (hw : lw_tbl[i]? = some (.constantFloat (mdO md) index v)) (k : G md X (pc + 2) L (vf v :: S) σ) : G md X pc L S σ := by
  obtain ⟨⟨l, p, e, R, s, m, args, below, meth, c⟩, ⟨D, cA, ad, A⟩, ⟨kc, n', Q⟩⟩ := X
  intro F H locs ls hP hS hl
  obtain ⟨hx, hb, hml, hr, hown, hts, hlk, hf, hlo, hc, hsl, hK⟩ := id F
  exact lv_ldcf hx hb hown (hts _ (gw_at hw rfl)) hd (k F H locs ls hP hS hl)
theorem G.iload_n {j : Fin 4} {z : Int} (hd : decode (mdC md) pc = .ok (.iload_n j, 1)) (h : lk L j = some (vi z)) (k : G md X (pc + 1) L (vi z :: S) σ) : G md X pc L S σ := by
  obtain ⟨⟨l, p, e, R, s, m, args, below, meth, c⟩, ⟨D, cA, ad, A⟩, ⟨kc, n', Q⟩⟩ := X
  intro F H locs ls hP hS hl
  exact lv_iload_n F.1 F.2.1 hd rfl (lk_at h hl) (k F H locs ls hP hS hl)
theorem G.iload {j : Nat} {z : Int} (hd : decode (mdC md) pc = .ok (.iload j, 2)) (h : lk L j = some (vi z)) (k : G md X (pc + 2) L (vi z :: S) σ) : G md X pc L S σ := by
  obtain ⟨⟨l, p, e, R, s, m, args, below, meth, c⟩, ⟨D, cA, ad, A⟩, ⟨kc, n', Q⟩⟩ := X
  intro F H locs ls hP hS hl
  exact lv_iload F.1 F.2.1 hd (lk_at h hl) (k F H locs ls hP hS hl)
theorem G.aload_n {j : Fin 4} {o : Nat} (hd : decode (mdC md) pc = .ok (.aload_n j, 1)) (h : lk L j = some (vr o)) (k : G md X (pc + 1) L (vr o :: S) σ) : G md X pc L S σ := by
  obtain ⟨⟨l, p, e, R, s, m, args, below, meth, c⟩, ⟨D, cA, ad, A⟩, ⟨kc, n', Q⟩⟩ := X
  intro F H locs ls hP hS hl
  exact lv_aload_n F.1 F.2.1 hd rfl (lk_at h hl) (k F H locs ls hP hS hl)
theorem G.aload {j : Nat} {o : Nat} (hd : decode (mdC md) pc = .ok (.aload j, 2)) (h : lk L j = some (vr o)) (k : G md X (pc + 2) L (vr o :: S) σ) : G md X pc L S σ := by
  obtain ⟨⟨l, p, e, R, s, m, args, below, meth, c⟩, ⟨D, cA, ad, A⟩, ⟨kc, n', Q⟩⟩ := X
  intro F H locs ls hP hS hl
  exact lv_aload F.1 F.2.1 hd (lk_at h hl) (k F H locs ls hP hS hl)
theorem G.istore_n {j : Fin 4} {z : Int} (hd : decode (mdC md) pc = .ok (.istore_n j, 1)) (hn : (j : Nat) < mdN md) (hq : dist (L.map (fun q => (q.1, vi 0))) = true) (k : G md X (pc + 1) (stL L j (vi z)) S σ) : G md X pc L (vi z :: S) σ := by
  obtain ⟨⟨l, p, e, R, s, m, args, below, meth, c⟩, ⟨D, cA, ad, A⟩, ⟨kc, n', Q⟩⟩ := X
  intro F H locs ls hP hS hl
  have hq : dist L = true := by
    have e : ∀ L : List (Nat × AV), dist (L.map (fun q => (q.1, vi 0))) = dist L := by
      intro L
      induction L with
      | nil => rfl
      | cons a L ih =>
        show (!((L.map (fun q => (q.1, vi 0))).any (fun r => r.1 == a.1)) && dist (L.map (fun q => (q.1, vi 0)))) = (!(L.any (fun r => r.1 == a.1)) && dist L)
        rw [ih, List.any_map]
        rfl
    rw [← e]; exact hq
  exact lv_istore_n F.1 F.2.1 hd rfl hl hn rfl (fun ls' h' => k F H locs ls' hP hS (st_has hq h'))
theorem dist_vi (L : List (Nat × AV)) : dist (L.map (fun q => (q.1, vi 0))) = dist L := by
  induction L with
  | nil => rfl
  | cons a L ih =>
    show (!((L.map (fun q => (q.1, vi 0))).any (fun r => r.1 == a.1)) && dist (L.map (fun q => (q.1, vi 0)))) = (!(L.any (fun r => r.1 == a.1)) && dist L)
    rw [ih, List.any_map]
    rfl
theorem G.istore {j : Nat} {z : Int} (hd : decode (mdC md) pc = .ok (.istore j, 2)) (hn : j < mdN md) (hq : dist (L.map (fun q => (q.1, vi 0))) = true) (k : G md X (pc + 2) (stL L j (vi z)) S σ) : G md X pc L (vi z :: S) σ := by
  obtain ⟨⟨l, p, e, R, s, m, args, below, meth, c⟩, ⟨D, cA, ad, A⟩, ⟨kc, n', Q⟩⟩ := X
  intro F H locs ls hP hS hl
  rw [dist_vi] at hq
  exact lv_istore F.1 F.2.1 hd hl hn rfl (fun ls' h' => k F H locs ls' hP hS (st_has hq h'))
theorem G.astore_n {j : Fin 4} {o : Nat} (hd : decode (mdC md) pc = .ok (.astore_n j, 1)) (hn : (j : Nat) < mdN md) (hq : dist (L.map (fun q => (q.1, vi 0))) = true) (k : G md X (pc + 1) (stL L j (vr o)) S σ) : G md X pc L (vr o :: S) σ := by
  obtain ⟨⟨l, p, e, R, s, m, args, below, meth, c⟩, ⟨D, cA, ad, A⟩, ⟨kc, n', Q⟩⟩ := X
  intro F H locs ls hP hS hl
  rw [dist_vi] at hq
  exact lv_astore_n F.1 F.2.1 hd rfl hl hn rfl (fun ls' h' => k F H locs ls' hP hS (st_has hq h'))
theorem G.astore {j : Nat} {o : Nat} (hd : decode (mdC md) pc = .ok (.astore j, 2)) (hn : j < mdN md) (hq : dist (L.map (fun q => (q.1, vi 0))) = true) (k : G md X (pc + 2) (stL L j (vr o)) S σ) : G md X pc L (vr o :: S) σ := by
  obtain ⟨⟨l, p, e, R, s, m, args, below, meth, c⟩, ⟨D, cA, ad, A⟩, ⟨kc, n', Q⟩⟩ := X
  intro F H locs ls hP hS hl
  rw [dist_vi] at hq
  exact lv_astore F.1 F.2.1 hd hl hn rfl (fun ls' h' => k F H locs ls' hP hS (st_has hq h'))
theorem G.iinc {j : Nat} {n z : Int} (hd : decode (mdC md) pc = .ok (.iinc j n, 3)) (h : lk L j = some (vi z)) (hn : j < mdN md) (hq : dist (L.map (fun q => (q.1, vi 0))) = true) (k : G md X (pc + 3) (stL L j (vi (z + n))) S σ) : G md X pc L S σ := by
  obtain ⟨⟨l, p, e, R, s, m, args, below, meth, c⟩, ⟨D, cA, ad, A⟩, ⟨kc, n', Q⟩⟩ := X
  intro F H locs ls hP hS hl
  rw [dist_vi] at hq
  obtain ⟨i, hi⟩ := List.getElem?_of_mem (List.mem_map.mpr ⟨(j, vi z), lk_mem h, rfl⟩ : (j, cv ad (vi z)) ∈ L.map (fun q => (q.1, cv ad q.2)))
  exact lv_iinc F.1 F.2.1 hd hl hi (v := Int32.ofInt (z + n)) (by rw [Int32.ofInt_add]) hn rfl (fun ls' h' => k F H locs ls' hP hS (st_has hq h'))
theorem G.dup {v : AV} (hd : decode (mdC md) pc = .ok (.dup, 1)) (k : G md X (pc + 1) L (v :: v :: S) σ) : G md X pc L (v :: S) σ := by
  obtain ⟨⟨l, p, e, R, s, m, args, below, meth, c⟩, ⟨D, cA, ad, A⟩, ⟨kc, n', Q⟩⟩ := X
  intro F H locs ls hP hS hl
  exact lv_dup F.1 F.2.1 hd (cv_cat ad v) (k F H locs ls hP hS hl)
theorem G.dup2 {v w : AV} (hd : decode (mdC md) pc = .ok (.dup2, 1)) (k : G md X (pc + 1) L (v :: w :: v :: w :: S) σ) : G md X pc L (v :: w :: S) σ := by
  obtain ⟨⟨l, p, e, R, s, m, args, below, meth, c⟩, ⟨D, cA, ad, A⟩, ⟨kc, n', Q⟩⟩ := X
  intro F H locs ls hP hS hl
  exact lv_dup2_11 F.1 F.2.1 hd (cv_cat ad v) (cv_cat ad w) (k F H locs ls hP hS hl)
theorem G.pop {v : AV} (hd : decode (mdC md) pc = .ok (.pop, 1)) (k : G md X (pc + 1) L S σ) : G md X pc L (v :: S) σ := by
  obtain ⟨⟨l, p, e, R, s, m, args, below, meth, c⟩, ⟨D, cA, ad, A⟩, ⟨kc, n', Q⟩⟩ := X
  intro F H locs ls hP hS hl
  exact lv_pop F.1 F.2.1 hd (cv_cat ad v) (k F H locs ls hP hS hl)
theorem G.iadd {x y : Int} (hd : decode (mdC md) pc = .ok (.iadd, 1)) (k : G md X (pc + 1) L (vi (x + y) :: S) σ) : G md X pc L (vi y :: vi x :: S) σ := by
  obtain ⟨⟨l, p, e, R, s, m, args, below, meth, c⟩, ⟨D, cA, ad, A⟩, ⟨kc, n', Q⟩⟩ := X
  intro F H locs ls hP hS hl
  refine lv_iadd F.1 F.2.1 hd ?_
  rw [← Int32.ofInt_add]
  exact k F H locs ls hP hS hl
theorem G.isub {x y : Int} (hd : decode (mdC md) pc = .ok (.isub, 1)) (k : G md X (pc + 1) L (vi (x - y) :: S) σ) : G md X pc L (vi y :: vi x :: S) σ := by
  obtain ⟨⟨l, p, e, R, s, m, args, below, meth, c⟩, ⟨D, cA, ad, A⟩, ⟨kc, n', Q⟩⟩ := X
  intro F H locs ls hP hS hl
  refine lv_isub F.1 F.2.1 hd ?_
  rw [← Int32.ofInt_sub]
  exact k F H locs ls hP hS hl
theorem G.imul {x y : Int} (hd : decode (mdC md) pc = .ok (.imul, 1)) (k : G md X (pc + 1) L (vi (x * y) :: S) σ) : G md X pc L (vi y :: vi x :: S) σ := by
  obtain ⟨⟨l, p, e, R, s, m, args, below, meth, c⟩, ⟨D, cA, ad, A⟩, ⟨kc, n', Q⟩⟩ := X
  intro F H locs ls hP hS hl
  refine lv_imul F.1 F.2.1 hd ?_
  rw [← Int32.ofInt_mul]
  exact k F H locs ls hP hS hl
theorem G.ineg {x : Int} (hd : decode (mdC md) pc = .ok (.ineg, 1)) (k : G md X (pc + 1) L (vi (-x) :: S) σ) : G md X pc L (vi x :: S) σ := by
  obtain ⟨⟨l, p, e, R, s, m, args, below, meth, c⟩, ⟨D, cA, ad, A⟩, ⟨kc, n', Q⟩⟩ := X
  intro F H locs ls hP hS hl
  refine lv_ineg F.1 F.2.1 hd ?_
  rw [← Int32.ofInt_neg]
  exact k F H locs ls hP hS hl
/-- of a number that is not negative -/
theorem G.irem {x y : Int} (hd : decode (mdC md) pc = .ok (.irem, 1)) (hx : 0 ≤ x ∧ x < 2147483648) (hy : 0 < y ∧ y < 2147483648) (k : G md X (pc + 1) L (vi (x % y) :: S) σ) : G md X pc L (vi y :: vi x :: S) σ := by
  obtain ⟨⟨l, p, e, R, s, m, args, below, meth, c⟩, ⟨D, cA, ad, A⟩, ⟨kc, n', Q⟩⟩ := X
  intro F H locs ls hP hS hl
  refine lv_irem F.1 F.2.1 hd (oi_nz hy.1 hy.2) ?_
  rw [oi_rem ⟨by omega, hx.2⟩ hy.1 hy.2, Int.tmod_eq_emod_of_nonneg hx.1]
  exact k F H locs ls hP hS hl
theorem G.iremT {x y : Int} (hd : decode (mdC md) pc = .ok (.irem, 1)) (hx : inI x) (hy : 0 < y ∧ y < 2147483648) (k : G md X (pc + 1) L (vi (x.tmod y) :: S) σ) : G md X pc L (vi y :: vi x :: S) σ := by
  obtain ⟨⟨l, p, e, R, s, m, args, below, meth, c⟩, ⟨D, cA, ad, A⟩, ⟨kc, n', Q⟩⟩ := X
  intro F H locs ls hP hS hl
  refine lv_irem F.1 F.2.1 hd (oi_nz hy.1 hy.2) ?_
  rw [oi_rem hx hy.1 hy.2]
  exact k F H locs ls hP hS hl
theorem G.idiv {x y : Int} (hd : decode (mdC md) pc = .ok (.idiv, 1)) (hx : 0 ≤ x ∧ x < 2147483648) (hy : 0 < y ∧ y < 2147483648) (k : G md X (pc + 1) L (vi (x / y) :: S) σ) : G md X pc L (vi y :: vi x :: S) σ := by
  obtain ⟨⟨l, p, e, R, s, m, args, below, meth, c⟩, ⟨D, cA, ad, A⟩, ⟨kc, n', Q⟩⟩ := X
  intro F H locs ls hP hS hl
  refine lv_idiv F.1 F.2.1 hd (oi_nz hy.1 hy.2) ?_
  rw [oi_div ⟨by omega, hx.2⟩ hy.1 hy.2, Int.tdiv_eq_ediv_of_nonneg hx.1]
  exact k F H locs ls hP hS hl
theorem G.iandm {x m : Int} (kk : Nat) (hm : m = 2 ^ kk - 1) (hk : kk ≤ 30) (hd : decode (mdC md) pc = .ok (.iand, 1)) (k : G md X (pc + 1) L (vi (x % 2 ^ kk) :: S) σ) : G md X pc L (vi m :: vi x :: S) σ := by
  obtain ⟨⟨l, p, e, R, s, m', args, below, meth, c⟩, ⟨D, cA, ad, A⟩, ⟨kc, n', Q⟩⟩ := X
  intro F H locs ls hP hS hl
  refine lv_iand F.1 F.2.1 hd ?_
  rw [oi_and kk hm hk]
  exact k F H locs ls hP hS hl
theorem G.iand {x y : Int} (hd : decode (mdC md) pc = .ok (.iand, 1)) (k : G md X (pc + 1) L (vi (bAnd x y) :: S) σ) : G md X pc L (vi y :: vi x :: S) σ := by
  obtain ⟨⟨l, p, e, R, s, m', args, below, meth, c⟩, ⟨D, cA, ad, A⟩, ⟨kc, n', Q⟩⟩ := X
  intro F H locs ls hP hS hl
  refine lv_iand F.1 F.2.1 hd ?_
  have h := k F H locs ls hP hS hl
  unfold bAnd at h
  rw [← oi_as (Int32.ofInt x &&& Int32.ofInt y)]
  exact h
theorem G.ior {x y : Int} (hd : decode (mdC md) pc = .ok (.ior, 1)) (k : G md X (pc + 1) L (vi (bOr x y) :: S) σ) : G md X pc L (vi y :: vi x :: S) σ := by
  obtain ⟨⟨l, p, e, R, s, m', args, below, meth, c⟩, ⟨D, cA, ad, A⟩, ⟨kc, n', Q⟩⟩ := X
  intro F H locs ls hP hS hl
  refine lv_ior F.1 F.2.1 hd ?_
  have h := k F H locs ls hP hS hl
  unfold bOr at h
  rw [← oi_as (Int32.ofInt x ||| Int32.ofInt y)]
  exact h
theorem G.ixor {x y : Int} (hd : decode (mdC md) pc = .ok (.ixor, 1)) (k : G md X (pc + 1) L (vi (bXor x y) :: S) σ) : G md X pc L (vi y :: vi x :: S) σ := by
  obtain ⟨⟨l, p, e, R, s, m', args, below, meth, c⟩, ⟨D, cA, ad, A⟩, ⟨kc, n', Q⟩⟩ := X
  intro F H locs ls hP hS hl
  refine lv_ixor F.1 F.2.1 hd ?_
  have h := k F H locs ls hP hS hl
  unfold bXor at h
  rw [← oi_as (Int32.ofInt x ^^^ Int32.ofInt y)]
  exact h
theorem G.ishl {x y : Int} (hd : decode (mdC md) pc = .ok (.ishl, 1)) (k : G md X (pc + 1) L (vi (bShl x y) :: S) σ) : G md X pc L (vi y :: vi x :: S) σ := by
  obtain ⟨⟨l, p, e, R, s, m', args, below, meth, c⟩, ⟨D, cA, ad, A⟩, ⟨kc, n', Q⟩⟩ := X
  intro F H locs ls hP hS hl
  refine lv_ishl F.1 F.2.1 hd ?_
  have h := k F H locs ls hP hS hl
  unfold bShl at h
  rw [← oi_as (Int32.ofInt x <<< (Int32.ofInt y &&& 31))]
  exact h
theorem G.iushr {x y : Int} (hd : decode (mdC md) pc = .ok (.iushr, 1)) (k : G md X (pc + 1) L (vi (bUshr x y) :: S) σ) : G md X pc L (vi y :: vi x :: S) σ := by
  obtain ⟨⟨l, p, e, R, s, m', args, below, meth, c⟩, ⟨D, cA, ad, A⟩, ⟨kc, n', Q⟩⟩ := X
  intro F H locs ls hP hS hl
  refine lv_iushr F.1 F.2.1 hd (v := Int32.ofInt (bUshr x y)) (by unfold bUshr; rw [oi_as]) ?_
  exact k F H locs ls hP hS hl
theorem G.ishr {x y : Int} (hd : decode (mdC md) pc = .ok (.ishr, 1)) (hx : 0 ≤ x ∧ x < 2147483648) (hy : 0 ≤ y ∧ y < 32) (k : G md X (pc + 1) L (vi (x / 2 ^ y.toNat) :: S) σ) : G md X pc L (vi y :: vi x :: S) σ := by
  obtain ⟨⟨l, p, e, R, s, m', args, below, meth, c⟩, ⟨D, cA, ad, A⟩, ⟨kc, n', Q⟩⟩ := X
  intro F H locs ls hP hS hl
  refine lv_ishr F.1 F.2.1 hd ?_
  rw [oi_shr hx.1 hx.2 hy.1 hy.2]
  exact k F H locs ls hP hS hl
theorem G.goto {off : Int} {tgt : Nat} (hd : decode (mdC md) pc = .ok (.goto off, 3)) (ht : (pc : Int) + off = (tgt : Int)) (k : G md X tgt L S σ) : G md X pc L S σ := by
  obtain ⟨⟨l, p, e, R, s, m', args, below, meth, c⟩, ⟨D, cA, ad, A⟩, ⟨kc, n', Q⟩⟩ := X
  intro F H locs ls hP hS hl
  exact lv_goto F.1 F.2.1 hd ht (k F H locs ls hP hS hl)
theorem G.icmp_eq {x y : Int} {off : Int} {tgt : Nat} (hd : decode (mdC md) pc = .ok (.if_icmp .eq off, 3)) (ht : (pc : Int) + off = (tgt : Int)) (hx : inI x) (hy : inI y) (kt : x = y → G md X tgt L S σ) (kf : ¬ x = y → G md X (pc + 3) L S σ) : G md X pc L (vi y :: vi x :: S) σ := by
  obtain ⟨⟨l, p, e, R, s, m', args, below, meth, c⟩, ⟨D, cA, ad, A⟩, ⟨kc, n', Q⟩⟩ := X
  intro F H locs ls hP hS hl
  have cvv := oi_eq hx hy
  exact lv_icmp_eq (tgt := tgt) F.1 F.2.1 hd ht (fun q => kt (cvv.mp q) F H locs ls hP hS hl) (fun q => kf (fun z => q (cvv.mpr z)) F H locs ls hP hS hl)
theorem G.if_eq {x : Int} {off : Int} {tgt : Nat} (hd : decode (mdC md) pc = .ok (.ifCond .eq off, 3)) (ht : (pc : Int) + off = (tgt : Int)) (hx : inI x) (kt : x = 0 → G md X tgt L S σ) (kf : ¬ x = 0 → G md X (pc + 3) L S σ) : G md X pc L (vi x :: S) σ := by
  obtain ⟨⟨l, p, e, R, s, m', args, below, meth, c⟩, ⟨D, cA, ad, A⟩, ⟨kc, n', Q⟩⟩ := X
  intro F H locs ls hP hS hl
  have cvv := oi_eq hx inI_0
  exact lv_if_eq (tgt := tgt) F.1 F.2.1 hd ht (fun q => kt (cvv.mp q) F H locs ls hP hS hl) (fun q => kf (fun z => q (cvv.mpr z)) F H locs ls hP hS hl)
theorem G.icmp_ne {x y : Int} {off : Int} {tgt : Nat} (hd : decode (mdC md) pc = .ok (.if_icmp .ne off, 3)) (ht : (pc : Int) + off = (tgt : Int)) (hx : inI x) (hy : inI y) (kt : ¬ x = y → G md X tgt L S σ) (kf : x = y → G md X (pc + 3) L S σ) : G md X pc L (vi y :: vi x :: S) σ := by
  obtain ⟨⟨l, p, e, R, s, m', args, below, meth, c⟩, ⟨D, cA, ad, A⟩, ⟨kc, n', Q⟩⟩ := X
  intro F H locs ls hP hS hl
  have cvv := oi_eq hx hy
  exact lv_icmp_ne (tgt := tgt) F.1 F.2.1 hd ht (fun q => kt (fun z => q (cvv.mpr z)) F H locs ls hP hS hl) (fun q => kf (cvv.mp q) F H locs ls hP hS hl)
theorem G.if_ne {x : Int} {off : Int} {tgt : Nat} (hd : decode (mdC md) pc = .ok (.ifCond .ne off, 3)) (ht : (pc : Int) + off = (tgt : Int)) (hx : inI x) (kt : ¬ x = 0 → G md X tgt L S σ) (kf : x = 0 → G md X (pc + 3) L S σ) : G md X pc L (vi x :: S) σ := by
  obtain ⟨⟨l, p, e, R, s, m', args, below, meth, c⟩, ⟨D, cA, ad, A⟩, ⟨kc, n', Q⟩⟩ := X
  intro F H locs ls hP hS hl
  have cvv := oi_eq hx inI_0
  exact lv_if_ne (tgt := tgt) F.1 F.2.1 hd ht (fun q => kt (fun z => q (cvv.mpr z)) F H locs ls hP hS hl) (fun q => kf (cvv.mp q) F H locs ls hP hS hl)
theorem G.icmp_lt {x y : Int} {off : Int} {tgt : Nat} (hd : decode (mdC md) pc = .ok (.if_icmp .lt off, 3)) (ht : (pc : Int) + off = (tgt : Int)) (hx : inI x) (hy : inI y) (kt : x < y → G md X tgt L S σ) (kf : y ≤ x → G md X (pc + 3) L S σ) : G md X pc L (vi y :: vi x :: S) σ := by
  obtain ⟨⟨l, p, e, R, s, m', args, below, meth, c⟩, ⟨D, cA, ad, A⟩, ⟨kc, n', Q⟩⟩ := X
  intro F H locs ls hP hS hl
  have cvv := oi_lt hx hy
  exact lv_icmp_lt (tgt := tgt) F.1 F.2.1 hd ht (fun q => kt (cvv.mp q) F H locs ls hP hS hl) (fun q => kf (Int.not_lt.mp fun w => q (cvv.mpr w)) F H locs ls hP hS hl)
theorem G.if_lt {x : Int} {off : Int} {tgt : Nat} (hd : decode (mdC md) pc = .ok (.ifCond .lt off, 3)) (ht : (pc : Int) + off = (tgt : Int)) (hx : inI x) (kt : x < 0 → G md X tgt L S σ) (kf : 0 ≤ x → G md X (pc + 3) L S σ) : G md X pc L (vi x :: S) σ := by
  obtain ⟨⟨l, p, e, R, s, m', args, below, meth, c⟩, ⟨D, cA, ad, A⟩, ⟨kc, n', Q⟩⟩ := X
  intro F H locs ls hP hS hl
  have cvv := oi_lt hx inI_0
  exact lv_if_lt (tgt := tgt) F.1 F.2.1 hd ht (fun q => kt (cvv.mp q) F H locs ls hP hS hl) (fun q => kf (Int.not_lt.mp fun w => q (cvv.mpr w)) F H locs ls hP hS hl)
theorem G.icmp_le {x y : Int} {off : Int} {tgt : Nat} (hd : decode (mdC md) pc = .ok (.if_icmp .le off, 3)) (ht : (pc : Int) + off = (tgt : Int)) (hx : inI x) (hy : inI y) (kt : x ≤ y → G md X tgt L S σ) (kf : y < x → G md X (pc + 3) L S σ) : G md X pc L (vi y :: vi x :: S) σ := by
  obtain ⟨⟨l, p, e, R, s, m', args, below, meth, c⟩, ⟨D, cA, ad, A⟩, ⟨kc, n', Q⟩⟩ := X
  intro F H locs ls hP hS hl
  have cvv := oi_le hx hy
  exact lv_icmp_le (tgt := tgt) F.1 F.2.1 hd ht (fun q => kt (cvv.mp q) F H locs ls hP hS hl) (fun q => kf (Int.not_le.mp fun w => q (cvv.mpr w)) F H locs ls hP hS hl)
theorem G.if_le {x : Int} {off : Int} {tgt : Nat} (hd : decode (mdC md) pc = .ok (.ifCond .le off, 3)) (ht : (pc : Int) + off = (tgt : Int)) (hx : inI x) (kt : x ≤ 0 → G md X tgt L S σ) (kf : 0 < x → G md X (pc + 3) L S σ) : G md X pc L (vi x :: S) σ := by
  obtain ⟨⟨l, p, e, R, s, m', args, below, meth, c⟩, ⟨D, cA, ad, A⟩, ⟨kc, n', Q⟩⟩ := X
  intro F H locs ls hP hS hl
  have cvv := oi_le hx inI_0
  exact lv_if_le (tgt := tgt) F.1 F.2.1 hd ht (fun q => kt (cvv.mp q) F H locs ls hP hS hl) (fun q => kf (Int.not_le.mp fun w => q (cvv.mpr w)) F H locs ls hP hS hl)
theorem G.icmp_gt {x y : Int} {off : Int} {tgt : Nat} (hd : decode (mdC md) pc = .ok (.if_icmp .gt off, 3)) (ht : (pc : Int) + off = (tgt : Int)) (hx : inI x) (hy : inI y) (kt : y < x → G md X tgt L S σ) (kf : x ≤ y → G md X (pc + 3) L S σ) : G md X pc L (vi y :: vi x :: S) σ := by
  obtain ⟨⟨l, p, e, R, s, m', args, below, meth, c⟩, ⟨D, cA, ad, A⟩, ⟨kc, n', Q⟩⟩ := X
  intro F H locs ls hP hS hl
  have cvv := oi_lt hy hx
  exact lv_icmp_gt (tgt := tgt) F.1 F.2.1 hd ht (fun q => kt (cvv.mp q) F H locs ls hP hS hl) (fun q => kf (Int.not_lt.mp fun w => q (cvv.mpr w)) F H locs ls hP hS hl)
theorem G.if_gt {x : Int} {off : Int} {tgt : Nat} (hd : decode (mdC md) pc = .ok (.ifCond .gt off, 3)) (ht : (pc : Int) + off = (tgt : Int)) (hx : inI x) (kt : 0 < x → G md X tgt L S σ) (kf : x ≤ 0 → G md X (pc + 3) L S σ) : G md X pc L (vi x :: S) σ := by
  obtain ⟨⟨l, p, e, R, s, m', args, below, meth, c⟩, ⟨D, cA, ad, A⟩, ⟨kc, n', Q⟩⟩ := X
  intro F H locs ls hP hS hl
  have cvv := oi_lt inI_0 hx
  exact lv_if_gt (tgt := tgt) F.1 F.2.1 hd ht (fun q => kt (cvv.mp q) F H locs ls hP hS hl) (fun q => kf (Int.not_lt.mp fun w => q (cvv.mpr w)) F H locs ls hP hS hl)
theorem G.icmp_ge {x y : Int} {off : Int} {tgt : Nat} (hd : decode (mdC md) pc = .ok (.if_icmp .ge off, 3)) (ht : (pc : Int) + off = (tgt : Int)) (hx : inI x) (hy : inI y) (kt : y ≤ x → G md X tgt L S σ) (kf : x < y → G md X (pc + 3) L S σ) : G md X pc L (vi y :: vi x :: S) σ := by
  obtain ⟨⟨l, p, e, R, s, m', args, below, meth, c⟩, ⟨D, cA, ad, A⟩, ⟨kc, n', Q⟩⟩ := X
  intro F H locs ls hP hS hl
  have cvv := oi_le hy hx
  exact lv_icmp_ge (tgt := tgt) F.1 F.2.1 hd ht (fun q => kt (cvv.mp q) F H locs ls hP hS hl) (fun q => kf (Int.not_le.mp fun w => q (cvv.mpr w)) F H locs ls hP hS hl)
theorem G.if_ge {x : Int} {off : Int} {tgt : Nat} (hd : decode (mdC md) pc = .ok (.ifCond .ge off, 3)) (ht : (pc : Int) + off = (tgt : Int)) (hx : inI x) (kt : 0 ≤ x → G md X tgt L S σ) (kf : x < 0 → G md X (pc + 3) L S σ) : G md X pc L (vi x :: S) σ := by
  obtain ⟨⟨l, p, e, R, s, m', args, below, meth, c⟩, ⟨D, cA, ad, A⟩, ⟨kc, n', Q⟩⟩ := X
  intro F H locs ls hP hS hl
  have cvv := oi_le inI_0 hx
  exact lv_if_ge (tgt := tgt) F.1 F.2.1 hd ht (fun q => kt (cvv.mp q) F H locs ls hP hS hl) (fun q => kf (Int.not_le.mp fun w => q (cvv.mpr w)) F H locs ls hP hS hl)
theorem G.tswIn {dflt lo hi : Int} {offs : Array Int} {len : Nat} {x off v : Int} {tgt : Nat} (hd : decode (mdC md) pc = .ok (.tableswitch dflt lo hi offs, len)) (hx : inI x) (hv : x = v) (h1 : lo ≤ v ∧ v ≤ hi) (ho : offs[(v - lo).toNat]? = some off) (ht : (pc : Int) + off = (tgt : Int)) (k : G md X tgt L S σ) : G md X pc L (vi x :: S) σ := by
  obtain ⟨⟨l, p, e, R, s, m', args, below, meth, c⟩, ⟨D, cA, ad, A⟩, ⟨kc, n', Q⟩⟩ := X
  intro F H locs ls hP hS hl
  have e : (Int32.ofInt x).toInt = v := by rw [oi_to hx, hv]
  exact lv_tableIn F.1 F.2.1 hd (by rw [e]; omega) (by rw [e]; omega) (by rw [e]; exact ho) ht (k F H locs ls hP hS hl)
theorem G.tswOut {dflt lo hi : Int} {offs : Array Int} {len : Nat} {x : Int} {tgt : Nat} (hd : decode (mdC md) pc = .ok (.tableswitch dflt lo hi offs, len)) (hx : inI x) (h : x < lo ∨ hi < x) (ht : (pc : Int) + dflt = (tgt : Int)) (k : G md X tgt L S σ) : G md X pc L (vi x :: S) σ := by
  obtain ⟨⟨l, p, e, R, s, m', args, below, meth, c⟩, ⟨D, cA, ad, A⟩, ⟨kc, n', Q⟩⟩ := X
  intro F H locs ls hP hS hl
  exact lv_tableOut F.1 F.2.1 hd (by rw [oi_to hx]; exact h) ht (k F H locs ls hP hS hl)
theorem G.lsw {dflt : Int} {ps : Array (Int × Int)} {len : Nat} {x off : Int} {tgt : Nat} (hd : decode (mdC md) pc = .ok (.lookupswitch dflt ps, len)) (hp : (ps.toList.zip (ps.toList.drop 1)).all (fun (a, next) => a.1 < next.1) = true) (hx : inI x) (ho : Op.lookupswitch.offset ps.toList dflt x = off) (ht : (pc : Int) + off = (tgt : Int)) (k : G md X tgt L S σ) : G md X pc L (vi x :: S) σ := by
  obtain ⟨⟨l, p, e, R, s, m', args, below, meth, c⟩, ⟨D, cA, ad, A⟩, ⟨kc, n', Q⟩⟩ := X
  intro F H locs ls hP hS hl
  exact lv_lookup F.1 F.2.1 hd hp (by rw [oi_to hx]; exact ho) ht (k F H locs ls hP hS hl)
-- arrays
theorem shp_len (o : Nat) : (shp o).2.1 < 1000 := by
  unfold shp
  split
  · split <;> exact Nat.le_of_ble_eq_true rfl
  · rw [List.getD_eq_getElem?_getD]
    cases h : shpT[o - 60]? with
    | none => decide
    | some q =>
      have : ∀ q ∈ shpT, q.2.1 < 1000 := by decide +kernel
      exact this q (List.mem_of_getElem? h)
theorem sh_arr {ad : Nat → Nat} {cA : Nat → ClassId} {σ : St} {o t n : Nat} {fs : List (Nat × Nat)} (hs : shp o = (t, n, fs)) (ht : t < 9) : o < 105 ∧ n < 1000 ∧ (WL ad cA σ)[o]? = some (ad o, ent ad cA (t, n, fs) (σ o)) := by
  have h1 : o < 105 := shp_lt (by rw [hs]; exact ht)
  have h2 := shp_len o
  rw [hs] at h2
  exact ⟨h1, h2, by rw [wl_at h1, hs]⟩
theorem int_tn {z : Int} (h : 0 ≤ z) : ((z.toNat : Nat) : Int) = z := Int.toNat_of_nonneg h
theorem G.iald {o n : Nat} {z : Int} (hd : decode (mdC md) pc = .ok (.iaload, 1)) (hs : shp o = (1, n, [])) (hz : 0 ≤ z ∧ z < n) (k : G md X (pc + 1) L (vi (σ o z) :: S) σ) : G md X pc L (vi z :: vr o :: S) σ := by
  obtain ⟨⟨l, p, e, R, s, m', args, below, meth, c⟩, ⟨D, cA, ad, A⟩, ⟨kc, n', Q⟩⟩ := X
  intro F H locs ls hP hS hl
  obtain ⟨hx, hb, hml, hr, hown, hts, hlk, hf, hlo, hc, hsl, hK⟩ := id F
  obtain ⟨h1, h2, h3⟩ := sh_arr (ad := ad) (cA := cA) (σ := σ) hs (by decide)
  refine va_iald hx hb hK.1 hP o 0 h3 rfl (oi_in (n := n) hz.1 hz.2 (by omega)) hd ?_
  rw [oi_cl hz.1 (by omega), int_tn hz.1]
  exact k F H locs ls hP hS hl
theorem G.zald {o n : Nat} {z : Int} (hd : decode (mdC md) pc = .ok (.baload, 1)) (hs : shp o = (2, n, [])) (hz : 0 ≤ z ∧ z < n) (k : G md X (pc + 1) L (vi (σ o z) :: S) σ) : G md X pc L (vi z :: vr o :: S) σ := by
  obtain ⟨⟨l, p, e, R, s, m', args, below, meth, c⟩, ⟨D, cA, ad, A⟩, ⟨kc, n', Q⟩⟩ := X
  intro F H locs ls hP hS hl
  obtain ⟨hx, hb, hml, hr, hown, hts, hlk, hf, hlo, hc, hsl, hK⟩ := id F
  obtain ⟨h1, h2, h3⟩ := sh_arr (ad := ad) (cA := cA) (σ := σ) hs (by decide)
  refine va_zald hx hb hK.1 hP o 1 h3 rfl (oi_in (n := n) hz.1 hz.2 (by omega)) hd ?_
  rw [oi_cl hz.1 (by omega), int_tn hz.1]
  exact k F H locs ls hP hS hl
theorem G.fald {o n : Nat} {z : Int} (hd : decode (mdC md) pc = .ok (.faload, 1)) (hs : shp o = (3, n, [])) (hz : 0 ≤ z ∧ z < n) (k : G md X (pc + 1) L (vf (fl (σ o z)) :: S) σ) : G md X pc L (vi z :: vr o :: S) σ := by
  obtain ⟨⟨l, p, e, R, s, m', args, below, meth, c⟩, ⟨D, cA, ad, A⟩, ⟨kc, n', Q⟩⟩ := X
  intro F H locs ls hP hS hl
  obtain ⟨hx, hb, hml, hr, hown, hts, hlk, hf, hlo, hc, hsl, hK⟩ := id F
  obtain ⟨h1, h2, h3⟩ := sh_arr (ad := ad) (cA := cA) (σ := σ) hs (by decide)
  refine va_fald hx hb hK.1 hP o 2 h3 rfl (oi_in (n := n) hz.1 hz.2 (by omega)) hd ?_
  rw [oi_cl hz.1 (by omega), int_tn hz.1]
  exact k F H locs ls hP hS hl
theorem G.aald {o n b : Nat} {z : Int} (hd : decode (mdC md) pc = .ok (.aaload, 1)) (hs : shp o = (4, n, [(b, 0)])) (hz : 0 ≤ z ∧ z < n) (k : G md X (pc + 1) L (vr (6 * z.toNat + b) :: S) σ) : G md X pc L (vi z :: vr o :: S) σ := by
  obtain ⟨⟨l, p, e, R, s, m', args, below, meth, c⟩, ⟨D, cA, ad, A⟩, ⟨kc, n', Q⟩⟩ := X
  intro F H locs ls hP hS hl
  obtain ⟨hx, hb, hml, hr, hown, hts, hlk, hf, hlo, hc, hsl, hK⟩ := id F
  obtain ⟨h1, h2, h3⟩ := sh_arr (ad := ad) (cA := cA) (σ := σ) hs (by decide)
  refine va_aldq hx hb hK.1 hP o 3 h3 rfl (oi_in (n := n) hz.1 hz.2 (by omega)) hd ?_
  rw [oi_cl hz.1 (by omega)]
  exact k F H locs ls hP hS hl
theorem G.roald {o : Nat} {z : Int} (hd : decode (mdC md) pc = .ok (.iaload, 1)) (ho : o = 105 ∨ o = 106 ∨ o = 107) (hz : 0 ≤ z ∧ z < rol o) (k : G md X (pc + 1) L (vi (rot o z) :: S) σ) : G md X pc L (vi z :: vr o :: S) σ := by
  obtain ⟨⟨l, p, e, R, s, m', args, below, meth, c⟩, ⟨D, cA, ad, A⟩, ⟨kc, n', Q⟩⟩ := X
  intro F H locs ls hP hS hl
  obtain ⟨hx, hb, hml, hr, hown, hts, hlk, hf, hlo, hc, hsl, hK⟩ := id F
  have h2 : rol o ≤ 40 := by unfold rol; split <;> decide
  refine va_ti hx hb (hK.2.2.2.2.2.2 o ho) hS (oi_in hz.1 hz.2 (by omega)) rfl hd ?_
  rw [oi_cl hz.1 (by omega), int_tn hz.1]
  exact k F H locs ls hP hS hl
theorem G.alen {o n : Nat} (hd : decode (mdC md) pc = .ok (.arraylength, 1)) (hs : shp o = (1, n, [])) (k : G md X (pc + 1) L (vi n :: S) σ) : G md X pc L (vr o :: S) σ := by
  obtain ⟨⟨l, p, e, R, s, m', args, below, meth, c⟩, ⟨D, cA, ad, A⟩, ⟨kc, n', Q⟩⟩ := X
  intro F H locs ls hP hS hl
  obtain ⟨hx, hb, hml, hr, hown, hts, hlk, hf, hlo, hc, hsl, hK⟩ := id F
  obtain ⟨h1, h2, h3⟩ := sh_arr (ad := ad) (cA := cA) (σ := σ) hs (by decide)
  exact va_alen hx hb hK.1 hP o 0 h3 rfl (v := Int32.ofInt n) rfl hd (k F H locs ls hP hS hl)
theorem G.iast {o n : Nat} {z v : Int} (hd : decode (mdC md) pc = .ok (.iastore, 1)) (hs : shp o = (1, n, [])) (hz : 0 ≤ z ∧ z < n) (k : G md X (pc + 1) L S (wr σ o z v)) : G md X pc L (vi v :: vi z :: vr o :: S) σ := by
  obtain ⟨⟨l, p, e, R, s, m', args, below, meth, c⟩, ⟨D, cA, ad, A⟩, ⟨kc, n', Q⟩⟩ := X
  intro F H locs ls hP hS hl
  obtain ⟨hx, hb, hml, hr, hown, hts, hlk, hf, hlo, hc, hsl, hK⟩ := id F
  obtain ⟨h1, h2, h3⟩ := sh_arr (ad := ad) (cA := cA) (σ := σ) hs (by decide)
  refine va_iast hx hb hK.1 hP (wl_D hK) hS o 0 h3 rfl (oi_in (n := n) hz.1 hz.2 (by omega)) hd (fun H1 locs1 hP1 hD1 hS1 => ?_)
  rw [wl_set (wr_ne σ o z v) (by
    rw [hs]
    show _ = Sum.inl (cA 0, n, Sum.inl _)
    congr 4
    rw [oi_cl hz.1 (by omega)]
    funext j
    unfold upd wr
    by_cases hj : j = z.toNat
    · rw [if_pos hj, if_pos ⟨rfl, by omega⟩]
    · rw [if_neg hj, if_neg (by omega)])] at hP1
  exact k F H1 locs1 ls hP1 hS1 hl
theorem G.zast {o n : Nat} {z v : Int} (hd : decode (mdC md) pc = .ok (.bastore, 1)) (hs : shp o = (2, n, [])) (hz : 0 ≤ z ∧ z < n) (hv : v = 0 ∨ v = 1) (k : G md X (pc + 1) L S (wr σ o z v)) : G md X pc L (vi v :: vi z :: vr o :: S) σ := by
  obtain ⟨⟨l, p, e, R, s, m', args, below, meth, c⟩, ⟨D, cA, ad, A⟩, ⟨kc, n', Q⟩⟩ := X
  intro F H locs ls hP hS hl
  obtain ⟨hx, hb, hml, hr, hown, hts, hlk, hf, hlo, hc, hsl, hK⟩ := id F
  obtain ⟨h1, h2, h3⟩ := sh_arr (ad := ad) (cA := cA) (σ := σ) hs (by decide)
  refine va_zast hx hb hK.1 hP (wl_D hK) hS o 1 h3 rfl (oi_in (n := n) hz.1 hz.2 (by omega)) hd (fun H1 locs1 hP1 hD1 hS1 => ?_)
  rw [wl_set (wr_ne σ o z v) (by
    rw [hs]
    show _ = Sum.inl (cA 1, n, Sum.inl _)
    congr 4
    rw [oi_cl hz.1 (by omega)]
    have hnv : vp_nar .boolean (Int32.ofInt v) = Int32.ofInt v := by
      rcases hv with rfl | rfl <;> decide
    rw [hnv]
    funext j
    unfold upd wr
    by_cases hj : j = z.toNat
    · rw [if_pos hj, if_pos ⟨rfl, by omega⟩]
    · rw [if_neg hj, if_neg (by omega)])] at hP1
  exact k F H1 locs1 ls hP1 hS1 hl
theorem fl_nat (v : UInt32) : fl (v.toNat : Int) = v := by simp [fl]
theorem G.fast {o n : Nat} {z : Int} {v : UInt32} (hd : decode (mdC md) pc = .ok (.fastore, 1)) (hs : shp o = (3, n, [])) (hz : 0 ≤ z ∧ z < n) (k : G md X (pc + 1) L S (wr σ o z v.toNat)) : G md X pc L (vf v :: vi z :: vr o :: S) σ := by
  obtain ⟨⟨l, p, e, R, s, m', args, below, meth, c⟩, ⟨D, cA, ad, A⟩, ⟨kc, n', Q⟩⟩ := X
  intro F H locs ls hP hS hl
  obtain ⟨hx, hb, hml, hr, hown, hts, hlk, hf, hlo, hc, hsl, hK⟩ := id F
  obtain ⟨h1, h2, h3⟩ := sh_arr (ad := ad) (cA := cA) (σ := σ) hs (by decide)
  refine va_fast hx hb hK.1 hP (wl_D hK) hS o 2 h3 rfl (oi_in (n := n) hz.1 hz.2 (by omega)) hd (fun H1 locs1 hP1 hD1 hS1 => ?_)
  rw [wl_set (wr_ne σ o z v.toNat) (by
    rw [hs]
    show _ = Sum.inl (cA 2, n, Sum.inr (Sum.inr (Sum.inl _)))
    congr 6
    rw [oi_cl hz.1 (by omega)]
    funext j
    unfold vf_upd wr
    by_cases hj : j = z.toNat
    · rw [if_pos hj, if_pos ⟨rfl, by omega⟩, fl_nat]
    · rw [if_neg hj, if_neg (by omega)])] at hP1
  exact k F H1 locs1 ls hP1 hS1 hl
-- fields
def flk (own : String) (idx ci k : Nat) : Prop := ∃ q : vw_C, vwCl[ci]? = some q ∧ k < q.2.2 ∧ Cond.fieldLink own idx (q.2.1 k).1 (q.2.1 k).2.1 (q.2.1 k).2.2.1 ∈ GW
theorem G.getV {idx ci kf : Nat} {o : Nat} {fs : List (Nat × Nat)} {q : Nat × Nat} {v : AV} (hd : decode (mdC md) pc = .ok (.getfield idx, 3)) (hf : flk (mdO md) idx ci kf) (hs : shp o = (0, ci, fs)) (hk : fs[kf]? = some q) (hv : ∀ ad, fv ad (σ o) kf q = cv ad v) (k : G md X (pc + 3) L (v :: S) σ) : G md X pc L (vr o :: S) σ := by
  obtain ⟨⟨l, p, e, R, s, m', args, below, meth, c⟩, ⟨D, cA, ad, A⟩, ⟨kc, n', Q⟩⟩ := X
  intro F H locs ls hP hS hl
  obtain ⟨hx, hb, hml, hr, hown, hts, hlk, hff, hlo, hc, hsl, hK⟩ := id F
  obtain ⟨h1, h2, h3⟩ := sh_arr (ad := ad) (cA := cA) (σ := σ) hs (by decide)
  obtain ⟨⟨C, T, N⟩, g1, g2, g3⟩ := hf
  exact va_get hx hb hts (cl_in g1) hown hK.1 hP o h3 g1 kf g2 (hts _ g3) (fun x hx => hx) (v := cv ad v) (by rw [fvs_at hk, hv]) hd (k F H locs ls hP hS hl)
theorem G.getI {idx ci kf : Nat} {o t : Nat} {fs : List (Nat × Nat)} {j : Int} (hd : decode (mdC md) pc = .ok (.getfield idx, 3)) (hf : flk (mdO md) idx ci kf) (hs : shp o = (0, ci, fs)) (hk : fs[kf]? = some (t, 0)) (ht : (t == 0 || t == 5) = true) (hj : ((kf : Nat) : Int) = j) (k : G md X (pc + 3) L (vi (σ o j) :: S) σ) : G md X pc L (vr o :: S) σ := by
  subst hj
  refine G.getV hd hf hs hk (fun ad => ?_) k
  rcases Bool.or_eq_true_iff.mp ht with h | h
  · have e : t = 0 := by simpa using h
    subst e; rfl
  · have e : t = 5 := by simpa using h
    subst e; rfl
theorem G.getR {idx ci kf : Nat} {o o' : Nat} {fs : List (Nat × Nat)} (hd : decode (mdC md) pc = .ok (.getfield idx, 3)) (hf : flk (mdO md) idx ci kf) (hs : shp o = (0, ci, fs)) (hk : fs[kf]? = some (2, o')) (k : G md X (pc + 3) L (vr o' :: S) σ) : G md X pc L (vr o :: S) σ :=
  G.getV hd hf hs hk (fun ad => rfl) k
theorem G.getF {idx ci kf : Nat} {o : Nat} {fs : List (Nat × Nat)} {j : Int} (hd : decode (mdC md) pc = .ok (.getfield idx, 3)) (hf : flk (mdO md) idx ci kf) (hs : shp o = (0, ci, fs)) (hk : fs[kf]? = some (1, 0)) (hj : ((kf : Nat) : Int) = j) (k : G md X (pc + 3) L (vf (fl (σ o j)) :: S) σ) : G md X pc L (vr o :: S) σ := by
  subst hj
  exact G.getV hd hf hs hk (fun ad => rfl) k
theorem G.putV {idx ci kf : Nat} {o : Nat} {fs : List (Nat × Nat)} {q : Nat × Nat} {C : vw_C} {v : AV} {ty : FieldType} {w : Int} (hd : decode (mdC md) pc = .ok (.putfield idx, 3)) (hf : flk (mdO md) idx ci kf) (hs : shp o = (0, ci, fs)) (hk : fs[kf]? = some q) (hC : vwCl[ci]? = some C) (hfin : (C.2.1 kf).2.2.2 = false) (hty : ckT ci kf = ty)
    (hn : ∀ ad, narrow ty (cv ad v) = cv ad v ∧ fits ty (cv ad v) = true) (hv : ∀ ad, cv ad v = fv ad (wr σ o kf w o) kf q) (k : G md X (pc + 3) L S (wr σ o kf w)) : G md X pc L (v :: vr o :: S) σ := by
  obtain ⟨⟨l, p, e, R, s, m', args, below, meth, c⟩, ⟨D, cA, ad, A⟩, ⟨kc, n', Q⟩⟩ := X
  intro F H locs ls hP hS hl
  obtain ⟨hx, hb, hml, hr, hown, hts, hlk, hff, hlo, hc, hsl, hK⟩ := id F
  obtain ⟨h1, h2, h3⟩ := sh_arr (ad := ad) (cA := cA) (σ := σ) hs (by decide)
  obtain ⟨⟨C', T, N⟩, g1, g2, g3⟩ := hf
  cases hC.symm.trans g1
  subst hty
  refine va_put hx hb hts (cl_in g1) (ckT ci) (cl_ty g1) (cl_nm g1) hown hK.1 hP (wl_D hK) hS o h3 g1 kf g2 (hts _ g3) (fun x hx => hx) hfin (cl_ty g1 kf g2) (hn ad).1 (hn ad).2 (by have := (List.getElem?_eq_some_iff.mp (fvs_at (ad := ad) (row := σ o) hk)).1; exact this) hd (fun H1 locs1 hP1 hD1 hS1 => ?_)
  rw [wl_set (wr_ne σ o kf w) (by
    rw [hs]
    show _ = Sum.inr (ci, fvs ad (wr σ o kf w o) fs)
    rw [fvs_set (row' := wr σ o kf w o) hk (fun j hj => by unfold wr; rw [if_neg (by omega)]) (hv ad)])] at hP1
  exact k F H1 locs1 ls hP1 hS1 hl
theorem wr_self (σ : St) (o : Nat) (i v : Int) : wr σ o i v o i = v := by simp [wr]
theorem G.putI {idx ci kf : Nat} {o : Nat} {fs : List (Nat × Nat)} {C : vw_C} {v j : Int} (hd : decode (mdC md) pc = .ok (.putfield idx, 3)) (hf : flk (mdO md) idx ci kf) (hs : shp o = (0, ci, fs)) (hk : fs[kf]? = some (0, 0)) (hC : vwCl[ci]? = some C) (hfin : (C.2.1 kf).2.2.2 = false) (hty : ckT ci kf = .int) (hj : ((kf : Nat) : Int) = j) (k : G md X (pc + 3) L S (wr σ o j v)) : G md X pc L (vi v :: vr o :: S) σ := by
  subst hj
  refine G.putV hd hf hs hk hC hfin hty (fun ad => ⟨rfl, rfl⟩) (fun ad => ?_) k
  show Value.int (Int32.ofInt v) = Value.int (Int32.ofInt (wr σ o kf v o kf))
  rw [wr_self]
theorem G.putZ {idx ci kf : Nat} {o : Nat} {fs : List (Nat × Nat)} {C : vw_C} {v j : Int} (hd : decode (mdC md) pc = .ok (.putfield idx, 3)) (hf : flk (mdO md) idx ci kf) (hs : shp o = (0, ci, fs)) (hk : fs[kf]? = some (5, 0)) (hC : vwCl[ci]? = some C) (hfin : (C.2.1 kf).2.2.2 = false) (hty : ckT ci kf = .boolean) (hj : ((kf : Nat) : Int) = j) (hv : v = 0 ∨ v = 1) (k : G md X (pc + 3) L S (wr σ o j v)) : G md X pc L (vi v :: vr o :: S) σ := by
  subst hj
  refine G.putV hd hf hs hk hC hfin hty (fun ad => ?_) (fun ad => ?_) k
  · rcases hv with rfl | rfl
    · show narrow .boolean (.int (Int32.ofInt 0)) = .int (Int32.ofInt 0) ∧ fits .boolean (.int (Int32.ofInt 0)) = true
      exact ⟨by decide, by decide⟩
    · show narrow .boolean (.int (Int32.ofInt 1)) = .int (Int32.ofInt 1) ∧ fits .boolean (.int (Int32.ofInt 1)) = true
      exact ⟨by decide, by decide⟩
  · show Value.int (Int32.ofInt v) = Value.int (Int32.ofInt (wr σ o kf v o kf))
    rw [wr_self]
theorem G.putF {idx ci kf : Nat} {o : Nat} {fs : List (Nat × Nat)} {C : vw_C} {v : UInt32} {j : Int} (hd : decode (mdC md) pc = .ok (.putfield idx, 3)) (hf : flk (mdO md) idx ci kf) (hs : shp o = (0, ci, fs)) (hk : fs[kf]? = some (1, 0)) (hC : vwCl[ci]? = some C) (hfin : (C.2.1 kf).2.2.2 = false) (hty : ckT ci kf = .float) (hj : ((kf : Nat) : Int) = j) (k : G md X (pc + 3) L S (wr σ o j v.toNat)) : G md X pc L (vf v :: vr o :: S) σ := by
  subst hj
  refine G.putV hd hf hs hk hC hfin hty (fun ad => ⟨rfl, rfl⟩) (fun ad => ?_) k
  show Value.float v = Value.float (fl (wr σ o kf v.toNat o kf))
  rw [wr_self, fl_nat]
-- static tables
theorem G.getsL {idx i : Nat} (hd : decode (mdC md) pc = .ok (.getstatic idx, 3)) (hw : lw_tbl[i]? = some (.fieldLink (mdO md) idx RX2 "LIGHT" "[I")) (k : G md X (pc + 3) L (vr 105 :: S) σ) : G md X pc L S σ := by
  obtain ⟨⟨l, p, e, R, s, m', args, below, meth, c⟩, ⟨D, cA, ad, A⟩, ⟨kc, n', Q⟩⟩ := X
  intro F H locs ls hP hS hl
  obtain ⟨hx, hb, hml, hr, hown, hts, hlk, hff, hlo, hc, hsl, hK⟩ := id F
  exact va_gets hx hb hK.2.2.2.1 hS hown (hts _ (gw_at hw rfl)) (fun x hx => hx) hd (k F H locs ls hP hS hl)
theorem G.getsD {idx i : Nat} (hd : decode (mdC md) pc = .ok (.getstatic idx, 3)) (hw : lw_tbl[i]? = some (.fieldLink (mdO md) idx RX8 "DEED" "[I")) (k : G md X (pc + 3) L (vr 106 :: S) σ) : G md X pc L S σ := by
  obtain ⟨⟨l, p, e, R, s, m', args, below, meth, c⟩, ⟨D, cA, ad, A⟩, ⟨kc, n', Q⟩⟩ := X
  intro F H locs ls hP hS hl
  obtain ⟨hx, hb, hml, hr, hown, hts, hlk, hff, hlo, hc, hsl, hK⟩ := id F
  exact va_gets hx hb hK.2.2.2.2.1 hS hown (hts _ (gw_at hw rfl)) (fun x hx => hx) hd (k F H locs ls hP hS hl)
theorem G.getsS {idx i : Nat} (hd : decode (mdC md) pc = .ok (.getstatic idx, 3)) (hw : lw_tbl[i]? = some (.fieldLink (mdO md) idx RX8 "STAGE" "[I")) (k : G md X (pc + 3) L (vr 107 :: S) σ) : G md X pc L S σ := by
  obtain ⟨⟨l, p, e, R, s, m', args, below, meth, c⟩, ⟨D, cA, ad, A⟩, ⟨kc, n', Q⟩⟩ := X
  intro F H locs ls hP hS hl
  obtain ⟨hx, hb, hml, hr, hown, hts, hlk, hff, hlo, hc, hsl, hK⟩ := id F
  exact va_gets hx hb hK.2.2.2.2.2.1 hS hown (hts _ (gw_at hw rfl)) (fun x hx => hx) hd (k F H locs ls hP hS hl)
end RULES
section CALLS
variable {md : MD} {X : CT} {pc : Nat} {L : List (Nat × AV)} {S : List AV} {σ : St}
/-- contracts: from the store σ, with arguments av, the method answers z with a store: P z σ' -/
def WQ (D : va_G) (cA : Nat → ClassId) (ad : Nat → Nat) : St → State → Prop := fun u t => va_P D vwCl (WL ad cA u) t.heap
def PC (D : va_G) (cA : Nat → ClassId) (ad : Nat → Nat) (av : List AV) (σ : St) : Array Value → State → Prop := va_Pc (av.map (cv ad)) (fun U => va_P D vwCl (WL ad cA σ) U.heap ∧ KW D cA ad (AD ad) U U.heap)
def wsM (md : MD) : List Cond := Cond.code (mdY md) (mdC md) (mdN md) (mdR md) :: GW
def rmM (md : MD) : Room := { frames := mdF md, cells := 0, slots := 0, locals := 36 * mdF md }
def QI (P : Int → St → Prop) (D : va_G) (cA : Nat → ClassId) (ad : Nat → Nat) : Array Value → State → Outcome → State → Prop := va_Qi (fun (r : Int32) (u : St) => ∃ z, r = Int32.ofInt z ∧ inI z ∧ P z u) (WQ D cA ad) (AD ad)
def QV (P : St → Prop) (D : va_G) (cA : Nat → ClassId) (ad : Nat → Nat) : Array Value → State → Outcome → State → Prop := va_Qv (fun u : St => P u) (WQ D cA ad) (AD ad)
def CI (md : MD) (av : List AV) (σ : St) (P : Int → St → Prop) : Prop := ∀ (l : Launch) (D : va_G) (cA : Nat → ClassId) (ad : Nat → Nat), Met l (mdY md) (wsM md) (rmM md) (PC D cA ad av σ) (QI P D cA ad) 0 0 (AD ad)
def CV (md : MD) (av : List AV) (σ : St) (P : St → Prop) : Prop := ∀ (l : Launch) (D : va_G) (cA : Nat → ClassId) (ad : Nat → Nat), Met l (mdY md) (wsM md) (rmM md) (PC D cA ad av σ) (QV P D cA ad) 0 0 (AD ad)
def RI (X : CT) (P : Int → St → Prop) : Prop := match X with
  | ((_, _, _, _, s, _, args, below, _, _), (D, cA, ad, A), (k, n, Q)) => Q = MQ below (QI P D cA ad) args s 0 0 (AD ad) ∧ A = AD ad ∧ k = 0 ∧ n = 0
def RV (X : CT) (P : St → Prop) : Prop := match X with
  | ((_, _, _, _, s, _, args, below, _, _), (D, cA, ad, A), (k, n, Q)) => Q = MQ below (QV P D cA ad) args s 0 0 (AD ad) ∧ A = AD ad ∧ k = 0 ∧ n = 0
theorem G.iret {P : Int → St → Prop} {z : Int} (hX : RI X P) (hd : decode (mdC md) pc = .ok (.ireturn, 1)) (hr : mdR md = some .int) (hz : inI z) (hp : P z σ) : G md X pc L [vi z] σ := by
  obtain ⟨⟨l, p, e, R, s, m', args, below, meth, c⟩, ⟨D, cA, ad, A⟩, ⟨kc, n', Q⟩⟩ := X
  obtain ⟨hQ, hA, hk, hn⟩ := hX
  subst hQ; subst hA; subst hk; subst hn
  intro F H locs ls hP hS hl
  obtain ⟨hx, hb, hml, hr', hown, hts, hlk, hff, hlo, hc, hsl, hK⟩ := id F
  exact W.iret hx hb (hr'.trans hr) (fun t ht hW => ⟨⟨_, σ, rfl, ⟨z, rfl, hz, hp⟩, by unfold WQ; rw [ht]; exact hP⟩, hS.F ht⟩) (fun q hq => hS.2.2 q hq) hd hlk
theorem G.zret {P : Int → St → Prop} {z : Int} (hX : RI X P) (hd : decode (mdC md) pc = .ok (.ireturn, 1)) (hr : mdR md = some .boolean) (hz : z = 0 ∨ z = 1) (hp : P z σ) : G md X pc L [vi z] σ := by
  obtain ⟨⟨l, p, e, R, s, m', args, below, meth, c⟩, ⟨D, cA, ad, A⟩, ⟨kc, n', Q⟩⟩ := X
  obtain ⟨hQ, hA, hk, hn⟩ := hX
  subst hQ; subst hA; subst hk; subst hn
  intro F H locs ls hP hS hl
  obtain ⟨hx, hb, hml, hr', hown, hts, hlk, hff, hlo, hc, hsl, hK⟩ := id F
  exact W.zret hx hb (hr'.trans hr) (by rcases hz with rfl | rfl <;> decide) (fun t ht hW => ⟨⟨_, σ, rfl, ⟨z, rfl, by rcases hz with rfl | rfl <;> exact ⟨by decide, by decide⟩, hp⟩, by unfold WQ; rw [ht]; exact hP⟩, hS.F ht⟩) (fun q hq => hS.2.2 q hq) hd hlk
theorem G.vret {P : St → Prop} (hX : RV X P) (hd : decode (mdC md) pc = .ok (.return_, 1)) (hr : mdR md = none) (hp : P σ) : G md X pc L [] σ := by
  obtain ⟨⟨l, p, e, R, s, m', args, below, meth, c⟩, ⟨D, cA, ad, A⟩, ⟨kc, n', Q⟩⟩ := X
  obtain ⟨hQ, hA, hk, hn⟩ := hX
  subst hQ; subst hA; subst hk; subst hn
  intro F H locs ls hP hS hl
  obtain ⟨hx, hb, hml, hr', hown, hts, hlk, hff, hlo, hc, hsl, hK⟩ := id F
  exact W.vret hx hb (hr'.trans hr) (fun t ht hW => ⟨⟨σ, rfl, hp, by unfold WQ; rw [ht]; exact hP⟩, hS.F ht⟩) (fun q hq => hS.2.2 q hq) hd hlk
/-- the locals at a method's start -/
def arL : Nat → List AV → List (Nat × AV)
  | _, [] => []
  | i, v :: vs => (i, v) :: arL (i + 1) vs
theorem arL_args (ad : Nat → Nat) : ∀ (vs : List AV) (i : Nat), lv_args i (vs.map (cv ad)) = (arL i vs).map (fun q => (q.1, cv ad q.2))
  | [], _ => rfl
  | v :: vs, i => by
    have h := arL_args ad vs (i + 1)
    have hc := cv_cat ad v
    simp only [List.map_cons, arL, lv_args, hc]
    rw [← h]
    rfl
theorem arL_len (ad : Nat → Nat) (vs : List AV) : (lg_sl (vs.map (cv ad))).length = vs.length := by
  induction vs with
  | nil => rfl
  | cons v vs ih =>
    have hc := cv_cat ad v
    have h : lg_sl ((v :: vs).map (cv ad)) = lg_sl [cv ad v] ++ lg_sl (vs.map (cv ad)) := by simp [lg_sl]
    rw [h, List.length_append, ih]
    rcases v with z | o | f <;> simp [lg_sl, cv, Value.category] <;> omega
theorem fx_start {md : MD} {l : Launch} {D : va_G} {cA : Nat → ClassId} {ad : Nat → Nat} {av : List AV} {p : Program} {e : Env} {s : State} {m : MethodId} {args : Array Value} {below : List Frame} {meth : Method} {c : Code} {s₁ : State} {Q : State → Prop} (hown : mdO md = (mdY md).cls) (B : BodyLoose p l (mdY md) (headSpec (wsM md) (rmM md)) (mdC md) (mdN md) (mdR md) e s m args below meth c s₁) (hml : c.maxLocals = mdN md) (hK : KW D cA ad (AD ad) s s.heap) :
    Fx md ((l, p, e, (headSpec (wsM md) (rmM md)).room, s, m, args, below, meth, c), (D, cA, ad, AD ad), (0, 0, Q)) := by
  have hts := atoms_spec (ws := wsM md) B.pre
  refine ⟨B.exec, B.bytes, hml, B.returns, ?_, fun w hw => hts w (List.mem_cons_of_mem _ hw), B.notSynchronized, Nat.le_refl _, Nat.le_refl _, Nat.zero_le _, Nat.zero_le _, hK⟩
  rw [hown]
  exact findClass_of_methodNamed B.named
theorem CI_of {md : MD} {av : List AV} {σ : St} {P : Int → St → Prop} (hy : plainName (mdY md).cls = true) (hn : av.length ≤ mdN md) (hown : mdO md = (mdY md).cls) (h : ∀ X, RI X P → G md X 0 (arL 0 av) [] σ) : CI md av σ P := by
  intro l D cA ad
  refine Met.ofW (cc := mdC md) (maxL := mdN md) (ret := mdR md) hy rfl ?_
  intro p e s m args below meth c s₁ B hml hv
  obtain ⟨rfl, hP, hK⟩ := hv
  have hl := lv_entry (av.map (cv ad)) (n := mdN md) (by rw [arL_len]; exact hn)
  rw [lg_entry_eq]
  rw [arL_args] at hl
  exact h ((l, p, e, (headSpec (wsM md) (rmM md)).room, s, m, _, below, meth, c), (D, cA, ad, AD ad), (0, 0, MQ below (QI P D cA ad) _ s 0 0 (AD ad))) ⟨rfl, rfl, rfl, rfl⟩ (fx_start (av := av) hown B hml hK) s.heap [] _ hP va_S.rf hl
theorem CV_of {md : MD} {av : List AV} {σ : St} {P : St → Prop} (hy : plainName (mdY md).cls = true) (hn : av.length ≤ mdN md) (hown : mdO md = (mdY md).cls) (h : ∀ X, RV X P → G md X 0 (arL 0 av) [] σ) : CV md av σ P := by
  intro l D cA ad
  refine Met.ofW (cc := mdC md) (maxL := mdN md) (ret := mdR md) hy rfl ?_
  intro p e s m args below meth c s₁ B hml hv
  obtain ⟨rfl, hP, hK⟩ := hv
  have hl := lv_entry (av.map (cv ad)) (n := mdN md) (by rw [arL_len]; exact hn)
  rw [lg_entry_eq]
  rw [arL_args] at hl
  exact h ((l, p, e, (headSpec (wsM md) (rmM md)).room, s, m, _, below, meth, c), (D, cA, ad, AD ad), (0, 0, MQ below (QV P D cA ad) _ s 0 0 (AD ad))) ⟨rfl, rfl, rfl, rfl⟩ (fx_start (av := av) hown B hml hK) s.heap [] _ hP va_S.rf hl
theorem CI.mono {md : MD} {av : List AV} {σ : St} {P P' : Int → St → Prop} (h : CI md av σ P) (hp : ∀ z u, P z u → P' z u) : CI md av σ P' := by
  intro l D cA ad
  intro p e ha hc hk s m args below hf hfit hheap happ
  obtain ⟨k, o, h1, h2, h3, ⟨⟨⟨r, u, g1, ⟨z, g2, g3, g4⟩, g5⟩, g6⟩, g7⟩⟩ := h l D cA ad p e ha hc hk s m args below hf hfit hheap happ
  exact ⟨k, o, h1, h2, h3, ⟨⟨r, u, g1, ⟨z, g2, g3, hp z u g4⟩, g5⟩, g6⟩, g7⟩
theorem CV.mono {md : MD} {av : List AV} {σ : St} {P P' : St → Prop} (h : CV md av σ P) (hp : ∀ u, P u → P' u) : CV md av σ P' := by
  intro l D cA ad
  intro p e ha hc hk s m args below hf hfit hheap happ
  obtain ⟨k, o, h1, h2, h3, ⟨⟨⟨u, g1, g4, g5⟩, g6⟩, g7⟩⟩ := h l D cA ad p e ha hc hk s m args below hf hfit hheap happ
  exact ⟨k, o, h1, h2, h3, ⟨⟨u, g1, hp u g4, g5⟩, g6⟩, g7⟩
theorem PC_blind {D : va_G} {cA : Nat → ClassId} {ad : Nat → Nat} {av : List AV} {σ : St} : FrameBlind (PC D cA ad av σ) := by
  intro a U g mk q
  obtain ⟨h1, h2, h3⟩ := q
  exact ⟨h1, h2, KW.moved (U := U.calling g mk a) (Vm.Alike.refl U.vm) h3⟩
theorem cats_le {ad : Nat → Nat} {rest : List AV} (h : rest.length ≤ 8) : ((rest.map (cv ad)).map fun v => v.category).sum ≤ 8 := by
  have e : ∀ l : List AV, ((l.map (cv ad)).map fun v => v.category).sum = l.length := by
    intro l
    induction l with
    | nil => rfl
    | cons a l ih => simp only [List.map_cons, List.sum_cons, ih, cv_cat, List.length_cons]; omega
  rw [e]; exact h
def okM (md2 : MD) (n : Nat) : Prop := Cond.initialized (mdY md2).cls ∈ GW ∧ Cond.code (mdY md2) (mdC md2) (mdN md2) (mdR md2) ∈ GW ∧ (mdY md2).cls ≠ "java/lang/invoke/MethodHandle" ∧ (mdY md2).cls ≠ "java/lang/invoke/VarHandle" ∧ (parseMethodDescriptor (mdY md2).desc).map (fun d => d.parameters.length) = some n ∧ mdN md2 ≤ 17
def vlk (own : String) (idx : Nat) (md2 : MD) (n : Nat) : Prop := Cond.methodLink own idx (mdY md2) ∈ GW ∧ Cond.instanceMethod (mdY md2) ∈ GW ∧ Cond.selects (mdY md2).cls (mdY md2) (mdY md2) ∈ GW ∧ okM md2 n
def slk (own : String) (idx : Nat) (md2 : MD) (n : Nat) : Prop := Cond.methodLink own idx (mdY md2) ∈ GW ∧ Cond.static (mdY md2) ∈ GW ∧ okM md2 n
theorem gw_goodIn {ws : List Cond} (h : ∀ w ∈ ws, w ∈ GW) : GoodIn GW ws := fun w hw => ⟨h w hw, good_of_word (gw_good (h w hw))⟩
theorem KW.at {D : va_G} {cA : Nat → ClassId} {ad : Nat → Nat} {A : Addr → Prop} {s U : State} {H : Heap} {locs : List Loc} (hK : KW D cA ad A s s.heap) (hS : va_S A s.heap H locs) (hU : U.heap = H) (hW : s.vm.Alike U.vm) : KW D cA ad (AD ad) U U.heap := by
  rw [hU]
  exact KW.moved hW (KW.narrow (KW.kept (fun a h1 h2 => hS.2.1 a h1 h2) hK))
theorem cwVm {md md2 : MD} {R : Room} {s : State} {args : Array Value} {idx n : Nat} (hts : ∀ w ∈ GW, w.before args s = true) (hw : vlk (mdO md) idx md2 n) (hf1 : mdF md2 + 1 ≤ mdF md) (hff : mdF md ≤ R.frames) (hlo : 36 * mdF md ≤ R.locals) :
    CallW R s args (mdO md) (mdY md2).cls idx (mdY md2) (mdC md2) (mdN md2) (mdR md2) (wsM md2) (rmM md2) 0 0 n := by
  obtain ⟨w1, w2, w3, w4, w5, w6, w7, w8, w9⟩ := hw
  refine cwV n hts (gw_goodIn (fun w h => ?_)) rfl rfl rfl ⟨rfl, w6, w7, w8⟩ ⟨?_, ?_⟩
  · unfold wsV wsM at h
    simp only [List.mem_append, List.mem_cons, List.not_mem_nil, or_false] at h
    rcases h with (rfl | rfl | rfl | rfl) | (rfl | h)
    · exact w1
    · exact w2
    · exact w3
    · exact w4
    · exact w5
    · exact h
  · show mdF md2 + 1 ≤ R.frames
    omega
  · show 8 + (mdN md2 + 11) + 36 * mdF md2 ≤ R.locals
    omega
theorem cwSm {md md2 : MD} {R : Room} {s : State} {args : Array Value} {idx n : Nat} (hts : ∀ w ∈ GW, w.before args s = true) (hw : slk (mdO md) idx md2 n) (hf1 : mdF md2 + 1 ≤ mdF md) (hff : mdF md ≤ R.frames) (hlo : 36 * mdF md ≤ R.locals) :
    CallB R s args (mdO md) idx (mdY md2) (mdC md2) (mdN md2) (mdR md2) (wsM md2) (rmM md2) 0 0 n ∧ (Cond.static (mdY md2)).before args s = true := by
  obtain ⟨w1, w2, w4, w5, w6, w7, w8, w9⟩ := hw
  refine va_cwS n hts (gw_goodIn (fun w h => ?_)) rfl rfl rfl ⟨w6, w7, w8⟩ ⟨?_, ?_⟩
  · unfold va_wsS wsM at h
    simp only [List.mem_append, List.mem_cons, List.not_mem_nil, or_false] at h
    rcases h with (rfl | rfl | rfl) | (rfl | h)
    · exact w1
    · exact w2
    · exact w4
    · exact w5
    · exact h
  · show mdF md2 + 1 ≤ R.frames
    omega
  · show 8 + (mdN md2 + 11) + 36 * mdF md2 ≤ R.locals
    omega
def clN (ci : Nat) : String := (vwCl.getD ci ("", fun _ => ("", "", "", false), 0)).1
theorem recvO {D : va_G} {cA : Nat → ClassId} {ad : Nat → Nat} {σ : St} {s : State} {H : Heap} {o ci : Nat} {fs : List (Nat × Nat)} {C : String} (hK : va_K D vwCl (tysA cA) s) (hP : va_P D vwCl (WL ad cA σ) H) (hs : shp o = (0, ci, fs)) (hc : clN ci = C) (hci : ci < 10) : ∃ cell : Cell, H[ad o]? = some cell ∧ cell.vm.isStatics = false ∧ s.vm.findClass C = some cell.cls := by
  obtain ⟨h1, h2, h3⟩ := sh_arr (ad := ad) (cA := cA) (σ := σ) hs (by decide)
  have e : vwCl[ci]? = some (vwCl.getD ci ("", fun _ => ("", "", "", false), 0)) := by
    rw [List.getD_eq_getElem?_getD, List.getElem?_eq_getElem (show ci < vwCl.length from hci)]
    rfl
  subst hc
  exact va_recv hK hP e h3
theorem G.callVI {md2 : MD} {idx o ci : Nat} {fs : List (Nat × Nat)} {as rest S0 : List AV} {P : Int → St → Prop} (hd : decode (mdC md) pc = .ok (.invokevirtual idx, 3)) (hS0 : S0 = as.reverse ++ vr o :: rest) (hw : vlk (mdO md) idx md2 as.length) (hf1 : mdF md2 + 1 ≤ mdF md) (hs : shp o = (0, ci, fs)) (hc : clN ci = (mdY md2).cls) (hci : ci < 10) (hr : rest.length ≤ 8)
    (hM : CI md2 (vr o :: as) σ P) (k : ∀ (z : Int) (σ' : St), inI z → P z σ' → G md X (pc + 3) L (vi z :: rest) σ') : G md X pc L S0 σ := by
  subst hS0
  obtain ⟨⟨l, p, e, R, s, m', args, below, meth, c⟩, ⟨D, cA, ad, A⟩, ⟨kc, n', Q⟩⟩ := X
  intro F H locs ls hP hS hl
  obtain ⟨hx, hb, hml, hr', hown, hts, hlk, hff, hlo, hcc, hsl, hK⟩ := id F
  have hAD : ∀ q, AD ad q → A q := fun q ⟨o, ho, e⟩ => e ▸ hK.2.2.1 o ho
  rw [show (as.reverse ++ vr o :: rest).map (cv ad) = (as.map (cv ad)).reverse ++ Value.ref (ad o) :: rest.map (cv ad) by simp [cv]]
  refine va_calli (va_runV (As := as.map (cv ad)) (rest := rest.map (cv ad)) ⟨hx, hb, hml, hown, hts⟩ (hM l D cA ad) (cwVm hts hw hf1 hff hlo) ⟨PC_blind, recvO hK.1 hP hs hc hci, fun U hU hW => ⟨rfl, by rw [hU]; exact hP, hK.at hS hU hW.alike⟩⟩ rfl (by rw [List.length_map]) hl.1 rfl (lv_room (cats_le hr)) hd ⟨hcc, hsl⟩) hS (fun q _ h => hAD q h) hAD (fun r u t H1 locs1 ht hvm hp hB hz1 hk1 hS1 => ?_)
  obtain ⟨z, rfl, hz, hpz⟩ := hp
  unfold WQ at hB
  rw [ht] at hB
  exact k z u hz hpz F H1 locs1 ls hB hS1 hl
theorem G.callVV {md2 : MD} {idx o ci : Nat} {fs : List (Nat × Nat)} {as rest S0 : List AV} {P : St → Prop} (hd : decode (mdC md) pc = .ok (.invokevirtual idx, 3)) (hS0 : S0 = as.reverse ++ vr o :: rest) (hw : vlk (mdO md) idx md2 as.length) (hf1 : mdF md2 + 1 ≤ mdF md) (hs : shp o = (0, ci, fs)) (hc : clN ci = (mdY md2).cls) (hci : ci < 10) (hr : rest.length ≤ 8)
    (hM : CV md2 (vr o :: as) σ P) (k : ∀ (σ' : St), P σ' → G md X (pc + 3) L rest σ') : G md X pc L S0 σ := by
  subst hS0
  obtain ⟨⟨l, p, e, R, s, m', args, below, meth, c⟩, ⟨D, cA, ad, A⟩, ⟨kc, n', Q⟩⟩ := X
  intro F H locs ls hP hS hl
  obtain ⟨hx, hb, hml, hr', hown, hts, hlk, hff, hlo, hcc, hsl, hK⟩ := id F
  have hAD : ∀ q, AD ad q → A q := fun q ⟨o, ho, e⟩ => e ▸ hK.2.2.1 o ho
  rw [show (as.reverse ++ vr o :: rest).map (cv ad) = (as.map (cv ad)).reverse ++ Value.ref (ad o) :: rest.map (cv ad) by simp [cv]]
  refine va_callv (va_runV (As := as.map (cv ad)) (rest := rest.map (cv ad)) ⟨hx, hb, hml, hown, hts⟩ (hM l D cA ad) (cwVm hts hw hf1 hff hlo) ⟨PC_blind, recvO hK.1 hP hs hc hci, fun U hU hW => ⟨rfl, by rw [hU]; exact hP, hK.at hS hU hW.alike⟩⟩ rfl (by rw [List.length_map]) hl.1 rfl (lv_room (cats_le hr)) hd ⟨hcc, hsl⟩) hS (fun q _ h => hAD q h) hAD (fun u t H1 locs1 ht hvm hp hB hz1 hk1 hS1 => ?_)
  unfold WQ at hB
  rw [ht] at hB
  exact k u hp F H1 locs1 ls hB hS1 hl
theorem G.callSI {md2 : MD} {idx : Nat} {as rest S0 : List AV} {P : Int → St → Prop} (hd : decode (mdC md) pc = .ok (.invokestatic idx, 3)) (hS0 : S0 = as.reverse ++ rest) (hw : slk (mdO md) idx md2 as.length) (hf1 : mdF md2 + 1 ≤ mdF md) (hr : rest.length ≤ 8)
    (hM : CI md2 as σ P) (k : ∀ (z : Int) (σ' : St), inI z → P z σ' → G md X (pc + 3) L (vi z :: rest) σ') : G md X pc L S0 σ := by
  subst hS0
  obtain ⟨⟨l, p, e, R, s, m', args, below, meth, c⟩, ⟨D, cA, ad, A⟩, ⟨kc, n', Q⟩⟩ := X
  intro F H locs ls hP hS hl
  obtain ⟨hx, hb, hml, hr', hown, hts, hlk, hff, hlo, hcc, hsl, hK⟩ := id F
  have hAD : ∀ q, AD ad q → A q := fun q ⟨o, ho, e⟩ => e ▸ hK.2.2.1 o ho
  rw [show (as.reverse ++ rest).map (cv ad) = (as.map (cv ad)).reverse ++ rest.map (cv ad) by simp]
  refine va_calli (va_runS (As := as.map (cv ad)) (rest := rest.map (cv ad)) ⟨hx, hb, hml, hown, hts⟩ (hM l D cA ad) (cwSm hts hw hf1 hff hlo) ⟨PC_blind, fun U hU hW => ⟨rfl, by rw [hU]; exact hP, hK.at hS hU hW.alike⟩⟩ rfl (by rw [List.length_map]) hl.1 rfl (lv_room (cats_le hr)) hd ⟨hcc, hsl⟩) hS (fun q _ h => hAD q h) hAD (fun r u t H1 locs1 ht hvm hp hB hz1 hk1 hS1 => ?_)
  obtain ⟨z, rfl, hz, hpz⟩ := hp
  unfold WQ at hB
  rw [ht] at hB
  exact k z u hz hpz F H1 locs1 ls hB hS1 hl
theorem G.callSV {md2 : MD} {idx : Nat} {as rest S0 : List AV} {P : St → Prop} (hd : decode (mdC md) pc = .ok (.invokestatic idx, 3)) (hS0 : S0 = as.reverse ++ rest) (hw : slk (mdO md) idx md2 as.length) (hf1 : mdF md2 + 1 ≤ mdF md) (hr : rest.length ≤ 8)
    (hM : CV md2 as σ P) (k : ∀ (σ' : St), P σ' → G md X (pc + 3) L rest σ') : G md X pc L S0 σ := by
  subst hS0
  obtain ⟨⟨l, p, e, R, s, m', args, below, meth, c⟩, ⟨D, cA, ad, A⟩, ⟨kc, n', Q⟩⟩ := X
  intro F H locs ls hP hS hl
  obtain ⟨hx, hb, hml, hr', hown, hts, hlk, hff, hlo, hcc, hsl, hK⟩ := id F
  have hAD : ∀ q, AD ad q → A q := fun q ⟨o, ho, e⟩ => e ▸ hK.2.2.1 o ho
  rw [show (as.reverse ++ rest).map (cv ad) = (as.map (cv ad)).reverse ++ rest.map (cv ad) by simp]
  refine va_callv (va_runS (As := as.map (cv ad)) (rest := rest.map (cv ad)) ⟨hx, hb, hml, hown, hts⟩ (hM l D cA ad) (cwSm hts hw hf1 hff hlo) ⟨PC_blind, fun U hU hW => ⟨rfl, by rw [hU]; exact hP, hK.at hS hU hW.alike⟩⟩ rfl (by rw [List.length_map]) hl.1 rfl (lv_room (cats_le hr)) hd ⟨hcc, hsl⟩) hS (fun q _ h => hAD q h) hAD (fun u t H1 locs1 ht hvm hp hB hz1 hk1 hS1 => ?_)
  unfold WQ at hB
  rw [ht] at hB
  exact k u hp F H1 locs1 ls hB hS1 hl
theorem G.acopy {i0 idx o1 n1 o2 n2 : Nat} {sp dp n : Int} (hd : decode (mdC md) pc = .ok (.invokestatic idx, 3)) (hw : lw_tbl[i0]? = some (.methodLink (mdO md) idx arraycopyName)) (hf1 : 1 ≤ mdF md) (h1 : shp o1 = (1, n1, [])) (h2 : shp o2 = (1, n2, [])) (hsp : 0 ≤ sp) (hdp : 0 ≤ dp) (hn : 0 ≤ n) (hs1 : sp + n ≤ n1) (hs2 : dp + n ≤ n2) (hr : S.length ≤ 8)
    (k : G md X (pc + 3) L S (cp σ o1 sp o2 dp n)) : G md X pc L (vi n :: vi dp :: vr o2 :: vi sp :: vr o1 :: S) σ := by
  obtain ⟨⟨l, p, e, R, s, m', args, below, meth, c⟩, ⟨D, cA, ad, A⟩, ⟨kc, n', Q⟩⟩ := X
  intro F H locs ls hP hS hl
  obtain ⟨hx, hb, hml, hr', hown, hts, hlk, hff, hlo, hcc, hsl, hK⟩ := id F
  obtain ⟨a1, a2, a3⟩ := sh_arr (ad := ad) (cA := cA) (σ := σ) h1 (by decide)
  obtain ⟨b1, b2, b3⟩ := sh_arr (ad := ad) (cA := cA) (σ := σ) h2 (by decide)
  have e1 := oi_cl hsp (by omega)
  have e2 := oi_cl hdp (by omega)
  have e3 := oi_cl hn (by omega)
  have nn : ∀ z : Int, 0 ≤ z → z < 2147483648 → ¬ Int32.ofInt z < 0 := fun z h h' q => by
    rw [oi_0, oi_lt ⟨by omega, h'⟩ inI_0] at q
    omega
  have h8 := cats_le (ad := ad) hr
  have h9 : nativeFrameWords "java/lang/System" "arraycopy" 5 ≤ 16 := by decide +kernel
  refine va_copyi hx hb (hml.trans hl.1.symm) hown (hts _ (gw_at hw rfl)) (hts (.native arraycopyName) (gw_at (i := 346) (by decide +kernel) rfl)) (hts (.static arraycopyName) (gw_at (i := 345) (by decide +kernel) rfl)) (hts (.initialized "java/lang/System") (gw_at (i := 76) (by decide +kernel) rfl)) hK.1 hP (wl_D hK) hS o1 o2 0 0 a3 b3 rfl rfl rfl (nn _ hsp (by omega)) (nn _ hdp (by omega)) (nn _ hn (by omega)) (by rw [e1, e3]; show _ ≤ n1; omega) (by rw [e2, e3]; show _ ≤ n2; omega) (fun i hi => rfl) (by omega) (by omega) hd (fun H1 locs1 hP1 hD1 hS1 => ?_)
  rw [wl_set (cp_ne σ o1 sp o2 dp n) (by
    rw [h2]
    show _ = Sum.inl (cA 0, n2, Sum.inl _)
    congr 4
    rw [e1, e2, e3]
    funext j
    unfold va_cpy cp
    by_cases hj : dp.toNat ≤ j ∧ j < dp.toNat + n.toNat
    · rw [if_pos hj, if_pos ⟨rfl, by omega, by omega⟩]
      have e4 : ((sp.toNat + (j - dp.toNat) : Nat) : Int) = (j : Int) - dp + sp := by omega
      rw [← e4]
    · rw [if_neg hj, if_neg (by omega)])] at hP1
  exact k F H1 locs1 ls hP1 hS1 hl
end CALLS
section MORE
variable {md : MD} {X : CT} {pc : Nat} {L : List (Nat × AV)} {S : List AV} {σ : St}
theorem G.iand1 {x : Int} (hd : decode (mdC md) pc = .ok (.iand, 1)) (k : G md X (pc + 1) L (vi (x % 2) :: S) σ) : G md X pc L (vi 1 :: vi x :: S) σ := G.iandm 1 (by decide) (by decide) hd k
theorem G.iand3 {x : Int} (hd : decode (mdC md) pc = .ok (.iand, 1)) (k : G md X (pc + 1) L (vi (x % 4) :: S) σ) : G md X pc L (vi 3 :: vi x :: S) σ := G.iandm 2 (by decide) (by decide) hd k
theorem G.iand31 {x : Int} (hd : decode (mdC md) pc = .ok (.iand, 1)) (k : G md X (pc + 1) L (vi (x % 32) :: S) σ) : G md X pc L (vi 31 :: vi x :: S) σ := G.iandm 5 (by decide) (by decide) hd k
theorem G.ishr1 {x : Int} (hd : decode (mdC md) pc = .ok (.ishr, 1)) (hx : 0 ≤ x ∧ x < 2147483648) (k : G md X (pc + 1) L (vi (x / 2) :: S) σ) : G md X pc L (vi 1 :: vi x :: S) σ := G.ishr hd hx ⟨by decide, by decide⟩ k
theorem G.i2f {x : Int} (hd : decode (mdC md) pc = .ok (.i2f, 1)) (k : G md X (pc + 1) L (vf (FP.i2f (Int32.ofInt x)) :: S) σ) : G md X pc L (vi x :: S) σ := by
  obtain ⟨⟨l, p, e, R, s, m', args, below, meth, c⟩, ⟨D, cA, ad, A⟩, ⟨kc, n', Q⟩⟩ := X
  intro F H locs ls hP hS hl
  exact lv_i2f F.1 F.2.1 hd (k F H locs ls hP hS hl)
theorem G.f2i {x : UInt32} (hd : decode (mdC md) pc = .ok (.f2i, 1)) (k : G md X (pc + 1) L (vi (FP.f2i x).toInt :: S) σ) : G md X pc L (vf x :: S) σ := by
  obtain ⟨⟨l, p, e, R, s, m', args, below, meth, c⟩, ⟨D, cA, ad, A⟩, ⟨kc, n', Q⟩⟩ := X
  intro F H locs ls hP hS hl
  refine lv_f2i F.1 F.2.1 hd ?_
  rw [← oi_as (FP.f2i x)]
  exact k F H locs ls hP hS hl
theorem G.fmul {x y : UInt32} (hd : decode (mdC md) pc = .ok (.fmul, 1)) (hn : vf_n32 (FP.fmul x y)) (k : G md X (pc + 1) L (vf (FP.fmul x y) :: S) σ) : G md X pc L (vf y :: vf x :: S) σ := by
  obtain ⟨⟨l, p, e, R, s, m', args, below, meth, c⟩, ⟨D, cA, ad, A⟩, ⟨kc, n', Q⟩⟩ := X
  intro F H locs ls hP hS hl
  exact lv_fmul F.1 F.2.1 hd hn (k F H locs ls hP hS hl)
theorem G.fadd {x y : UInt32} (hd : decode (mdC md) pc = .ok (.fadd, 1)) (hn : vf_n32 (FP.fadd x y)) (k : G md X (pc + 1) L (vf (FP.fadd x y) :: S) σ) : G md X pc L (vf y :: vf x :: S) σ := by
  obtain ⟨⟨l, p, e, R, s, m', args, below, meth, c⟩, ⟨D, cA, ad, A⟩, ⟨kc, n', Q⟩⟩ := X
  intro F H locs ls hP hS hl
  exact lv_fadd F.1 F.2.1 hd hn (k F H locs ls hP hS hl)
theorem st_0 : isSt 0 := ⟨by decide, by decide⟩
theorem st_6 : isSt 6 := ⟨by decide, by decide⟩
theorem st_im {i : Int} (h : 0 ≤ i ∧ i < 2) : isSt (6 * i.toNat + 12) := ⟨by omega, by omega⟩
theorem st_pa {i : Int} (h : 0 ≤ i ∧ i < 6) : isSt (6 * i.toNat + 24) := ⟨by omega, by omega⟩
theorem bk_71 : isBk 71 := Or.inl rfl
theorem bk_76 : isBk 76 := Or.inr rfl
theorem mx_85 : isMx 85 := Or.inr (Or.inr (Or.inl rfl))
theorem mx_86 : isMx 86 := Or.inr (Or.inr (Or.inr rfl))
theorem G.callSNI {md2 : MD} {idx : Nat} {host : String} {as rest S0 : List AV} {P : Int → St → Prop} (hd : decode (mdC md) pc = .ok (.invokestatic idx, 3)) (hS0 : S0 = as.reverse ++ rest) (hw0 : Cond.methodLinkNest (mdO md) idx (mdY md2) host ∈ GW) (hw1 : Cond.static (mdY md2) ∈ GW) (hw : okM md2 as.length) (hf1 : mdF md2 + 1 ≤ mdF md) (hr : rest.length ≤ 8)
    (hM : CI md2 as σ P) (k : ∀ (z : Int) (σ' : St), inI z → P z σ' → G md X (pc + 3) L (vi z :: rest) σ') : G md X pc L S0 σ := by
  subst hS0
  obtain ⟨⟨l, p, e, R, s, m', args, below, meth, c⟩, ⟨D, cA, ad, A⟩, ⟨kc, n', Q⟩⟩ := X
  intro F H locs ls hP hS hl
  obtain ⟨hx, hb, hml, hr', hown, hts, hlk, hff, hlo, hcc, hsl, hK⟩ := id F
  have hAD : ∀ q, AD ad q → A q := fun q ⟨o, ho, e⟩ => e ▸ hK.2.2.1 o ho
  rw [show (as.reverse ++ rest).map (cv ad) = (as.map (cv ad)).reverse ++ rest.map (cv ad) by simp]
  obtain ⟨w4, w5, w6, w7, w8, w9⟩ := hw
  have hcb : va_CN R s args (mdO md) idx (mdY md2) host (mdC md2) (mdN md2) (mdR md2) (wsM md2) (rmM md2) 0 0 as.length := by
    refine ⟨⟨rfl, rfl, by show mdF md2 + 1 ≤ R.frames; omega, by show 8 + (mdN md2 + 11) + 36 * mdF md2 ≤ R.locals; omega, pay_in hts (gw_goodIn (fun w h => ?_)), List.mem_cons_self⟩, hts _ w5, hts _ w4, ⟨w6, w7⟩, fun sig h => ?_, hts _ hw0⟩
    · unfold wsM at h
      rcases List.mem_cons.mp h with rfl | h
      · exact w5
      · exact h
    · rw [h] at w8
      exact (Option.some.inj w8).symm
  refine va_calli (va_runSN (As := as.map (cv ad)) (rest := rest.map (cv ad)) ⟨hx, hb, hml, hown, hts⟩ (hM l D cA ad) ⟨hcb, hts _ hw1, trivial⟩ ⟨PC_blind, fun U hU hW => ⟨rfl, by rw [hU]; exact hP, hK.at hS hU hW.alike⟩⟩ rfl (by rw [List.length_map]) hl.1 rfl (lv_room (cats_le hr)) hd ⟨hcc, hsl⟩) hS (fun q _ h => hAD q h) hAD (fun r u t H1 locs1 ht hvm hp hB hz1 hk1 hS1 => ?_)
  obtain ⟨z, rfl, hz, hpz⟩ := hp
  unfold WQ at hB
  rw [ht] at hB
  exact k z u hz hpz F H1 locs1 ls hB hS1 hl
end MORE
end
