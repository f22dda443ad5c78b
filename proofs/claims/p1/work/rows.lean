section
-- ===== PART A: goes FIRST, ahead of the names: the tables' words, and 'selects' of the private methods out of them =====
/-- a private method of a class that the tables say can be made, by its rows of tables_1 -/
def lw_okq (q : MethodName × Nat) : Prop := (q.1.cls ≠ "java/lang/invoke/MethodHandle" ∧ q.1.cls ≠ "java/lang/invoke/VarHandle") ∧ Cond.instantiable q.1.cls q.2 ∈ tables_1 ∧ Cond.privateMethod q.1 ∈ tables_1 ∧ Cond.instanceMethod q.1 ∈ tables_1
theorem lw_p0 : lw_okq (⟨"SaidTwice$Tokens", "append", "(I)V"⟩, 6) := ⟨⟨by decide +kernel, by decide +kernel⟩, List.mem_of_getElem? (i := 25) (by decide +kernel), List.mem_of_getElem? (i := 230) (by decide +kernel), List.mem_of_getElem? (i := 231) (by decide +kernel)⟩
theorem lw_p1 : lw_okq (⟨"SaidTwice$Grammar", "readText", "()Z"⟩, 2) := ⟨⟨by decide +kernel, by decide +kernel⟩, List.mem_of_getElem? (i := 80) (by decide +kernel), List.mem_of_getElem? (i := 239) (by decide +kernel), List.mem_of_getElem? (i := 240) (by decide +kernel)⟩
theorem lw_p2 : lw_okq (⟨"SaidTwice$Tokens", "start", "()V"⟩, 6) := ⟨⟨by decide +kernel, by decide +kernel⟩, List.mem_of_getElem? (i := 25) (by decide +kernel), List.mem_of_getElem? (i := 243) (by decide +kernel), List.mem_of_getElem? (i := 244) (by decide +kernel)⟩
theorem lw_p3 : lw_okq (⟨"SaidTwice$Tokens", "advance", "()V"⟩, 6) := ⟨⟨by decide +kernel, by decide +kernel⟩, List.mem_of_getElem? (i := 25) (by decide +kernel), List.mem_of_getElem? (i := 247) (by decide +kernel), List.mem_of_getElem? (i := 248) (by decide +kernel)⟩
theorem lw_p4 : lw_okq (⟨"SaidTwice$Tokens", "readWord", "()V"⟩, 6) := ⟨⟨by decide +kernel, by decide +kernel⟩, List.mem_of_getElem? (i := 25) (by decide +kernel), List.mem_of_getElem? (i := 260) (by decide +kernel), List.mem_of_getElem? (i := 261) (by decide +kernel)⟩
theorem lw_p5 : lw_okq (⟨"SaidTwice$Tokens", "spells", "(Ljava/lang/String;)Z"⟩, 6) := ⟨⟨by decide +kernel, by decide +kernel⟩, List.mem_of_getElem? (i := 25) (by decide +kernel), List.mem_of_getElem? (i := 265) (by decide +kernel), List.mem_of_getElem? (i := 266) (by decide +kernel)⟩
theorem lw_p6 : lw_okq (⟨"SaidTwice$Tokens", "readNumber", "()V"⟩, 6) := ⟨⟨by decide +kernel, by decide +kernel⟩, List.mem_of_getElem? (i := 25) (by decide +kernel), List.mem_of_getElem? (i := 326) (by decide +kernel), List.mem_of_getElem? (i := 327) (by decide +kernel)⟩
theorem lw_p7 : lw_okq (⟨"SaidTwice$Code", "clear", "()V"⟩, 6) := ⟨⟨by decide +kernel, by decide +kernel⟩, List.mem_of_getElem? (i := 55) (by decide +kernel), List.mem_of_getElem? (i := 333) (by decide +kernel), List.mem_of_getElem? (i := 334) (by decide +kernel)⟩
theorem lw_p8 : lw_okq (⟨"SaidTwice$Grammar", "readToken", "(I)Z"⟩, 2) := ⟨⟨by decide +kernel, by decide +kernel⟩, List.mem_of_getElem? (i := 80) (by decide +kernel), List.mem_of_getElem? (i := 337) (by decide +kernel), List.mem_of_getElem? (i := 338) (by decide +kernel)⟩
theorem lw_p9 : lw_okq (⟨"SaidTwice$Grammar", "readOr", "(I)Z"⟩, 2) := ⟨⟨by decide +kernel, by decide +kernel⟩, List.mem_of_getElem? (i := 80) (by decide +kernel), List.mem_of_getElem? (i := 342) (by decide +kernel), List.mem_of_getElem? (i := 343) (by decide +kernel)⟩
theorem lw_p10 : lw_okq (⟨"SaidTwice$Grammar", "readAnd", "(I)Z"⟩, 2) := ⟨⟨by decide +kernel, by decide +kernel⟩, List.mem_of_getElem? (i := 80) (by decide +kernel), List.mem_of_getElem? (i := 346) (by decide +kernel), List.mem_of_getElem? (i := 347) (by decide +kernel)⟩
theorem lw_p11 : lw_okq (⟨"SaidTwice$Grammar", "readNot", "(I)Z"⟩, 2) := ⟨⟨by decide +kernel, by decide +kernel⟩, List.mem_of_getElem? (i := 80) (by decide +kernel), List.mem_of_getElem? (i := 350) (by decide +kernel), List.mem_of_getElem? (i := 351) (by decide +kernel)⟩
theorem lw_p12 : lw_okq (⟨"SaidTwice$Grammar", "readCompared", "(I)Z"⟩, 2) := ⟨⟨by decide +kernel, by decide +kernel⟩, List.mem_of_getElem? (i := 80) (by decide +kernel), List.mem_of_getElem? (i := 354) (by decide +kernel), List.mem_of_getElem? (i := 355) (by decide +kernel)⟩
theorem lw_p13 : lw_okq (⟨"SaidTwice$Grammar", "readSum", "(I)Z"⟩, 2) := ⟨⟨by decide +kernel, by decide +kernel⟩, List.mem_of_getElem? (i := 80) (by decide +kernel), List.mem_of_getElem? (i := 358) (by decide +kernel), List.mem_of_getElem? (i := 359) (by decide +kernel)⟩
theorem lw_p14 : lw_okq (⟨"SaidTwice$Grammar", "readTerm", "(I)Z"⟩, 2) := ⟨⟨by decide +kernel, by decide +kernel⟩, List.mem_of_getElem? (i := 80) (by decide +kernel), List.mem_of_getElem? (i := 362) (by decide +kernel), List.mem_of_getElem? (i := 363) (by decide +kernel)⟩
theorem lw_p15 : lw_okq (⟨"SaidTwice$Grammar", "readOne", "(I)Z"⟩, 2) := ⟨⟨by decide +kernel, by decide +kernel⟩, List.mem_of_getElem? (i := 80) (by decide +kernel), List.mem_of_getElem? (i := 366) (by decide +kernel), List.mem_of_getElem? (i := 367) (by decide +kernel)⟩
def lw_privs_1 : List (MethodName × Nat) := [(⟨"SaidTwice$Tokens", "append", "(I)V"⟩, 6), (⟨"SaidTwice$Grammar", "readText", "()Z"⟩, 2), (⟨"SaidTwice$Tokens", "start", "()V"⟩, 6), (⟨"SaidTwice$Tokens", "advance", "()V"⟩, 6), (⟨"SaidTwice$Tokens", "readWord", "()V"⟩, 6), (⟨"SaidTwice$Tokens", "spells", "(Ljava/lang/String;)Z"⟩, 6), (⟨"SaidTwice$Tokens", "readNumber", "()V"⟩, 6), (⟨"SaidTwice$Code", "clear", "()V"⟩, 6), (⟨"SaidTwice$Grammar", "readToken", "(I)Z"⟩, 2), (⟨"SaidTwice$Grammar", "readOr", "(I)Z"⟩, 2), (⟨"SaidTwice$Grammar", "readAnd", "(I)Z"⟩, 2), (⟨"SaidTwice$Grammar", "readNot", "(I)Z"⟩, 2), (⟨"SaidTwice$Grammar", "readCompared", "(I)Z"⟩, 2), (⟨"SaidTwice$Grammar", "readSum", "(I)Z"⟩, 2), (⟨"SaidTwice$Grammar", "readTerm", "(I)Z"⟩, 2), (⟨"SaidTwice$Grammar", "readOne", "(I)Z"⟩, 2)]
theorem lw_r1 : ∀ q ∈ lw_privs_1, lw_okq q := List.forall_mem_cons.mpr ⟨lw_p0, List.forall_mem_cons.mpr ⟨lw_p1, List.forall_mem_cons.mpr ⟨lw_p2, List.forall_mem_cons.mpr ⟨lw_p3, List.forall_mem_cons.mpr ⟨lw_p4, List.forall_mem_cons.mpr ⟨lw_p5, List.forall_mem_cons.mpr ⟨lw_p6, List.forall_mem_cons.mpr ⟨lw_p7, List.forall_mem_cons.mpr ⟨lw_p8, List.forall_mem_cons.mpr ⟨lw_p9, List.forall_mem_cons.mpr ⟨lw_p10, List.forall_mem_cons.mpr ⟨lw_p11, List.forall_mem_cons.mpr ⟨lw_p12, List.forall_mem_cons.mpr ⟨lw_p13, List.forall_mem_cons.mpr ⟨lw_p14, List.forall_mem_cons.mpr ⟨lw_p15, fun _ h => absurd h List.not_mem_nil⟩⟩⟩⟩⟩⟩⟩⟩⟩⟩⟩⟩⟩⟩⟩⟩
theorem lw_p16 : lw_okq (⟨"SaidTwice$Code", "add", "(II)V"⟩, 6) := ⟨⟨by decide +kernel, by decide +kernel⟩, List.mem_of_getElem? (i := 55) (by decide +kernel), List.mem_of_getElem? (i := 370) (by decide +kernel), List.mem_of_getElem? (i := 371) (by decide +kernel)⟩
theorem lw_p17 : lw_okq (⟨"SaidTwice$Grammar", "readBracket", "(I)Z"⟩, 2) := ⟨⟨by decide +kernel, by decide +kernel⟩, List.mem_of_getElem? (i := 80) (by decide +kernel), List.mem_of_getElem? (i := 375) (by decide +kernel), List.mem_of_getElem? (i := 376) (by decide +kernel)⟩
theorem lw_p18 : lw_okq (⟨"SaidTwice$Code", "endPart", "(I)V"⟩, 6) := ⟨⟨by decide +kernel, by decide +kernel⟩, List.mem_of_getElem? (i := 55) (by decide +kernel), List.mem_of_getElem? (i := 379) (by decide +kernel), List.mem_of_getElem? (i := 380) (by decide +kernel)⟩
theorem lw_p19 : lw_okq (⟨"SaidTwice$Texts", "add", "(LSaidTwice$Code;)V"⟩, 4) := ⟨⟨by decide +kernel, by decide +kernel⟩, List.mem_of_getElem? (i := 93) (by decide +kernel), List.mem_of_getElem? (i := 383) (by decide +kernel), List.mem_of_getElem? (i := 384) (by decide +kernel)⟩
theorem lw_p20 : lw_okq (⟨"SaidTwice$Code", "truths", "(II)I"⟩, 6) := ⟨⟨by decide +kernel, by decide +kernel⟩, List.mem_of_getElem? (i := 55) (by decide +kernel), List.mem_of_getElem? (i := 387) (by decide +kernel), List.mem_of_getElem? (i := 388) (by decide +kernel)⟩
theorem lw_p21 : lw_okq (⟨"SaidTwice$Code", "valueOf", "(III)I"⟩, 6) := ⟨⟨by decide +kernel, by decide +kernel⟩, List.mem_of_getElem? (i := 55) (by decide +kernel), List.mem_of_getElem? (i := 391) (by decide +kernel), List.mem_of_getElem? (i := 392) (by decide +kernel)⟩
theorem lw_p22 : lw_okq (⟨"SaidTwice$Code", "step", "(IIII)V"⟩, 6) := ⟨⟨by decide +kernel, by decide +kernel⟩, List.mem_of_getElem? (i := 55) (by decide +kernel), List.mem_of_getElem? (i := 396) (by decide +kernel), List.mem_of_getElem? (i := 397) (by decide +kernel)⟩
theorem lw_p23 : lw_okq (⟨"SaidTwice$Code", "push", "(I)V"⟩, 6) := ⟨⟨by decide +kernel, by decide +kernel⟩, List.mem_of_getElem? (i := 55) (by decide +kernel), List.mem_of_getElem? (i := 400) (by decide +kernel), List.mem_of_getElem? (i := 401) (by decide +kernel)⟩
theorem lw_p24 : lw_okq (⟨"SaidTwice$Code", "pop", "()I"⟩, 6) := ⟨⟨by decide +kernel, by decide +kernel⟩, List.mem_of_getElem? (i := 55) (by decide +kernel), List.mem_of_getElem? (i := 407) (by decide +kernel), List.mem_of_getElem? (i := 408) (by decide +kernel)⟩
theorem lw_p25 : lw_okq (⟨"SaidTwice", "isText", "(I)Z"⟩, 9) := ⟨⟨by decide +kernel, by decide +kernel⟩, List.mem_of_getElem? (i := 17) (by decide +kernel), List.mem_of_getElem? (i := 426) (by decide +kernel), List.mem_of_getElem? (i := 427) (by decide +kernel)⟩
theorem lw_p26 : lw_okq (⟨"SaidTwice$Texts", "costOf", "(II)I"⟩, 4) := ⟨⟨by decide +kernel, by decide +kernel⟩, List.mem_of_getElem? (i := 93) (by decide +kernel), List.mem_of_getElem? (i := 440) (by decide +kernel), List.mem_of_getElem? (i := 441) (by decide +kernel)⟩
theorem lw_p27 : lw_okq (⟨"SaidTwice$Texts", "side", "(III)I"⟩, 4) := ⟨⟨by decide +kernel, by decide +kernel⟩, List.mem_of_getElem? (i := 93) (by decide +kernel), List.mem_of_getElem? (i := 445) (by decide +kernel), List.mem_of_getElem? (i := 446) (by decide +kernel)⟩
theorem lw_p28 : lw_okq (⟨"SaidTwice$Talk", "become", "(III)V"⟩, 6) := ⟨⟨by decide +kernel, by decide +kernel⟩, List.mem_of_getElem? (i := 116) (by decide +kernel), List.mem_of_getElem? (i := 473) (by decide +kernel), List.mem_of_getElem? (i := 474) (by decide +kernel)⟩
theorem lw_p29 : lw_okq (⟨"SaidTwice", "isSpeaker", "(I)Z"⟩, 9) := ⟨⟨by decide +kernel, by decide +kernel⟩, List.mem_of_getElem? (i := 17) (by decide +kernel), List.mem_of_getElem? (i := 482) (by decide +kernel), List.mem_of_getElem? (i := 483) (by decide +kernel)⟩
theorem lw_p30 : lw_okq (⟨"SaidTwice$Talk", "append", "(III)V"⟩, 6) := ⟨⟨by decide +kernel, by decide +kernel⟩, List.mem_of_getElem? (i := 116) (by decide +kernel), List.mem_of_getElem? (i := 495) (by decide +kernel), List.mem_of_getElem? (i := 496) (by decide +kernel)⟩
theorem lw_p31 : lw_okq (⟨"SaidTwice$Talk", "sayingPart", "(II)I"⟩, 6) := ⟨⟨by decide +kernel, by decide +kernel⟩, List.mem_of_getElem? (i := 116) (by decide +kernel), List.mem_of_getElem? (i := 507) (by decide +kernel), List.mem_of_getElem? (i := 508) (by decide +kernel)⟩
def lw_privs_2 : List (MethodName × Nat) := [(⟨"SaidTwice$Code", "add", "(II)V"⟩, 6), (⟨"SaidTwice$Grammar", "readBracket", "(I)Z"⟩, 2), (⟨"SaidTwice$Code", "endPart", "(I)V"⟩, 6), (⟨"SaidTwice$Texts", "add", "(LSaidTwice$Code;)V"⟩, 4), (⟨"SaidTwice$Code", "truths", "(II)I"⟩, 6), (⟨"SaidTwice$Code", "valueOf", "(III)I"⟩, 6), (⟨"SaidTwice$Code", "step", "(IIII)V"⟩, 6), (⟨"SaidTwice$Code", "push", "(I)V"⟩, 6), (⟨"SaidTwice$Code", "pop", "()I"⟩, 6), (⟨"SaidTwice", "isText", "(I)Z"⟩, 9), (⟨"SaidTwice$Texts", "costOf", "(II)I"⟩, 4), (⟨"SaidTwice$Texts", "side", "(III)I"⟩, 4), (⟨"SaidTwice$Talk", "become", "(III)V"⟩, 6), (⟨"SaidTwice", "isSpeaker", "(I)Z"⟩, 9), (⟨"SaidTwice$Talk", "append", "(III)V"⟩, 6), (⟨"SaidTwice$Talk", "sayingPart", "(II)I"⟩, 6)]
theorem lw_r2 : ∀ q ∈ lw_privs_2, lw_okq q := List.forall_mem_cons.mpr ⟨lw_p16, List.forall_mem_cons.mpr ⟨lw_p17, List.forall_mem_cons.mpr ⟨lw_p18, List.forall_mem_cons.mpr ⟨lw_p19, List.forall_mem_cons.mpr ⟨lw_p20, List.forall_mem_cons.mpr ⟨lw_p21, List.forall_mem_cons.mpr ⟨lw_p22, List.forall_mem_cons.mpr ⟨lw_p23, List.forall_mem_cons.mpr ⟨lw_p24, List.forall_mem_cons.mpr ⟨lw_p25, List.forall_mem_cons.mpr ⟨lw_p26, List.forall_mem_cons.mpr ⟨lw_p27, List.forall_mem_cons.mpr ⟨lw_p28, List.forall_mem_cons.mpr ⟨lw_p29, List.forall_mem_cons.mpr ⟨lw_p30, List.forall_mem_cons.mpr ⟨lw_p31, fun _ h => absurd h List.not_mem_nil⟩⟩⟩⟩⟩⟩⟩⟩⟩⟩⟩⟩⟩⟩⟩⟩
theorem lw_p32 : lw_okq (⟨"SaidTwice", "fitting", "()I"⟩, 9) := ⟨⟨by decide +kernel, by decide +kernel⟩, List.mem_of_getElem? (i := 17) (by decide +kernel), List.mem_of_getElem? (i := 516) (by decide +kernel), List.mem_of_getElem? (i := 517) (by decide +kernel)⟩
theorem lw_p33 : lw_okq (⟨"SaidTwice", "fittingFirst", "(I)I"⟩, 9) := ⟨⟨by decide +kernel, by decide +kernel⟩, List.mem_of_getElem? (i := 17) (by decide +kernel), List.mem_of_getElem? (i := 520) (by decide +kernel), List.mem_of_getElem? (i := 521) (by decide +kernel)⟩
theorem lw_p34 : lw_okq (⟨"SaidTwice", "lawful", "()I"⟩, 9) := ⟨⟨by decide +kernel, by decide +kernel⟩, List.mem_of_getElem? (i := 17) (by decide +kernel), List.mem_of_getElem? (i := 524) (by decide +kernel), List.mem_of_getElem? (i := 525) (by decide +kernel)⟩
theorem lw_p35 : lw_okq (⟨"SaidTwice", "onceOf", "(I)I"⟩, 9) := ⟨⟨by decide +kernel, by decide +kernel⟩, List.mem_of_getElem? (i := 17) (by decide +kernel), List.mem_of_getElem? (i := 528) (by decide +kernel), List.mem_of_getElem? (i := 529) (by decide +kernel)⟩
theorem lw_p36 : lw_okq (⟨"SaidTwice", "sayable", "(I)I"⟩, 9) := ⟨⟨by decide +kernel, by decide +kernel⟩, List.mem_of_getElem? (i := 17) (by decide +kernel), List.mem_of_getElem? (i := 532) (by decide +kernel), List.mem_of_getElem? (i := 533) (by decide +kernel)⟩
theorem lw_p37 : lw_okq (⟨"SaidTwice", "sayableAs", "(II)I"⟩, 9) := ⟨⟨by decide +kernel, by decide +kernel⟩, List.mem_of_getElem? (i := 17) (by decide +kernel), List.mem_of_getElem? (i := 536) (by decide +kernel), List.mem_of_getElem? (i := 537) (by decide +kernel)⟩
theorem lw_p38 : lw_okq (⟨"SaidTwice", "firstSaid", "(I)I"⟩, 9) := ⟨⟨by decide +kernel, by decide +kernel⟩, List.mem_of_getElem? (i := 17) (by decide +kernel), List.mem_of_getElem? (i := 540) (by decide +kernel), List.mem_of_getElem? (i := 541) (by decide +kernel)⟩
theorem lw_p39 : lw_okq (⟨"SaidTwice", "secondSaid", "(I)I"⟩, 9) := ⟨⟨by decide +kernel, by decide +kernel⟩, List.mem_of_getElem? (i := 17) (by decide +kernel), List.mem_of_getElem? (i := 544) (by decide +kernel), List.mem_of_getElem? (i := 545) (by decide +kernel)⟩
theorem lw_p40 : lw_okq (⟨"SaidTwice", "fittingWithout", "(I)I"⟩, 9) := ⟨⟨by decide +kernel, by decide +kernel⟩, List.mem_of_getElem? (i := 17) (by decide +kernel), List.mem_of_getElem? (i := 583) (by decide +kernel), List.mem_of_getElem? (i := 584) (by decide +kernel)⟩
theorem lw_p41 : lw_okq (⟨"SaidTwice", "misfits", "(I)I"⟩, 9) := ⟨⟨by decide +kernel, by decide +kernel⟩, List.mem_of_getElem? (i := 17) (by decide +kernel), List.mem_of_getElem? (i := 591) (by decide +kernel), List.mem_of_getElem? (i := 592) (by decide +kernel)⟩
theorem lw_p42 : lw_okq (⟨"SaidTwice", "fittingWereMad", "(I)I"⟩, 9) := ⟨⟨by decide +kernel, by decide +kernel⟩, List.mem_of_getElem? (i := 17) (by decide +kernel), List.mem_of_getElem? (i := 602) (by decide +kernel), List.mem_of_getElem? (i := 603) (by decide +kernel)⟩
theorem lw_p43 : lw_okq (⟨"SaidTwice", "allSayableWere", "(II)I"⟩, 9) := ⟨⟨by decide +kernel, by decide +kernel⟩, List.mem_of_getElem? (i := 17) (by decide +kernel), List.mem_of_getElem? (i := 620) (by decide +kernel), List.mem_of_getElem? (i := 621) (by decide +kernel)⟩
theorem lw_p44 : lw_okq (⟨"SaidTwice", "findBest", "(II)Z"⟩, 9) := ⟨⟨by decide +kernel, by decide +kernel⟩, List.mem_of_getElem? (i := 17) (by decide +kernel), List.mem_of_getElem? (i := 628) (by decide +kernel), List.mem_of_getElem? (i := 629) (by decide +kernel)⟩
theorem lw_p45 : lw_okq (⟨"SaidTwice", "worstOf", "(IIII)I"⟩, 9) := ⟨⟨by decide +kernel, by decide +kernel⟩, List.mem_of_getElem? (i := 17) (by decide +kernel), List.mem_of_getElem? (i := 632) (by decide +kernel), List.mem_of_getElem? (i := 633) (by decide +kernel)⟩
theorem lw_p46 : lw_okq (⟨"SaidTwice", "sayableNext", "(IIII)I"⟩, 9) := ⟨⟨by decide +kernel, by decide +kernel⟩, List.mem_of_getElem? (i := 17) (by decide +kernel), List.mem_of_getElem? (i := 636) (by decide +kernel), List.mem_of_getElem? (i := 637) (by decide +kernel)⟩
theorem lw_p47 : lw_okq (⟨"SaidTwice$Question", "consider", "(IIII)V"⟩, 4) := ⟨⟨by decide +kernel, by decide +kernel⟩, List.mem_of_getElem? (i := 168) (by decide +kernel), List.mem_of_getElem? (i := 641) (by decide +kernel), List.mem_of_getElem? (i := 642) (by decide +kernel)⟩
def lw_privs_3 : List (MethodName × Nat) := [(⟨"SaidTwice", "fitting", "()I"⟩, 9), (⟨"SaidTwice", "fittingFirst", "(I)I"⟩, 9), (⟨"SaidTwice", "lawful", "()I"⟩, 9), (⟨"SaidTwice", "onceOf", "(I)I"⟩, 9), (⟨"SaidTwice", "sayable", "(I)I"⟩, 9), (⟨"SaidTwice", "sayableAs", "(II)I"⟩, 9), (⟨"SaidTwice", "firstSaid", "(I)I"⟩, 9), (⟨"SaidTwice", "secondSaid", "(I)I"⟩, 9), (⟨"SaidTwice", "fittingWithout", "(I)I"⟩, 9), (⟨"SaidTwice", "misfits", "(I)I"⟩, 9), (⟨"SaidTwice", "fittingWereMad", "(I)I"⟩, 9), (⟨"SaidTwice", "allSayableWere", "(II)I"⟩, 9), (⟨"SaidTwice", "findBest", "(II)Z"⟩, 9), (⟨"SaidTwice", "worstOf", "(IIII)I"⟩, 9), (⟨"SaidTwice", "sayableNext", "(IIII)I"⟩, 9), (⟨"SaidTwice$Question", "consider", "(IIII)V"⟩, 4)]
theorem lw_r3 : ∀ q ∈ lw_privs_3, lw_okq q := List.forall_mem_cons.mpr ⟨lw_p32, List.forall_mem_cons.mpr ⟨lw_p33, List.forall_mem_cons.mpr ⟨lw_p34, List.forall_mem_cons.mpr ⟨lw_p35, List.forall_mem_cons.mpr ⟨lw_p36, List.forall_mem_cons.mpr ⟨lw_p37, List.forall_mem_cons.mpr ⟨lw_p38, List.forall_mem_cons.mpr ⟨lw_p39, List.forall_mem_cons.mpr ⟨lw_p40, List.forall_mem_cons.mpr ⟨lw_p41, List.forall_mem_cons.mpr ⟨lw_p42, List.forall_mem_cons.mpr ⟨lw_p43, List.forall_mem_cons.mpr ⟨lw_p44, List.forall_mem_cons.mpr ⟨lw_p45, List.forall_mem_cons.mpr ⟨lw_p46, List.forall_mem_cons.mpr ⟨lw_p47, fun _ h => absurd h List.not_mem_nil⟩⟩⟩⟩⟩⟩⟩⟩⟩⟩⟩⟩⟩⟩⟩⟩
theorem lw_p48 : lw_okq (⟨"SaidTwice", "worstBehind", "(III)I"⟩, 9) := ⟨⟨by decide +kernel, by decide +kernel⟩, List.mem_of_getElem? (i := 17) (by decide +kernel), List.mem_of_getElem? (i := 649) (by decide +kernel), List.mem_of_getElem? (i := 650) (by decide +kernel)⟩
theorem lw_p49 : lw_okq (⟨"SaidTwice", "settles", "(II)Z"⟩, 9) := ⟨⟨by decide +kernel, by decide +kernel⟩, List.mem_of_getElem? (i := 17) (by decide +kernel), List.mem_of_getElem? (i := 673) (by decide +kernel), List.mem_of_getElem? (i := 674) (by decide +kernel)⟩
theorem lw_p50 : lw_okq (⟨"SaidTwice", "markOf", "(II)I"⟩, 9) := ⟨⟨by decide +kernel, by decide +kernel⟩, List.mem_of_getElem? (i := 17) (by decide +kernel), List.mem_of_getElem? (i := 677) (by decide +kernel), List.mem_of_getElem? (i := 678) (by decide +kernel)⟩
theorem lw_p51 : lw_okq (⟨"SaidTwice$Sheets", "isMissing", "(I)Z"⟩, 4) := ⟨⟨by decide +kernel, by decide +kernel⟩, List.mem_of_getElem? (i := 146) (by decide +kernel), List.mem_of_getElem? (i := 694) (by decide +kernel), List.mem_of_getElem? (i := 695) (by decide +kernel)⟩
theorem lw_p52 : lw_okq (⟨"SaidTwice", "rowFits", "(III)Z"⟩, 9) := ⟨⟨by decide +kernel, by decide +kernel⟩, List.mem_of_getElem? (i := 17) (by decide +kernel), List.mem_of_getElem? (i := 699) (by decide +kernel), List.mem_of_getElem? (i := 700) (by decide +kernel)⟩
theorem lw_p53 : lw_okq (⟨"SaidTwice$Sheets", "read", "(II)I"⟩, 4) := ⟨⟨by decide +kernel, by decide +kernel⟩, List.mem_of_getElem? (i := 146) (by decide +kernel), List.mem_of_getElem? (i := 703) (by decide +kernel), List.mem_of_getElem? (i := 704) (by decide +kernel)⟩
theorem lw_p54 : lw_okq (⟨"SaidTwice$Sheets", "make", "(III)V"⟩, 4) := ⟨⟨by decide +kernel, by decide +kernel⟩, List.mem_of_getElem? (i := 146) (by decide +kernel), List.mem_of_getElem? (i := 711) (by decide +kernel), List.mem_of_getElem? (i := 712) (by decide +kernel)⟩
theorem lw_p55 : lw_okq (⟨"SaidTwice$Sheets", "write", "(III)V"⟩, 4) := ⟨⟨by decide +kernel, by decide +kernel⟩, List.mem_of_getElem? (i := 146) (by decide +kernel), List.mem_of_getElem? (i := 715) (by decide +kernel), List.mem_of_getElem? (i := 716) (by decide +kernel)⟩
theorem lw_p56 : lw_okq (⟨"SaidTwice", "strangerAsks", "(II)I"⟩, 9) := ⟨⟨by decide +kernel, by decide +kernel⟩, List.mem_of_getElem? (i := 17) (by decide +kernel), List.mem_of_getElem? (i := 724) (by decide +kernel), List.mem_of_getElem? (i := 725) (by decide +kernel)⟩
theorem lw_p57 : lw_okq (⟨"SaidTwice", "answered", "(IIZ)I"⟩, 9) := ⟨⟨by decide +kernel, by decide +kernel⟩, List.mem_of_getElem? (i := 17) (by decide +kernel), List.mem_of_getElem? (i := 734) (by decide +kernel), List.mem_of_getElem? (i := 735) (by decide +kernel)⟩
theorem lw_p58 : lw_okq (⟨"SaidTwice$Talk", "becomeLike", "(LSaidTwice$Talk;)V"⟩, 6) := ⟨⟨by decide +kernel, by decide +kernel⟩, List.mem_of_getElem? (i := 116) (by decide +kernel), List.mem_of_getElem? (i := 746) (by decide +kernel), List.mem_of_getElem? (i := 747) (by decide +kernel)⟩
theorem lw_p59 : lw_okq (⟨"SaidTwice$Sheets", "holds", "(II)Z"⟩, 4) := ⟨⟨by decide +kernel, by decide +kernel⟩, List.mem_of_getElem? (i := 146) (by decide +kernel), List.mem_of_getElem? (i := 763) (by decide +kernel), List.mem_of_getElem? (i := 764) (by decide +kernel)⟩
theorem lw_p60 : lw_okq (⟨"SaidTwice$Sheets", "holdsRun", "(III)Z"⟩, 4) := ⟨⟨by decide +kernel, by decide +kernel⟩, List.mem_of_getElem? (i := 146) (by decide +kernel), List.mem_of_getElem? (i := 772) (by decide +kernel), List.mem_of_getElem? (i := 773) (by decide +kernel)⟩
theorem lw_p61 : lw_okq (⟨"SaidTwice$Sheets", "move", "(IIIII)V"⟩, 4) := ⟨⟨by decide +kernel, by decide +kernel⟩, List.mem_of_getElem? (i := 146) (by decide +kernel), List.mem_of_getElem? (i := 776) (by decide +kernel), List.mem_of_getElem? (i := 777) (by decide +kernel)⟩
theorem lw_p62 : lw_okq (⟨"SaidTwice", "sayingTaken", "(II)I"⟩, 9) := ⟨⟨by decide +kernel, by decide +kernel⟩, List.mem_of_getElem? (i := 17) (by decide +kernel), List.mem_of_getElem? (i := 791) (by decide +kernel), List.mem_of_getElem? (i := 792) (by decide +kernel)⟩
theorem lw_p63 : lw_okq (⟨"SaidTwice", "speakerTaken", "(II)I"⟩, 9) := ⟨⟨by decide +kernel, by decide +kernel⟩, List.mem_of_getElem? (i := 17) (by decide +kernel), List.mem_of_getElem? (i := 795) (by decide +kernel), List.mem_of_getElem? (i := 796) (by decide +kernel)⟩
def lw_privs_4 : List (MethodName × Nat) := [(⟨"SaidTwice", "worstBehind", "(III)I"⟩, 9), (⟨"SaidTwice", "settles", "(II)Z"⟩, 9), (⟨"SaidTwice", "markOf", "(II)I"⟩, 9), (⟨"SaidTwice$Sheets", "isMissing", "(I)Z"⟩, 4), (⟨"SaidTwice", "rowFits", "(III)Z"⟩, 9), (⟨"SaidTwice$Sheets", "read", "(II)I"⟩, 4), (⟨"SaidTwice$Sheets", "make", "(III)V"⟩, 4), (⟨"SaidTwice$Sheets", "write", "(III)V"⟩, 4), (⟨"SaidTwice", "strangerAsks", "(II)I"⟩, 9), (⟨"SaidTwice", "answered", "(IIZ)I"⟩, 9), (⟨"SaidTwice$Talk", "becomeLike", "(LSaidTwice$Talk;)V"⟩, 6), (⟨"SaidTwice$Sheets", "holds", "(II)Z"⟩, 4), (⟨"SaidTwice$Sheets", "holdsRun", "(III)Z"⟩, 4), (⟨"SaidTwice$Sheets", "move", "(IIIII)V"⟩, 4), (⟨"SaidTwice", "sayingTaken", "(II)I"⟩, 9), (⟨"SaidTwice", "speakerTaken", "(II)I"⟩, 9)]
theorem lw_r4 : ∀ q ∈ lw_privs_4, lw_okq q := List.forall_mem_cons.mpr ⟨lw_p48, List.forall_mem_cons.mpr ⟨lw_p49, List.forall_mem_cons.mpr ⟨lw_p50, List.forall_mem_cons.mpr ⟨lw_p51, List.forall_mem_cons.mpr ⟨lw_p52, List.forall_mem_cons.mpr ⟨lw_p53, List.forall_mem_cons.mpr ⟨lw_p54, List.forall_mem_cons.mpr ⟨lw_p55, List.forall_mem_cons.mpr ⟨lw_p56, List.forall_mem_cons.mpr ⟨lw_p57, List.forall_mem_cons.mpr ⟨lw_p58, List.forall_mem_cons.mpr ⟨lw_p59, List.forall_mem_cons.mpr ⟨lw_p60, List.forall_mem_cons.mpr ⟨lw_p61, List.forall_mem_cons.mpr ⟨lw_p62, List.forall_mem_cons.mpr ⟨lw_p63, fun _ h => absurd h List.not_mem_nil⟩⟩⟩⟩⟩⟩⟩⟩⟩⟩⟩⟩⟩⟩⟩⟩
theorem lw_p64 : lw_okq (⟨"SaidTwiceModel", "next", "()V"⟩, 37) := ⟨⟨by decide +kernel, by decide +kernel⟩, List.mem_of_getElem? (i := 802) (by decide +kernel), List.mem_of_getElem? (i := 812) (by decide +kernel), List.mem_of_getElem? (i := 813) (by decide +kernel)⟩
theorem lw_p65 : lw_okq (⟨"SaidTwiceModel", "wordFrom", "(II)I"⟩, 37) := ⟨⟨by decide +kernel, by decide +kernel⟩, List.mem_of_getElem? (i := 802) (by decide +kernel), List.mem_of_getElem? (i := 819) (by decide +kernel), List.mem_of_getElem? (i := 820) (by decide +kernel)⟩
theorem lw_p66 : lw_okq (⟨"SaidTwiceModel", "eRead", "()Z"⟩, 37) := ⟨⟨by decide +kernel, by decide +kernel⟩, List.mem_of_getElem? (i := 802) (by decide +kernel), List.mem_of_getElem? (i := 823) (by decide +kernel), List.mem_of_getElem? (i := 824) (by decide +kernel)⟩
theorem lw_p67 : lw_okq (⟨"SaidTwiceModel", "puts", "(I)V"⟩, 37) := ⟨⟨by decide +kernel, by decide +kernel⟩, List.mem_of_getElem? (i := 802) (by decide +kernel), List.mem_of_getElem? (i := 828) (by decide +kernel), List.mem_of_getElem? (i := 829) (by decide +kernel)⟩
theorem lw_p68 : lw_okq (⟨"SaidTwiceModel", "unwinds", "(I)V"⟩, 37) := ⟨⟨by decide +kernel, by decide +kernel⟩, List.mem_of_getElem? (i := 802) (by decide +kernel), List.mem_of_getElem? (i := 832) (by decide +kernel), List.mem_of_getElem? (i := 833) (by decide +kernel)⟩
theorem lw_p69 : lw_okq (⟨"SaidTwiceModel", "opensOne", "(I)Z"⟩, 37) := ⟨⟨by decide +kernel, by decide +kernel⟩, List.mem_of_getElem? (i := 802) (by decide +kernel), List.mem_of_getElem? (i := 839) (by decide +kernel), List.mem_of_getElem? (i := 840) (by decide +kernel)⟩
theorem lw_p70 : lw_okq (⟨"SaidTwiceModel", "holds", "(I)V"⟩, 37) := ⟨⟨by decide +kernel, by decide +kernel⟩, List.mem_of_getElem? (i := 802) (by decide +kernel), List.mem_of_getElem? (i := 843) (by decide +kernel), List.mem_of_getElem? (i := 844) (by decide +kernel)⟩
theorem lw_p71 : lw_okq (⟨"SaidTwiceModel", "signOf", "()I"⟩, 37) := ⟨⟨by decide +kernel, by decide +kernel⟩, List.mem_of_getElem? (i := 802) (by decide +kernel), List.mem_of_getElem? (i := 847) (by decide +kernel), List.mem_of_getElem? (i := 848) (by decide +kernel)⟩
theorem lw_p72 : lw_okq (⟨"SaidTwiceModel", "between", "(I)Z"⟩, 37) := ⟨⟨by decide +kernel, by decide +kernel⟩, List.mem_of_getElem? (i := 802) (by decide +kernel), List.mem_of_getElem? (i := 851) (by decide +kernel), List.mem_of_getElem? (i := 852) (by decide +kernel)⟩
theorem lw_p73 : lw_okq (⟨"SaidTwiceModel", "isOfTexts", "(I)Z"⟩, 37) := ⟨⟨by decide +kernel, by decide +kernel⟩, List.mem_of_getElem? (i := 802) (by decide +kernel), List.mem_of_getElem? (i := 988) (by decide +kernel), List.mem_of_getElem? (i := 989) (by decide +kernel)⟩
theorem lw_p74 : lw_okq (⟨"SaidTwiceModel", "saysOf", "(IIII)I"⟩, 37) := ⟨⟨by decide +kernel, by decide +kernel⟩, List.mem_of_getElem? (i := 802) (by decide +kernel), List.mem_of_getElem? (i := 995) (by decide +kernel), List.mem_of_getElem? (i := 996) (by decide +kernel)⟩
theorem lw_p75 : lw_okq (⟨"SaidTwiceModel", "says", "(I)I"⟩, 37) := ⟨⟨by decide +kernel, by decide +kernel⟩, List.mem_of_getElem? (i := 802) (by decide +kernel), List.mem_of_getElem? (i := 999) (by decide +kernel), List.mem_of_getElem? (i := 1000) (by decide +kernel)⟩
theorem lw_p76 : lw_okq (⟨"SaidTwiceModel", "soIn", "(III)J"⟩, 37) := ⟨⟨by decide +kernel, by decide +kernel⟩, List.mem_of_getElem? (i := 802) (by decide +kernel), List.mem_of_getElem? (i := 1013) (by decide +kernel), List.mem_of_getElem? (i := 1014) (by decide +kernel)⟩
theorem lw_p77 : lw_okq (⟨"SaidTwiceModel", "isSpeaker", "(I)Z"⟩, 37) := ⟨⟨by decide +kernel, by decide +kernel⟩, List.mem_of_getElem? (i := 802) (by decide +kernel), List.mem_of_getElem? (i := 1034) (by decide +kernel), List.mem_of_getElem? (i := 1035) (by decide +kernel)⟩
theorem lw_p78 : lw_okq (⟨"SaidTwiceModel", "worldsNow", "()J"⟩, 37) := ⟨⟨by decide +kernel, by decide +kernel⟩, List.mem_of_getElem? (i := 802) (by decide +kernel), List.mem_of_getElem? (i := 1058) (by decide +kernel), List.mem_of_getElem? (i := 1059) (by decide +kernel)⟩
theorem lw_p79 : lw_okq (⟨"SaidTwiceModel", "reads", "()V"⟩, 37) := ⟨⟨by decide +kernel, by decide +kernel⟩, List.mem_of_getElem? (i := 802) (by decide +kernel), List.mem_of_getElem? (i := 1062) (by decide +kernel), List.mem_of_getElem? (i := 1063) (by decide +kernel)⟩
def lw_privs_5 : List (MethodName × Nat) := [(⟨"SaidTwiceModel", "next", "()V"⟩, 37), (⟨"SaidTwiceModel", "wordFrom", "(II)I"⟩, 37), (⟨"SaidTwiceModel", "eRead", "()Z"⟩, 37), (⟨"SaidTwiceModel", "puts", "(I)V"⟩, 37), (⟨"SaidTwiceModel", "unwinds", "(I)V"⟩, 37), (⟨"SaidTwiceModel", "opensOne", "(I)Z"⟩, 37), (⟨"SaidTwiceModel", "holds", "(I)V"⟩, 37), (⟨"SaidTwiceModel", "signOf", "()I"⟩, 37), (⟨"SaidTwiceModel", "between", "(I)Z"⟩, 37), (⟨"SaidTwiceModel", "isOfTexts", "(I)Z"⟩, 37), (⟨"SaidTwiceModel", "saysOf", "(IIII)I"⟩, 37), (⟨"SaidTwiceModel", "says", "(I)I"⟩, 37), (⟨"SaidTwiceModel", "soIn", "(III)J"⟩, 37), (⟨"SaidTwiceModel", "isSpeaker", "(I)Z"⟩, 37), (⟨"SaidTwiceModel", "worldsNow", "()J"⟩, 37), (⟨"SaidTwiceModel", "reads", "()V"⟩, 37)]
theorem lw_r5 : ∀ q ∈ lw_privs_5, lw_okq q := List.forall_mem_cons.mpr ⟨lw_p64, List.forall_mem_cons.mpr ⟨lw_p65, List.forall_mem_cons.mpr ⟨lw_p66, List.forall_mem_cons.mpr ⟨lw_p67, List.forall_mem_cons.mpr ⟨lw_p68, List.forall_mem_cons.mpr ⟨lw_p69, List.forall_mem_cons.mpr ⟨lw_p70, List.forall_mem_cons.mpr ⟨lw_p71, List.forall_mem_cons.mpr ⟨lw_p72, List.forall_mem_cons.mpr ⟨lw_p73, List.forall_mem_cons.mpr ⟨lw_p74, List.forall_mem_cons.mpr ⟨lw_p75, List.forall_mem_cons.mpr ⟨lw_p76, List.forall_mem_cons.mpr ⟨lw_p77, List.forall_mem_cons.mpr ⟨lw_p78, List.forall_mem_cons.mpr ⟨lw_p79, fun _ h => absurd h List.not_mem_nil⟩⟩⟩⟩⟩⟩⟩⟩⟩⟩⟩⟩⟩⟩⟩⟩
theorem lw_p80 : lw_okq (⟨"SaidTwiceModel", "worldsOf", "(I)J"⟩, 37) := ⟨⟨by decide +kernel, by decide +kernel⟩, List.mem_of_getElem? (i := 802) (by decide +kernel), List.mem_of_getElem? (i := 1066) (by decide +kernel), List.mem_of_getElem? (i := 1067) (by decide +kernel)⟩
theorem lw_p81 : lw_okq (⟨"SaidTwiceModel", "once", "(I)J"⟩, 37) := ⟨⟨by decide +kernel, by decide +kernel⟩, List.mem_of_getElem? (i := 802) (by decide +kernel), List.mem_of_getElem? (i := 1070) (by decide +kernel), List.mem_of_getElem? (i := 1071) (by decide +kernel)⟩
theorem lw_p82 : lw_okq (⟨"SaidTwiceModel", "fitsSaying", "(I)J"⟩, 37) := ⟨⟨by decide +kernel, by decide +kernel⟩, List.mem_of_getElem? (i := 802) (by decide +kernel), List.mem_of_getElem? (i := 1074) (by decide +kernel), List.mem_of_getElem? (i := 1075) (by decide +kernel)⟩
theorem lw_p83 : lw_okq (⟨"SaidTwiceModel", "fits", "(IIII)J"⟩, 37) := ⟨⟨by decide +kernel, by decide +kernel⟩, List.mem_of_getElem? (i := 802) (by decide +kernel), List.mem_of_getElem? (i := 1078) (by decide +kernel), List.mem_of_getElem? (i := 1079) (by decide +kernel)⟩
theorem lw_p84 : lw_okq (⟨"SaidTwiceModel", "canSay", "(IIIIII)J"⟩, 37) := ⟨⟨by decide +kernel, by decide +kernel⟩, List.mem_of_getElem? (i := 802) (by decide +kernel), List.mem_of_getElem? (i := 1082) (by decide +kernel), List.mem_of_getElem? (i := 1083) (by decide +kernel)⟩
theorem lw_p85 : lw_okq (⟨"SaidTwiceModel", "findsFitting", "()V"⟩, 37) := ⟨⟨by decide +kernel, by decide +kernel⟩, List.mem_of_getElem? (i := 802) (by decide +kernel), List.mem_of_getElem? (i := 1114) (by decide +kernel), List.mem_of_getElem? (i := 1115) (by decide +kernel)⟩
theorem lw_p86 : lw_okq (⟨"SaidTwiceModel", "without", "(I)J"⟩, 37) := ⟨⟨by decide +kernel, by decide +kernel⟩, List.mem_of_getElem? (i := 802) (by decide +kernel), List.mem_of_getElem? (i := 1118) (by decide +kernel), List.mem_of_getElem? (i := 1119) (by decide +kernel)⟩
theorem lw_p87 : lw_okq (⟨"SaidTwiceModel", "worldsMad", "(I)J"⟩, 37) := ⟨⟨by decide +kernel, by decide +kernel⟩, List.mem_of_getElem? (i := 802) (by decide +kernel), List.mem_of_getElem? (i := 1130) (by decide +kernel), List.mem_of_getElem? (i := 1131) (by decide +kernel)⟩
theorem lw_p88 : lw_okq (⟨"SaidTwiceModel", "findsQuestion", "(JI)V"⟩, 37) := ⟨⟨by decide +kernel, by decide +kernel⟩, List.mem_of_getElem? (i := 802) (by decide +kernel), List.mem_of_getElem? (i := 1149) (by decide +kernel), List.mem_of_getElem? (i := 1150) (by decide +kernel)⟩
theorem lw_p89 : lw_okq (⟨"SaidTwiceModel", "worstOf", "(JIII)I"⟩, 37) := ⟨⟨by decide +kernel, by decide +kernel⟩, List.mem_of_getElem? (i := 802) (by decide +kernel), List.mem_of_getElem? (i := 1153) (by decide +kernel), List.mem_of_getElem? (i := 1154) (by decide +kernel)⟩
theorem lw_p90 : lw_okq (⟨"SaidTwiceModel", "worstBehind", "(J)I"⟩, 37) := ⟨⟨by decide +kernel, by decide +kernel⟩, List.mem_of_getElem? (i := 802) (by decide +kernel), List.mem_of_getElem? (i := 1161) (by decide +kernel), List.mem_of_getElem? (i := 1162) (by decide +kernel)⟩
theorem lw_p91 : lw_okq (⟨"SaidTwiceModel", "settles", "(JI)Z"⟩, 37) := ⟨⟨by decide +kernel, by decide +kernel⟩, List.mem_of_getElem? (i := 802) (by decide +kernel), List.mem_of_getElem? (i := 1188) (by decide +kernel), List.mem_of_getElem? (i := 1189) (by decide +kernel)⟩
theorem lw_p92 : lw_okq (⟨"SaidTwiceModel", "isRow", "(III)Z"⟩, 37) := ⟨⟨by decide +kernel, by decide +kernel⟩, List.mem_of_getElem? (i := 802) (by decide +kernel), List.mem_of_getElem? (i := 1204) (by decide +kernel), List.mem_of_getElem? (i := 1205) (by decide +kernel)⟩
theorem lw_p93 : lw_okq (⟨"SaidTwiceModel", "asksBy", "(JI)I"⟩, 37) := ⟨⟨by decide +kernel, by decide +kernel⟩, List.mem_of_getElem? (i := 802) (by decide +kernel), List.mem_of_getElem? (i := 1217) (by decide +kernel), List.mem_of_getElem? (i := 1218) (by decide +kernel)⟩
def lw_privs_6 : List (MethodName × Nat) := [(⟨"SaidTwiceModel", "worldsOf", "(I)J"⟩, 37), (⟨"SaidTwiceModel", "once", "(I)J"⟩, 37), (⟨"SaidTwiceModel", "fitsSaying", "(I)J"⟩, 37), (⟨"SaidTwiceModel", "fits", "(IIII)J"⟩, 37), (⟨"SaidTwiceModel", "canSay", "(IIIIII)J"⟩, 37), (⟨"SaidTwiceModel", "findsFitting", "()V"⟩, 37), (⟨"SaidTwiceModel", "without", "(I)J"⟩, 37), (⟨"SaidTwiceModel", "worldsMad", "(I)J"⟩, 37), (⟨"SaidTwiceModel", "findsQuestion", "(JI)V"⟩, 37), (⟨"SaidTwiceModel", "worstOf", "(JIII)I"⟩, 37), (⟨"SaidTwiceModel", "worstBehind", "(J)I"⟩, 37), (⟨"SaidTwiceModel", "settles", "(JI)Z"⟩, 37), (⟨"SaidTwiceModel", "isRow", "(III)Z"⟩, 37), (⟨"SaidTwiceModel", "asksBy", "(JI)I"⟩, 37)]
theorem lw_r6 : ∀ q ∈ lw_privs_6, lw_okq q := List.forall_mem_cons.mpr ⟨lw_p80, List.forall_mem_cons.mpr ⟨lw_p81, List.forall_mem_cons.mpr ⟨lw_p82, List.forall_mem_cons.mpr ⟨lw_p83, List.forall_mem_cons.mpr ⟨lw_p84, List.forall_mem_cons.mpr ⟨lw_p85, List.forall_mem_cons.mpr ⟨lw_p86, List.forall_mem_cons.mpr ⟨lw_p87, List.forall_mem_cons.mpr ⟨lw_p88, List.forall_mem_cons.mpr ⟨lw_p89, List.forall_mem_cons.mpr ⟨lw_p90, List.forall_mem_cons.mpr ⟨lw_p91, List.forall_mem_cons.mpr ⟨lw_p92, List.forall_mem_cons.mpr ⟨lw_p93, fun _ h => absurd h List.not_mem_nil⟩⟩⟩⟩⟩⟩⟩⟩⟩⟩⟩⟩⟩⟩
def lw_privs : List (MethodName × Nat) := lw_privs_1 ++ (lw_privs_2 ++ (lw_privs_3 ++ (lw_privs_4 ++ (lw_privs_5 ++ (lw_privs_6)))))
def lw_tbl : List Cond := k2_sels lw_privs ++ tables_1
theorem lw_privs_ok : ∀ q ∈ lw_privs, lw_okq q := by
  show ∀ q ∈ lw_privs_1 ++ (lw_privs_2 ++ (lw_privs_3 ++ (lw_privs_4 ++ (lw_privs_5 ++ (lw_privs_6))))), lw_okq q
  exact List.forall_mem_append.mpr ⟨lw_r1, List.forall_mem_append.mpr ⟨lw_r2, List.forall_mem_append.mpr ⟨lw_r3, List.forall_mem_append.mpr ⟨lw_r4, List.forall_mem_append.mpr ⟨lw_r5, lw_r6⟩⟩⟩⟩⟩
def RX0 : String := "SaidTwice$Code"
def TX0 : u_T := fun k => match k with
  | 0 => ("SaidTwice$Code", "sorts", "[I", true)
  | 1 => ("SaidTwice$Code", "values", "[I", true)
  | 2 => ("SaidTwice$Code", "starts", "[I", true)
  | 3 => ("SaidTwice$Code", "stack", "[I", true)
  | 4 => ("SaidTwice$Code", "size", "I", false)
  | _ => ("SaidTwice$Code", "height", "I", false)
def tyX0 : Nat → FieldType := fun k => match k with
  | 0 => .array .int
  | 1 => .array .int
  | 2 => .array .int
  | 3 => .array .int
  | 4 => .int
  | _ => .int
abbrev wsX00 : List Cond := u_ws RX0 TX0 6
theorem nmX0 : ∀ a, a < 6 → ∀ b, b < 6 → a ≠ b → (TX0 a).2.1 ≠ (TX0 b).2.1 := by decide +kernel
theorem tyX0_ok : ∀ k, k < 6 → parseFieldDescriptor (TX0 k).2.2.1 = some (tyX0 k) := by decide +kernel
abbrev cX0_init : ByteArray := prog_2_method_1_code
def yX0_init : MethodName := ⟨RX0, "<init>", "()V"⟩
abbrev cX0_clear : ByteArray := prog_2_method_2_code
def yX0_clear : MethodName := ⟨RX0, "clear", "()V"⟩
abbrev cX0_add : ByteArray := prog_2_method_3_code
def yX0_add : MethodName := ⟨RX0, "add", "(II)V"⟩
abbrev cX0_endPart : ByteArray := prog_2_method_4_code
def yX0_endPart : MethodName := ⟨RX0, "endPart", "(I)V"⟩
abbrev cX0_truths : ByteArray := prog_2_method_5_code
def yX0_truths : MethodName := ⟨RX0, "truths", "(II)I"⟩
abbrev cX0_valueOf : ByteArray := prog_2_method_6_code
def yX0_valueOf : MethodName := ⟨RX0, "valueOf", "(III)I"⟩
abbrev cX0_step : ByteArray := prog_2_method_7_code
def yX0_step : MethodName := ⟨RX0, "step", "(IIII)V"⟩
abbrev cX0_joined : ByteArray := prog_2_method_8_code
def yX0_joined : MethodName := ⟨RX0, "joined", "(III)I"⟩
abbrev cX0_push : ByteArray := prog_2_method_9_code
def yX0_push : MethodName := ⟨RX0, "push", "(I)V"⟩
abbrev cX0_pop : ByteArray := prog_2_method_10_code
def yX0_pop : MethodName := ⟨RX0, "pop", "()I"⟩
def RX1 : String := "SaidTwice$Grammar"
def TX1 : u_T := fun k => match k with
  | 0 => ("SaidTwice$Grammar", "tokens", "LSaidTwice$Tokens;", true)
  | _ => ("SaidTwice$Grammar", "code", "LSaidTwice$Code;", true)
def tyX1 : Nat → FieldType := fun k => match k with
  | 0 => .object "SaidTwice$Tokens"
  | _ => .object "SaidTwice$Code"
abbrev wsX10 : List Cond := u_ws RX1 TX1 2
theorem nmX1 : ∀ a, a < 2 → ∀ b, b < 2 → a ≠ b → (TX1 a).2.1 ≠ (TX1 b).2.1 := by decide +kernel
theorem tyX1_ok : ∀ k, k < 2 → parseFieldDescriptor (TX1 k).2.2.1 = some (tyX1 k) := by decide +kernel
abbrev cX1_init : ByteArray := prog_3_method_1_code
def yX1_init : MethodName := ⟨RX1, "<init>", "(LSaidTwice$Tokens;LSaidTwice$Code;)V"⟩
abbrev cX1_readText : ByteArray := prog_3_method_2_code
def yX1_readText : MethodName := ⟨RX1, "readText", "()Z"⟩
abbrev cX1_readToken : ByteArray := prog_3_method_3_code
def yX1_readToken : MethodName := ⟨RX1, "readToken", "(I)Z"⟩
abbrev cX1_readOr : ByteArray := prog_3_method_4_code
def yX1_readOr : MethodName := ⟨RX1, "readOr", "(I)Z"⟩
abbrev cX1_readAnd : ByteArray := prog_3_method_5_code
def yX1_readAnd : MethodName := ⟨RX1, "readAnd", "(I)Z"⟩
abbrev cX1_readNot : ByteArray := prog_3_method_6_code
def yX1_readNot : MethodName := ⟨RX1, "readNot", "(I)Z"⟩
abbrev cX1_readCompared : ByteArray := prog_3_method_7_code
def yX1_readCompared : MethodName := ⟨RX1, "readCompared", "(I)Z"⟩
abbrev cX1_readSum : ByteArray := prog_3_method_8_code
def yX1_readSum : MethodName := ⟨RX1, "readSum", "(I)Z"⟩
abbrev cX1_readTerm : ByteArray := prog_3_method_9_code
def yX1_readTerm : MethodName := ⟨RX1, "readTerm", "(I)Z"⟩
abbrev cX1_readOne : ByteArray := prog_3_method_10_code
def yX1_readOne : MethodName := ⟨RX1, "readOne", "(I)Z"⟩
abbrev cX1_readBracket : ByteArray := prog_3_method_11_code
def yX1_readBracket : MethodName := ⟨RX1, "readBracket", "(I)Z"⟩
def RX2 : String := "SaidTwice$Question"
def TX2 : u_T := fun k => match k with
  | 0 => ("SaidTwice$Question", "speaker", "I", false)
  | 1 => ("SaidTwice$Question", "text", "I", false)
  | 2 => ("SaidTwice$Question", "worst", "I", false)
  | _ => ("SaidTwice$Question", "cost", "I", false)
def tyX2 : Nat → FieldType := fun k => match k with
  | 0 => .int
  | 1 => .int
  | 2 => .int
  | _ => .int
abbrev wsX20 : List Cond := u_ws RX2 TX2 4
theorem nmX2 : ∀ a, a < 4 → ∀ b, b < 4 → a ≠ b → (TX2 a).2.1 ≠ (TX2 b).2.1 := by decide +kernel
theorem tyX2_ok : ∀ k, k < 4 → parseFieldDescriptor (TX2 k).2.2.1 = some (tyX2 k) := by decide +kernel
abbrev cX2_init : ByteArray := prog_4_method_1_code
def yX2_init : MethodName := ⟨RX2, "<init>", "()V"⟩
abbrev cX2_consider : ByteArray := prog_4_method_2_code
def yX2_consider : MethodName := ⟨RX2, "consider", "(IIII)V"⟩
def RX3 : String := "SaidTwice$Sheets"
def TX3 : u_T := fun k => match k with
  | 0 => ("SaidTwice$Sheets", "sorts", "[I", true)
  | 1 => ("SaidTwice$Sheets", "sizes", "[I", true)
  | 2 => ("SaidTwice$Sheets", "cells", "[I", true)
  | _ => ("SaidTwice$Sheets", "moved", "[I", true)
def tyX3 : Nat → FieldType := fun k => match k with
  | 0 => .array .int
  | 1 => .array .int
  | 2 => .array .int
  | _ => .array .int
abbrev wsX30 : List Cond := u_ws RX3 TX3 4
theorem nmX3 : ∀ a, a < 4 → ∀ b, b < 4 → a ≠ b → (TX3 a).2.1 ≠ (TX3 b).2.1 := by decide +kernel
theorem tyX3_ok : ∀ k, k < 4 → parseFieldDescriptor (TX3 k).2.2.1 = some (tyX3 k) := by decide +kernel
abbrev cX3_init : ByteArray := prog_5_method_1_code
def yX3_init : MethodName := ⟨RX3, "<init>", "()V"⟩
abbrev cX3_isMissing : ByteArray := prog_5_method_2_code
def yX3_isMissing : MethodName := ⟨RX3, "isMissing", "(I)Z"⟩
abbrev cX3_make : ByteArray := prog_5_method_3_code
def yX3_make : MethodName := ⟨RX3, "make", "(III)V"⟩
abbrev cX3_holds : ByteArray := prog_5_method_4_code
def yX3_holds : MethodName := ⟨RX3, "holds", "(II)Z"⟩
abbrev cX3_holdsRun : ByteArray := prog_5_method_5_code
def yX3_holdsRun : MethodName := ⟨RX3, "holdsRun", "(III)Z"⟩
abbrev cX3_read : ByteArray := prog_5_method_6_code
def yX3_read : MethodName := ⟨RX3, "read", "(II)I"⟩
abbrev cX3_write : ByteArray := prog_5_method_7_code
def yX3_write : MethodName := ⟨RX3, "write", "(III)V"⟩
abbrev cX3_move : ByteArray := prog_5_method_8_code
def yX3_move : MethodName := ⟨RX3, "move", "(IIIII)V"⟩
def RX4 : String := "SaidTwice$Talk"
def TX4 : u_T := fun k => match k with
  | 0 => ("SaidTwice$Talk", "kindOf", "[I", true)
  | 1 => ("SaidTwice$Talk", "moreOf", "[I", true)
  | 2 => ("SaidTwice$Talk", "rows", "[I", true)
  | 3 => ("SaidTwice$Talk", "speakers", "I", false)
  | 4 => ("SaidTwice$Talk", "sayings", "I", false)
  | _ => ("SaidTwice$Talk", "law", "I", false)
def tyX4 : Nat → FieldType := fun k => match k with
  | 0 => .array .int
  | 1 => .array .int
  | 2 => .array .int
  | 3 => .int
  | 4 => .int
  | _ => .int
abbrev wsX40 : List Cond := u_ws RX4 TX4 6
theorem nmX4 : ∀ a, a < 6 → ∀ b, b < 6 → a ≠ b → (TX4 a).2.1 ≠ (TX4 b).2.1 := by decide +kernel
theorem tyX4_ok : ∀ k, k < 6 → parseFieldDescriptor (TX4 k).2.2.1 = some (tyX4 k) := by decide +kernel
abbrev cX4_init : ByteArray := prog_6_method_1_code
def yX4_init : MethodName := ⟨RX4, "<init>", "()V"⟩
abbrev cX4_become : ByteArray := prog_6_method_2_code
def yX4_become : MethodName := ⟨RX4, "become", "(III)V"⟩
abbrev cX4_append : ByteArray := prog_6_method_3_code
def yX4_append : MethodName := ⟨RX4, "append", "(III)V"⟩
abbrev cX4_sayingPart : ByteArray := prog_6_method_4_code
def yX4_sayingPart : MethodName := ⟨RX4, "sayingPart", "(II)I"⟩
abbrev cX4_becomeLike : ByteArray := prog_6_method_5_code
def yX4_becomeLike : MethodName := ⟨RX4, "becomeLike", "(LSaidTwice$Talk;)V"⟩
def RX5 : String := "SaidTwice$Texts"
def TX5 : u_T := fun k => match k with
  | 0 => ("SaidTwice$Texts", "once", "[I", true)
  | 1 => ("SaidTwice$Texts", "twice", "[I", true)
  | 2 => ("SaidTwice$Texts", "costs", "[I", true)
  | _ => ("SaidTwice$Texts", "size", "I", false)
def tyX5 : Nat → FieldType := fun k => match k with
  | 0 => .array .int
  | 1 => .array .int
  | 2 => .array .int
  | _ => .int
abbrev wsX50 : List Cond := u_ws RX5 TX5 4
theorem nmX5 : ∀ a, a < 4 → ∀ b, b < 4 → a ≠ b → (TX5 a).2.1 ≠ (TX5 b).2.1 := by decide +kernel
theorem tyX5_ok : ∀ k, k < 4 → parseFieldDescriptor (TX5 k).2.2.1 = some (tyX5 k) := by decide +kernel
abbrev cX5_init : ByteArray := prog_7_method_1_code
def yX5_init : MethodName := ⟨RX5, "<init>", "()V"⟩
abbrev cX5_add : ByteArray := prog_7_method_2_code
def yX5_add : MethodName := ⟨RX5, "add", "(LSaidTwice$Code;)V"⟩
abbrev cX5_side : ByteArray := prog_7_method_3_code
def yX5_side : MethodName := ⟨RX5, "side", "(III)I"⟩
abbrev cX5_costOf : ByteArray := prog_7_method_4_code
def yX5_costOf : MethodName := ⟨RX5, "costOf", "(II)I"⟩
def RX6 : String := "SaidTwice$Tokens"
def TX6 : u_T := fun k => match k with
  | 0 => ("SaidTwice$Tokens", "tape", "[I", true)
  | 1 => ("SaidTwice$Tokens", "size", "I", false)
  | 2 => ("SaidTwice$Tokens", "sort", "I", false)
  | 3 => ("SaidTwice$Tokens", "value", "I", false)
  | 4 => ("SaidTwice$Tokens", "place", "I", false)
  | _ => ("SaidTwice$Tokens", "after", "I", false)
def tyX6 : Nat → FieldType := fun k => match k with
  | 0 => .array .int
  | 1 => .int
  | 2 => .int
  | 3 => .int
  | 4 => .int
  | _ => .int
abbrev wsX60 : List Cond := u_ws RX6 TX6 6
theorem nmX6 : ∀ a, a < 6 → ∀ b, b < 6 → a ≠ b → (TX6 a).2.1 ≠ (TX6 b).2.1 := by decide +kernel
theorem tyX6_ok : ∀ k, k < 6 → parseFieldDescriptor (TX6 k).2.2.1 = some (tyX6 k) := by decide +kernel
abbrev cX6_init : ByteArray := prog_8_method_1_code
def yX6_init : MethodName := ⟨RX6, "<init>", "()V"⟩
abbrev cX6_append : ByteArray := prog_8_method_2_code
def yX6_append : MethodName := ⟨RX6, "append", "(I)V"⟩
abbrev cX6_start : ByteArray := prog_8_method_3_code
def yX6_start : MethodName := ⟨RX6, "start", "()V"⟩
abbrev cX6_advance : ByteArray := prog_8_method_4_code
def yX6_advance : MethodName := ⟨RX6, "advance", "()V"⟩
abbrev cX6_readWord : ByteArray := prog_8_method_5_code
def yX6_readWord : MethodName := ⟨RX6, "readWord", "()V"⟩
abbrev cX6_spells : ByteArray := prog_8_method_6_code
def yX6_spells : MethodName := ⟨RX6, "spells", "(Ljava/lang/String;)Z"⟩
abbrev cX6_readNumber : ByteArray := prog_8_method_7_code
def yX6_readNumber : MethodName := ⟨RX6, "readNumber", "()V"⟩
abbrev cX6_isBlank : ByteArray := prog_8_method_8_code
def yX6_isBlank : MethodName := ⟨RX6, "isBlank", "(I)Z"⟩
abbrev cX6_isLetter : ByteArray := prog_8_method_9_code
def yX6_isLetter : MethodName := ⟨RX6, "isLetter", "(I)Z"⟩
abbrev cX6_isDigit : ByteArray := prog_8_method_10_code
def yX6_isDigit : MethodName := ⟨RX6, "isDigit", "(I)Z"⟩
abbrev cX6_isSign : ByteArray := prog_8_method_11_code
def yX6_isSign : MethodName := ⟨RX6, "isSign", "(I)Z"⟩
def RX7 : String := "SaidTwice"
def TX7 : u_T := fun k => match k with
  | 0 => ("SaidTwice", "tokens", "LSaidTwice$Tokens;", true)
  | 1 => ("SaidTwice", "code", "LSaidTwice$Code;", true)
  | 2 => ("SaidTwice", "grammar", "LSaidTwice$Grammar;", true)
  | 3 => ("SaidTwice", "texts", "LSaidTwice$Texts;", true)
  | 4 => ("SaidTwice", "talk", "LSaidTwice$Talk;", true)
  | 5 => ("SaidTwice", "kept", "LSaidTwice$Talk;", true)
  | 6 => ("SaidTwice", "sheets", "LSaidTwice$Sheets;", true)
  | 7 => ("SaidTwice", "best", "LSaidTwice$Question;", true)
  | _ => ("SaidTwice", "hasImage", "Z", false)
def tyX7 : Nat → FieldType := fun k => match k with
  | 0 => .object "SaidTwice$Tokens"
  | 1 => .object "SaidTwice$Code"
  | 2 => .object "SaidTwice$Grammar"
  | 3 => .object "SaidTwice$Texts"
  | 4 => .object "SaidTwice$Talk"
  | 5 => .object "SaidTwice$Talk"
  | 6 => .object "SaidTwice$Sheets"
  | 7 => .object "SaidTwice$Question"
  | _ => .boolean
abbrev wsX70 : List Cond := u_ws RX7 TX7 9
theorem nmX7 : ∀ a, a < 9 → ∀ b, b < 9 → a ≠ b → (TX7 a).2.1 ≠ (TX7 b).2.1 := by decide +kernel
theorem tyX7_ok : ∀ k, k < 9 → parseFieldDescriptor (TX7 k).2.2.1 = some (tyX7 k) := by decide +kernel
abbrev cX7_init : ByteArray := prog_1_method_1_code
def yX7_init : MethodName := ⟨RX7, "<init>", "()V"⟩
abbrev cX7_count : ByteArray := prog_1_method_2_code
def yX7_count : MethodName := ⟨RX7, "count", "(I)I"⟩
abbrev cX7_feed : ByteArray := prog_1_method_3_code
def yX7_feed : MethodName := ⟨RX7, "feed", "(IIIIII)I"⟩
abbrev cX7_text : ByteArray := prog_1_method_4_code
def yX7_text : MethodName := ⟨RX7, "text", "()I"⟩
abbrev cX7_force : ByteArray := prog_1_method_5_code
def yX7_force : MethodName := ⟨RX7, "force", "(I)I"⟩
abbrev cX7_asks : ByteArray := prog_1_method_6_code
def yX7_asks : MethodName := ⟨RX7, "asks", "(IIII)I"⟩
abbrev cX7_means : ByteArray := prog_1_method_7_code
def yX7_means : MethodName := ⟨RX7, "means", "(II)J"⟩
abbrev cX7_pairs : ByteArray := prog_1_method_8_code
def yX7_pairs : MethodName := ⟨RX7, "pairs", "(I)I"⟩
abbrev cX7_speaker : ByteArray := prog_1_method_9_code
def yX7_speaker : MethodName := ⟨RX7, "speaker", "(II)I"⟩
abbrev cX7_turn : ByteArray := prog_1_method_10_code
def yX7_turn : MethodName := ⟨RX7, "turn", "(III)I"⟩
abbrev cX7_told : ByteArray := prog_1_method_11_code
def yX7_told : MethodName := ⟨RX7, "told", "(II)I"⟩
abbrev cX7_say : ByteArray := prog_1_method_12_code
def yX7_say : MethodName := ⟨RX7, "say", "(III)I"⟩
abbrev cX7_unsay : ByteArray := prog_1_method_13_code
def yX7_unsay : MethodName := ⟨RX7, "unsay", "()I"⟩
abbrev cX7_said : ByteArray := prog_1_method_14_code
def yX7_said : MethodName := ⟨RX7, "said", "(II)I"⟩
abbrev cX7_worlds : ByteArray := prog_1_method_15_code
def yX7_worlds : MethodName := ⟨RX7, "worlds", "()J"⟩
abbrev cX7_behind : ByteArray := prog_1_method_16_code
def yX7_behind : MethodName := ⟨RX7, "behind", "(II)I"⟩
abbrev cX7_cannot : ByteArray := prog_1_method_17_code
def yX7_cannot : MethodName := ⟨RX7, "cannot", "()I"⟩
abbrev cX7_lies : ByteArray := prog_1_method_18_code
def yX7_lies : MethodName := ⟨RX7, "lies", "()I"⟩
abbrev cX7_least : ByteArray := prog_1_method_19_code
def yX7_least : MethodName := ⟨RX7, "least", "(I)I"⟩
abbrev cX7_mad : ByteArray := prog_1_method_20_code
def yX7_mad : MethodName := ⟨RX7, "mad", "(I)I"⟩
abbrev cX7_habit : ByteArray := prog_1_method_21_code
def yX7_habit : MethodName := ⟨RX7, "habit", "(III)J"⟩
abbrev cX7_kinds : ByteArray := prog_1_method_22_code
def yX7_kinds : MethodName := ⟨RX7, "kinds", "(II)I"⟩
abbrev cX7_ask : ByteArray := prog_1_method_23_code
def yX7_ask : MethodName := ⟨RX7, "ask", "(I)I"⟩
abbrev cX7_two : ByteArray := prog_1_method_24_code
def yX7_two : MethodName := ⟨RX7, "two", "(I)I"⟩
abbrev cX7_parts : ByteArray := prog_1_method_25_code
def yX7_parts : MethodName := ⟨RX7, "parts", "(III)J"⟩
abbrev cX7_hide : ByteArray := prog_1_method_26_code
def yX7_hide : MethodName := ⟨RX7, "hide", "(III)I"⟩
abbrev cX7_same : ByteArray := prog_1_method_27_code
def yX7_same : MethodName := ⟨RX7, "same", "(III)I"⟩
abbrev cX7_claims : ByteArray := prog_1_method_28_code
def yX7_claims : MethodName := ⟨RX7, "claims", "(I)I"⟩
abbrev cX7_settle : ByteArray := prog_1_method_29_code
def yX7_settle : MethodName := ⟨RX7, "settle", "(I)I"⟩
abbrev cX7_thrice : ByteArray := prog_1_method_30_code
def yX7_thrice : MethodName := ⟨RX7, "thrice", "(III)J"⟩
abbrev cX7_many : ByteArray := prog_1_method_31_code
def yX7_many : MethodName := ⟨RX7, "many", "(I)I"⟩
abbrev cX7_judge : ByteArray := prog_1_method_32_code
def yX7_judge : MethodName := ⟨RX7, "judge", "(II)I"⟩
abbrev cX7_film : ByteArray := prog_1_method_33_code
def yX7_film : MethodName := ⟨RX7, "film", "(I)I"⟩
abbrev cX7_drawn : ByteArray := prog_1_method_34_code
def yX7_drawn : MethodName := ⟨RX7, "drawn", "(I)I"⟩
abbrev cX7_mean : ByteArray := prog_1_method_35_code
def yX7_mean : MethodName := ⟨RX7, "mean", "(III)J"⟩
abbrev cX7_image : ByteArray := prog_1_method_36_code
def yX7_image : MethodName := ⟨RX7, "image", "()I"⟩
abbrev cX7_back : ByteArray := prog_1_method_37_code
def yX7_back : MethodName := ⟨RX7, "back", "()I"⟩
abbrev cX7_sheet : ByteArray := prog_1_method_38_code
def yX7_sheet : MethodName := ⟨RX7, "sheet", "(III)I"⟩
abbrev cX7_cell : ByteArray := prog_1_method_39_code
def yX7_cell : MethodName := ⟨RX7, "cell", "(III)I"⟩
abbrev cX7_copy : ByteArray := prog_1_method_40_code
def yX7_copy : MethodName := ⟨RX7, "copy", "(IIIII)I"⟩
abbrev cX7_sayingsBy : ByteArray := prog_1_method_41_code
def yX7_sayingsBy : MethodName := ⟨RX7, "sayingsBy", "(IIII)I"⟩
abbrev cX7_taken : ByteArray := prog_1_method_42_code
def yX7_taken : MethodName := ⟨RX7, "taken", "(II)I"⟩
abbrev cX7_isBelow : ByteArray := prog_1_method_43_code
def yX7_isBelow : MethodName := ⟨RX7, "isBelow", "(II)Z"⟩
abbrev cX7_isByte : ByteArray := prog_1_method_44_code
def yX7_isByte : MethodName := ⟨RX7, "isByte", "(I)Z"⟩
abbrev cX7_isKind : ByteArray := prog_1_method_45_code
def yX7_isKind : MethodName := ⟨RX7, "isKind", "(I)Z"⟩
abbrev cX7_isMore : ByteArray := prog_1_method_46_code
def yX7_isMore : MethodName := ⟨RX7, "isMore", "(I)Z"⟩
abbrev cX7_isWorld : ByteArray := prog_1_method_47_code
def yX7_isWorld : MethodName := ⟨RX7, "isWorld", "(I)Z"⟩
abbrev cX7_isText : ByteArray := prog_1_method_48_code
def yX7_isText : MethodName := ⟨RX7, "isText", "(I)Z"⟩
abbrev cX7_isSpeaker : ByteArray := prog_1_method_49_code
def yX7_isSpeaker : MethodName := ⟨RX7, "isSpeaker", "(I)Z"⟩
abbrev cX7_at : ByteArray := prog_1_method_50_code
def yX7_at : MethodName := ⟨RX7, "at", "([II)I"⟩
abbrev cX7_put : ByteArray := prog_1_method_51_code
def yX7_put : MethodName := ⟨RX7, "put", "([III)V"⟩
abbrev cX7_bit : ByteArray := prog_1_method_52_code
def yX7_bit : MethodName := ⟨RX7, "bit", "(II)I"⟩
abbrev cX7_bits : ByteArray := prog_1_method_53_code
def yX7_bits : MethodName := ⟨RX7, "bits", "(I)J"⟩
abbrev cX7_worldNumber : ByteArray := prog_1_method_54_code
def yX7_worldNumber : MethodName := ⟨RX7, "worldNumber", "(II)I"⟩
abbrev cX7_fewer : ByteArray := prog_1_method_55_code
def yX7_fewer : MethodName := ⟨RX7, "fewer", "(II)I"⟩
abbrev cX7_inLowestTerms : ByteArray := prog_1_method_56_code
def yX7_inLowestTerms : MethodName := ⟨RX7, "inLowestTerms", "(III)J"⟩
abbrev cX7_commonDivisor : ByteArray := prog_1_method_57_code
def yX7_commonDivisor : MethodName := ⟨RX7, "commonDivisor", "(II)I"⟩
abbrev cX7_canSay : ByteArray := prog_1_method_58_code
def yX7_canSay : MethodName := ⟨RX7, "canSay", "(IIIII)I"⟩
abbrev cX7_turnsAt : ByteArray := prog_1_method_59_code
def yX7_turnsAt : MethodName := ⟨RX7, "turnsAt", "(II)Z"⟩
abbrev cX7_onceOf : ByteArray := prog_1_method_60_code
def yX7_onceOf : MethodName := ⟨RX7, "onceOf", "(I)I"⟩
abbrev cX7_lawful : ByteArray := prog_1_method_61_code
def yX7_lawful : MethodName := ⟨RX7, "lawful", "()I"⟩
abbrev cX7_firstSaid : ByteArray := prog_1_method_62_code
def yX7_firstSaid : MethodName := ⟨RX7, "firstSaid", "(I)I"⟩
abbrev cX7_secondSaid : ByteArray := prog_1_method_63_code
def yX7_secondSaid : MethodName := ⟨RX7, "secondSaid", "(I)I"⟩
abbrev cX7_sayableNext : ByteArray := prog_1_method_64_code
def yX7_sayableNext : MethodName := ⟨RX7, "sayableNext", "(IIII)I"⟩
abbrev cX7_sayable : ByteArray := prog_1_method_65_code
def yX7_sayable : MethodName := ⟨RX7, "sayable", "(I)I"⟩
abbrev cX7_sayableAs : ByteArray := prog_1_method_66_code
def yX7_sayableAs : MethodName := ⟨RX7, "sayableAs", "(II)I"⟩
abbrev cX7_allSayableWere : ByteArray := prog_1_method_67_code
def yX7_allSayableWere : MethodName := ⟨RX7, "allSayableWere", "(II)I"⟩
abbrev cX7_fittingFirst : ByteArray := prog_1_method_68_code
def yX7_fittingFirst : MethodName := ⟨RX7, "fittingFirst", "(I)I"⟩
abbrev cX7_fitting : ByteArray := prog_1_method_69_code
def yX7_fitting : MethodName := ⟨RX7, "fitting", "()I"⟩
abbrev cX7_fittingWithout : ByteArray := prog_1_method_70_code
def yX7_fittingWithout : MethodName := ⟨RX7, "fittingWithout", "(I)I"⟩
abbrev cX7_fittingWereMad : ByteArray := prog_1_method_71_code
def yX7_fittingWereMad : MethodName := ⟨RX7, "fittingWereMad", "(I)I"⟩
abbrev cX7_misfits : ByteArray := prog_1_method_72_code
def yX7_misfits : MethodName := ⟨RX7, "misfits", "(I)I"⟩
abbrev cX7_isSure : ByteArray := prog_1_method_73_code
def yX7_isSure : MethodName := ⟨RX7, "isSure", "(II)Z"⟩
abbrev cX7_thingsSure : ByteArray := prog_1_method_74_code
def yX7_thingsSure : MethodName := ⟨RX7, "thingsSure", "(IZ)I"⟩
abbrev cX7_findBest : ByteArray := prog_1_method_75_code
def yX7_findBest : MethodName := ⟨RX7, "findBest", "(II)Z"⟩
abbrev cX7_worstOf : ByteArray := prog_1_method_76_code
def yX7_worstOf : MethodName := ⟨RX7, "worstOf", "(IIII)I"⟩
abbrev cX7_worstBehind : ByteArray := prog_1_method_77_code
def yX7_worstBehind : MethodName := ⟨RX7, "worstBehind", "(III)I"⟩
abbrev cX7_strangerAsks : ByteArray := prog_1_method_78_code
def yX7_strangerAsks : MethodName := ⟨RX7, "strangerAsks", "(II)I"⟩
abbrev cX7_answered : ByteArray := prog_1_method_79_code
def yX7_answered : MethodName := ⟨RX7, "answered", "(IIZ)I"⟩
abbrev cX7_lotBehind : ByteArray := prog_1_method_80_code
def yX7_lotBehind : MethodName := ⟨RX7, "lotBehind", "(J)J"⟩
abbrev cX7_settles : ByteArray := prog_1_method_81_code
def yX7_settles : MethodName := ⟨RX7, "settles", "(II)Z"⟩
abbrev cX7_markOf : ByteArray := prog_1_method_82_code
def yX7_markOf : MethodName := ⟨RX7, "markOf", "(II)I"⟩
abbrev cX7_rowFits : ByteArray := prog_1_method_83_code
def yX7_rowFits : MethodName := ⟨RX7, "rowFits", "(III)Z"⟩
abbrev cX7_sayingTaken : ByteArray := prog_1_method_84_code
def yX7_sayingTaken : MethodName := ⟨RX7, "sayingTaken", "(II)I"⟩
abbrev cX7_speakerTaken : ByteArray := prog_1_method_85_code
def yX7_speakerTaken : MethodName := ⟨RX7, "speakerTaken", "(II)I"⟩
abbrev cX7_isOneOf : ByteArray := prog_1_method_86_code
def yX7_isOneOf : MethodName := ⟨RX7, "isOneOf", "(II)Z"⟩
def RX8 : String := "SaidTwiceModel"
def TX8 : u_T := fun k => match k with
  | 0 => ("SaidTwiceModel", "speakers", "I", false)
  | 1 => ("SaidTwiceModel", "kind", "[I", true)
  | 2 => ("SaidTwiceModel", "more", "[I", true)
  | 3 => ("SaidTwiceModel", "sayings", "I", false)
  | 4 => ("SaidTwiceModel", "talk", "[I", true)
  | 5 => ("SaidTwiceModel", "tape", "[I", true)
  | 6 => ("SaidTwiceModel", "taped", "I", false)
  | 7 => ("SaidTwiceModel", "codes", "[I", true)
  | 8 => ("SaidTwiceModel", "starts", "[I", true)
  | 9 => ("SaidTwiceModel", "texts", "I", false)
  | 10 => ("SaidTwiceModel", "rule", "I", false)
  | 11 => ("SaidTwiceModel", "hasImage", "Z", false)
  | 12 => ("SaidTwiceModel", "imageSpeakers", "I", false)
  | 13 => ("SaidTwiceModel", "imageSayings", "I", false)
  | 14 => ("SaidTwiceModel", "imageRule", "I", false)
  | 15 => ("SaidTwiceModel", "imageKinds", "[I", true)
  | 16 => ("SaidTwiceModel", "imageTalk", "[I", true)
  | 17 => ("SaidTwiceModel", "sheetSort", "[I", true)
  | 18 => ("SaidTwiceModel", "sheetSize", "[I", true)
  | 19 => ("SaidTwiceModel", "cells", "[I", true)
  | 20 => ("SaidTwiceModel", "law", "[I", true)
  | 21 => ("SaidTwiceModel", "at", "I", false)
  | 22 => ("SaidTwiceModel", "begun", "I", false)
  | 23 => ("SaidTwiceModel", "token", "I", false)
  | 24 => ("SaidTwiceModel", "value", "I", false)
  | 25 => ("SaidTwiceModel", "words", "[I", true)
  | 26 => ("SaidTwiceModel", "held", "[I", true)
  | 27 => ("SaidTwiceModel", "heldMany", "I", false)
  | 28 => ("SaidTwiceModel", "opens", "I", false)
  | 29 => ("SaidTwiceModel", "out", "I", false)
  | 30 => ("SaidTwiceModel", "stack", "[I", true)
  | 31 => ("SaidTwiceModel", "named", "[I", true)
  | 32 => ("SaidTwiceModel", "meant", "[J", true)
  | 33 => ("SaidTwiceModel", "fitting", "[J", true)
  | 34 => ("SaidTwiceModel", "bestAsked", "I", false)
  | 35 => ("SaidTwiceModel", "bestWorst", "I", false)
  | _ => ("SaidTwiceModel", "bestCosts", "I", false)
def tyX8 : Nat → FieldType := fun k => match k with
  | 0 => .int
  | 1 => .array .int
  | 2 => .array .int
  | 3 => .int
  | 4 => .array .int
  | 5 => .array .int
  | 6 => .int
  | 7 => .array .int
  | 8 => .array .int
  | 9 => .int
  | 10 => .int
  | 11 => .boolean
  | 12 => .int
  | 13 => .int
  | 14 => .int
  | 15 => .array .int
  | 16 => .array .int
  | 17 => .array .int
  | 18 => .array .int
  | 19 => .array .int
  | 20 => .array .int
  | 21 => .int
  | 22 => .int
  | 23 => .int
  | 24 => .int
  | 25 => .array .int
  | 26 => .array .int
  | 27 => .int
  | 28 => .int
  | 29 => .int
  | 30 => .array .int
  | 31 => .array .int
  | 32 => .array .long
  | 33 => .array .long
  | 34 => .int
  | 35 => .int
  | _ => .int
abbrev wsX80 : List Cond := u_ws RX8 TX8 37
theorem nmX8 : ∀ a, a < 37 → ∀ b, b < 37 → a ≠ b → (TX8 a).2.1 ≠ (TX8 b).2.1 := by decide +kernel
theorem tyX8_ok : ∀ k, k < 37 → parseFieldDescriptor (TX8 k).2.2.1 = some (tyX8 k) := by decide +kernel
abbrev cX8_init : ByteArray := prog_10_method_1_code
def yX8_init : MethodName := ⟨RX8, "<init>", "()V"⟩
abbrev cX8_in : ByteArray := prog_10_method_3_code
def yX8_in : MethodName := ⟨RX8, "in", "(III)Z"⟩
abbrev cX8_within : ByteArray := prog_10_method_4_code
def yX8_within : MethodName := ⟨RX8, "within", "(III)I"⟩
abbrev cX8_isSpeaker : ByteArray := prog_10_method_5_code
def yX8_isSpeaker : MethodName := ⟨RX8, "isSpeaker", "(I)Z"⟩
abbrev cX8_isOfTexts : ByteArray := prog_10_method_6_code
def yX8_isOfTexts : MethodName := ⟨RX8, "isOfTexts", "(I)Z"⟩
abbrev cX8_isWorld : ByteArray := prog_10_method_7_code
def yX8_isWorld : MethodName := ⟨RX8, "isWorld", "(I)Z"⟩
abbrev cX8_has : ByteArray := prog_10_method_8_code
def yX8_has : MethodName := ⟨RX8, "has", "(JI)Z"⟩
abbrev cX8_bitsOf : ByteArray := prog_10_method_9_code
def yX8_bitsOf : MethodName := ⟨RX8, "bitsOf", "(J)I"⟩
abbrev cX8_count : ByteArray := prog_10_method_10_code
def yX8_count : MethodName := ⟨RX8, "count", "(I)I"⟩
abbrev cX8_isByte : ByteArray := prog_10_method_11_code
def yX8_isByte : MethodName := ⟨RX8, "isByte", "(I)Z"⟩
abbrev cX8_feed : ByteArray := prog_10_method_12_code
def yX8_feed : MethodName := ⟨RX8, "feed", "(IIIIII)I"⟩
abbrev cX8_wordFrom : ByteArray := prog_10_method_13_code
def yX8_wordFrom : MethodName := ⟨RX8, "wordFrom", "(II)I"⟩
abbrev cX8_next : ByteArray := prog_10_method_14_code
def yX8_next : MethodName := ⟨RX8, "next", "()V"⟩
abbrev cX8_rank : ByteArray := prog_10_method_15_code
def yX8_rank : MethodName := ⟨RX8, "rank", "(I)I"⟩
abbrev cX8_puts : ByteArray := prog_10_method_16_code
def yX8_puts : MethodName := ⟨RX8, "puts", "(I)V"⟩
abbrev cX8_unwinds : ByteArray := prog_10_method_17_code
def yX8_unwinds : MethodName := ⟨RX8, "unwinds", "(I)V"⟩
abbrev cX8_holds : ByteArray := prog_10_method_18_code
def yX8_holds : MethodName := ⟨RX8, "holds", "(I)V"⟩
abbrev cX8_opensOne : ByteArray := prog_10_method_19_code
def yX8_opensOne : MethodName := ⟨RX8, "opensOne", "(I)Z"⟩
abbrev cX8_between : ByteArray := prog_10_method_20_code
def yX8_between : MethodName := ⟨RX8, "between", "(I)Z"⟩
abbrev cX8_signOf : ByteArray := prog_10_method_21_code
def yX8_signOf : MethodName := ⟨RX8, "signOf", "()I"⟩
abbrev cX8_eRead : ByteArray := prog_10_method_22_code
def yX8_eRead : MethodName := ⟨RX8, "eRead", "()Z"⟩
abbrev cX8_text : ByteArray := prog_10_method_23_code
def yX8_text : MethodName := ⟨RX8, "text", "()I"⟩
abbrev cX8_two : ByteArray := prog_10_method_24_code
def yX8_two : MethodName := ⟨RX8, "two", "(III)I"⟩
abbrev cX8_says : ByteArray := prog_10_method_25_code
def yX8_says : MethodName := ⟨RX8, "says", "(I)I"⟩
abbrev cX8_force : ByteArray := prog_10_method_26_code
def yX8_force : MethodName := ⟨RX8, "force", "(I)I"⟩
abbrev cX8_saysOf : ByteArray := prog_10_method_27_code
def yX8_saysOf : MethodName := ⟨RX8, "saysOf", "(IIII)I"⟩
abbrev cX8_asks : ByteArray := prog_10_method_28_code
def yX8_asks : MethodName := ⟨RX8, "asks", "(IIII)I"⟩
abbrev cX8_soIn : ByteArray := prog_10_method_29_code
def yX8_soIn : MethodName := ⟨RX8, "soIn", "(III)J"⟩
abbrev cX8_means : ByteArray := prog_10_method_30_code
def yX8_means : MethodName := ⟨RX8, "means", "(II)J"⟩
abbrev cX8_pairs : ByteArray := prog_10_method_31_code
def yX8_pairs : MethodName := ⟨RX8, "pairs", "(I)I"⟩
abbrev cX8_reads : ByteArray := prog_10_method_32_code
def yX8_reads : MethodName := ⟨RX8, "reads", "()V"⟩
abbrev cX8_once : ByteArray := prog_10_method_33_code
def yX8_once : MethodName := ⟨RX8, "once", "(I)J"⟩
abbrev cX8_isSo : ByteArray := prog_10_method_34_code
def yX8_isSo : MethodName := ⟨RX8, "isSo", "(II)Z"⟩
abbrev cX8_speaker : ByteArray := prog_10_method_35_code
def yX8_speaker : MethodName := ⟨RX8, "speaker", "(II)I"⟩
abbrev cX8_turn : ByteArray := prog_10_method_36_code
def yX8_turn : MethodName := ⟨RX8, "turn", "(III)I"⟩
abbrev cX8_told : ByteArray := prog_10_method_37_code
def yX8_told : MethodName := ⟨RX8, "told", "(II)I"⟩
abbrev cX8_say : ByteArray := prog_10_method_38_code
def yX8_say : MethodName := ⟨RX8, "say", "(III)I"⟩
abbrev cX8_unsay : ByteArray := prog_10_method_39_code
def yX8_unsay : MethodName := ⟨RX8, "unsay", "()I"⟩
abbrev cX8_said : ByteArray := prog_10_method_40_code
def yX8_said : MethodName := ⟨RX8, "said", "(II)I"⟩
abbrev cX8_canSay : ByteArray := prog_10_method_41_code
def yX8_canSay : MethodName := ⟨RX8, "canSay", "(IIIIII)J"⟩
abbrev cX8_fits : ByteArray := prog_10_method_42_code
def yX8_fits : MethodName := ⟨RX8, "fits", "(IIII)J"⟩
abbrev cX8_fitsSaying : ByteArray := prog_10_method_43_code
def yX8_fitsSaying : MethodName := ⟨RX8, "fitsSaying", "(I)J"⟩
abbrev cX8_worldsOf : ByteArray := prog_10_method_44_code
def yX8_worldsOf : MethodName := ⟨RX8, "worldsOf", "(I)J"⟩
abbrev cX8_worldsNow : ByteArray := prog_10_method_45_code
def yX8_worldsNow : MethodName := ⟨RX8, "worldsNow", "()J"⟩
abbrev cX8_worlds : ByteArray := prog_10_method_46_code
def yX8_worlds : MethodName := ⟨RX8, "worlds", "()J"⟩
abbrev cX8_allIn : ByteArray := prog_10_method_47_code
def yX8_allIn : MethodName := ⟨RX8, "allIn", "(J)I"⟩
abbrev cX8_noneIn : ByteArray := prog_10_method_48_code
def yX8_noneIn : MethodName := ⟨RX8, "noneIn", "(J)I"⟩
abbrev cX8_leastOf : ByteArray := prog_10_method_49_code
def yX8_leastOf : MethodName := ⟨RX8, "leastOf", "(J)I"⟩
abbrev cX8_behind : ByteArray := prog_10_method_50_code
def yX8_behind : MethodName := ⟨RX8, "behind", "(II)I"⟩
abbrev cX8_cannot : ByteArray := prog_10_method_51_code
def yX8_cannot : MethodName := ⟨RX8, "cannot", "()I"⟩
abbrev cX8_findsFitting : ByteArray := prog_10_method_52_code
def yX8_findsFitting : MethodName := ⟨RX8, "findsFitting", "()V"⟩
abbrev cX8_without : ByteArray := prog_10_method_53_code
def yX8_without : MethodName := ⟨RX8, "without", "(I)J"⟩
abbrev cX8_lies : ByteArray := prog_10_method_54_code
def yX8_lies : MethodName := ⟨RX8, "lies", "()I"⟩
abbrev cX8_least : ByteArray := prog_10_method_55_code
def yX8_least : MethodName := ⟨RX8, "least", "(I)I"⟩
abbrev cX8_worldsMad : ByteArray := prog_10_method_56_code
def yX8_worldsMad : MethodName := ⟨RX8, "worldsMad", "(I)J"⟩
abbrev cX8_mad : ByteArray := prog_10_method_57_code
def yX8_mad : MethodName := ⟨RX8, "mad", "(I)I"⟩
abbrev cX8_lowest : ByteArray := prog_10_method_58_code
def yX8_lowest : MethodName := ⟨RX8, "lowest", "(JJI)J"⟩
abbrev cX8_habit : ByteArray := prog_10_method_59_code
def yX8_habit : MethodName := ⟨RX8, "habit", "(III)J"⟩
abbrev cX8_kinds : ByteArray := prog_10_method_60_code
def yX8_kinds : MethodName := ⟨RX8, "kinds", "(II)I"⟩
abbrev cX8_worstOf : ByteArray := prog_10_method_61_code
def yX8_worstOf : MethodName := ⟨RX8, "worstOf", "(JIII)I"⟩
abbrev cX8_findsQuestion : ByteArray := prog_10_method_62_code
def yX8_findsQuestion : MethodName := ⟨RX8, "findsQuestion", "(JI)V"⟩
abbrev cX8_ask : ByteArray := prog_10_method_63_code
def yX8_ask : MethodName := ⟨RX8, "ask", "(I)I"⟩
abbrev cX8_worstBehind : ByteArray := prog_10_method_64_code
def yX8_worstBehind : MethodName := ⟨RX8, "worstBehind", "(J)I"⟩
abbrev cX8_two_ : ByteArray := prog_10_method_65_code
def yX8_two_ : MethodName := ⟨RX8, "two", "(I)I"⟩
abbrev cX8_parts : ByteArray := prog_10_method_66_code
def yX8_parts : MethodName := ⟨RX8, "parts", "(III)J"⟩
abbrev cX8_isSure : ByteArray := prog_10_method_67_code
def yX8_isSure : MethodName := ⟨RX8, "isSure", "(JI)Z"⟩
abbrev cX8_hide : ByteArray := prog_10_method_68_code
def yX8_hide : MethodName := ⟨RX8, "hide", "(III)I"⟩
abbrev cX8_same : ByteArray := prog_10_method_69_code
def yX8_same : MethodName := ⟨RX8, "same", "(III)I"⟩
abbrev cX8_claims : ByteArray := prog_10_method_70_code
def yX8_claims : MethodName := ⟨RX8, "claims", "(I)I"⟩
abbrev cX8_settles : ByteArray := prog_10_method_71_code
def yX8_settles : MethodName := ⟨RX8, "settles", "(JI)Z"⟩
abbrev cX8_settle : ByteArray := prog_10_method_72_code
def yX8_settle : MethodName := ⟨RX8, "settle", "(I)I"⟩
abbrev cX8_thrice : ByteArray := prog_10_method_73_code
def yX8_thrice : MethodName := ⟨RX8, "thrice", "(III)J"⟩
abbrev cX8_many : ByteArray := prog_10_method_74_code
def yX8_many : MethodName := ⟨RX8, "many", "(I)I"⟩
abbrev cX8_isRow : ByteArray := prog_10_method_75_code
def yX8_isRow : MethodName := ⟨RX8, "isRow", "(III)Z"⟩
abbrev cX8_judge : ByteArray := prog_10_method_76_code
def yX8_judge : MethodName := ⟨RX8, "judge", "(II)I"⟩
abbrev cX8_film : ByteArray := prog_10_method_77_code
def yX8_film : MethodName := ⟨RX8, "film", "(I)I"⟩
abbrev cX8_worldAt : ByteArray := prog_10_method_78_code
def yX8_worldAt : MethodName := ⟨RX8, "worldAt", "(JI)I"⟩
abbrev cX8_asksBy : ByteArray := prog_10_method_79_code
def yX8_asksBy : MethodName := ⟨RX8, "asksBy", "(JI)I"⟩
abbrev cX8_drawn : ByteArray := prog_10_method_80_code
def yX8_drawn : MethodName := ⟨RX8, "drawn", "(I)I"⟩
abbrev cX8_mean : ByteArray := prog_10_method_81_code
def yX8_mean : MethodName := ⟨RX8, "mean", "(III)J"⟩
abbrev cX8_image : ByteArray := prog_10_method_82_code
def yX8_image : MethodName := ⟨RX8, "image", "()I"⟩
abbrev cX8_back : ByteArray := prog_10_method_83_code
def yX8_back : MethodName := ⟨RX8, "back", "()I"⟩
abbrev cX8_sheet : ByteArray := prog_10_method_84_code
def yX8_sheet : MethodName := ⟨RX8, "sheet", "(III)I"⟩
abbrev cX8_cell : ByteArray := prog_10_method_85_code
def yX8_cell : MethodName := ⟨RX8, "cell", "(III)I"⟩
abbrev cX8_copy : ByteArray := prog_10_method_86_code
def yX8_copy : MethodName := ⟨RX8, "copy", "(IIIII)I"⟩
abbrev cX8_sayingsBy : ByteArray := prog_10_method_87_code
def yX8_sayingsBy : MethodName := ⟨RX8, "sayingsBy", "(IIII)I"⟩
abbrev cX8_isUnder : ByteArray := prog_10_method_88_code
def yX8_isUnder : MethodName := ⟨RX8, "isUnder", "(II)Z"⟩
abbrev cX8_taken : ByteArray := prog_10_method_89_code
def yX8_taken : MethodName := ⟨RX8, "taken", "(II)I"⟩
def RJ6 : String := "java/lang/Integer"
def TJ6 : u_T := fun k => match k with
  | _ => ("", "", "", false)
def tyJ6 : Nat → FieldType := fun k => match k with
  | _ => .int
abbrev wsJ60 : List Cond := u_ws RJ6 TJ6 0
theorem nmJ6 : ∀ a, a < 0 → ∀ b, b < 0 → a ≠ b → (TJ6 a).2.1 ≠ (TJ6 b).2.1 := by decide +kernel
theorem tyJ6_ok : ∀ k, k < 0 → parseFieldDescriptor (TJ6 k).2.2.1 = some (tyJ6 k) := by decide +kernel
abbrev cJ6_bitCount_0f7a4 : ByteArray := prog_11_method_49_code
def yJ6_bitCount_0f7a4 : MethodName := ⟨RJ6, "bitCount", "(I)I"⟩
def RJ9 : String := "java/lang/Math"
def TJ9 : u_T := fun k => match k with
  | _ => ("", "", "", false)
def tyJ9 : Nat → FieldType := fun k => match k with
  | _ => .int
abbrev wsJ90 : List Cond := u_ws RJ9 TJ9 0
theorem nmJ9 : ∀ a, a < 0 → ∀ b, b < 0 → a ≠ b → (TJ9 a).2.1 ≠ (TJ9 b).2.1 := by decide +kernel
theorem tyJ9_ok : ∀ k, k < 0 → parseFieldDescriptor (TJ9 k).2.2.1 = some (tyJ9 k) := by decide +kernel
abbrev cJ9_max_7cf53 : ByteArray := prog_12_method_65_code
def yJ9_max_7cf53 : MethodName := ⟨RJ9, "max", "(II)I"⟩
abbrev cJ9_min_7cf53 : ByteArray := prog_12_method_69_code
def yJ9_min_7cf53 : MethodName := ⟨RJ9, "min", "(II)I"⟩
def RJ0 : String := "java/lang/String"
def TJ0 : u_T := fun k => match k with
  | _ => ("", "", "", false)
def tyJ0 : Nat → FieldType := fun k => match k with
  | _ => .int
abbrev wsJ00 : List Cond := u_ws RJ0 TJ0 0
theorem nmJ0 : ∀ a, a < 0 → ∀ b, b < 0 → a ≠ b → (TJ0 a).2.1 ≠ (TJ0 b).2.1 := by decide +kernel
theorem tyJ0_ok : ∀ k, k < 0 → parseFieldDescriptor (TJ0 k).2.2.1 = some (tyJ0 k) := by decide +kernel
abbrev cJ0_length_8abf5 : ByteArray := prog_13_method_54_code
def yJ0_length_8abf5 : MethodName := ⟨RJ0, "length", "()I"⟩
abbrev cJ0_charAt_5068e : ByteArray := prog_13_method_56_code
def yJ0_charAt_5068e : MethodName := ⟨RJ0, "charAt", "(I)C"⟩
abbrev cJ0_coder_7d493 : ByteArray := prog_13_method_152_code
def yJ0_coder_7d493 : MethodName := ⟨RJ0, "coder", "()B"⟩
abbrev cJ0_isLatin1_aae02 : ByteArray := prog_13_method_154_code
def yJ0_isLatin1_aae02 : MethodName := ⟨RJ0, "isLatin1", "()Z"⟩
abbrev cJ0_checkIndex_df160 : ByteArray := prog_13_method_155_code
def yJ0_checkIndex_df160 : MethodName := ⟨RJ0, "checkIndex", "(II)V"⟩
def RJ1 : String := "java/lang/StringLatin1"
def TJ1 : u_T := fun k => match k with
  | _ => ("", "", "", false)
def tyJ1 : Nat → FieldType := fun k => match k with
  | _ => .int
abbrev wsJ10 : List Cond := u_ws RJ1 TJ1 0
theorem nmJ1 : ∀ a, a < 0 → ∀ b, b < 0 → a ≠ b → (TJ1 a).2.1 ≠ (TJ1 b).2.1 := by decide +kernel
theorem tyJ1_ok : ∀ k, k < 0 → parseFieldDescriptor (TJ1 k).2.2.1 = some (tyJ1 k) := by decide +kernel
abbrev cJ1_charAt_3b067 : ByteArray := prog_14_method_2_code
def yJ1_charAt_3b067 : MethodName := ⟨RJ1, "charAt", "([BI)C"⟩
def RJ2 : String := "java/lang/StringUTF16"
def TJ2 : u_T := fun k => match k with
  | _ => ("", "", "", false)
def tyJ2 : Nat → FieldType := fun k => match k with
  | _ => .int
abbrev wsJ20 : List Cond := u_ws RJ2 TJ2 0
theorem nmJ2 : ∀ a, a < 0 → ∀ b, b < 0 → a ≠ b → (TJ2 a).2.1 ≠ (TJ2 b).2.1 := by decide +kernel
theorem tyJ2_ok : ∀ k, k < 0 → parseFieldDescriptor (TJ2 k).2.2.1 = some (tyJ2 k) := by decide +kernel
abbrev cJ2_getChar_3b067 : ByteArray := prog_15_method_5_code
def yJ2_getChar_3b067 : MethodName := ⟨RJ2, "getChar", "([BI)C"⟩
abbrev cJ2_length_9d52b : ByteArray := prog_15_method_6_code
def yJ2_length_9d52b : MethodName := ⟨RJ2, "length", "([B)I"⟩
abbrev cJ2_charAt_3b067 : ByteArray := prog_15_method_83_code
def yJ2_charAt_3b067 : MethodName := ⟨RJ2, "charAt", "([BI)C"⟩
abbrev cJ2_checkIndex_2214a : ByteArray := prog_15_method_91_code
def yJ2_checkIndex_2214a : MethodName := ⟨RJ2, "checkIndex", "(I[B)V"⟩
def RJ3 : String := "jdk/internal/util/Preconditions"
def TJ3 : u_T := fun k => match k with
  | _ => ("", "", "", false)
def tyJ3 : Nat → FieldType := fun k => match k with
  | _ => .int
abbrev wsJ30 : List Cond := u_ws RJ3 TJ3 0
theorem nmJ3 : ∀ a, a < 0 → ∀ b, b < 0 → a ≠ b → (TJ3 a).2.1 ≠ (TJ3 b).2.1 := by decide +kernel
theorem tyJ3_ok : ∀ k, k < 0 → parseFieldDescriptor (TJ3 k).2.2.1 = some (tyJ3 k) := by decide +kernel
abbrev cJ3_checkIndex_8e157 : ByteArray := prog_16_method_11_code
def yJ3_checkIndex_8e157 : MethodName := ⟨RJ3, "checkIndex", "(IILjava/util/function/BiFunction;)I"⟩
def RL : String := "SaidTwiceLaw"
abbrev cL_law : ByteArray := code
def yL_law : MethodName := ⟨RL, "law", "([I)Z"⟩
abbrev vwCl : List vw_C := [(RX0, TX0, 6), (RX1, TX1, 2), (RX2, TX2, 4), (RX3, TX3, 4), (RX4, TX4, 6), (RX5, TX5, 4), (RX6, TX6, 6), (RX7, TX7, 9), (RX8, TX8, 37)]

/-- the words of the tables that any method may be given -/
def TBL : List Cond := lw_tbl.filter goodWord
theorem tb_good : ∀ w ∈ TBL, goodWord w = true := fun w h => (List.mem_filter.mp h).2
theorem tb_at {w : Cond} (i : Nat) (h : lw_tbl[i]? = some w) (hg : goodWord w = true) : w ∈ TBL := List.mem_filter.mpr ⟨List.mem_of_getElem? h, hg⟩
theorem tb_list {ws : List Cond} (ps : List Nat) (hp : ws = ps.filterMap (fun i => lw_tbl[i]?)) (h : ws.all goodWord = true) : ∀ w ∈ ws, w ∈ TBL := by
  intro w hw
  have h1 := List.all_eq_true.mp h w hw
  rw [hp] at hw
  obtain ⟨i, -, hi⟩ := List.mem_filterMap.mp hw
  exact tb_at i hi h1
end
section
/-! THE ABSTRACT MACHINE: methods run over a list of cells whose references are places; what it reaches, the machine itself reaches (part 03). -/
abbrev AC : Type := (Nat × List Value) ⊕ (List Int32 ⊕ List Int64)
abbrev AO (ci : Nat) (fs : List Value) : AC := .inl (ci, fs)
abbrev AI (xs : List Int32) : AC := .inr (.inl xs)
abbrev AL (xs : List Int64) : AC := .inr (.inr xs)
abbrev AH : Type := List AC
abbrev LO : Type := List (Option Value)
/-- a method: its name, bytes, locals, return type, how many arguments (the receiver too), cells and slots that it makes -/
abbrev Sig : Type := MethodName × ByteArray × Nat × Option FieldType × Nat × Nat × Nat
abbrev sY (g : Sig) : MethodName := g.1
abbrev sB (g : Sig) : ByteArray := g.2.1
abbrev sL (g : Sig) : Nat := g.2.2.1
abbrev sR (g : Sig) : Option FieldType := g.2.2.2.1
abbrev sA (g : Sig) : Nat := g.2.2.2.2.1
abbrev sC (g : Sig) : Nat := g.2.2.2.2.2.1
abbrev sS (g : Sig) : Nat := g.2.2.2.2.2.2
/-- a row: the instruction, its place, the next row, two numbers and a whole number of its kind, targets of a switch, the method that it calls -/
abbrev Row : Type := Instr × Nat × Nat × Nat × Nat × Int × List Nat × Sig
/-- the classes, what their fields are -/
def clTy : List (Nat → FieldType) := [tyX0, tyX1, tyX2, tyX3, tyX4, tyX5, tyX6, tyX7, tyX8]
/-- the length of the instructions that have one -/
def ilen : Instr → Nat
  | .aload _ | .astore _ | .iload _ | .istore _ | .lload _ | .lstore _ | .bipush _ | .ldc _ | .newarray _ => 2
  | .sipush _ | .ldc_w _ | .ldc2_w _ | .getfield _ | .putfield _ | .getstatic _ | .invokevirtual _ | .invokestatic _ | .invokespecial _ | .new _ | .goto _ | .if_icmp _ _ | .ifCond _ _ | .ifnull _ | .ifnonnull _ | .iinc _ _ => 3
  | _ => 1
def isNest : Cond → Bool
  | .fieldLinkNest _ _ _ _ _ _ => true
  | .methodLinkNest _ _ _ _ => true
  | _ => false
def NWL : List Cond := lw_tbl.filter isNest
end
section
/-! WHAT THE ABSTRACT MACHINE REACHES, THE MACHINE REACHES. -/
def pcO (code : List Row) (i : Nat) : Nat := match code[i]? with
  | some r => r.2.1
  | none => 0
def clOk (a b : Nat) : Bool := match vwCl[a]? with
  | some q => Nat.blt b q.2.2
  | none => false
def sgOk (g : Sig) (n : Nat) : Bool := decide ((sY g).cls ≠ "java/lang/invoke/MethodHandle") && decide ((sY g).cls ≠ "java/lang/invoke/VarHandle") && decide ((parseMethodDescriptor (sY g).desc).map (fun d => d.parameters.length) = some n)
def clN (a : Nat) : String := (vwCl.getD a (RX0, TX0, 6)).1
def clF (a b : Nat) : String × String × String × Bool := ((vwCl.getD a (RX0, TX0, 6)).2.1) b
def clS (a : Nat) : Nat := (vwCl.getD a (RX0, TX0, 6)).2.2
/-- the words of a row, out of the tables -/
def needT (own : String) (r : Row) : List Cond := match r with
  | (ins, _, _, a, b, c, _, cs) => match ins with
    | .getfield ix => if c = 0 then [.fieldLink own ix (clN a) (clF a b).2.1 (clF a b).2.2.1] else []
    | .putfield ix => if c = 0 then [.fieldLink own ix (clN a) (clF a b).2.1 (clF a b).2.2.1] else []
    | .getstatic ix => [.fieldLink own ix "SaidTwice" "SO_IN" "[I"]
    | .invokevirtual ix => if c = 0 then [.methodLink own ix (sY cs)] else []
    | .invokestatic ix => if b = 7 then [.methodLink own ix Lib.Math.max.name, .static Lib.Math.max.name, .initialized "java/lang/Math", .code Lib.Math.max.name Lib.Math.max.code 2 (some .int)] else if b = 8 then [.methodLink own ix Lib.Math.min.name, .static Lib.Math.min.name, .initialized "java/lang/Math", .code Lib.Math.min.name Lib.Math.min.code 2 (some .int)] else if c = 0 then [.methodLink own ix (sY cs)] else []
    | .invokespecial ix => if b = 9 then [.methodLink own ix Lib.objectInit, .instanceMethod Lib.objectInit, .code Lib.objectInit ⟨#[0xb1]⟩ 1 none] else if c = 0 then [.methodLink own ix (sY cs)] else []
    | .new ix => [.classLink own ix (clN a), .instantiable (clN a) (clS a), .initialized (clN a)]
    | .newarray t => [.arrayClass (newarray.typeOf t)]
    | .ldc ix => [.constant own ix (Int32.ofInt c)]
    | .ldc_w ix => [.constant own ix (Int32.ofInt c)]
    | .ldc2_w ix => [.constantLong own ix (Int64.ofInt c)]
    | _ => []
/-- the words of a row between nest mates -/
def needN (own : String) (r : Row) : List Cond := match r with
  | (ins, _, _, a, b, c, _, cs) => if c = 1 then (match ins with
    | .getfield ix => [.fieldLinkNest own ix (clN a) (clF a b).2.1 (clF a b).2.2.1 "SaidTwice"]
    | .putfield ix => [.fieldLinkNest own ix (clN a) (clF a b).2.1 (clF a b).2.2.1 "SaidTwice"]
    | .invokevirtual ix => [.methodLinkNest own ix (sY cs) "SaidTwice"]
    | .invokestatic ix => [.methodLinkNest own ix (sY cs) "SaidTwice"]
    | .invokespecial ix => if b = 9 then [] else [.methodLinkNest own ix (sY cs) "SaidTwice"]
    | _ => []) else []
/-- what is said of a method that is called: a static one, an object's, a constructor -/
def SgS (cs : Sig) : Prop := sgOk cs (sA cs) = true ∧ ∀ w ∈ [Cond.static (sY cs), .initialized (sY cs).cls, .code (sY cs) (sB cs) (sL cs) (sR cs)], w ∈ TBL
def SgV (cs : Sig) (a : Nat) : Prop := (sgOk cs (sA cs - 1) && (decide ((sY cs).cls = clN a) && (clOk a 0 && decide (1 ≤ sA cs)))) = true ∧ ∀ w ∈ [Cond.instanceMethod (sY cs), .selects (clN a) (sY cs) (sY cs), .initialized (sY cs).cls, .code (sY cs) (sB cs) (sL cs) (sR cs)], w ∈ TBL
def SgI (cs : Sig) : Prop := (sgOk cs (sA cs - 1) && (decide (1 ≤ sA cs) && (decide ((sY cs).name = "<init>") && decide (sR cs = none)))) = true ∧ ∀ w ∈ [Cond.instanceMethod (sY cs), .initialized (sY cs).cls, .code (sY cs) (sB cs) (sL cs) (sR cs)], w ∈ TBL
def callOk (r : Row) : Prop := match r with
  | (ins, _, _, a, b, _, _, cs) => match ins with
    | .invokestatic _ => match Nat.beq b 7 || Nat.beq b 8 with
      | true => True
      | false => SgS cs
    | .invokevirtual _ => SgV cs a
    | .invokespecial _ => match Nat.beq b 9 with
      | true => True
      | false => SgI cs
    | _ => True
/-- the same of all rows -/
def allC : List Row → Prop
  | [] => True
  | (ins, _, _, a, b, _, _, cs) :: rs => match ins with
    | .invokestatic _ => match Nat.beq b 7 || Nat.beq b 8 with
      | true => allC rs
      | false => SgS cs ∧ allC rs
    | .invokevirtual _ => SgV cs a ∧ allC rs
    | .invokespecial _ => match Nat.beq b 9 with
      | true => allC rs
      | false => SgI cs ∧ allC rs
    | _ => allC rs
theorem allC_mem : ∀ {rs : List Row}, allC rs → ∀ r ∈ rs, callOk r := by
  intro rs
  induction rs with
  | nil => intro _ r hr; cases hr
  | cons q rs ih =>
    intro h r hr
    obtain ⟨ins, pc, nx, a, b, c, ts, cs⟩ := q
    have both : callOk (ins, pc, nx, a, b, c, ts, cs) ∧ allC rs := by
      cases ins
      case invokevirtual ix => exact h
      case invokestatic ix =>
        cases hb : (Nat.beq b 7 || Nat.beq b 8) with
        | true =>
          simp only [allC, hb] at h
          exact ⟨by simp only [callOk, hb], h⟩
        | false =>
          simp only [allC, hb] at h
          exact ⟨by simp only [callOk, hb]; exact h.1, h.2⟩
      case invokespecial ix =>
        cases hb : Nat.beq b 9 with
        | true =>
          simp only [allC, hb] at h
          exact ⟨by simp only [callOk, hb], h⟩
        | false =>
          simp only [allC, hb] at h
          exact ⟨by simp only [callOk, hb]; exact h.1, h.2⟩
      all_goals exact ⟨trivial, h⟩
    rcases List.mem_cons.mp hr with rfl | hr
    · exact both.1
    · exact ih both.2 r hr
/-- what a program decides of a row: pn is where the next one stands -/
def rowP (g : Sig) (code : List Row) (pn : Nat) (r : Row) : Bool := match r with
  | (ins, pc, nx, a, b, c, ts, cs) => match ins with
    | .nop => true
    | .tableswitch d lo hi offs => decide (decode (sB g) pc = .ok (ins, pn - pc)) && (decide ((pc : Int) + d = (pcO code a : Int)) && (decide (offs.toList.map (fun o => (pc : Int) + o) = ts.map (fun t => (pcO code t : Int))) && decide (hi = lo + (ts.length : Int) - 1)))
    | .lookupswitch d ps => decide (decode (sB g) pc = .ok (ins, pn - pc)) && (decide ((pc : Int) + d = (pcO code a : Int)) && (decide (ps.toList.map (fun o => (pc : Int) + o.2) = ts.map (fun t => (pcO code t : Int))) && ((ps.toList.zip (ps.toList.drop 1)).all (fun (a, next) => a.1 < next.1) && ps.toList.all (fun o => decide ((Int32.ofInt o.1).toInt = o.1)))))
    | _ => decide (decode (sB g) pc = .ok (ins, ilen ins)) && (match ins with
      | .ireturn | .lreturn | .return_ => true
      | .goto o => decide ((pc : Int) + o = (pcO code a : Int))
      | .ifCond _ o | .if_icmp _ o | .ifnull o | .ifnonnull o => decide ((pc : Int) + o = (pcO code a : Int)) && decide (pn = pc + 3)
      | .iconst z => decide (Int32.ofInt z = Int32.ofInt c) && decide (pn = pc + 1)
      | .bipush z => decide ((Int8.ofInt z).toInt32 = Int32.ofInt c) && decide (pn = pc + 2)
      | .sipush z => decide ((Int16.ofInt z).toInt32 = Int32.ofInt c) && decide (pn = pc + 3)
      | .lconst z => decide (Int64.ofNat z.val = Int64.ofInt c) && decide (pn = pc + 1)
      | .iinc _ z => decide (Int32.ofInt z = Int32.ofInt c) && decide (pn = pc + 3)
      | .getfield _ => clOk a b && (decide (c = 0 ∨ c = 1) && decide (pn = pc + 3))
      | .putfield _ => clOk a b && (decide (c = 0 ∨ c = 1) && (decide ((clF a b).2.2.2 = false ∨ ((sY g).name = "<init>" ∧ (clF a b).1 = (sY g).cls ∧ c = 0)) && decide (pn = pc + 3)))
      | .invokevirtual _ | .invokestatic _ | .invokespecial _ => decide (c = 0 ∨ c = 1) && decide (pn = pc + 3)
      | .new _ => clOk a 0 && decide (pn = pc + 3)
      | i => decide (pn = pc + ilen i))
def rowB (g : Sig) (code : List Row) (r : Row) : Bool := rowP g code (pcO code r.2.2.1) r
def nxPc : List Row → Nat
  | [] => 0
  | q :: _ => q.2.1
/-- the rows from the i-th on, in one pass -/
def linB (g : Sig) (code : List Row) : Nat → List Row → Bool
  | _, [] => true
  | i, r :: rs => rowP g code (nxPc rs) r && (Nat.beq r.2.2.1 (i + 1) && linB g code (i + 1) rs)
theorem linB_spec {g : Sig} {code : List Row} : ∀ {rs pre : List Row}, code = pre ++ rs → linB g code pre.length rs = true → ∀ r ∈ rs, rowB g code r = true := by
  intro rs
  induction rs with
  | nil => intro pre _ _ r hr; cases hr
  | cons q rs ih =>
    intro pre hc h r hr
    simp only [linB, Bool.and_eq_true] at h
    obtain ⟨h1, h2, h3⟩ := h
    have hnx : q.2.2.1 = pre.length + 1 := Nat.eq_of_beq_eq_true h2
    rcases List.mem_cons.mp hr with rfl | hr
    · unfold rowB
      rw [hnx]
      have : pcO code (pre.length + 1) = (nxPc rs) := by
        unfold pcO
        rw [hc]
        cases rs with
        | nil => simp [nxPc]
        | cons a rs => simp [nxPc]
      rw [this]
      exact h1
    · exact ih (pre := pre ++ [q]) (by simp [hc]) (by simpa using h3) r hr
/-- a stretch of rows, the row behind which stands at pe -/
def linE (g : Sig) (code : List Row) (pe : Nat) : Nat → List Row → Bool
  | _, [] => true
  | i, r :: rs => rowP g code (match rs with | [] => pe | q :: _ => q.2.1) r && (Nat.beq r.2.2.1 (i + 1) && linE g code pe (i + 1) rs)
theorem linB_app {g : Sig} {code : List Row} : ∀ {a b : List Row} {i : Nat}, linE g code (nxPc b) i a = true → linB g code (i + a.length) b = true → linB g code i (a ++ b) = true := by
  intro a
  induction a with
  | nil => intro b i _ h; simpa using h
  | cons x a ih =>
    intro b i h1 h2
    simp only [linE, Bool.and_eq_true] at h1
    obtain ⟨g1, g2, g3⟩ := h1
    simp only [List.cons_append, linB, Bool.and_eq_true]
    refine ⟨?_, g2, ih g3 (by rw [show i + 1 + a.length = i + (x :: a).length by simp; omega]; exact h2)⟩
    cases a with
    | cons y a => exact g1
    | nil => exact g1
/-- what is checked of a method -/
def Chk (g : Sig) (code : List Row) : Prop := linB g code 0 code = true ∧ allC code ∧ (∀ w ∈ code.flatMap (needT (sY g).cls), w ∈ TBL) ∧ (∀ w ∈ code.flatMap (needN (sY g).cls), w ∈ NWL) ∧ plainName (sY g).cls = true
end
section
def sg0 : Sig := (⟨"", "", ""⟩, ⟨#[]⟩, 0, none, 0, 0, 0)
def sgX0_init : Sig := (yX0_init, cX0_init, 1, none, 1, 4, 484)
def sgX0_clear : Sig := (yX0_clear, cX0_clear, 1, none, 1, 0, 0)
def sgX0_add : Sig := (yX0_add, cX0_add, 3, none, 3, 0, 0)
def sgX0_endPart : Sig := (yX0_endPart, cX0_endPart, 2, none, 2, 0, 0)
def sgX0_truths : Sig := (yX0_truths, cX0_truths, 5, some .int, 3, 0, 0)
def sgX0_valueOf : Sig := (yX0_valueOf, cX0_valueOf, 6, some .int, 4, 0, 0)
def sgX0_step : Sig := (yX0_step, cX0_step, 6, none, 5, 0, 0)
def sgX0_joined : Sig := (yX0_joined, cX0_joined, 3, some .int, 3, 0, 0)
def sgX0_push : Sig := (yX0_push, cX0_push, 2, none, 2, 0, 0)
def sgX0_pop : Sig := (yX0_pop, cX0_pop, 1, some .int, 1, 0, 0)
def sgX1_init : Sig := (yX1_init, cX1_init, 3, none, 3, 0, 0)
def sgX1_readText : Sig := (yX1_readText, cX1_readText, 2, some .boolean, 1, 0, 0)
def sgX1_readToken : Sig := (yX1_readToken, cX1_readToken, 2, some .boolean, 2, 0, 0)
def sgX1_readOr : Sig := (yX1_readOr, cX1_readOr, 3, some .boolean, 2, 0, 0)
def sgX1_readAnd : Sig := (yX1_readAnd, cX1_readAnd, 3, some .boolean, 2, 0, 0)
def sgX1_readNot : Sig := (yX1_readNot, cX1_readNot, 2, some .boolean, 2, 0, 0)
def sgX1_readCompared : Sig := (yX1_readCompared, cX1_readCompared, 3, some .boolean, 2, 0, 0)
def sgX1_readSum : Sig := (yX1_readSum, cX1_readSum, 4, some .boolean, 2, 0, 0)
def sgX1_readTerm : Sig := (yX1_readTerm, cX1_readTerm, 3, some .boolean, 2, 0, 0)
def sgX1_readOne : Sig := (yX1_readOne, cX1_readOne, 3, some .boolean, 2, 0, 0)
def sgX1_readBracket : Sig := (yX1_readBracket, cX1_readBracket, 2, some .boolean, 2, 0, 0)
def sgX2_init : Sig := (yX2_init, cX2_init, 1, none, 1, 0, 0)
def sgX2_consider : Sig := (yX2_consider, cX2_consider, 6, none, 5, 0, 0)
def sgX3_init : Sig := (yX3_init, cX3_init, 2, none, 1, 4, 208)
def sgX3_isMissing : Sig := (yX3_isMissing, cX3_isMissing, 2, some .boolean, 2, 0, 0)
def sgX3_make : Sig := (yX3_make, cX3_make, 5, none, 4, 0, 0)
def sgX3_holds : Sig := (yX3_holds, cX3_holds, 3, some .boolean, 3, 0, 0)
def sgX3_holdsRun : Sig := (yX3_holdsRun, cX3_holdsRun, 4, some .boolean, 4, 0, 0)
def sgX3_read : Sig := (yX3_read, cX3_read, 3, some .int, 3, 0, 0)
def sgX3_write : Sig := (yX3_write, cX3_write, 6, none, 4, 0, 0)
def sgX3_move : Sig := (yX3_move, cX3_move, 7, none, 6, 0, 0)
def sgX4_init : Sig := (yX4_init, cX4_init, 1, none, 1, 3, 46)
def sgX4_become : Sig := (yX4_become, cX4_become, 4, none, 4, 0, 0)
def sgX4_append : Sig := (yX4_append, cX4_append, 4, none, 4, 0, 0)
def sgX4_sayingPart : Sig := (yX4_sayingPart, cX4_sayingPart, 3, some .int, 3, 0, 0)
def sgX4_becomeLike : Sig := (yX4_becomeLike, cX4_becomeLike, 3, none, 2, 0, 0)
def sgX5_init : Sig := (yX5_init, cX5_init, 2, none, 1, 3, 90)
def sgX5_add : Sig := (yX5_add, cX5_add, 4, none, 2, 0, 0)
def sgX5_side : Sig := (yX5_side, cX5_side, 4, some .int, 4, 0, 0)
def sgX5_costOf : Sig := (yX5_costOf, cX5_costOf, 3, some .int, 3, 0, 0)
def sgX6_init : Sig := (yX6_init, cX6_init, 1, none, 1, 1, 160)
def sgX6_append : Sig := (yX6_append, cX6_append, 2, none, 2, 0, 0)
def sgX6_start : Sig := (yX6_start, cX6_start, 1, none, 1, 0, 0)
def sgX6_advance : Sig := (yX6_advance, cX6_advance, 2, none, 1, 0, 0)
def sgX6_readWord : Sig := (yX6_readWord, cX6_readWord, 3, none, 1, 0, 0)
def sgX6_spells : Sig := (yX6_spells, cX6_spells, 3, some .boolean, 2, 0, 0)
def sgX6_readNumber : Sig := (yX6_readNumber, cX6_readNumber, 2, none, 1, 0, 0)
def sgX6_isBlank : Sig := (yX6_isBlank, cX6_isBlank, 1, some .boolean, 1, 0, 0)
def sgX6_isLetter : Sig := (yX6_isLetter, cX6_isLetter, 1, some .boolean, 1, 0, 0)
def sgX6_isDigit : Sig := (yX6_isDigit, cX6_isDigit, 1, some .boolean, 1, 0, 0)
def sgX6_isSign : Sig := (yX6_isSign, cX6_isSign, 1, some .boolean, 1, 0, 0)
def sgX7_init : Sig := (yX7_init, cX7_init, 1, none, 1, 26, 1072)
def sgX7_count : Sig := (yX7_count, cX7_count, 2, some .int, 2, 0, 0)
def sgX7_feed : Sig := (yX7_feed, cX7_feed, 8, some .int, 7, 0, 0)
def sgX7_text : Sig := (yX7_text, cX7_text, 3, some .int, 1, 0, 0)
def sgX7_force : Sig := (yX7_force, cX7_force, 3, some .int, 2, 0, 0)
def sgX7_asks : Sig := (yX7_asks, cX7_asks, 5, some .int, 5, 0, 0)
def sgX7_means : Sig := (yX7_means, cX7_means, 3, some .long, 3, 0, 0)
def sgX7_pairs : Sig := (yX7_pairs, cX7_pairs, 5, some .int, 2, 0, 0)
def sgX7_speaker : Sig := (yX7_speaker, cX7_speaker, 4, some .int, 3, 0, 0)
def sgX7_turn : Sig := (yX7_turn, cX7_turn, 5, some .int, 4, 0, 0)
def sgX7_told : Sig := (yX7_told, cX7_told, 3, some .int, 3, 0, 0)
def sgX7_say : Sig := (yX7_say, cX7_say, 4, some .int, 4, 0, 0)
def sgX7_unsay : Sig := (yX7_unsay, cX7_unsay, 1, some .int, 1, 0, 0)
def sgX7_said : Sig := (yX7_said, cX7_said, 3, some .int, 3, 0, 0)
def sgX7_worlds : Sig := (yX7_worlds, cX7_worlds, 1, some .long, 1, 0, 0)
def sgX7_behind : Sig := (yX7_behind, cX7_behind, 4, some .int, 3, 0, 0)
def sgX7_cannot : Sig := (yX7_cannot, cX7_cannot, 3, some .int, 1, 0, 0)
def sgX7_lies : Sig := (yX7_lies, cX7_lies, 3, some .int, 1, 0, 0)
def sgX7_least : Sig := (yX7_least, cX7_least, 5, some .int, 2, 0, 0)
def sgX7_mad : Sig := (yX7_mad, cX7_mad, 4, some .int, 2, 0, 0)
def sgX7_habit : Sig := (yX7_habit, cX7_habit, 9, some .long, 4, 0, 0)
def sgX7_kinds : Sig := (yX7_kinds, cX7_kinds, 5, some .int, 3, 0, 0)
def sgX7_ask : Sig := (yX7_ask, cX7_ask, 2, some .int, 2, 0, 0)
def sgX7_two : Sig := (yX7_two, cX7_two, 8, some .int, 2, 0, 0)
def sgX7_parts : Sig := (yX7_parts, cX7_parts, 7, some .long, 4, 0, 0)
def sgX7_hide : Sig := (yX7_hide, cX7_hide, 9, some .int, 4, 0, 0)
def sgX7_same : Sig := (yX7_same, cX7_same, 5, some .int, 4, 0, 0)
def sgX7_claims : Sig := (yX7_claims, cX7_claims, 5, some .int, 2, 0, 0)
def sgX7_settle : Sig := (yX7_settle, cX7_settle, 5, some .int, 2, 0, 0)
def sgX7_thrice : Sig := (yX7_thrice, cX7_thrice, 6, some .long, 4, 0, 0)
def sgX7_many : Sig := (yX7_many, cX7_many, 8, some .int, 2, 0, 0)
def sgX7_judge : Sig := (yX7_judge, cX7_judge, 5, some .int, 3, 0, 0)
def sgX7_film : Sig := (yX7_film, cX7_film, 4, some .int, 2, 0, 0)
def sgX7_drawn : Sig := (yX7_drawn, cX7_drawn, 3, some .int, 2, 0, 0)
def sgX7_mean : Sig := (yX7_mean, cX7_mean, 7, some .long, 4, 0, 0)
def sgX7_image : Sig := (yX7_image, cX7_image, 1, some .int, 1, 0, 0)
def sgX7_back : Sig := (yX7_back, cX7_back, 1, some .int, 1, 0, 0)
def sgX7_sheet : Sig := (yX7_sheet, cX7_sheet, 4, some .int, 4, 0, 0)
def sgX7_cell : Sig := (yX7_cell, cX7_cell, 4, some .int, 4, 0, 0)
def sgX7_copy : Sig := (yX7_copy, cX7_copy, 6, some .int, 6, 0, 0)
def sgX7_sayingsBy : Sig := (yX7_sayingsBy, cX7_sayingsBy, 8, some .int, 5, 0, 0)
def sgX7_taken : Sig := (yX7_taken, cX7_taken, 3, some .int, 3, 0, 0)
def sgX7_isBelow : Sig := (yX7_isBelow, cX7_isBelow, 2, some .boolean, 2, 0, 0)
def sgX7_isByte : Sig := (yX7_isByte, cX7_isByte, 1, some .boolean, 1, 0, 0)
def sgX7_isKind : Sig := (yX7_isKind, cX7_isKind, 1, some .boolean, 1, 0, 0)
def sgX7_isMore : Sig := (yX7_isMore, cX7_isMore, 1, some .boolean, 1, 0, 0)
def sgX7_isWorld : Sig := (yX7_isWorld, cX7_isWorld, 1, some .boolean, 1, 0, 0)
def sgX7_isText : Sig := (yX7_isText, cX7_isText, 2, some .boolean, 2, 0, 0)
def sgX7_isSpeaker : Sig := (yX7_isSpeaker, cX7_isSpeaker, 2, some .boolean, 2, 0, 0)
def sgX7_at : Sig := (yX7_at, cX7_at, 2, some .int, 2, 0, 0)
def sgX7_put : Sig := (yX7_put, cX7_put, 3, none, 3, 0, 0)
def sgX7_bit : Sig := (yX7_bit, cX7_bit, 2, some .int, 2, 0, 0)
def sgX7_bits : Sig := (yX7_bits, cX7_bits, 1, some .long, 1, 0, 0)
def sgX7_worldNumber : Sig := (yX7_worldNumber, cX7_worldNumber, 4, some .int, 2, 0, 0)
def sgX7_fewer : Sig := (yX7_fewer, cX7_fewer, 3, some .int, 2, 0, 0)
def sgX7_inLowestTerms : Sig := (yX7_inLowestTerms, cX7_inLowestTerms, 4, some .long, 3, 0, 0)
def sgX7_commonDivisor : Sig := (yX7_commonDivisor, cX7_commonDivisor, 6, some .int, 2, 0, 0)
def sgX7_canSay : Sig := (yX7_canSay, cX7_canSay, 5, some .int, 5, 0, 0)
def sgX7_turnsAt : Sig := (yX7_turnsAt, cX7_turnsAt, 3, some .boolean, 2, 0, 0)
def sgX7_onceOf : Sig := (yX7_onceOf, cX7_onceOf, 2, some .int, 2, 0, 0)
def sgX7_lawful : Sig := (yX7_lawful, cX7_lawful, 1, some .int, 1, 0, 0)
def sgX7_firstSaid : Sig := (yX7_firstSaid, cX7_firstSaid, 2, some .int, 2, 0, 0)
def sgX7_secondSaid : Sig := (yX7_secondSaid, cX7_secondSaid, 2, some .int, 2, 0, 0)
def sgX7_sayableNext : Sig := (yX7_sayableNext, cX7_sayableNext, 7, some .int, 5, 0, 0)
def sgX7_sayable : Sig := (yX7_sayable, cX7_sayable, 2, some .int, 2, 0, 0)
def sgX7_sayableAs : Sig := (yX7_sayableAs, cX7_sayableAs, 4, some .int, 3, 0, 0)
def sgX7_allSayableWere : Sig := (yX7_allSayableWere, cX7_allSayableWere, 5, some .int, 3, 0, 0)
def sgX7_fittingFirst : Sig := (yX7_fittingFirst, cX7_fittingFirst, 4, some .int, 2, 0, 0)
def sgX7_fitting : Sig := (yX7_fitting, cX7_fitting, 1, some .int, 1, 0, 0)
def sgX7_fittingWithout : Sig := (yX7_fittingWithout, cX7_fittingWithout, 4, some .int, 2, 0, 0)
def sgX7_fittingWereMad : Sig := (yX7_fittingWereMad, cX7_fittingWereMad, 5, some .int, 2, 0, 0)
def sgX7_misfits : Sig := (yX7_misfits, cX7_misfits, 4, some .int, 2, 0, 0)
def sgX7_isSure : Sig := (yX7_isSure, cX7_isSure, 3, some .boolean, 2, 0, 0)
def sgX7_thingsSure : Sig := (yX7_thingsSure, cX7_thingsSure, 5, some .int, 2, 0, 0)
def sgX7_findBest : Sig := (yX7_findBest, cX7_findBest, 5, some .boolean, 3, 0, 0)
def sgX7_worstOf : Sig := (yX7_worstOf, cX7_worstOf, 7, some .int, 5, 0, 0)
def sgX7_worstBehind : Sig := (yX7_worstBehind, cX7_worstBehind, 8, some .int, 4, 0, 0)
def sgX7_strangerAsks : Sig := (yX7_strangerAsks, cX7_strangerAsks, 11, some .int, 3, 0, 0)
def sgX7_answered : Sig := (yX7_answered, cX7_answered, 8, some .int, 4, 0, 0)
def sgX7_lotBehind : Sig := (yX7_lotBehind, cX7_lotBehind, 2, some .long, 1, 0, 0)
def sgX7_settles : Sig := (yX7_settles, cX7_settles, 8, some .boolean, 3, 0, 0)
def sgX7_markOf : Sig := (yX7_markOf, cX7_markOf, 5, some .int, 3, 0, 0)
def sgX7_rowFits : Sig := (yX7_rowFits, cX7_rowFits, 7, some .boolean, 4, 0, 0)
def sgX7_sayingTaken : Sig := (yX7_sayingTaken, cX7_sayingTaken, 3, some .int, 3, 0, 0)
def sgX7_speakerTaken : Sig := (yX7_speakerTaken, cX7_speakerTaken, 3, some .int, 3, 0, 0)
def sgX7_isOneOf : Sig := (yX7_isOneOf, cX7_isOneOf, 2, some .boolean, 2, 0, 0)
def sgX8_init : Sig := (yX8_init, cX8_init, 2, none, 1, 18, 2246)
def sgX8_in : Sig := (yX8_in, cX8_in, 3, some .boolean, 3, 0, 0)
def sgX8_within : Sig := (yX8_within, cX8_within, 3, some .int, 3, 0, 0)
def sgX8_isSpeaker : Sig := (yX8_isSpeaker, cX8_isSpeaker, 2, some .boolean, 2, 0, 0)
def sgX8_isOfTexts : Sig := (yX8_isOfTexts, cX8_isOfTexts, 2, some .boolean, 2, 0, 0)
def sgX8_isWorld : Sig := (yX8_isWorld, cX8_isWorld, 1, some .boolean, 1, 0, 0)
def sgX8_has : Sig := (yX8_has, cX8_has, 3, some .boolean, 2, 0, 0)
def sgX8_bitsOf : Sig := (yX8_bitsOf, cX8_bitsOf, 4, some .int, 1, 0, 0)
def sgX8_count : Sig := (yX8_count, cX8_count, 2, some .int, 2, 0, 0)
def sgX8_isByte : Sig := (yX8_isByte, cX8_isByte, 1, some .boolean, 1, 0, 0)
def sgX8_feed : Sig := (yX8_feed, cX8_feed, 8, some .int, 7, 0, 0)
def sgX8_wordFrom : Sig := (yX8_wordFrom, cX8_wordFrom, 6, some .int, 3, 0, 0)
def sgX8_next : Sig := (yX8_next, cX8_next, 3, none, 1, 0, 0)
def sgX8_rank : Sig := (yX8_rank, cX8_rank, 1, some .int, 1, 0, 0)
def sgX8_puts : Sig := (yX8_puts, cX8_puts, 2, none, 2, 0, 0)
def sgX8_unwinds : Sig := (yX8_unwinds, cX8_unwinds, 3, none, 2, 0, 0)
def sgX8_holds : Sig := (yX8_holds, cX8_holds, 2, none, 2, 0, 0)
def sgX8_opensOne : Sig := (yX8_opensOne, cX8_opensOne, 2, some .boolean, 2, 0, 0)
def sgX8_between : Sig := (yX8_between, cX8_between, 2, some .boolean, 2, 0, 0)
def sgX8_signOf : Sig := (yX8_signOf, cX8_signOf, 1, some .int, 1, 0, 0)
def sgX8_eRead : Sig := (yX8_eRead, cX8_eRead, 4, some .boolean, 1, 0, 0)
def sgX8_text : Sig := (yX8_text, cX8_text, 3, some .int, 1, 0, 0)
def sgX8_two : Sig := (yX8_two, cX8_two, 3, some .int, 3, 0, 0)
def sgX8_says : Sig := (yX8_says, cX8_says, 5, some .int, 2, 0, 0)
def sgX8_force : Sig := (yX8_force, cX8_force, 3, some .int, 2, 0, 0)
def sgX8_saysOf : Sig := (yX8_saysOf, cX8_saysOf, 7, some .int, 5, 0, 0)
def sgX8_asks : Sig := (yX8_asks, cX8_asks, 5, some .int, 5, 0, 0)
def sgX8_soIn : Sig := (yX8_soIn, cX8_soIn, 7, some .long, 4, 0, 0)
def sgX8_means : Sig := (yX8_means, cX8_means, 3, some .long, 3, 0, 0)
def sgX8_pairs : Sig := (yX8_pairs, cX8_pairs, 4, some .int, 2, 0, 0)
def sgX8_reads : Sig := (yX8_reads, cX8_reads, 2, none, 1, 0, 0)
def sgX8_once : Sig := (yX8_once, cX8_once, 2, some .long, 2, 0, 0)
def sgX8_isSo : Sig := (yX8_isSo, cX8_isSo, 2, some .boolean, 2, 0, 0)
def sgX8_speaker : Sig := (yX8_speaker, cX8_speaker, 3, some .int, 3, 0, 0)
def sgX8_turn : Sig := (yX8_turn, cX8_turn, 5, some .int, 4, 0, 0)
def sgX8_told : Sig := (yX8_told, cX8_told, 3, some .int, 3, 0, 0)
def sgX8_say : Sig := (yX8_say, cX8_say, 4, some .int, 4, 0, 0)
def sgX8_unsay : Sig := (yX8_unsay, cX8_unsay, 1, some .int, 1, 0, 0)
def sgX8_said : Sig := (yX8_said, cX8_said, 3, some .int, 3, 0, 0)
def sgX8_canSay : Sig := (yX8_canSay, cX8_canSay, 14, some .long, 7, 0, 0)
def sgX8_fits : Sig := (yX8_fits, cX8_fits, 5, some .long, 5, 0, 0)
def sgX8_fitsSaying : Sig := (yX8_fitsSaying, cX8_fitsSaying, 2, some .long, 2, 0, 0)
def sgX8_worldsOf : Sig := (yX8_worldsOf, cX8_worldsOf, 5, some .long, 2, 0, 0)
def sgX8_worldsNow : Sig := (yX8_worldsNow, cX8_worldsNow, 1, some .long, 1, 0, 0)
def sgX8_worlds : Sig := (yX8_worlds, cX8_worlds, 1, some .long, 1, 0, 0)
def sgX8_allIn : Sig := (yX8_allIn, cX8_allIn, 4, some .int, 1, 0, 0)
def sgX8_noneIn : Sig := (yX8_noneIn, cX8_noneIn, 4, some .int, 1, 0, 0)
def sgX8_leastOf : Sig := (yX8_leastOf, cX8_leastOf, 3, some .int, 1, 0, 0)
def sgX8_behind : Sig := (yX8_behind, cX8_behind, 5, some .int, 3, 0, 0)
def sgX8_cannot : Sig := (yX8_cannot, cX8_cannot, 2, some .int, 1, 0, 0)
def sgX8_findsFitting : Sig := (yX8_findsFitting, cX8_findsFitting, 2, none, 1, 0, 0)
def sgX8_without : Sig := (yX8_without, cX8_without, 5, some .long, 2, 0, 0)
def sgX8_lies : Sig := (yX8_lies, cX8_lies, 3, some .int, 1, 0, 0)
def sgX8_least : Sig := (yX8_least, cX8_least, 5, some .int, 2, 0, 0)
def sgX8_worldsMad : Sig := (yX8_worldsMad, cX8_worldsMad, 7, some .long, 2, 0, 0)
def sgX8_mad : Sig := (yX8_mad, cX8_mad, 5, some .int, 2, 0, 0)
def sgX8_lowest : Sig := (yX8_lowest, cX8_lowest, 11, some .long, 3, 0, 0)
def sgX8_habit : Sig := (yX8_habit, cX8_habit, 13, some .long, 4, 0, 0)
def sgX8_kinds : Sig := (yX8_kinds, cX8_kinds, 8, some .int, 3, 0, 0)
def sgX8_worstOf : Sig := (yX8_worstOf, cX8_worstOf, 8, some .int, 5, 0, 0)
def sgX8_findsQuestion : Sig := (yX8_findsQuestion, cX8_findsQuestion, 10, none, 3, 0, 0)
def sgX8_ask : Sig := (yX8_ask, cX8_ask, 2, some .int, 2, 0, 0)
def sgX8_worstBehind : Sig := (yX8_worstBehind, cX8_worstBehind, 3, some .int, 2, 0, 0)
def sgX8_two_ : Sig := (yX8_two_, cX8_two_, 12, some .int, 2, 0, 0)
def sgX8_parts : Sig := (yX8_parts, cX8_parts, 10, some .long, 4, 0, 0)
def sgX8_isSure : Sig := (yX8_isSure, cX8_isSure, 3, some .boolean, 2, 0, 0)
def sgX8_hide : Sig := (yX8_hide, cX8_hide, 10, some .int, 4, 0, 0)
def sgX8_same : Sig := (yX8_same, cX8_same, 8, some .int, 4, 0, 0)
def sgX8_claims : Sig := (yX8_claims, cX8_claims, 6, some .int, 2, 0, 0)
def sgX8_settles : Sig := (yX8_settles, cX8_settles, 9, some .boolean, 3, 0, 0)
def sgX8_settle : Sig := (yX8_settle, cX8_settle, 7, some .int, 2, 0, 0)
def sgX8_thrice : Sig := (yX8_thrice, cX8_thrice, 12, some .long, 4, 0, 0)
def sgX8_many : Sig := (yX8_many, cX8_many, 9, some .int, 2, 0, 0)
def sgX8_isRow : Sig := (yX8_isRow, cX8_isRow, 7, some .boolean, 4, 0, 0)
def sgX8_judge : Sig := (yX8_judge, cX8_judge, 4, some .int, 3, 0, 0)
def sgX8_film : Sig := (yX8_film, cX8_film, 3, some .int, 2, 0, 0)
def sgX8_worldAt : Sig := (yX8_worldAt, cX8_worldAt, 5, some .int, 2, 0, 0)
def sgX8_asksBy : Sig := (yX8_asksBy, cX8_asksBy, 15, some .int, 3, 0, 0)
def sgX8_drawn : Sig := (yX8_drawn, cX8_drawn, 4, some .int, 2, 0, 0)
def sgX8_mean : Sig := (yX8_mean, cX8_mean, 9, some .long, 4, 0, 0)
def sgX8_image : Sig := (yX8_image, cX8_image, 2, some .int, 1, 0, 0)
def sgX8_back : Sig := (yX8_back, cX8_back, 2, some .int, 1, 0, 0)
def sgX8_sheet : Sig := (yX8_sheet, cX8_sheet, 5, some .int, 4, 0, 0)
def sgX8_cell : Sig := (yX8_cell, cX8_cell, 4, some .int, 4, 0, 0)
def sgX8_copy : Sig := (yX8_copy, cX8_copy, 10, some .int, 6, 0, 0)
def sgX8_sayingsBy : Sig := (yX8_sayingsBy, cX8_sayingsBy, 9, some .int, 5, 0, 0)
def sgX8_isUnder : Sig := (yX8_isUnder, cX8_isUnder, 2, some .boolean, 2, 0, 0)
def sgX8_taken : Sig := (yX8_taken, cX8_taken, 3, some .int, 3, 0, 0)
def sgJ6_bitCount_0f7a4 : Sig := (yJ6_bitCount_0f7a4, cJ6_bitCount_0f7a4, 1, some .int, 1, 0, 0)
def sgJ9_max_7cf53 : Sig := (yJ9_max_7cf53, cJ9_max_7cf53, 2, some .int, 2, 0, 0)
def sgJ9_min_7cf53 : Sig := (yJ9_min_7cf53, cJ9_min_7cf53, 2, some .int, 2, 0, 0)
def sgJ0_length_8abf5 : Sig := (yJ0_length_8abf5, cJ0_length_8abf5, 1, some .int, 1, 0, 0)
def sgJ0_charAt_5068e : Sig := (yJ0_charAt_5068e, cJ0_charAt_5068e, 2, some .char, 2, 0, 0)
def sgJ0_coder_7d493 : Sig := (yJ0_coder_7d493, cJ0_coder_7d493, 1, some .byte, 1, 0, 0)
def sgJ0_isLatin1_aae02 : Sig := (yJ0_isLatin1_aae02, cJ0_isLatin1_aae02, 1, some .boolean, 1, 0, 0)
def sgJ0_checkIndex_df160 : Sig := (yJ0_checkIndex_df160, cJ0_checkIndex_df160, 2, none, 2, 0, 0)
def sgJ1_charAt_3b067 : Sig := (yJ1_charAt_3b067, cJ1_charAt_3b067, 2, some .char, 2, 0, 0)
def sgJ2_getChar_3b067 : Sig := (yJ2_getChar_3b067, cJ2_getChar_3b067, 2, some .char, 2, 0, 0)
def sgJ2_length_9d52b : Sig := (yJ2_length_9d52b, cJ2_length_9d52b, 1, some .int, 1, 0, 0)
def sgJ2_charAt_3b067 : Sig := (yJ2_charAt_3b067, cJ2_charAt_3b067, 2, some .char, 2, 0, 0)
def sgJ2_checkIndex_2214a : Sig := (yJ2_checkIndex_2214a, cJ2_checkIndex_2214a, 2, none, 2, 0, 0)
def sgJ3_checkIndex_8e157 : Sig := (yJ3_checkIndex_8e157, cJ3_checkIndex_8e157, 3, some .int, 3, 0, 0)
def sgL_law : Sig := (yL_law, cL_law, 4, some .boolean, 1, 0, 0)
def tch : Nat → List Cond
  | 0 => k2_sels lw_privs
  | 1 => tables_1_1
  | 2 => tables_1_2
  | 3 => tables_1_3
  | 4 => tables_1_4
  | 5 => tables_1_5
  | 6 => tables_1_6
  | _ => []
theorem tch_mem {w : Cond} : ∀ k, w ∈ tch k → w ∈ lw_tbl
  | 0, h => List.mem_append_left _ h
  | 1, h => List.mem_append_right _ (show w ∈ tables_1 from List.mem_append_left _ h)
  | 2, h => List.mem_append_right _ (show w ∈ tables_1 from List.mem_append_right _ (List.mem_append_left _ h))
  | 3, h => List.mem_append_right _ (show w ∈ tables_1 from List.mem_append_right _ (List.mem_append_right _ (List.mem_append_left _ h)))
  | 4, h => List.mem_append_right _ (show w ∈ tables_1 from List.mem_append_right _ (List.mem_append_right _ (List.mem_append_right _ (List.mem_append_left _ h))))
  | 5, h => List.mem_append_right _ (show w ∈ tables_1 from List.mem_append_right _ (List.mem_append_right _ (List.mem_append_right _ (List.mem_append_right _ (List.mem_append_left _ h)))))
  | 6, h => List.mem_append_right _ (show w ∈ tables_1 from List.mem_append_right _ (List.mem_append_right _ (List.mem_append_right _ (List.mem_append_right _ (List.mem_append_right _ (h))))))
  | (_ + 7), h => by cases h
theorem tb_l2 {ws : List Cond} (ps : List (Nat × Nat)) (hp : ws = ps.filterMap (fun q => (tch q.1)[q.2]?)) (h : ws.all goodWord = true) : ∀ w ∈ ws, w ∈ TBL := by
  intro w hw
  have h1 := List.all_eq_true.mp h w hw
  rw [hp] at hw
  obtain ⟨q, -, hi⟩ := List.mem_filterMap.mp hw
  exact List.mem_filter.mpr ⟨tch_mem _ (List.mem_of_getElem? hi), h1⟩
theorem nw_l2 {ws : List Cond} (ps : List (Nat × Nat)) (hp : ws = ps.filterMap (fun q => (tch q.1)[q.2]?)) (h : ws.all isNest = true) : ∀ w ∈ ws, w ∈ NWL := by
  intro w hw
  have h1 := List.all_eq_true.mp h w hw
  rw [hp] at hw
  obtain ⟨q, -, hi⟩ := List.mem_filterMap.mp hw
  exact List.mem_filter.mpr ⟨tch_mem _ (List.mem_of_getElem? hi), h1⟩
theorem tb_2 {w : Cond} (k j : Nat) (h : (tch k)[j]? = some w) (hg : goodWord w = true) : w ∈ TBL := List.mem_filter.mpr ⟨tch_mem k (List.mem_of_getElem? h), hg⟩
theorem tb_nil : ∀ w ∈ ([] : List Cond), w ∈ TBL := fun _ h => by cases h
theorem tb_cons {a : Cond} {ws : List Cond} (h : a ∈ TBL) (hl : ∀ w ∈ ws, w ∈ TBL) : ∀ w ∈ a :: ws, w ∈ TBL := fun w hw => by
  rcases List.mem_cons.mp hw with rfl | hw
  · exact h
  · exact hl w hw
theorem sgIX0_init : SgI sgX0_init := ⟨by decide +kernel, tb_cons (tb_2 1 57 rfl rfl) (tb_cons (tb_2 1 3 rfl rfl) (tb_cons (tb_2 1 58 rfl rfl) (tb_nil)))⟩
theorem sgVX0_clear : SgV sgX0_clear 0 := ⟨by decide +kernel, tb_cons (tb_2 2 94 rfl rfl) (tb_cons (tb_2 0 7 rfl rfl) (tb_cons (tb_2 1 3 rfl rfl) (tb_cons (tb_2 2 95 rfl rfl) (tb_nil))))⟩
theorem sgVX0_add : SgV sgX0_add 0 := ⟨by decide +kernel, tb_cons (tb_2 2 131 rfl rfl) (tb_cons (tb_2 0 16 rfl rfl) (tb_cons (tb_2 1 3 rfl rfl) (tb_cons (tb_2 2 132 rfl rfl) (tb_nil))))⟩
theorem sgVX0_endPart : SgV sgX0_endPart 0 := ⟨by decide +kernel, tb_cons (tb_2 2 140 rfl rfl) (tb_cons (tb_2 0 18 rfl rfl) (tb_cons (tb_2 1 3 rfl rfl) (tb_cons (tb_2 2 141 rfl rfl) (tb_nil))))⟩
theorem sgVX0_truths : SgV sgX0_truths 0 := ⟨by decide +kernel, tb_cons (tb_2 2 148 rfl rfl) (tb_cons (tb_2 0 20 rfl rfl) (tb_cons (tb_2 1 3 rfl rfl) (tb_cons (tb_2 2 149 rfl rfl) (tb_nil))))⟩
theorem sgVX0_valueOf : SgV sgX0_valueOf 0 := ⟨by decide +kernel, tb_cons (tb_2 2 152 rfl rfl) (tb_cons (tb_2 0 21 rfl rfl) (tb_cons (tb_2 1 3 rfl rfl) (tb_cons (tb_2 2 153 rfl rfl) (tb_nil))))⟩
theorem sgVX0_step : SgV sgX0_step 0 := ⟨by decide +kernel, tb_cons (tb_2 2 157 rfl rfl) (tb_cons (tb_2 0 22 rfl rfl) (tb_cons (tb_2 1 3 rfl rfl) (tb_cons (tb_2 2 158 rfl rfl) (tb_nil))))⟩
theorem sgSX0_joined : SgS sgX0_joined := ⟨by decide +kernel, tb_cons (tb_2 2 171 rfl rfl) (tb_cons (tb_2 1 3 rfl rfl) (tb_cons (tb_2 2 172 rfl rfl) (tb_nil)))⟩
theorem sgVX0_push : SgV sgX0_push 0 := ⟨by decide +kernel, tb_cons (tb_2 2 161 rfl rfl) (tb_cons (tb_2 0 23 rfl rfl) (tb_cons (tb_2 1 3 rfl rfl) (tb_cons (tb_2 2 162 rfl rfl) (tb_nil))))⟩
theorem sgVX0_pop : SgV sgX0_pop 0 := ⟨by decide +kernel, tb_cons (tb_2 2 168 rfl rfl) (tb_cons (tb_2 0 24 rfl rfl) (tb_cons (tb_2 1 3 rfl rfl) (tb_cons (tb_2 2 169 rfl rfl) (tb_nil))))⟩
theorem sgIX1_init : SgI sgX1_init := ⟨by decide +kernel, tb_cons (tb_2 1 82 rfl rfl) (tb_cons (tb_2 1 4 rfl rfl) (tb_cons (tb_2 1 83 rfl rfl) (tb_nil)))⟩
theorem sgVX1_readText : SgV sgX1_readText 1 := ⟨by decide +kernel, tb_cons (tb_2 2 0 rfl rfl) (tb_cons (tb_2 0 1 rfl rfl) (tb_cons (tb_2 1 4 rfl rfl) (tb_cons (tb_2 2 1 rfl rfl) (tb_nil))))⟩
theorem sgVX1_readToken : SgV sgX1_readToken 1 := ⟨by decide +kernel, tb_cons (tb_2 2 98 rfl rfl) (tb_cons (tb_2 0 8 rfl rfl) (tb_cons (tb_2 1 4 rfl rfl) (tb_cons (tb_2 2 99 rfl rfl) (tb_nil))))⟩
theorem sgVX1_readOr : SgV sgX1_readOr 1 := ⟨by decide +kernel, tb_cons (tb_2 2 103 rfl rfl) (tb_cons (tb_2 0 9 rfl rfl) (tb_cons (tb_2 1 4 rfl rfl) (tb_cons (tb_2 2 104 rfl rfl) (tb_nil))))⟩
theorem sgVX1_readAnd : SgV sgX1_readAnd 1 := ⟨by decide +kernel, tb_cons (tb_2 2 107 rfl rfl) (tb_cons (tb_2 0 10 rfl rfl) (tb_cons (tb_2 1 4 rfl rfl) (tb_cons (tb_2 2 108 rfl rfl) (tb_nil))))⟩
theorem sgVX1_readNot : SgV sgX1_readNot 1 := ⟨by decide +kernel, tb_cons (tb_2 2 111 rfl rfl) (tb_cons (tb_2 0 11 rfl rfl) (tb_cons (tb_2 1 4 rfl rfl) (tb_cons (tb_2 2 112 rfl rfl) (tb_nil))))⟩
theorem sgVX1_readCompared : SgV sgX1_readCompared 1 := ⟨by decide +kernel, tb_cons (tb_2 2 115 rfl rfl) (tb_cons (tb_2 0 12 rfl rfl) (tb_cons (tb_2 1 4 rfl rfl) (tb_cons (tb_2 2 116 rfl rfl) (tb_nil))))⟩
theorem sgVX1_readSum : SgV sgX1_readSum 1 := ⟨by decide +kernel, tb_cons (tb_2 2 119 rfl rfl) (tb_cons (tb_2 0 13 rfl rfl) (tb_cons (tb_2 1 4 rfl rfl) (tb_cons (tb_2 2 120 rfl rfl) (tb_nil))))⟩
theorem sgVX1_readTerm : SgV sgX1_readTerm 1 := ⟨by decide +kernel, tb_cons (tb_2 2 123 rfl rfl) (tb_cons (tb_2 0 14 rfl rfl) (tb_cons (tb_2 1 4 rfl rfl) (tb_cons (tb_2 2 124 rfl rfl) (tb_nil))))⟩
theorem sgVX1_readOne : SgV sgX1_readOne 1 := ⟨by decide +kernel, tb_cons (tb_2 2 127 rfl rfl) (tb_cons (tb_2 0 15 rfl rfl) (tb_cons (tb_2 1 4 rfl rfl) (tb_cons (tb_2 2 128 rfl rfl) (tb_nil))))⟩
theorem sgVX1_readBracket : SgV sgX1_readBracket 1 := ⟨by decide +kernel, tb_cons (tb_2 2 136 rfl rfl) (tb_cons (tb_2 0 17 rfl rfl) (tb_cons (tb_2 1 4 rfl rfl) (tb_cons (tb_2 2 137 rfl rfl) (tb_nil))))⟩
theorem sgIX2_init : SgI sgX2_init := ⟨by decide +kernel, tb_cons (tb_2 1 170 rfl rfl) (tb_cons (tb_2 1 8 rfl rfl) (tb_cons (tb_2 1 171 rfl rfl) (tb_nil)))⟩
theorem sgVX2_consider : SgV sgX2_consider 2 := ⟨by decide +kernel, tb_cons (tb_2 3 162 rfl rfl) (tb_cons (tb_2 0 47 rfl rfl) (tb_cons (tb_2 1 8 rfl rfl) (tb_cons (tb_2 3 163 rfl rfl) (tb_nil))))⟩
theorem sgIX3_init : SgI sgX3_init := ⟨by decide +kernel, tb_cons (tb_2 1 148 rfl rfl) (tb_cons (tb_2 1 7 rfl rfl) (tb_cons (tb_2 1 149 rfl rfl) (tb_nil)))⟩
theorem sgVX3_isMissing : SgV sgX3_isMissing 3 := ⟨by decide +kernel, tb_cons (tb_2 3 215 rfl rfl) (tb_cons (tb_2 0 51 rfl rfl) (tb_cons (tb_2 1 7 rfl rfl) (tb_cons (tb_2 3 216 rfl rfl) (tb_nil))))⟩
theorem sgVX3_make : SgV sgX3_make 3 := ⟨by decide +kernel, tb_cons (tb_2 3 232 rfl rfl) (tb_cons (tb_2 0 54 rfl rfl) (tb_cons (tb_2 1 7 rfl rfl) (tb_cons (tb_2 3 233 rfl rfl) (tb_nil))))⟩
theorem sgVX3_holds : SgV sgX3_holds 3 := ⟨by decide +kernel, tb_cons (tb_2 4 44 rfl rfl) (tb_cons (tb_2 0 59 rfl rfl) (tb_cons (tb_2 1 7 rfl rfl) (tb_cons (tb_2 4 45 rfl rfl) (tb_nil))))⟩
theorem sgVX3_holdsRun : SgV sgX3_holdsRun 3 := ⟨by decide +kernel, tb_cons (tb_2 4 53 rfl rfl) (tb_cons (tb_2 0 60 rfl rfl) (tb_cons (tb_2 1 7 rfl rfl) (tb_cons (tb_2 4 54 rfl rfl) (tb_nil))))⟩
theorem sgVX3_read : SgV sgX3_read 3 := ⟨by decide +kernel, tb_cons (tb_2 3 224 rfl rfl) (tb_cons (tb_2 0 53 rfl rfl) (tb_cons (tb_2 1 7 rfl rfl) (tb_cons (tb_2 3 225 rfl rfl) (tb_nil))))⟩
theorem sgVX3_write : SgV sgX3_write 3 := ⟨by decide +kernel, tb_cons (tb_2 3 236 rfl rfl) (tb_cons (tb_2 0 55 rfl rfl) (tb_cons (tb_2 1 7 rfl rfl) (tb_cons (tb_2 3 237 rfl rfl) (tb_nil))))⟩
theorem sgVX3_move : SgV sgX3_move 3 := ⟨by decide +kernel, tb_cons (tb_2 4 57 rfl rfl) (tb_cons (tb_2 0 61 rfl rfl) (tb_cons (tb_2 1 7 rfl rfl) (tb_cons (tb_2 4 58 rfl rfl) (tb_nil))))⟩
theorem sgIX4_init : SgI sgX4_init := ⟨by decide +kernel, tb_cons (tb_2 1 118 rfl rfl) (tb_cons (tb_2 1 6 rfl rfl) (tb_cons (tb_2 1 119 rfl rfl) (tb_nil)))⟩
theorem sgVX4_become : SgV sgX4_become 4 := ⟨by decide +kernel, tb_cons (tb_2 2 234 rfl rfl) (tb_cons (tb_2 0 28 rfl rfl) (tb_cons (tb_2 1 6 rfl rfl) (tb_cons (tb_2 2 235 rfl rfl) (tb_nil))))⟩
theorem sgVX4_append : SgV sgX4_append 4 := ⟨by decide +kernel, tb_cons (tb_2 3 16 rfl rfl) (tb_cons (tb_2 0 30 rfl rfl) (tb_cons (tb_2 1 6 rfl rfl) (tb_cons (tb_2 3 17 rfl rfl) (tb_nil))))⟩
theorem sgVX4_sayingPart : SgV sgX4_sayingPart 4 := ⟨by decide +kernel, tb_cons (tb_2 3 28 rfl rfl) (tb_cons (tb_2 0 31 rfl rfl) (tb_cons (tb_2 1 6 rfl rfl) (tb_cons (tb_2 3 29 rfl rfl) (tb_nil))))⟩
theorem sgVX4_becomeLike : SgV sgX4_becomeLike 4 := ⟨by decide +kernel, tb_cons (tb_2 4 27 rfl rfl) (tb_cons (tb_2 0 58 rfl rfl) (tb_cons (tb_2 1 6 rfl rfl) (tb_cons (tb_2 4 28 rfl rfl) (tb_nil))))⟩
theorem sgIX5_init : SgI sgX5_init := ⟨by decide +kernel, tb_cons (tb_2 1 95 rfl rfl) (tb_cons (tb_2 1 5 rfl rfl) (tb_cons (tb_2 1 96 rfl rfl) (tb_nil)))⟩
theorem sgVX5_add : SgV sgX5_add 5 := ⟨by decide +kernel, tb_cons (tb_2 2 144 rfl rfl) (tb_cons (tb_2 0 19 rfl rfl) (tb_cons (tb_2 1 5 rfl rfl) (tb_cons (tb_2 2 145 rfl rfl) (tb_nil))))⟩
theorem sgVX5_side : SgV sgX5_side 5 := ⟨by decide +kernel, tb_cons (tb_2 2 206 rfl rfl) (tb_cons (tb_2 0 27 rfl rfl) (tb_cons (tb_2 1 5 rfl rfl) (tb_cons (tb_2 2 207 rfl rfl) (tb_nil))))⟩
theorem sgVX5_costOf : SgV sgX5_costOf 5 := ⟨by decide +kernel, tb_cons (tb_2 2 201 rfl rfl) (tb_cons (tb_2 0 26 rfl rfl) (tb_cons (tb_2 1 5 rfl rfl) (tb_cons (tb_2 2 202 rfl rfl) (tb_nil))))⟩
theorem sgIX6_init : SgI sgX6_init := ⟨by decide +kernel, tb_cons (tb_2 1 27 rfl rfl) (tb_cons (tb_2 1 2 rfl rfl) (tb_cons (tb_2 1 28 rfl rfl) (tb_nil)))⟩
theorem sgVX6_append : SgV sgX6_append 6 := ⟨by decide +kernel, tb_cons (tb_2 1 231 rfl rfl) (tb_cons (tb_2 0 0 rfl rfl) (tb_cons (tb_2 1 2 rfl rfl) (tb_cons (tb_2 1 232 rfl rfl) (tb_nil))))⟩
theorem sgVX6_start : SgV sgX6_start 6 := ⟨by decide +kernel, tb_cons (tb_2 2 4 rfl rfl) (tb_cons (tb_2 0 2 rfl rfl) (tb_cons (tb_2 1 2 rfl rfl) (tb_cons (tb_2 2 5 rfl rfl) (tb_nil))))⟩
theorem sgVX6_advance : SgV sgX6_advance 6 := ⟨by decide +kernel, tb_cons (tb_2 2 8 rfl rfl) (tb_cons (tb_2 0 3 rfl rfl) (tb_cons (tb_2 1 2 rfl rfl) (tb_cons (tb_2 2 9 rfl rfl) (tb_nil))))⟩
theorem sgVX6_readWord : SgV sgX6_readWord 6 := ⟨by decide +kernel, tb_cons (tb_2 2 21 rfl rfl) (tb_cons (tb_2 0 4 rfl rfl) (tb_cons (tb_2 1 2 rfl rfl) (tb_cons (tb_2 2 22 rfl rfl) (tb_nil))))⟩
theorem sgVX6_spells : SgV sgX6_spells 6 := ⟨by decide +kernel, tb_cons (tb_2 2 26 rfl rfl) (tb_cons (tb_2 0 5 rfl rfl) (tb_cons (tb_2 1 2 rfl rfl) (tb_cons (tb_2 2 27 rfl rfl) (tb_nil))))⟩
theorem sgVX6_readNumber : SgV sgX6_readNumber 6 := ⟨by decide +kernel, tb_cons (tb_2 2 87 rfl rfl) (tb_cons (tb_2 0 6 rfl rfl) (tb_cons (tb_2 1 2 rfl rfl) (tb_cons (tb_2 2 88 rfl rfl) (tb_nil))))⟩
theorem sgSX6_isBlank : SgS sgX6_isBlank := ⟨by decide +kernel, tb_cons (tb_2 2 14 rfl rfl) (tb_cons (tb_2 1 2 rfl rfl) (tb_cons (tb_2 2 15 rfl rfl) (tb_nil)))⟩
theorem sgSX6_isLetter : SgS sgX6_isLetter := ⟨by decide +kernel, tb_cons (tb_2 2 17 rfl rfl) (tb_cons (tb_2 1 2 rfl rfl) (tb_cons (tb_2 2 18 rfl rfl) (tb_nil)))⟩
theorem sgSX6_isDigit : SgS sgX6_isDigit := ⟨by decide +kernel, tb_cons (tb_2 2 83 rfl rfl) (tb_cons (tb_2 1 2 rfl rfl) (tb_cons (tb_2 2 84 rfl rfl) (tb_nil)))⟩
theorem sgSX6_isSign : SgS sgX6_isSign := ⟨by decide +kernel, tb_cons (tb_2 2 90 rfl rfl) (tb_cons (tb_2 1 2 rfl rfl) (tb_cons (tb_2 2 91 rfl rfl) (tb_nil)))⟩
theorem sgIX7_init : SgI sgX7_init := ⟨by decide +kernel, tb_cons (tb_2 1 19 rfl rfl) (tb_cons (tb_2 1 1 rfl rfl) (tb_cons (tb_2 1 20 rfl rfl) (tb_nil)))⟩
theorem sgVX7_count : SgV sgX7_count 7 := ⟨by decide +kernel, tb_cons (tb_2 1 219 rfl rfl) (tb_cons (tb_2 1 220 rfl rfl) (tb_cons (tb_2 1 1 rfl rfl) (tb_cons (tb_2 1 221 rfl rfl) (tb_nil))))⟩
theorem sgVX7_feed : SgV sgX7_feed 7 := ⟨by decide +kernel, tb_cons (tb_2 1 223 rfl rfl) (tb_cons (tb_2 1 224 rfl rfl) (tb_cons (tb_2 1 1 rfl rfl) (tb_cons (tb_2 1 225 rfl rfl) (tb_nil))))⟩
theorem sgVX7_text : SgV sgX7_text 7 := ⟨by decide +kernel, tb_cons (tb_2 1 235 rfl rfl) (tb_cons (tb_2 1 236 rfl rfl) (tb_cons (tb_2 1 1 rfl rfl) (tb_cons (tb_2 1 237 rfl rfl) (tb_nil))))⟩
theorem sgVX7_force : SgV sgX7_force 7 := ⟨by decide +kernel, tb_cons (tb_2 2 182 rfl rfl) (tb_cons (tb_2 2 183 rfl rfl) (tb_cons (tb_2 1 1 rfl rfl) (tb_cons (tb_2 2 184 rfl rfl) (tb_nil))))⟩
theorem sgVX7_asks : SgV sgX7_asks 7 := ⟨by decide +kernel, tb_cons (tb_2 2 193 rfl rfl) (tb_cons (tb_2 2 194 rfl rfl) (tb_cons (tb_2 1 1 rfl rfl) (tb_cons (tb_2 2 195 rfl rfl) (tb_nil))))⟩
theorem sgVX7_means : SgV sgX7_means 7 := ⟨by decide +kernel, tb_cons (tb_2 2 210 rfl rfl) (tb_cons (tb_2 2 211 rfl rfl) (tb_cons (tb_2 1 1 rfl rfl) (tb_cons (tb_2 2 212 rfl rfl) (tb_nil))))⟩
theorem sgVX7_pairs : SgV sgX7_pairs 7 := ⟨by decide +kernel, tb_cons (tb_2 2 219 rfl rfl) (tb_cons (tb_2 2 220 rfl rfl) (tb_cons (tb_2 1 1 rfl rfl) (tb_cons (tb_2 2 221 rfl rfl) (tb_nil))))⟩
theorem sgVX7_speaker : SgV sgX7_speaker 7 := ⟨by decide +kernel, tb_cons (tb_2 2 223 rfl rfl) (tb_cons (tb_2 2 224 rfl rfl) (tb_cons (tb_2 1 1 rfl rfl) (tb_cons (tb_2 2 225 rfl rfl) (tb_nil))))⟩
theorem sgVX7_turn : SgV sgX7_turn 7 := ⟨by decide +kernel, tb_cons (tb_2 2 238 rfl rfl) (tb_cons (tb_2 2 239 rfl rfl) (tb_cons (tb_2 1 1 rfl rfl) (tb_cons (tb_2 3 0 rfl rfl) (tb_nil))))⟩
theorem sgVX7_told : SgV sgX7_told 7 := ⟨by decide +kernel, tb_cons (tb_2 3 7 rfl rfl) (tb_cons (tb_2 3 8 rfl rfl) (tb_cons (tb_2 1 1 rfl rfl) (tb_cons (tb_2 3 9 rfl rfl) (tb_nil))))⟩
theorem sgVX7_say : SgV sgX7_say 7 := ⟨by decide +kernel, tb_cons (tb_2 3 11 rfl rfl) (tb_cons (tb_2 3 12 rfl rfl) (tb_cons (tb_2 1 1 rfl rfl) (tb_cons (tb_2 3 13 rfl rfl) (tb_nil))))⟩
theorem sgVX7_unsay : SgV sgX7_unsay 7 := ⟨by decide +kernel, tb_cons (tb_2 3 19 rfl rfl) (tb_cons (tb_2 3 20 rfl rfl) (tb_cons (tb_2 1 1 rfl rfl) (tb_cons (tb_2 3 21 rfl rfl) (tb_nil))))⟩
theorem sgVX7_said : SgV sgX7_said 7 := ⟨by decide +kernel, tb_cons (tb_2 3 23 rfl rfl) (tb_cons (tb_2 3 24 rfl rfl) (tb_cons (tb_2 1 1 rfl rfl) (tb_cons (tb_2 3 25 rfl rfl) (tb_nil))))⟩
theorem sgVX7_worlds : SgV sgX7_worlds 7 := ⟨by decide +kernel, tb_cons (tb_2 3 32 rfl rfl) (tb_cons (tb_2 3 33 rfl rfl) (tb_cons (tb_2 1 1 rfl rfl) (tb_cons (tb_2 3 34 rfl rfl) (tb_nil))))⟩
theorem sgVX7_behind : SgV sgX7_behind 7 := ⟨by decide +kernel, tb_cons (tb_2 3 74 rfl rfl) (tb_cons (tb_2 3 75 rfl rfl) (tb_cons (tb_2 1 1 rfl rfl) (tb_cons (tb_2 3 76 rfl rfl) (tb_nil))))⟩
theorem sgVX7_cannot : SgV sgX7_cannot 7 := ⟨by decide +kernel, tb_cons (tb_2 3 95 rfl rfl) (tb_cons (tb_2 3 96 rfl rfl) (tb_cons (tb_2 1 1 rfl rfl) (tb_cons (tb_2 3 97 rfl rfl) (tb_nil))))⟩
theorem sgVX7_lies : SgV sgX7_lies 7 := ⟨by decide +kernel, tb_cons (tb_2 3 99 rfl rfl) (tb_cons (tb_2 3 100 rfl rfl) (tb_cons (tb_2 1 1 rfl rfl) (tb_cons (tb_2 3 101 rfl rfl) (tb_nil))))⟩
theorem sgVX7_least : SgV sgX7_least 7 := ⟨by decide +kernel, tb_cons (tb_2 3 107 rfl rfl) (tb_cons (tb_2 3 108 rfl rfl) (tb_cons (tb_2 1 1 rfl rfl) (tb_cons (tb_2 3 109 rfl rfl) (tb_nil))))⟩
theorem sgVX7_mad : SgV sgX7_mad 7 := ⟨by decide +kernel, tb_cons (tb_2 3 118 rfl rfl) (tb_cons (tb_2 3 119 rfl rfl) (tb_cons (tb_2 1 1 rfl rfl) (tb_cons (tb_2 3 120 rfl rfl) (tb_nil))))⟩
theorem sgVX7_habit : SgV sgX7_habit 7 := ⟨by decide +kernel, tb_cons (tb_2 3 126 rfl rfl) (tb_cons (tb_2 3 127 rfl rfl) (tb_cons (tb_2 1 1 rfl rfl) (tb_cons (tb_2 3 128 rfl rfl) (tb_nil))))⟩
theorem sgVX7_kinds : SgV sgX7_kinds 7 := ⟨by decide +kernel, tb_cons (tb_2 3 136 rfl rfl) (tb_cons (tb_2 3 137 rfl rfl) (tb_cons (tb_2 1 1 rfl rfl) (tb_cons (tb_2 3 138 rfl rfl) (tb_nil))))⟩
theorem sgVX7_ask : SgV sgX7_ask 7 := ⟨by decide +kernel, tb_cons (tb_2 3 144 rfl rfl) (tb_cons (tb_2 3 145 rfl rfl) (tb_cons (tb_2 1 1 rfl rfl) (tb_cons (tb_2 3 146 rfl rfl) (tb_nil))))⟩
theorem sgVX7_two : SgV sgX7_two 7 := ⟨by decide +kernel, tb_cons (tb_2 3 165 rfl rfl) (tb_cons (tb_2 3 166 rfl rfl) (tb_cons (tb_2 1 1 rfl rfl) (tb_cons (tb_2 3 167 rfl rfl) (tb_nil))))⟩
theorem sgVX7_parts : SgV sgX7_parts 7 := ⟨by decide +kernel, tb_cons (tb_2 3 173 rfl rfl) (tb_cons (tb_2 3 174 rfl rfl) (tb_cons (tb_2 1 1 rfl rfl) (tb_cons (tb_2 3 175 rfl rfl) (tb_nil))))⟩
theorem sgVX7_hide : SgV sgX7_hide 7 := ⟨by decide +kernel, tb_cons (tb_2 3 177 rfl rfl) (tb_cons (tb_2 3 178 rfl rfl) (tb_cons (tb_2 1 1 rfl rfl) (tb_cons (tb_2 3 179 rfl rfl) (tb_nil))))⟩
theorem sgVX7_same : SgV sgX7_same 7 := ⟨by decide +kernel, tb_cons (tb_2 3 181 rfl rfl) (tb_cons (tb_2 3 182 rfl rfl) (tb_cons (tb_2 1 1 rfl rfl) (tb_cons (tb_2 3 183 rfl rfl) (tb_nil))))⟩
theorem sgVX7_claims : SgV sgX7_claims 7 := ⟨by decide +kernel, tb_cons (tb_2 3 185 rfl rfl) (tb_cons (tb_2 3 186 rfl rfl) (tb_cons (tb_2 1 1 rfl rfl) (tb_cons (tb_2 3 187 rfl rfl) (tb_nil))))⟩
theorem sgVX7_settle : SgV sgX7_settle 7 := ⟨by decide +kernel, tb_cons (tb_2 3 189 rfl rfl) (tb_cons (tb_2 3 190 rfl rfl) (tb_cons (tb_2 1 1 rfl rfl) (tb_cons (tb_2 3 191 rfl rfl) (tb_nil))))⟩
theorem sgVX7_thrice : SgV sgX7_thrice 7 := ⟨by decide +kernel, tb_cons (tb_2 3 201 rfl rfl) (tb_cons (tb_2 3 202 rfl rfl) (tb_cons (tb_2 1 1 rfl rfl) (tb_cons (tb_2 3 203 rfl rfl) (tb_nil))))⟩
theorem sgVX7_many : SgV sgX7_many 7 := ⟨by decide +kernel, tb_cons (tb_2 3 205 rfl rfl) (tb_cons (tb_2 3 206 rfl rfl) (tb_cons (tb_2 1 1 rfl rfl) (tb_cons (tb_2 3 207 rfl rfl) (tb_nil))))⟩
theorem sgVX7_judge : SgV sgX7_judge 7 := ⟨by decide +kernel, tb_cons (tb_2 3 210 rfl rfl) (tb_cons (tb_2 3 211 rfl rfl) (tb_cons (tb_2 1 1 rfl rfl) (tb_cons (tb_2 3 212 rfl rfl) (tb_nil))))⟩
theorem sgVX7_film : SgV sgX7_film 7 := ⟨by decide +kernel, tb_cons (tb_2 3 227 rfl rfl) (tb_cons (tb_2 3 228 rfl rfl) (tb_cons (tb_2 1 1 rfl rfl) (tb_cons (tb_2 3 229 rfl rfl) (tb_nil))))⟩
theorem sgVX7_drawn : SgV sgX7_drawn 7 := ⟨by decide +kernel, tb_cons (tb_2 3 239 rfl rfl) (tb_cons (tb_2 4 0 rfl rfl) (tb_cons (tb_2 1 1 rfl rfl) (tb_cons (tb_2 4 1 rfl rfl) (tb_nil))))⟩
theorem sgVX7_mean : SgV sgX7_mean 7 := ⟨by decide +kernel, tb_cons (tb_2 4 18 rfl rfl) (tb_cons (tb_2 4 19 rfl rfl) (tb_cons (tb_2 1 1 rfl rfl) (tb_cons (tb_2 4 20 rfl rfl) (tb_nil))))⟩
theorem sgVX7_image : SgV sgX7_image 7 := ⟨by decide +kernel, tb_cons (tb_2 4 22 rfl rfl) (tb_cons (tb_2 4 23 rfl rfl) (tb_cons (tb_2 1 1 rfl rfl) (tb_cons (tb_2 4 24 rfl rfl) (tb_nil))))⟩
theorem sgVX7_back : SgV sgX7_back 7 := ⟨by decide +kernel, tb_cons (tb_2 4 31 rfl rfl) (tb_cons (tb_2 4 32 rfl rfl) (tb_cons (tb_2 1 1 rfl rfl) (tb_cons (tb_2 4 33 rfl rfl) (tb_nil))))⟩
theorem sgVX7_sheet : SgV sgX7_sheet 7 := ⟨by decide +kernel, tb_cons (tb_2 4 35 rfl rfl) (tb_cons (tb_2 4 36 rfl rfl) (tb_cons (tb_2 1 1 rfl rfl) (tb_cons (tb_2 4 37 rfl rfl) (tb_nil))))⟩
theorem sgVX7_cell : SgV sgX7_cell 7 := ⟨by decide +kernel, tb_cons (tb_2 4 39 rfl rfl) (tb_cons (tb_2 4 40 rfl rfl) (tb_cons (tb_2 1 1 rfl rfl) (tb_cons (tb_2 4 41 rfl rfl) (tb_nil))))⟩
theorem sgVX7_copy : SgV sgX7_copy 7 := ⟨by decide +kernel, tb_cons (tb_2 4 48 rfl rfl) (tb_cons (tb_2 4 49 rfl rfl) (tb_cons (tb_2 1 1 rfl rfl) (tb_cons (tb_2 4 50 rfl rfl) (tb_nil))))⟩
theorem sgVX7_sayingsBy : SgV sgX7_sayingsBy 7 := ⟨by decide +kernel, tb_cons (tb_2 4 62 rfl rfl) (tb_cons (tb_2 4 63 rfl rfl) (tb_cons (tb_2 1 1 rfl rfl) (tb_cons (tb_2 4 64 rfl rfl) (tb_nil))))⟩
theorem sgVX7_taken : SgV sgX7_taken 7 := ⟨by decide +kernel, tb_cons (tb_2 4 67 rfl rfl) (tb_cons (tb_2 4 68 rfl rfl) (tb_cons (tb_2 1 1 rfl rfl) (tb_cons (tb_2 4 69 rfl rfl) (tb_nil))))⟩
theorem sgSX7_isBelow : SgS sgX7_isBelow := ⟨by decide +kernel, tb_cons (tb_2 2 190 rfl rfl) (tb_cons (tb_2 1 1 rfl rfl) (tb_cons (tb_2 2 191 rfl rfl) (tb_nil)))⟩
theorem sgSX7_isByte : SgS sgX7_isByte := ⟨by decide +kernel, tb_cons (tb_2 1 227 rfl rfl) (tb_cons (tb_2 1 1 rfl rfl) (tb_cons (tb_2 1 228 rfl rfl) (tb_nil)))⟩
theorem sgSX7_isKind : SgS sgX7_isKind := ⟨by decide +kernel, tb_cons (tb_2 2 227 rfl rfl) (tb_cons (tb_2 1 1 rfl rfl) (tb_cons (tb_2 2 228 rfl rfl) (tb_nil)))⟩
theorem sgSX7_isMore : SgS sgX7_isMore := ⟨by decide +kernel, tb_cons (tb_2 2 230 rfl rfl) (tb_cons (tb_2 1 1 rfl rfl) (tb_cons (tb_2 2 231 rfl rfl) (tb_nil)))⟩
theorem sgSX7_isWorld : SgS sgX7_isWorld := ⟨by decide +kernel, tb_cons (tb_2 2 197 rfl rfl) (tb_cons (tb_2 1 1 rfl rfl) (tb_cons (tb_2 2 198 rfl rfl) (tb_nil)))⟩
theorem sgVX7_isText : SgV sgX7_isText 7 := ⟨by decide +kernel, tb_cons (tb_2 2 187 rfl rfl) (tb_cons (tb_2 0 25 rfl rfl) (tb_cons (tb_2 1 1 rfl rfl) (tb_cons (tb_2 2 188 rfl rfl) (tb_nil))))⟩
theorem sgVX7_isSpeaker : SgV sgX7_isSpeaker 7 := ⟨by decide +kernel, tb_cons (tb_2 3 3 rfl rfl) (tb_cons (tb_2 0 29 rfl rfl) (tb_cons (tb_2 1 1 rfl rfl) (tb_cons (tb_2 3 4 rfl rfl) (tb_nil))))⟩
theorem sgSX7_at : SgS sgX7_at := ⟨by decide +kernel, tb_cons (tb_2 2 11 rfl rfl) (tb_cons (tb_2 1 1 rfl rfl) (tb_cons (tb_2 2 12 rfl rfl) (tb_nil)))⟩
theorem sgSX7_put : SgS sgX7_put := ⟨by decide +kernel, tb_cons (tb_2 1 99 rfl rfl) (tb_cons (tb_2 1 1 rfl rfl) (tb_cons (tb_2 1 100 rfl rfl) (tb_nil)))⟩
theorem sgSX7_bit : SgS sgX7_bit := ⟨by decide +kernel, tb_cons (tb_2 2 164 rfl rfl) (tb_cons (tb_2 1 1 rfl rfl) (tb_cons (tb_2 2 165 rfl rfl) (tb_nil)))⟩
theorem sgSX7_bits : SgS sgX7_bits := ⟨by decide +kernel, tb_cons (tb_2 2 215 rfl rfl) (tb_cons (tb_2 1 1 rfl rfl) (tb_cons (tb_2 2 216 rfl rfl) (tb_nil)))⟩
theorem sgSX7_worldNumber : SgS sgX7_worldNumber := ⟨by decide +kernel, tb_cons (tb_2 3 92 rfl rfl) (tb_cons (tb_2 1 1 rfl rfl) (tb_cons (tb_2 3 93 rfl rfl) (tb_nil)))⟩
theorem sgSX7_fewer : SgS sgX7_fewer := ⟨by decide +kernel, tb_cons (tb_2 3 115 rfl rfl) (tb_cons (tb_2 1 1 rfl rfl) (tb_cons (tb_2 3 116 rfl rfl) (tb_nil)))⟩
theorem sgSX7_inLowestTerms : SgS sgX7_inLowestTerms := ⟨by decide +kernel, tb_cons (tb_2 3 130 rfl rfl) (tb_cons (tb_2 1 1 rfl rfl) (tb_cons (tb_2 3 131 rfl rfl) (tb_nil)))⟩
theorem sgSX7_commonDivisor : SgS sgX7_commonDivisor := ⟨by decide +kernel, tb_cons (tb_2 3 133 rfl rfl) (tb_cons (tb_2 1 1 rfl rfl) (tb_cons (tb_2 3 134 rfl rfl) (tb_nil)))⟩
theorem sgSX7_canSay : SgS sgX7_canSay := ⟨by decide +kernel, tb_cons (tb_2 3 68 rfl rfl) (tb_cons (tb_2 1 1 rfl rfl) (tb_cons (tb_2 3 69 rfl rfl) (tb_nil)))⟩
theorem sgSX7_turnsAt : SgS sgX7_turnsAt := ⟨by decide +kernel, tb_cons (tb_2 3 71 rfl rfl) (tb_cons (tb_2 1 1 rfl rfl) (tb_cons (tb_2 3 72 rfl rfl) (tb_nil)))⟩
theorem sgVX7_onceOf : SgV sgX7_onceOf 7 := ⟨by decide +kernel, tb_cons (tb_2 3 49 rfl rfl) (tb_cons (tb_2 0 35 rfl rfl) (tb_cons (tb_2 1 1 rfl rfl) (tb_cons (tb_2 3 50 rfl rfl) (tb_nil))))⟩
theorem sgVX7_lawful : SgV sgX7_lawful 7 := ⟨by decide +kernel, tb_cons (tb_2 3 45 rfl rfl) (tb_cons (tb_2 0 34 rfl rfl) (tb_cons (tb_2 1 1 rfl rfl) (tb_cons (tb_2 3 46 rfl rfl) (tb_nil))))⟩
theorem sgVX7_firstSaid : SgV sgX7_firstSaid 7 := ⟨by decide +kernel, tb_cons (tb_2 3 61 rfl rfl) (tb_cons (tb_2 0 38 rfl rfl) (tb_cons (tb_2 1 1 rfl rfl) (tb_cons (tb_2 3 62 rfl rfl) (tb_nil))))⟩
theorem sgVX7_secondSaid : SgV sgX7_secondSaid 7 := ⟨by decide +kernel, tb_cons (tb_2 3 65 rfl rfl) (tb_cons (tb_2 0 39 rfl rfl) (tb_cons (tb_2 1 1 rfl rfl) (tb_cons (tb_2 3 66 rfl rfl) (tb_nil))))⟩
theorem sgVX7_sayableNext : SgV sgX7_sayableNext 7 := ⟨by decide +kernel, tb_cons (tb_2 3 157 rfl rfl) (tb_cons (tb_2 0 46 rfl rfl) (tb_cons (tb_2 1 1 rfl rfl) (tb_cons (tb_2 3 158 rfl rfl) (tb_nil))))⟩
theorem sgVX7_sayable : SgV sgX7_sayable 7 := ⟨by decide +kernel, tb_cons (tb_2 3 53 rfl rfl) (tb_cons (tb_2 0 36 rfl rfl) (tb_cons (tb_2 1 1 rfl rfl) (tb_cons (tb_2 3 54 rfl rfl) (tb_nil))))⟩
theorem sgVX7_sayableAs : SgV sgX7_sayableAs 7 := ⟨by decide +kernel, tb_cons (tb_2 3 57 rfl rfl) (tb_cons (tb_2 0 37 rfl rfl) (tb_cons (tb_2 1 1 rfl rfl) (tb_cons (tb_2 3 58 rfl rfl) (tb_nil))))⟩
theorem sgVX7_allSayableWere : SgV sgX7_allSayableWere 7 := ⟨by decide +kernel, tb_cons (tb_2 3 141 rfl rfl) (tb_cons (tb_2 0 43 rfl rfl) (tb_cons (tb_2 1 1 rfl rfl) (tb_cons (tb_2 3 142 rfl rfl) (tb_nil))))⟩
theorem sgVX7_fittingFirst : SgV sgX7_fittingFirst 7 := ⟨by decide +kernel, tb_cons (tb_2 3 41 rfl rfl) (tb_cons (tb_2 0 33 rfl rfl) (tb_cons (tb_2 1 1 rfl rfl) (tb_cons (tb_2 3 42 rfl rfl) (tb_nil))))⟩
theorem sgVX7_fitting : SgV sgX7_fitting 7 := ⟨by decide +kernel, tb_cons (tb_2 3 37 rfl rfl) (tb_cons (tb_2 0 32 rfl rfl) (tb_cons (tb_2 1 1 rfl rfl) (tb_cons (tb_2 3 38 rfl rfl) (tb_nil))))⟩
theorem sgVX7_fittingWithout : SgV sgX7_fittingWithout 7 := ⟨by decide +kernel, tb_cons (tb_2 3 104 rfl rfl) (tb_cons (tb_2 0 40 rfl rfl) (tb_cons (tb_2 1 1 rfl rfl) (tb_cons (tb_2 3 105 rfl rfl) (tb_nil))))⟩
theorem sgVX7_fittingWereMad : SgV sgX7_fittingWereMad 7 := ⟨by decide +kernel, tb_cons (tb_2 3 123 rfl rfl) (tb_cons (tb_2 0 42 rfl rfl) (tb_cons (tb_2 1 1 rfl rfl) (tb_cons (tb_2 3 124 rfl rfl) (tb_nil))))⟩
theorem sgVX7_misfits : SgV sgX7_misfits 7 := ⟨by decide +kernel, tb_cons (tb_2 3 112 rfl rfl) (tb_cons (tb_2 0 41 rfl rfl) (tb_cons (tb_2 1 1 rfl rfl) (tb_cons (tb_2 3 113 rfl rfl) (tb_nil))))⟩
theorem sgSX7_isSure : SgS sgX7_isSure := ⟨by decide +kernel, tb_cons (tb_2 3 89 rfl rfl) (tb_cons (tb_2 1 1 rfl rfl) (tb_cons (tb_2 3 90 rfl rfl) (tb_nil)))⟩
theorem sgSX7_thingsSure : SgS sgX7_thingsSure := ⟨by decide +kernel, tb_cons (tb_2 3 84 rfl rfl) (tb_cons (tb_2 1 1 rfl rfl) (tb_cons (tb_2 3 85 rfl rfl) (tb_nil)))⟩
theorem sgVX7_findBest : SgV sgX7_findBest 7 := ⟨by decide +kernel, tb_cons (tb_2 3 149 rfl rfl) (tb_cons (tb_2 0 44 rfl rfl) (tb_cons (tb_2 1 1 rfl rfl) (tb_cons (tb_2 3 150 rfl rfl) (tb_nil))))⟩
theorem sgVX7_worstOf : SgV sgX7_worstOf 7 := ⟨by decide +kernel, tb_cons (tb_2 3 153 rfl rfl) (tb_cons (tb_2 0 45 rfl rfl) (tb_cons (tb_2 1 1 rfl rfl) (tb_cons (tb_2 3 154 rfl rfl) (tb_nil))))⟩
theorem sgVX7_worstBehind : SgV sgX7_worstBehind 7 := ⟨by decide +kernel, tb_cons (tb_2 3 170 rfl rfl) (tb_cons (tb_2 0 48 rfl rfl) (tb_cons (tb_2 1 1 rfl rfl) (tb_cons (tb_2 3 171 rfl rfl) (tb_nil))))⟩
theorem sgVX7_strangerAsks : SgV sgX7_strangerAsks 7 := ⟨by decide +kernel, tb_cons (tb_2 4 5 rfl rfl) (tb_cons (tb_2 0 56 rfl rfl) (tb_cons (tb_2 1 1 rfl rfl) (tb_cons (tb_2 4 6 rfl rfl) (tb_nil))))⟩
theorem sgVX7_answered : SgV sgX7_answered 7 := ⟨by decide +kernel, tb_cons (tb_2 4 15 rfl rfl) (tb_cons (tb_2 0 57 rfl rfl) (tb_cons (tb_2 1 1 rfl rfl) (tb_cons (tb_2 4 16 rfl rfl) (tb_nil))))⟩
theorem sgSX7_lotBehind : SgS sgX7_lotBehind := ⟨by decide +kernel, tb_cons (tb_2 4 8 rfl rfl) (tb_cons (tb_2 1 1 rfl rfl) (tb_cons (tb_2 4 9 rfl rfl) (tb_nil)))⟩
theorem sgVX7_settles : SgV sgX7_settles 7 := ⟨by decide +kernel, tb_cons (tb_2 3 194 rfl rfl) (tb_cons (tb_2 0 49 rfl rfl) (tb_cons (tb_2 1 1 rfl rfl) (tb_cons (tb_2 3 195 rfl rfl) (tb_nil))))⟩
theorem sgVX7_markOf : SgV sgX7_markOf 7 := ⟨by decide +kernel, tb_cons (tb_2 3 198 rfl rfl) (tb_cons (tb_2 0 50 rfl rfl) (tb_cons (tb_2 1 1 rfl rfl) (tb_cons (tb_2 3 199 rfl rfl) (tb_nil))))⟩
theorem sgVX7_rowFits : SgV sgX7_rowFits 7 := ⟨by decide +kernel, tb_cons (tb_2 3 220 rfl rfl) (tb_cons (tb_2 0 52 rfl rfl) (tb_cons (tb_2 1 1 rfl rfl) (tb_cons (tb_2 3 221 rfl rfl) (tb_nil))))⟩
theorem sgVX7_sayingTaken : SgV sgX7_sayingTaken 7 := ⟨by decide +kernel, tb_cons (tb_2 4 72 rfl rfl) (tb_cons (tb_2 0 62 rfl rfl) (tb_cons (tb_2 1 1 rfl rfl) (tb_cons (tb_2 4 73 rfl rfl) (tb_nil))))⟩
theorem sgVX7_speakerTaken : SgV sgX7_speakerTaken 7 := ⟨by decide +kernel, tb_cons (tb_2 4 76 rfl rfl) (tb_cons (tb_2 0 63 rfl rfl) (tb_cons (tb_2 1 1 rfl rfl) (tb_cons (tb_2 4 77 rfl rfl) (tb_nil))))⟩
theorem sgSX7_isOneOf : SgS sgX7_isOneOf := ⟨by decide +kernel, tb_cons (tb_2 4 79 rfl rfl) (tb_cons (tb_2 1 1 rfl rfl) (tb_cons (tb_2 4 80 rfl rfl) (tb_nil)))⟩
theorem sgIX8_init : SgI sgX8_init := ⟨by decide +kernel, tb_cons (tb_2 4 84 rfl rfl) (tb_cons (tb_2 1 9 rfl rfl) (tb_cons (tb_2 4 85 rfl rfl) (tb_nil)))⟩
theorem sgSX8_in : SgS sgX8_in := ⟨by decide +kernel, tb_cons (tb_2 4 96 rfl rfl) (tb_cons (tb_2 1 9 rfl rfl) (tb_cons (tb_2 4 97 rfl rfl) (tb_nil)))⟩
theorem sgSX8_within : SgS sgX8_within := ⟨by decide +kernel, tb_cons (tb_2 5 46 rfl rfl) (tb_cons (tb_2 1 9 rfl rfl) (tb_cons (tb_2 5 47 rfl rfl) (tb_nil)))⟩
theorem sgVX8_isSpeaker : SgV sgX8_isSpeaker 8 := ⟨by decide +kernel, tb_cons (tb_2 5 75 rfl rfl) (tb_cons (tb_2 0 77 rfl rfl) (tb_cons (tb_2 1 9 rfl rfl) (tb_cons (tb_2 5 76 rfl rfl) (tb_nil))))⟩
theorem sgVX8_isOfTexts : SgV sgX8_isOfTexts 8 := ⟨by decide +kernel, tb_cons (tb_2 5 29 rfl rfl) (tb_cons (tb_2 0 73 rfl rfl) (tb_cons (tb_2 1 9 rfl rfl) (tb_cons (tb_2 5 30 rfl rfl) (tb_nil))))⟩
theorem sgSX8_isWorld : SgS sgX8_isWorld := ⟨by decide +kernel, tb_cons (tb_2 5 32 rfl rfl) (tb_cons (tb_2 1 9 rfl rfl) (tb_cons (tb_2 5 33 rfl rfl) (tb_nil)))⟩
theorem sgSX8_has : SgS sgX8_has := ⟨by decide +kernel, tb_cons (tb_2 5 134 rfl rfl) (tb_cons (tb_2 1 9 rfl rfl) (tb_cons (tb_2 5 135 rfl rfl) (tb_nil)))⟩
theorem sgSX8_bitsOf : SgS sgX8_bitsOf := ⟨by decide +kernel, tb_cons (tb_2 5 131 rfl rfl) (tb_cons (tb_2 1 9 rfl rfl) (tb_cons (tb_2 5 132 rfl rfl) (tb_nil)))⟩
theorem sgVX8_count : SgV sgX8_count 8 := ⟨by decide +kernel, tb_cons (tb_2 5 8 rfl rfl) (tb_cons (tb_2 5 9 rfl rfl) (tb_cons (tb_2 1 9 rfl rfl) (tb_cons (tb_2 5 10 rfl rfl) (tb_nil))))⟩
theorem sgSX8_isByte : SgS sgX8_isByte := ⟨by decide +kernel, tb_cons (tb_2 5 16 rfl rfl) (tb_cons (tb_2 1 9 rfl rfl) (tb_cons (tb_2 5 17 rfl rfl) (tb_nil)))⟩
theorem sgVX8_feed : SgV sgX8_feed 8 := ⟨by decide +kernel, tb_cons (tb_2 5 12 rfl rfl) (tb_cons (tb_2 5 13 rfl rfl) (tb_cons (tb_2 1 9 rfl rfl) (tb_cons (tb_2 5 14 rfl rfl) (tb_nil))))⟩
theorem sgVX8_wordFrom : SgV sgX8_wordFrom 8 := ⟨by decide +kernel, tb_cons (tb_2 4 100 rfl rfl) (tb_cons (tb_2 0 65 rfl rfl) (tb_cons (tb_2 1 9 rfl rfl) (tb_cons (tb_2 4 101 rfl rfl) (tb_nil))))⟩
theorem sgVX8_next : SgV sgX8_next 8 := ⟨by decide +kernel, tb_cons (tb_2 4 93 rfl rfl) (tb_cons (tb_2 0 64 rfl rfl) (tb_cons (tb_2 1 9 rfl rfl) (tb_cons (tb_2 4 94 rfl rfl) (tb_nil))))⟩
theorem sgSX8_rank : SgS sgX8_rank := ⟨by decide +kernel, tb_cons (tb_2 4 116 rfl rfl) (tb_cons (tb_2 1 9 rfl rfl) (tb_cons (tb_2 4 117 rfl rfl) (tb_nil)))⟩
theorem sgVX8_puts : SgV sgX8_puts 8 := ⟨by decide +kernel, tb_cons (tb_2 4 109 rfl rfl) (tb_cons (tb_2 0 67 rfl rfl) (tb_cons (tb_2 1 9 rfl rfl) (tb_cons (tb_2 4 110 rfl rfl) (tb_nil))))⟩
theorem sgVX8_unwinds : SgV sgX8_unwinds 8 := ⟨by decide +kernel, tb_cons (tb_2 4 113 rfl rfl) (tb_cons (tb_2 0 68 rfl rfl) (tb_cons (tb_2 1 9 rfl rfl) (tb_cons (tb_2 4 114 rfl rfl) (tb_nil))))⟩
theorem sgVX8_holds : SgV sgX8_holds 8 := ⟨by decide +kernel, tb_cons (tb_2 4 124 rfl rfl) (tb_cons (tb_2 0 70 rfl rfl) (tb_cons (tb_2 1 9 rfl rfl) (tb_cons (tb_2 4 125 rfl rfl) (tb_nil))))⟩
theorem sgVX8_opensOne : SgV sgX8_opensOne 8 := ⟨by decide +kernel, tb_cons (tb_2 4 120 rfl rfl) (tb_cons (tb_2 0 69 rfl rfl) (tb_cons (tb_2 1 9 rfl rfl) (tb_cons (tb_2 4 121 rfl rfl) (tb_nil))))⟩
theorem sgVX8_between : SgV sgX8_between 8 := ⟨by decide +kernel, tb_cons (tb_2 4 132 rfl rfl) (tb_cons (tb_2 0 72 rfl rfl) (tb_cons (tb_2 1 9 rfl rfl) (tb_cons (tb_2 4 133 rfl rfl) (tb_nil))))⟩
theorem sgVX8_signOf : SgV sgX8_signOf 8 := ⟨by decide +kernel, tb_cons (tb_2 4 128 rfl rfl) (tb_cons (tb_2 0 71 rfl rfl) (tb_cons (tb_2 1 9 rfl rfl) (tb_cons (tb_2 4 129 rfl rfl) (tb_nil))))⟩
theorem sgVX8_eRead : SgV sgX8_eRead 8 := ⟨by decide +kernel, tb_cons (tb_2 4 104 rfl rfl) (tb_cons (tb_2 0 66 rfl rfl) (tb_cons (tb_2 1 9 rfl rfl) (tb_cons (tb_2 4 105 rfl rfl) (tb_nil))))⟩
theorem sgVX8_text : SgV sgX8_text 8 := ⟨by decide +kernel, tb_cons (tb_2 4 88 rfl rfl) (tb_cons (tb_2 4 89 rfl rfl) (tb_cons (tb_2 1 9 rfl rfl) (tb_cons (tb_2 4 90 rfl rfl) (tb_nil))))⟩
theorem sgSX8_two : SgS sgX8_two := ⟨by decide +kernel, tb_cons (tb_2 5 43 rfl rfl) (tb_cons (tb_2 1 9 rfl rfl) (tb_cons (tb_2 5 44 rfl rfl) (tb_nil)))⟩
theorem sgVX8_says : SgV sgX8_says 8 := ⟨by decide +kernel, tb_cons (tb_2 5 40 rfl rfl) (tb_cons (tb_2 0 75 rfl rfl) (tb_cons (tb_2 1 9 rfl rfl) (tb_cons (tb_2 5 41 rfl rfl) (tb_nil))))⟩
theorem sgVX8_force : SgV sgX8_force 8 := ⟨by decide +kernel, tb_cons (tb_2 5 20 rfl rfl) (tb_cons (tb_2 5 21 rfl rfl) (tb_cons (tb_2 1 9 rfl rfl) (tb_cons (tb_2 5 22 rfl rfl) (tb_nil))))⟩
theorem sgVX8_saysOf : SgV sgX8_saysOf 8 := ⟨by decide +kernel, tb_cons (tb_2 5 36 rfl rfl) (tb_cons (tb_2 0 74 rfl rfl) (tb_cons (tb_2 1 9 rfl rfl) (tb_cons (tb_2 5 37 rfl rfl) (tb_nil))))⟩
theorem sgVX8_asks : SgV sgX8_asks 8 := ⟨by decide +kernel, tb_cons (tb_2 5 24 rfl rfl) (tb_cons (tb_2 5 25 rfl rfl) (tb_cons (tb_2 1 9 rfl rfl) (tb_cons (tb_2 5 26 rfl rfl) (tb_nil))))⟩
theorem sgVX8_soIn : SgV sgX8_soIn 8 := ⟨by decide +kernel, tb_cons (tb_2 5 54 rfl rfl) (tb_cons (tb_2 0 76 rfl rfl) (tb_cons (tb_2 1 9 rfl rfl) (tb_cons (tb_2 5 55 rfl rfl) (tb_nil))))⟩
theorem sgVX8_means : SgV sgX8_means 8 := ⟨by decide +kernel, tb_cons (tb_2 5 49 rfl rfl) (tb_cons (tb_2 5 50 rfl rfl) (tb_cons (tb_2 1 9 rfl rfl) (tb_cons (tb_2 5 51 rfl rfl) (tb_nil))))⟩
theorem sgVX8_pairs : SgV sgX8_pairs 8 := ⟨by decide +kernel, tb_cons (tb_2 5 58 rfl rfl) (tb_cons (tb_2 5 59 rfl rfl) (tb_cons (tb_2 1 9 rfl rfl) (tb_cons (tb_2 5 60 rfl rfl) (tb_nil))))⟩
theorem sgVX8_reads : SgV sgX8_reads 8 := ⟨by decide +kernel, tb_cons (tb_2 5 103 rfl rfl) (tb_cons (tb_2 0 79 rfl rfl) (tb_cons (tb_2 1 9 rfl rfl) (tb_cons (tb_2 5 104 rfl rfl) (tb_nil))))⟩
theorem sgVX8_once : SgV sgX8_once 8 := ⟨by decide +kernel, tb_cons (tb_2 5 111 rfl rfl) (tb_cons (tb_2 0 81 rfl rfl) (tb_cons (tb_2 1 9 rfl rfl) (tb_cons (tb_2 5 112 rfl rfl) (tb_nil))))⟩
theorem sgSX8_isSo : SgS sgX8_isSo := ⟨by decide +kernel, tb_cons (tb_2 5 67 rfl rfl) (tb_cons (tb_2 1 9 rfl rfl) (tb_cons (tb_2 5 68 rfl rfl) (tb_nil)))⟩
theorem sgVX8_speaker : SgV sgX8_speaker 8 := ⟨by decide +kernel, tb_cons (tb_2 5 63 rfl rfl) (tb_cons (tb_2 5 64 rfl rfl) (tb_cons (tb_2 1 9 rfl rfl) (tb_cons (tb_2 5 65 rfl rfl) (tb_nil))))⟩
theorem sgVX8_turn : SgV sgX8_turn 8 := ⟨by decide +kernel, tb_cons (tb_2 5 70 rfl rfl) (tb_cons (tb_2 5 71 rfl rfl) (tb_cons (tb_2 1 9 rfl rfl) (tb_cons (tb_2 5 72 rfl rfl) (tb_nil))))⟩
theorem sgVX8_told : SgV sgX8_told 8 := ⟨by decide +kernel, tb_cons (tb_2 5 78 rfl rfl) (tb_cons (tb_2 5 79 rfl rfl) (tb_cons (tb_2 1 9 rfl rfl) (tb_cons (tb_2 5 80 rfl rfl) (tb_nil))))⟩
theorem sgVX8_say : SgV sgX8_say 8 := ⟨by decide +kernel, tb_cons (tb_2 5 82 rfl rfl) (tb_cons (tb_2 5 83 rfl rfl) (tb_cons (tb_2 1 9 rfl rfl) (tb_cons (tb_2 5 84 rfl rfl) (tb_nil))))⟩
theorem sgVX8_unsay : SgV sgX8_unsay 8 := ⟨by decide +kernel, tb_cons (tb_2 5 86 rfl rfl) (tb_cons (tb_2 5 87 rfl rfl) (tb_cons (tb_2 1 9 rfl rfl) (tb_cons (tb_2 5 88 rfl rfl) (tb_nil))))⟩
theorem sgVX8_said : SgV sgX8_said 8 := ⟨by decide +kernel, tb_cons (tb_2 5 90 rfl rfl) (tb_cons (tb_2 5 91 rfl rfl) (tb_cons (tb_2 1 9 rfl rfl) (tb_cons (tb_2 5 92 rfl rfl) (tb_nil))))⟩
theorem sgVX8_canSay : SgV sgX8_canSay 8 := ⟨by decide +kernel, tb_cons (tb_2 5 123 rfl rfl) (tb_cons (tb_2 0 84 rfl rfl) (tb_cons (tb_2 1 9 rfl rfl) (tb_cons (tb_2 5 124 rfl rfl) (tb_nil))))⟩
theorem sgVX8_fits : SgV sgX8_fits 8 := ⟨by decide +kernel, tb_cons (tb_2 5 119 rfl rfl) (tb_cons (tb_2 0 83 rfl rfl) (tb_cons (tb_2 1 9 rfl rfl) (tb_cons (tb_2 5 120 rfl rfl) (tb_nil))))⟩
theorem sgVX8_fitsSaying : SgV sgX8_fitsSaying 8 := ⟨by decide +kernel, tb_cons (tb_2 5 115 rfl rfl) (tb_cons (tb_2 0 82 rfl rfl) (tb_cons (tb_2 1 9 rfl rfl) (tb_cons (tb_2 5 116 rfl rfl) (tb_nil))))⟩
theorem sgVX8_worldsOf : SgV sgX8_worldsOf 8 := ⟨by decide +kernel, tb_cons (tb_2 5 107 rfl rfl) (tb_cons (tb_2 0 80 rfl rfl) (tb_cons (tb_2 1 9 rfl rfl) (tb_cons (tb_2 5 108 rfl rfl) (tb_nil))))⟩
theorem sgVX8_worldsNow : SgV sgX8_worldsNow 8 := ⟨by decide +kernel, tb_cons (tb_2 5 99 rfl rfl) (tb_cons (tb_2 0 78 rfl rfl) (tb_cons (tb_2 1 9 rfl rfl) (tb_cons (tb_2 5 100 rfl rfl) (tb_nil))))⟩
theorem sgVX8_worlds : SgV sgX8_worlds 8 := ⟨by decide +kernel, tb_cons (tb_2 5 94 rfl rfl) (tb_cons (tb_2 5 95 rfl rfl) (tb_cons (tb_2 1 9 rfl rfl) (tb_cons (tb_2 5 96 rfl rfl) (tb_nil))))⟩
theorem sgSX8_allIn : SgS sgX8_allIn := ⟨by decide +kernel, tb_cons (tb_2 5 137 rfl rfl) (tb_cons (tb_2 1 9 rfl rfl) (tb_cons (tb_2 5 138 rfl rfl) (tb_nil)))⟩
theorem sgSX8_noneIn : SgS sgX8_noneIn := ⟨by decide +kernel, tb_cons (tb_2 5 140 rfl rfl) (tb_cons (tb_2 1 9 rfl rfl) (tb_cons (tb_2 5 141 rfl rfl) (tb_nil)))⟩
theorem sgSX8_leastOf : SgS sgX8_leastOf := ⟨by decide +kernel, tb_cons (tb_2 5 143 rfl rfl) (tb_cons (tb_2 1 9 rfl rfl) (tb_cons (tb_2 5 144 rfl rfl) (tb_nil)))⟩
theorem sgVX8_behind : SgV sgX8_behind 8 := ⟨by decide +kernel, tb_cons (tb_2 5 127 rfl rfl) (tb_cons (tb_2 5 128 rfl rfl) (tb_cons (tb_2 1 9 rfl rfl) (tb_cons (tb_2 5 129 rfl rfl) (tb_nil))))⟩
theorem sgVX8_cannot : SgV sgX8_cannot 8 := ⟨by decide +kernel, tb_cons (tb_2 5 146 rfl rfl) (tb_cons (tb_2 5 147 rfl rfl) (tb_cons (tb_2 1 9 rfl rfl) (tb_cons (tb_2 5 148 rfl rfl) (tb_nil))))⟩
theorem sgVX8_findsFitting : SgV sgX8_findsFitting 8 := ⟨by decide +kernel, tb_cons (tb_2 5 155 rfl rfl) (tb_cons (tb_2 0 85 rfl rfl) (tb_cons (tb_2 1 9 rfl rfl) (tb_cons (tb_2 5 156 rfl rfl) (tb_nil))))⟩
theorem sgVX8_without : SgV sgX8_without 8 := ⟨by decide +kernel, tb_cons (tb_2 5 159 rfl rfl) (tb_cons (tb_2 0 86 rfl rfl) (tb_cons (tb_2 1 9 rfl rfl) (tb_cons (tb_2 5 160 rfl rfl) (tb_nil))))⟩
theorem sgVX8_lies : SgV sgX8_lies 8 := ⟨by decide +kernel, tb_cons (tb_2 5 150 rfl rfl) (tb_cons (tb_2 5 151 rfl rfl) (tb_cons (tb_2 1 9 rfl rfl) (tb_cons (tb_2 5 152 rfl rfl) (tb_nil))))⟩
theorem sgVX8_least : SgV sgX8_least 8 := ⟨by decide +kernel, tb_cons (tb_2 5 162 rfl rfl) (tb_cons (tb_2 5 163 rfl rfl) (tb_cons (tb_2 1 9 rfl rfl) (tb_cons (tb_2 5 164 rfl rfl) (tb_nil))))⟩
theorem sgVX8_worldsMad : SgV sgX8_worldsMad 8 := ⟨by decide +kernel, tb_cons (tb_2 5 171 rfl rfl) (tb_cons (tb_2 0 87 rfl rfl) (tb_cons (tb_2 1 9 rfl rfl) (tb_cons (tb_2 5 172 rfl rfl) (tb_nil))))⟩
theorem sgVX8_mad : SgV sgX8_mad 8 := ⟨by decide +kernel, tb_cons (tb_2 5 166 rfl rfl) (tb_cons (tb_2 5 167 rfl rfl) (tb_cons (tb_2 1 9 rfl rfl) (tb_cons (tb_2 5 168 rfl rfl) (tb_nil))))⟩
theorem sgSX8_lowest : SgS sgX8_lowest := ⟨by decide +kernel, tb_cons (tb_2 5 178 rfl rfl) (tb_cons (tb_2 1 9 rfl rfl) (tb_cons (tb_2 5 179 rfl rfl) (tb_nil)))⟩
theorem sgVX8_habit : SgV sgX8_habit 8 := ⟨by decide +kernel, tb_cons (tb_2 5 174 rfl rfl) (tb_cons (tb_2 5 175 rfl rfl) (tb_cons (tb_2 1 9 rfl rfl) (tb_cons (tb_2 5 176 rfl rfl) (tb_nil))))⟩
theorem sgVX8_kinds : SgV sgX8_kinds 8 := ⟨by decide +kernel, tb_cons (tb_2 5 181 rfl rfl) (tb_cons (tb_2 5 182 rfl rfl) (tb_cons (tb_2 1 9 rfl rfl) (tb_cons (tb_2 5 183 rfl rfl) (tb_nil))))⟩
theorem sgVX8_worstOf : SgV sgX8_worstOf 8 := ⟨by decide +kernel, tb_cons (tb_2 5 194 rfl rfl) (tb_cons (tb_2 0 89 rfl rfl) (tb_cons (tb_2 1 9 rfl rfl) (tb_cons (tb_2 5 195 rfl rfl) (tb_nil))))⟩
theorem sgVX8_findsQuestion : SgV sgX8_findsQuestion 8 := ⟨by decide +kernel, tb_cons (tb_2 5 190 rfl rfl) (tb_cons (tb_2 0 88 rfl rfl) (tb_cons (tb_2 1 9 rfl rfl) (tb_cons (tb_2 5 191 rfl rfl) (tb_nil))))⟩
theorem sgVX8_ask : SgV sgX8_ask 8 := ⟨by decide +kernel, tb_cons (tb_2 5 185 rfl rfl) (tb_cons (tb_2 5 186 rfl rfl) (tb_cons (tb_2 1 9 rfl rfl) (tb_cons (tb_2 5 187 rfl rfl) (tb_nil))))⟩
theorem sgVX8_worstBehind : SgV sgX8_worstBehind 8 := ⟨by decide +kernel, tb_cons (tb_2 5 202 rfl rfl) (tb_cons (tb_2 0 90 rfl rfl) (tb_cons (tb_2 1 9 rfl rfl) (tb_cons (tb_2 5 203 rfl rfl) (tb_nil))))⟩
theorem sgVX8_two_ : SgV sgX8_two_ 8 := ⟨by decide +kernel, tb_cons (tb_2 5 197 rfl rfl) (tb_cons (tb_2 5 198 rfl rfl) (tb_cons (tb_2 1 9 rfl rfl) (tb_cons (tb_2 5 199 rfl rfl) (tb_nil))))⟩
theorem sgVX8_parts : SgV sgX8_parts 8 := ⟨by decide +kernel, tb_cons (tb_2 5 205 rfl rfl) (tb_cons (tb_2 5 206 rfl rfl) (tb_cons (tb_2 1 9 rfl rfl) (tb_cons (tb_2 5 207 rfl rfl) (tb_nil))))⟩
theorem sgSX8_isSure : SgS sgX8_isSure := ⟨by decide +kernel, tb_cons (tb_2 5 213 rfl rfl) (tb_cons (tb_2 1 9 rfl rfl) (tb_cons (tb_2 5 214 rfl rfl) (tb_nil)))⟩
theorem sgVX8_hide : SgV sgX8_hide 8 := ⟨by decide +kernel, tb_cons (tb_2 5 209 rfl rfl) (tb_cons (tb_2 5 210 rfl rfl) (tb_cons (tb_2 1 9 rfl rfl) (tb_cons (tb_2 5 211 rfl rfl) (tb_nil))))⟩
theorem sgVX8_same : SgV sgX8_same 8 := ⟨by decide +kernel, tb_cons (tb_2 5 216 rfl rfl) (tb_cons (tb_2 5 217 rfl rfl) (tb_cons (tb_2 1 9 rfl rfl) (tb_cons (tb_2 5 218 rfl rfl) (tb_nil))))⟩
theorem sgVX8_claims : SgV sgX8_claims 8 := ⟨by decide +kernel, tb_cons (tb_2 5 220 rfl rfl) (tb_cons (tb_2 5 221 rfl rfl) (tb_cons (tb_2 1 9 rfl rfl) (tb_cons (tb_2 5 222 rfl rfl) (tb_nil))))⟩
theorem sgVX8_settles : SgV sgX8_settles 8 := ⟨by decide +kernel, tb_cons (tb_2 5 229 rfl rfl) (tb_cons (tb_2 0 91 rfl rfl) (tb_cons (tb_2 1 9 rfl rfl) (tb_cons (tb_2 5 230 rfl rfl) (tb_nil))))⟩
theorem sgVX8_settle : SgV sgX8_settle 8 := ⟨by decide +kernel, tb_cons (tb_2 5 224 rfl rfl) (tb_cons (tb_2 5 225 rfl rfl) (tb_cons (tb_2 1 9 rfl rfl) (tb_cons (tb_2 5 226 rfl rfl) (tb_nil))))⟩
theorem sgVX8_thrice : SgV sgX8_thrice 8 := ⟨by decide +kernel, tb_cons (tb_2 5 232 rfl rfl) (tb_cons (tb_2 5 233 rfl rfl) (tb_cons (tb_2 1 9 rfl rfl) (tb_cons (tb_2 5 234 rfl rfl) (tb_nil))))⟩
theorem sgVX8_many : SgV sgX8_many 8 := ⟨by decide +kernel, tb_cons (tb_2 5 236 rfl rfl) (tb_cons (tb_2 5 237 rfl rfl) (tb_cons (tb_2 1 9 rfl rfl) (tb_cons (tb_2 5 238 rfl rfl) (tb_nil))))⟩
theorem sgVX8_isRow : SgV sgX8_isRow 8 := ⟨by decide +kernel, tb_cons (tb_2 6 5 rfl rfl) (tb_cons (tb_2 0 92 rfl rfl) (tb_cons (tb_2 1 9 rfl rfl) (tb_cons (tb_2 6 6 rfl rfl) (tb_nil))))⟩
theorem sgVX8_judge : SgV sgX8_judge 8 := ⟨by decide +kernel, tb_cons (tb_2 6 0 rfl rfl) (tb_cons (tb_2 6 1 rfl rfl) (tb_cons (tb_2 1 9 rfl rfl) (tb_cons (tb_2 6 2 rfl rfl) (tb_nil))))⟩
theorem sgVX8_film : SgV sgX8_film 8 := ⟨by decide +kernel, tb_cons (tb_2 6 8 rfl rfl) (tb_cons (tb_2 6 9 rfl rfl) (tb_cons (tb_2 1 9 rfl rfl) (tb_cons (tb_2 6 10 rfl rfl) (tb_nil))))⟩
theorem sgSX8_worldAt : SgS sgX8_worldAt := ⟨by decide +kernel, tb_cons (tb_2 6 23 rfl rfl) (tb_cons (tb_2 1 9 rfl rfl) (tb_cons (tb_2 6 24 rfl rfl) (tb_nil)))⟩
theorem sgVX8_asksBy : SgV sgX8_asksBy 8 := ⟨by decide +kernel, tb_cons (tb_2 6 18 rfl rfl) (tb_cons (tb_2 0 93 rfl rfl) (tb_cons (tb_2 1 9 rfl rfl) (tb_cons (tb_2 6 19 rfl rfl) (tb_nil))))⟩
theorem sgVX8_drawn : SgV sgX8_drawn 8 := ⟨by decide +kernel, tb_cons (tb_2 6 12 rfl rfl) (tb_cons (tb_2 6 13 rfl rfl) (tb_cons (tb_2 1 9 rfl rfl) (tb_cons (tb_2 6 14 rfl rfl) (tb_nil))))⟩
theorem sgVX8_mean : SgV sgX8_mean 8 := ⟨by decide +kernel, tb_cons (tb_2 6 27 rfl rfl) (tb_cons (tb_2 6 28 rfl rfl) (tb_cons (tb_2 1 9 rfl rfl) (tb_cons (tb_2 6 29 rfl rfl) (tb_nil))))⟩
theorem sgVX8_image : SgV sgX8_image 8 := ⟨by decide +kernel, tb_cons (tb_2 6 31 rfl rfl) (tb_cons (tb_2 6 32 rfl rfl) (tb_cons (tb_2 1 9 rfl rfl) (tb_cons (tb_2 6 33 rfl rfl) (tb_nil))))⟩
theorem sgVX8_back : SgV sgX8_back 8 := ⟨by decide +kernel, tb_cons (tb_2 6 35 rfl rfl) (tb_cons (tb_2 6 36 rfl rfl) (tb_cons (tb_2 1 9 rfl rfl) (tb_cons (tb_2 6 37 rfl rfl) (tb_nil))))⟩
theorem sgVX8_sheet : SgV sgX8_sheet 8 := ⟨by decide +kernel, tb_cons (tb_2 6 39 rfl rfl) (tb_cons (tb_2 6 40 rfl rfl) (tb_cons (tb_2 1 9 rfl rfl) (tb_cons (tb_2 6 41 rfl rfl) (tb_nil))))⟩
theorem sgVX8_cell : SgV sgX8_cell 8 := ⟨by decide +kernel, tb_cons (tb_2 6 43 rfl rfl) (tb_cons (tb_2 6 44 rfl rfl) (tb_cons (tb_2 1 9 rfl rfl) (tb_cons (tb_2 6 45 rfl rfl) (tb_nil))))⟩
theorem sgVX8_copy : SgV sgX8_copy 8 := ⟨by decide +kernel, tb_cons (tb_2 6 47 rfl rfl) (tb_cons (tb_2 6 48 rfl rfl) (tb_cons (tb_2 1 9 rfl rfl) (tb_cons (tb_2 6 49 rfl rfl) (tb_nil))))⟩
theorem sgVX8_sayingsBy : SgV sgX8_sayingsBy 8 := ⟨by decide +kernel, tb_cons (tb_2 6 51 rfl rfl) (tb_cons (tb_2 6 52 rfl rfl) (tb_cons (tb_2 1 9 rfl rfl) (tb_cons (tb_2 6 53 rfl rfl) (tb_nil))))⟩
theorem sgSX8_isUnder : SgS sgX8_isUnder := ⟨by decide +kernel, tb_cons (tb_2 6 60 rfl rfl) (tb_cons (tb_2 1 9 rfl rfl) (tb_cons (tb_2 6 61 rfl rfl) (tb_nil)))⟩
theorem sgVX8_taken : SgV sgX8_taken 8 := ⟨by decide +kernel, tb_cons (tb_2 6 56 rfl rfl) (tb_cons (tb_2 6 57 rfl rfl) (tb_cons (tb_2 1 9 rfl rfl) (tb_cons (tb_2 6 58 rfl rfl) (tb_nil))))⟩
theorem sgSJ6_bitCount_0f7a4 : SgS sgJ6_bitCount_0f7a4 := ⟨by decide +kernel, tb_cons (tb_2 3 78 rfl rfl) (tb_cons (tb_2 1 15 rfl rfl) (tb_cons (tb_2 3 79 rfl rfl) (tb_nil)))⟩
theorem sgSJ9_max_7cf53 : SgS sgJ9_max_7cf53 := ⟨by decide +kernel, tb_cons (tb_2 2 178 rfl rfl) (tb_cons (tb_2 1 14 rfl rfl) (tb_cons (tb_2 2 179 rfl rfl) (tb_nil)))⟩
theorem sgSJ9_min_7cf53 : SgS sgJ9_min_7cf53 := ⟨by decide +kernel, tb_cons (tb_2 2 175 rfl rfl) (tb_cons (tb_2 1 14 rfl rfl) (tb_cons (tb_2 2 176 rfl rfl) (tb_nil)))⟩
theorem sgSJ0_checkIndex_df160 : SgS sgJ0_checkIndex_df160 := ⟨by decide +kernel, tb_cons (tb_2 2 50 rfl rfl) (tb_cons (tb_2 1 10 rfl rfl) (tb_cons (tb_2 2 51 rfl rfl) (tb_nil)))⟩
theorem sgSJ1_charAt_3b067 : SgS sgJ1_charAt_3b067 := ⟨by decide +kernel, tb_cons (tb_2 2 47 rfl rfl) (tb_cons (tb_2 1 11 rfl rfl) (tb_cons (tb_2 2 48 rfl rfl) (tb_nil)))⟩
theorem sgSJ2_getChar_3b067 : SgS sgJ2_getChar_3b067 := ⟨by decide +kernel, tb_cons (tb_2 2 68 rfl rfl) (tb_cons (tb_2 1 13 rfl rfl) (tb_cons (tb_2 2 69 rfl rfl) (tb_nil)))⟩
theorem sgSJ2_length_9d52b : SgS sgJ2_length_9d52b := ⟨by decide +kernel, tb_cons (tb_2 2 64 rfl rfl) (tb_cons (tb_2 1 13 rfl rfl) (tb_cons (tb_2 2 65 rfl rfl) (tb_nil)))⟩
theorem sgSJ2_charAt_3b067 : SgS sgJ2_charAt_3b067 := ⟨by decide +kernel, tb_cons (tb_2 2 58 rfl rfl) (tb_cons (tb_2 1 13 rfl rfl) (tb_cons (tb_2 2 59 rfl rfl) (tb_nil)))⟩
theorem sgSJ2_checkIndex_2214a : SgS sgJ2_checkIndex_2214a := ⟨by decide +kernel, tb_cons (tb_2 2 61 rfl rfl) (tb_cons (tb_2 1 13 rfl rfl) (tb_cons (tb_2 2 62 rfl rfl) (tb_nil)))⟩
theorem sgSJ3_checkIndex_8e157 : SgS sgJ3_checkIndex_8e157 := ⟨by decide +kernel, tb_cons (tb_2 2 55 rfl rfl) (tb_cons (tb_2 1 12 rfl rfl) (tb_cons (tb_2 2 56 rfl rfl) (tb_nil)))⟩
set_option maxRecDepth 100000 in
def kX0_init : List Row := [(.aload_n 0, 0, 1, 0, 0, 0, [], sg0),
  (.invokespecial 3, 1, 2, 0, 9, 0, [], sg0),
  (.aload_n 0, 4, 3, 0, 0, 0, [], sg0),
  (.sipush 160, 5, 4, 0, 0, 160, [], sg0),
  (.newarray .int, 8, 5, 0, 0, 0, [], sg0),
  (.putfield 9, 10, 6, 0, 0, 0, [], sg0),
  (.aload_n 0, 13, 7, 0, 0, 0, [], sg0),
  (.sipush 160, 14, 8, 0, 0, 160, [], sg0),
  (.newarray .int, 17, 9, 0, 0, 0, [], sg0),
  (.putfield 15, 19, 10, 0, 1, 0, [], sg0),
  (.aload_n 0, 22, 11, 0, 0, 0, [], sg0),
  (.iconst 4, 23, 12, 0, 0, 4, [], sg0),
  (.newarray .int, 24, 13, 0, 0, 0, [], sg0),
  (.putfield 18, 26, 14, 0, 2, 0, [], sg0),
  (.aload_n 0, 29, 15, 0, 0, 0, [], sg0),
  (.sipush 160, 30, 16, 0, 0, 160, [], sg0),
  (.newarray .int, 33, 17, 0, 0, 0, [], sg0),
  (.putfield 21, 35, 18, 0, 3, 0, [], sg0),
  (.return_, 38, 19, 0, 0, 0, [], sg0),
  (.nop, 39, 20, 0, 0, 0, [], sg0)]
set_option maxRecDepth 100000 in
theorem okX0_init : Chk sgX0_init kX0_init := ⟨by decide +kernel, trivial, tb_l2 [(1, 59), (1, 22), (1, 23), (1, 53), (1, 60), (1, 53), (1, 61), (1, 53), (1, 62), (1, 53), (1, 63)] (by decide +kernel) (by decide +kernel), nw_l2 [] (by decide +kernel) (by decide +kernel), by decide +kernel⟩
set_option maxRecDepth 100000 in
def kX0_clear : List Row := [(.aload_n 0, 0, 1, 0, 0, 0, [], sg0),
  (.iconst 0, 1, 2, 0, 0, 0, [], sg0),
  (.putfield 24, 2, 3, 0, 4, 0, [], sg0),
  (.return_, 5, 4, 0, 0, 0, [], sg0),
  (.nop, 6, 5, 0, 0, 0, [], sg0)]
set_option maxRecDepth 100000 in
theorem okX0_clear : Chk sgX0_clear kX0_clear := ⟨by decide +kernel, trivial, tb_l2 [(1, 64)] (by decide +kernel) (by decide +kernel), nw_l2 [] (by decide +kernel) (by decide +kernel), by decide +kernel⟩
set_option maxRecDepth 100000 in
def kX0_add : List Row := [(.aload_n 0, 0, 1, 0, 0, 0, [], sg0),
  (.getfield 24, 1, 2, 0, 4, 0, [], sg0),
  (.sipush 160, 4, 3, 0, 0, 160, [], sg0),
  (.if_icmp .lt 4, 7, 4, 5, 0, 0, [], sg0),
  (.return_, 10, 5, 0, 0, 0, [], sg0),
  (.aload_n 0, 11, 6, 0, 0, 0, [], sg0),
  (.getfield 9, 12, 7, 0, 0, 0, [], sg0),
  (.aload_n 0, 15, 8, 0, 0, 0, [], sg0),
  (.getfield 24, 16, 9, 0, 4, 0, [], sg0),
  (.iload_n 1, 19, 10, 0, 0, 0, [], sg0),
  (.invokestatic 28, 20, 11, 0, 0, 1, [], sgX7_put),
  (.aload_n 0, 23, 12, 0, 0, 0, [], sg0),
  (.getfield 15, 24, 13, 0, 1, 0, [], sg0),
  (.aload_n 0, 27, 14, 0, 0, 0, [], sg0),
  (.getfield 24, 28, 15, 0, 4, 0, [], sg0),
  (.iload_n 2, 31, 16, 0, 0, 0, [], sg0),
  (.invokestatic 28, 32, 17, 0, 0, 1, [], sgX7_put),
  (.aload_n 0, 35, 18, 0, 0, 0, [], sg0),
  (.dup, 36, 19, 0, 0, 0, [], sg0),
  (.getfield 24, 37, 20, 0, 4, 0, [], sg0),
  (.iconst 1, 40, 21, 0, 0, 1, [], sg0),
  (.iadd, 41, 22, 0, 0, 0, [], sg0),
  (.putfield 24, 42, 23, 0, 4, 0, [], sg0),
  (.return_, 45, 24, 0, 0, 0, [], sg0),
  (.nop, 46, 25, 0, 0, 0, [], sg0)]
set_option maxRecDepth 100000 in
theorem okX0_add : Chk sgX0_add kX0_add := ⟨by decide +kernel, And.intro sgSX7_put (And.intro sgSX7_put trivial), tb_l2 [(1, 64), (1, 60), (1, 64), (1, 61), (1, 64), (1, 64), (1, 64)] (by decide +kernel) (by decide +kernel), nw_l2 [(2, 133), (2, 133)] (by decide +kernel) (by decide +kernel), by decide +kernel⟩
set_option maxRecDepth 100000 in
def kX0_endPart : List Row := [(.aload_n 0, 0, 1, 0, 0, 0, [], sg0),
  (.getfield 18, 1, 2, 0, 2, 0, [], sg0),
  (.iload_n 1, 4, 3, 0, 0, 0, [], sg0),
  (.iconst 1, 5, 4, 0, 0, 1, [], sg0),
  (.iadd, 6, 5, 0, 0, 0, [], sg0),
  (.aload_n 0, 7, 6, 0, 0, 0, [], sg0),
  (.getfield 24, 8, 7, 0, 4, 0, [], sg0),
  (.invokestatic 28, 11, 8, 0, 0, 1, [], sgX7_put),
  (.return_, 14, 9, 0, 0, 0, [], sg0),
  (.nop, 15, 10, 0, 0, 0, [], sg0)]
set_option maxRecDepth 100000 in
theorem okX0_endPart : Chk sgX0_endPart kX0_endPart := ⟨by decide +kernel, And.intro sgSX7_put trivial, tb_l2 [(1, 62), (1, 64)] (by decide +kernel) (by decide +kernel), nw_l2 [(2, 133)] (by decide +kernel) (by decide +kernel), by decide +kernel⟩
set_option maxRecDepth 100000 in
def kX0_truths : List Row := [(.iconst 0, 0, 1, 0, 0, 0, [], sg0),
  (.istore_n 3, 1, 2, 0, 0, 0, [], sg0),
  (.iconst 0, 2, 3, 0, 0, 0, [], sg0),
  (.istore 4, 3, 4, 0, 0, 0, [], sg0),
  (.iload 4, 5, 5, 0, 0, 0, [], sg0),
  (.bipush 32, 7, 6, 0, 0, 32, [], sg0),
  (.if_icmp .ge 27, 9, 7, 21, 0, 0, [], sg0),
  (.aload_n 0, 12, 8, 0, 0, 0, [], sg0),
  (.iload_n 1, 13, 9, 0, 0, 0, [], sg0),
  (.iload 4, 14, 10, 0, 0, 0, [], sg0),
  (.iload_n 2, 16, 11, 0, 0, 0, [], sg0),
  (.invokevirtual 32, 17, 12, 0, 0, 0, [], sgX0_valueOf),
  (.ifCond .eq 10, 20, 13, 19, 0, 0, [], sg0),
  (.iload_n 3, 23, 14, 0, 0, 0, [], sg0),
  (.iconst 1, 24, 15, 0, 0, 1, [], sg0),
  (.iload 4, 25, 16, 0, 0, 0, [], sg0),
  (.ishl, 27, 17, 0, 0, 0, [], sg0),
  (.ior, 28, 18, 0, 0, 0, [], sg0),
  (.istore_n 3, 29, 19, 0, 0, 0, [], sg0),
  (.iinc 4 1, 30, 20, 0, 0, 1, [], sg0),
  (.goto (-28), 33, 21, 4, 0, 0, [], sg0),
  (.iload_n 3, 36, 22, 0, 0, 0, [], sg0),
  (.ireturn, 37, 23, 0, 0, 0, [], sg0),
  (.nop, 38, 24, 0, 0, 0, [], sg0)]
set_option maxRecDepth 100000 in
theorem okX0_truths : Chk sgX0_truths kX0_truths := ⟨by decide +kernel, And.intro sgVX0_valueOf trivial, tb_l2 [(2, 150)] (by decide +kernel) (by decide +kernel), nw_l2 [] (by decide +kernel) (by decide +kernel), by decide +kernel⟩
set_option maxRecDepth 100000 in
def kX0_valueOf : List Row := [(.aload_n 0, 0, 1, 0, 0, 0, [], sg0),
  (.iconst 0, 1, 2, 0, 0, 0, [], sg0),
  (.putfield 36, 2, 3, 0, 5, 0, [], sg0),
  (.aload_n 0, 5, 4, 0, 0, 0, [], sg0),
  (.getfield 18, 6, 5, 0, 2, 0, [], sg0),
  (.iload_n 1, 9, 6, 0, 0, 0, [], sg0),
  (.iconst 1, 10, 7, 0, 0, 1, [], sg0),
  (.iadd, 11, 8, 0, 0, 0, [], sg0),
  (.invokestatic 39, 12, 9, 0, 0, 1, [], sgX7_at),
  (.istore 4, 15, 10, 0, 0, 0, [], sg0),
  (.aload_n 0, 17, 11, 0, 0, 0, [], sg0),
  (.getfield 18, 18, 12, 0, 2, 0, [], sg0),
  (.iload_n 1, 21, 13, 0, 0, 0, [], sg0),
  (.invokestatic 39, 22, 14, 0, 0, 1, [], sgX7_at),
  (.istore 5, 25, 15, 0, 0, 0, [], sg0),
  (.iload 5, 27, 16, 0, 0, 0, [], sg0),
  (.iload 4, 29, 17, 0, 0, 0, [], sg0),
  (.if_icmp .ge 33, 31, 18, 32, 0, 0, [], sg0),
  (.aload_n 0, 34, 19, 0, 0, 0, [], sg0),
  (.aload_n 0, 35, 20, 0, 0, 0, [], sg0),
  (.getfield 9, 36, 21, 0, 0, 0, [], sg0),
  (.iload 5, 39, 22, 0, 0, 0, [], sg0),
  (.invokestatic 39, 41, 23, 0, 0, 1, [], sgX7_at),
  (.aload_n 0, 44, 24, 0, 0, 0, [], sg0),
  (.getfield 15, 45, 25, 0, 1, 0, [], sg0),
  (.iload 5, 48, 26, 0, 0, 0, [], sg0),
  (.invokestatic 39, 50, 27, 0, 0, 1, [], sgX7_at),
  (.iload_n 2, 53, 28, 0, 0, 0, [], sg0),
  (.iload_n 3, 54, 29, 0, 0, 0, [], sg0),
  (.invokevirtual 43, 55, 30, 0, 0, 0, [], sgX0_step),
  (.iinc 5 1, 58, 31, 0, 0, 1, [], sg0),
  (.goto (-34), 61, 32, 15, 0, 0, [], sg0),
  (.aload_n 0, 64, 33, 0, 0, 0, [], sg0),
  (.invokevirtual 47, 65, 34, 0, 0, 0, [], sgX0_pop),
  (.ireturn, 68, 35, 0, 0, 0, [], sg0),
  (.nop, 69, 36, 0, 0, 0, [], sg0)]
set_option maxRecDepth 100000 in
theorem okX0_valueOf : Chk sgX0_valueOf kX0_valueOf := ⟨by decide +kernel, And.intro sgSX7_at (And.intro sgSX7_at (And.intro sgSX7_at (And.intro sgSX7_at (And.intro sgVX0_step (And.intro sgVX0_pop trivial))))), tb_l2 [(1, 65), (1, 62), (1, 62), (1, 60), (1, 61), (2, 155), (2, 166)] (by decide +kernel) (by decide +kernel), nw_l2 [(2, 154), (2, 154), (2, 154), (2, 154)] (by decide +kernel) (by decide +kernel), by decide +kernel⟩
set_option maxRecDepth 100000 in
def kX0_step : List Row := [(.iload_n 1, 0, 1, 0, 0, 0, [], sg0),
  (.tableswitch 112 2 10 #[51, 59, 112, 112, 112, 112, 112, 93, 81], 1, 2, 32, 0, 0, [2, 6, 32, 32, 32, 32, 32, 23, 17], sg0),
  (.aload_n 0, 52, 3, 0, 0, 0, [], sg0),
  (.iload_n 2, 53, 4, 0, 0, 0, [], sg0),
  (.invokevirtual 51, 54, 5, 0, 0, 0, [], sgX0_push),
  (.goto 76, 57, 6, 42, 0, 0, [], sg0),
  (.aload_n 0, 60, 7, 0, 0, 0, [], sg0),
  (.iload_n 2, 61, 8, 0, 0, 0, [], sg0),
  (.iconst 5, 62, 9, 0, 0, 5, [], sg0),
  (.if_icmp .ne 8, 63, 10, 12, 0, 0, [], sg0),
  (.iload 4, 66, 11, 0, 0, 0, [], sg0),
  (.goto 8, 68, 12, 15, 0, 0, [], sg0),
  (.iload_n 3, 71, 13, 0, 0, 0, [], sg0),
  (.iload_n 2, 72, 14, 0, 0, 0, [], sg0),
  (.invokestatic 55, 73, 15, 0, 0, 1, [], sgX7_bit),
  (.invokevirtual 51, 76, 16, 0, 0, 0, [], sgX0_push),
  (.goto 54, 79, 17, 42, 0, 0, [], sg0),
  (.aload_n 0, 82, 18, 0, 0, 0, [], sg0),
  (.aload_n 0, 83, 19, 0, 0, 0, [], sg0),
  (.invokevirtual 47, 84, 20, 0, 0, 0, [], sgX0_pop),
  (.ineg, 87, 21, 0, 0, 0, [], sg0),
  (.invokevirtual 51, 88, 22, 0, 0, 0, [], sgX0_push),
  (.goto 42, 91, 23, 42, 0, 0, [], sg0),
  (.aload_n 0, 94, 24, 0, 0, 0, [], sg0),
  (.aload_n 0, 95, 25, 0, 0, 0, [], sg0),
  (.invokevirtual 47, 96, 26, 0, 0, 0, [], sgX0_pop),
  (.ifCond .ne 7, 99, 27, 29, 0, 0, [], sg0),
  (.iconst 1, 102, 28, 0, 0, 1, [], sg0),
  (.goto 4, 103, 29, 30, 0, 0, [], sg0),
  (.iconst 0, 106, 30, 0, 0, 0, [], sg0),
  (.invokevirtual 51, 107, 31, 0, 0, 0, [], sgX0_push),
  (.goto 23, 110, 32, 42, 0, 0, [], sg0),
  (.aload_n 0, 113, 33, 0, 0, 0, [], sg0),
  (.invokevirtual 47, 114, 34, 0, 0, 0, [], sgX0_pop),
  (.istore 5, 117, 35, 0, 0, 0, [], sg0),
  (.aload_n 0, 119, 36, 0, 0, 0, [], sg0),
  (.iload_n 1, 120, 37, 0, 0, 0, [], sg0),
  (.aload_n 0, 121, 38, 0, 0, 0, [], sg0),
  (.invokevirtual 47, 122, 39, 0, 0, 0, [], sgX0_pop),
  (.iload 5, 125, 40, 0, 0, 0, [], sg0),
  (.invokestatic 59, 127, 41, 0, 0, 0, [], sgX0_joined),
  (.invokevirtual 51, 130, 42, 0, 0, 0, [], sgX0_push),
  (.return_, 133, 43, 0, 0, 0, [], sg0),
  (.nop, 134, 44, 0, 0, 0, [], sg0)]
set_option maxRecDepth 100000 in
theorem okX0_step : Chk sgX0_step kX0_step := ⟨by decide +kernel, And.intro sgVX0_push (And.intro sgSX7_bit (And.intro sgVX0_push (And.intro sgVX0_pop (And.intro sgVX0_push (And.intro sgVX0_pop (And.intro sgVX0_push (And.intro sgVX0_pop (And.intro sgVX0_pop (And.intro sgSX0_joined (And.intro sgVX0_push trivial)))))))))), tb_l2 [(2, 159), (2, 159), (2, 166), (2, 159), (2, 166), (2, 159), (2, 166), (2, 166), (2, 170), (2, 159)] (by decide +kernel) (by decide +kernel), nw_l2 [(2, 163)] (by decide +kernel) (by decide +kernel), by decide +kernel⟩
set_option maxRecDepth 100000 in
def kX0_joined : List Row := [(.iload_n 0, 0, 1, 0, 0, 0, [], sg0),
  (.lookupswitch 107 #[(8, 93), (42, 67), (43, 59), (45, 63), (60, 71), (61, 82)], 1, 2, 36, 0, 0, [28, 10, 2, 6, 14, 21], sg0),
  (.iload_n 1, 60, 3, 0, 0, 0, [], sg0),
  (.iload_n 2, 61, 4, 0, 0, 0, [], sg0),
  (.iadd, 62, 5, 0, 0, 0, [], sg0),
  (.ireturn, 63, 6, 0, 0, 0, [], sg0),
  (.iload_n 1, 64, 7, 0, 0, 0, [], sg0),
  (.iload_n 2, 65, 8, 0, 0, 0, [], sg0),
  (.isub, 66, 9, 0, 0, 0, [], sg0),
  (.ireturn, 67, 10, 0, 0, 0, [], sg0),
  (.iload_n 1, 68, 11, 0, 0, 0, [], sg0),
  (.iload_n 2, 69, 12, 0, 0, 0, [], sg0),
  (.imul, 70, 13, 0, 0, 0, [], sg0),
  (.ireturn, 71, 14, 0, 0, 0, [], sg0),
  (.iload_n 1, 72, 15, 0, 0, 0, [], sg0),
  (.iload_n 2, 73, 16, 0, 0, 0, [], sg0),
  (.if_icmp .ge 7, 74, 17, 19, 0, 0, [], sg0),
  (.iconst 1, 77, 18, 0, 0, 1, [], sg0),
  (.goto 4, 78, 19, 20, 0, 0, [], sg0),
  (.iconst 0, 81, 20, 0, 0, 0, [], sg0),
  (.ireturn, 82, 21, 0, 0, 0, [], sg0),
  (.iload_n 1, 83, 22, 0, 0, 0, [], sg0),
  (.iload_n 2, 84, 23, 0, 0, 0, [], sg0),
  (.if_icmp .ne 7, 85, 24, 26, 0, 0, [], sg0),
  (.iconst 1, 88, 25, 0, 0, 1, [], sg0),
  (.goto 4, 89, 26, 27, 0, 0, [], sg0),
  (.iconst 0, 92, 27, 0, 0, 0, [], sg0),
  (.ireturn, 93, 28, 0, 0, 0, [], sg0),
  (.iload_n 1, 94, 29, 0, 0, 0, [], sg0),
  (.ifCond .eq 11, 95, 30, 34, 0, 0, [], sg0),
  (.iload_n 2, 98, 31, 0, 0, 0, [], sg0),
  (.ifCond .eq 7, 99, 32, 34, 0, 0, [], sg0),
  (.iconst 1, 102, 33, 0, 0, 1, [], sg0),
  (.goto 4, 103, 34, 35, 0, 0, [], sg0),
  (.iconst 0, 106, 35, 0, 0, 0, [], sg0),
  (.ireturn, 107, 36, 0, 0, 0, [], sg0),
  (.iload_n 1, 108, 37, 0, 0, 0, [], sg0),
  (.ifCond .ne 7, 109, 38, 40, 0, 0, [], sg0),
  (.iload_n 2, 112, 39, 0, 0, 0, [], sg0),
  (.ifCond .eq 7, 113, 40, 42, 0, 0, [], sg0),
  (.iconst 1, 116, 41, 0, 0, 1, [], sg0),
  (.goto 4, 117, 42, 43, 0, 0, [], sg0),
  (.iconst 0, 120, 43, 0, 0, 0, [], sg0),
  (.ireturn, 121, 44, 0, 0, 0, [], sg0),
  (.nop, 122, 45, 0, 0, 0, [], sg0)]
set_option maxRecDepth 100000 in
theorem okX0_joined : Chk sgX0_joined kX0_joined := ⟨by decide +kernel, trivial, tb_l2 [] (by decide +kernel) (by decide +kernel), nw_l2 [] (by decide +kernel) (by decide +kernel), by decide +kernel⟩
set_option maxRecDepth 100000 in
def kX0_push : List Row := [(.aload_n 0, 0, 1, 0, 0, 0, [], sg0),
  (.getfield 36, 1, 2, 0, 5, 0, [], sg0),
  (.sipush 160, 4, 3, 0, 0, 160, [], sg0),
  (.if_icmp .lt 4, 7, 4, 5, 0, 0, [], sg0),
  (.return_, 10, 5, 0, 0, 0, [], sg0),
  (.aload_n 0, 11, 6, 0, 0, 0, [], sg0),
  (.getfield 21, 12, 7, 0, 3, 0, [], sg0),
  (.aload_n 0, 15, 8, 0, 0, 0, [], sg0),
  (.getfield 36, 16, 9, 0, 5, 0, [], sg0),
  (.iload_n 1, 19, 10, 0, 0, 0, [], sg0),
  (.invokestatic 28, 20, 11, 0, 0, 1, [], sgX7_put),
  (.aload_n 0, 23, 12, 0, 0, 0, [], sg0),
  (.dup, 24, 13, 0, 0, 0, [], sg0),
  (.getfield 36, 25, 14, 0, 5, 0, [], sg0),
  (.iconst 1, 28, 15, 0, 0, 1, [], sg0),
  (.iadd, 29, 16, 0, 0, 0, [], sg0),
  (.putfield 36, 30, 17, 0, 5, 0, [], sg0),
  (.return_, 33, 18, 0, 0, 0, [], sg0),
  (.nop, 34, 19, 0, 0, 0, [], sg0)]
set_option maxRecDepth 100000 in
theorem okX0_push : Chk sgX0_push kX0_push := ⟨by decide +kernel, And.intro sgSX7_put trivial, tb_l2 [(1, 65), (1, 63), (1, 65), (1, 65), (1, 65)] (by decide +kernel) (by decide +kernel), nw_l2 [(2, 133)] (by decide +kernel) (by decide +kernel), by decide +kernel⟩
set_option maxRecDepth 100000 in
def kX0_pop : List Row := [(.aload_n 0, 0, 1, 0, 0, 0, [], sg0),
  (.getfield 36, 1, 2, 0, 5, 0, [], sg0),
  (.ifCond .gt 5, 4, 3, 5, 0, 0, [], sg0),
  (.iconst 0, 7, 4, 0, 0, 0, [], sg0),
  (.ireturn, 8, 5, 0, 0, 0, [], sg0),
  (.aload_n 0, 9, 6, 0, 0, 0, [], sg0),
  (.dup, 10, 7, 0, 0, 0, [], sg0),
  (.getfield 36, 11, 8, 0, 5, 0, [], sg0),
  (.iconst 1, 14, 9, 0, 0, 1, [], sg0),
  (.isub, 15, 10, 0, 0, 0, [], sg0),
  (.putfield 36, 16, 11, 0, 5, 0, [], sg0),
  (.aload_n 0, 19, 12, 0, 0, 0, [], sg0),
  (.getfield 21, 20, 13, 0, 3, 0, [], sg0),
  (.aload_n 0, 23, 14, 0, 0, 0, [], sg0),
  (.getfield 36, 24, 15, 0, 5, 0, [], sg0),
  (.invokestatic 39, 27, 16, 0, 0, 1, [], sgX7_at),
  (.ireturn, 30, 17, 0, 0, 0, [], sg0),
  (.nop, 31, 18, 0, 0, 0, [], sg0)]
set_option maxRecDepth 100000 in
theorem okX0_pop : Chk sgX0_pop kX0_pop := ⟨by decide +kernel, And.intro sgSX7_at trivial, tb_l2 [(1, 65), (1, 65), (1, 65), (1, 63), (1, 65)] (by decide +kernel) (by decide +kernel), nw_l2 [(2, 154)] (by decide +kernel) (by decide +kernel), by decide +kernel⟩
set_option maxRecDepth 100000 in
def kX1_init : List Row := [(.aload_n 0, 0, 1, 0, 0, 0, [], sg0),
  (.invokespecial 3, 1, 2, 0, 9, 0, [], sg0),
  (.aload_n 0, 4, 3, 0, 0, 0, [], sg0),
  (.aload_n 1, 5, 4, 0, 0, 0, [], sg0),
  (.putfield 9, 6, 5, 1, 0, 0, [], sg0),
  (.aload_n 0, 9, 6, 0, 0, 0, [], sg0),
  (.aload_n 2, 10, 7, 0, 0, 0, [], sg0),
  (.putfield 15, 11, 8, 1, 1, 0, [], sg0),
  (.return_, 14, 9, 0, 0, 0, [], sg0),
  (.nop, 15, 10, 0, 0, 0, [], sg0)]
set_option maxRecDepth 100000 in
theorem okX1_init : Chk sgX1_init kX1_init := ⟨by decide +kernel, trivial, tb_l2 [(1, 84), (1, 22), (1, 23), (1, 85), (1, 86)] (by decide +kernel) (by decide +kernel), nw_l2 [] (by decide +kernel) (by decide +kernel), by decide +kernel⟩
set_option maxRecDepth 100000 in
def kX1_readText : List Row := [(.aload_n 0, 0, 1, 0, 0, 0, [], sg0),
  (.getfield 9, 1, 2, 1, 0, 0, [], sg0),
  (.invokevirtual 19, 4, 3, 6, 0, 1, [], sgX6_start),
  (.aload_n 0, 7, 4, 0, 0, 0, [], sg0),
  (.getfield 15, 8, 5, 1, 1, 0, [], sg0),
  (.invokevirtual 24, 11, 6, 0, 0, 1, [], sgX0_clear),
  (.iconst 0, 14, 7, 0, 0, 0, [], sg0),
  (.istore_n 1, 15, 8, 0, 0, 0, [], sg0),
  (.iload_n 1, 16, 9, 0, 0, 0, [], sg0),
  (.iconst 3, 17, 10, 0, 0, 3, [], sg0),
  (.if_icmp .ge 48, 18, 11, 35, 0, 0, [], sg0),
  (.aload_n 0, 21, 12, 0, 0, 0, [], sg0),
  (.iconst 4, 22, 13, 0, 0, 4, [], sg0),
  (.iload_n 1, 23, 14, 0, 0, 0, [], sg0),
  (.iadd, 24, 15, 0, 0, 0, [], sg0),
  (.invokevirtual 29, 25, 16, 1, 0, 0, [], sgX1_readToken),
  (.ifCond .eq 11, 28, 17, 21, 0, 0, [], sg0),
  (.aload_n 0, 31, 18, 0, 0, 0, [], sg0),
  (.iconst 0, 32, 19, 0, 0, 0, [], sg0),
  (.invokevirtual 33, 33, 20, 1, 0, 0, [], sgX1_readOr),
  (.ifCond .ne 5, 36, 21, 23, 0, 0, [], sg0),
  (.iconst 0, 39, 22, 0, 0, 0, [], sg0),
  (.ireturn, 40, 23, 0, 0, 0, [], sg0),
  (.aload_n 0, 41, 24, 0, 0, 0, [], sg0),
  (.getfield 15, 42, 25, 1, 1, 0, [], sg0),
  (.iload_n 1, 45, 26, 0, 0, 0, [], sg0),
  (.invokevirtual 36, 46, 27, 0, 0, 1, [], sgX0_endPart),
  (.aload_n 0, 49, 28, 0, 0, 0, [], sg0),
  (.bipush 59, 50, 29, 0, 0, 59, [], sg0),
  (.invokevirtual 29, 52, 30, 1, 0, 0, [], sgX1_readToken),
  (.ifCond .ne 5, 55, 31, 33, 0, 0, [], sg0),
  (.iconst 0, 58, 32, 0, 0, 0, [], sg0),
  (.ireturn, 59, 33, 0, 0, 0, [], sg0),
  (.iinc 1 1, 60, 34, 0, 0, 1, [], sg0),
  (.goto (-47), 63, 35, 8, 0, 0, [], sg0),
  (.aload_n 0, 66, 36, 0, 0, 0, [], sg0),
  (.getfield 9, 67, 37, 1, 0, 0, [], sg0),
  (.getfield 40, 70, 38, 6, 2, 1, [], sg0),
  (.ifCond .ne 7, 73, 39, 41, 0, 0, [], sg0),
  (.iconst 1, 76, 40, 0, 0, 1, [], sg0),
  (.goto 4, 77, 41, 42, 0, 0, [], sg0),
  (.iconst 0, 80, 42, 0, 0, 0, [], sg0),
  (.ireturn, 81, 43, 0, 0, 0, [], sg0),
  (.nop, 82, 44, 0, 0, 0, [], sg0)]
set_option maxRecDepth 100000 in
theorem okX1_readText : Chk sgX1_readText kX1_readText := ⟨by decide +kernel, And.intro sgVX6_start (And.intro sgVX0_clear (And.intro sgVX1_readToken (And.intro sgVX1_readOr (And.intro sgVX0_endPart (And.intro sgVX1_readToken trivial))))), tb_l2 [(1, 85), (1, 86), (2, 96), (2, 101), (1, 86), (2, 96), (1, 85)] (by decide +kernel) (by decide +kernel), nw_l2 [(2, 2), (2, 92), (2, 138), (1, 33)] (by decide +kernel) (by decide +kernel), by decide +kernel⟩
set_option maxRecDepth 100000 in
def kX1_readToken : List Row := [(.aload_n 0, 0, 1, 0, 0, 0, [], sg0),
  (.getfield 9, 1, 2, 1, 0, 0, [], sg0),
  (.getfield 40, 4, 3, 6, 2, 1, [], sg0),
  (.iload_n 1, 7, 4, 0, 0, 0, [], sg0),
  (.if_icmp .eq 5, 8, 5, 7, 0, 0, [], sg0),
  (.iconst 0, 11, 6, 0, 0, 0, [], sg0),
  (.ireturn, 12, 7, 0, 0, 0, [], sg0),
  (.aload_n 0, 13, 8, 0, 0, 0, [], sg0),
  (.getfield 9, 14, 9, 1, 0, 0, [], sg0),
  (.invokevirtual 44, 17, 10, 6, 0, 1, [], sgX6_advance),
  (.iconst 1, 20, 11, 0, 0, 1, [], sg0),
  (.ireturn, 21, 12, 0, 0, 0, [], sg0),
  (.nop, 22, 13, 0, 0, 0, [], sg0)]
set_option maxRecDepth 100000 in
theorem okX1_readToken : Chk sgX1_readToken kX1_readToken := ⟨by decide +kernel, And.intro sgVX6_advance trivial, tb_l2 [(1, 85), (1, 85)] (by decide +kernel) (by decide +kernel), nw_l2 [(1, 33), (2, 100)] (by decide +kernel) (by decide +kernel), by decide +kernel⟩
set_option maxRecDepth 100000 in
def kX1_readOr : List Row := [(.aload_n 0, 0, 1, 0, 0, 0, [], sg0),
  (.iload_n 1, 1, 2, 0, 0, 0, [], sg0),
  (.invokevirtual 47, 2, 3, 1, 0, 0, [], sgX1_readAnd),
  (.ifCond .ne 5, 5, 4, 6, 0, 0, [], sg0),
  (.iconst 0, 8, 5, 0, 0, 0, [], sg0),
  (.ireturn, 9, 6, 0, 0, 0, [], sg0),
  (.iconst 0, 10, 7, 0, 0, 0, [], sg0),
  (.istore_n 2, 11, 8, 0, 0, 0, [], sg0),
  (.iload_n 2, 12, 9, 0, 0, 0, [], sg0),
  (.sipush 160, 13, 10, 0, 0, 160, [], sg0),
  (.if_icmp .ge 48, 16, 11, 32, 0, 0, [], sg0),
  (.aload_n 0, 19, 12, 0, 0, 0, [], sg0),
  (.getfield 9, 20, 13, 1, 0, 0, [], sg0),
  (.getfield 40, 23, 14, 6, 2, 1, [], sg0),
  (.bipush 7, 26, 15, 0, 0, 7, [], sg0),
  (.if_icmp .ne 36, 28, 16, 32, 0, 0, [], sg0),
  (.aload_n 0, 31, 17, 0, 0, 0, [], sg0),
  (.getfield 9, 32, 18, 1, 0, 0, [], sg0),
  (.invokevirtual 44, 35, 19, 6, 0, 1, [], sgX6_advance),
  (.aload_n 0, 38, 20, 0, 0, 0, [], sg0),
  (.iload_n 1, 39, 21, 0, 0, 0, [], sg0),
  (.invokevirtual 47, 40, 22, 1, 0, 0, [], sgX1_readAnd),
  (.ifCond .ne 5, 43, 23, 25, 0, 0, [], sg0),
  (.iconst 0, 46, 24, 0, 0, 0, [], sg0),
  (.ireturn, 47, 25, 0, 0, 0, [], sg0),
  (.aload_n 0, 48, 26, 0, 0, 0, [], sg0),
  (.getfield 15, 49, 27, 1, 1, 0, [], sg0),
  (.bipush 7, 52, 28, 0, 0, 7, [], sg0),
  (.iconst 0, 54, 29, 0, 0, 0, [], sg0),
  (.invokevirtual 50, 55, 30, 0, 0, 1, [], sgX0_add),
  (.iinc 2 1, 58, 31, 0, 0, 1, [], sg0),
  (.goto (-49), 61, 32, 8, 0, 0, [], sg0),
  (.iconst 1, 64, 33, 0, 0, 1, [], sg0),
  (.ireturn, 65, 34, 0, 0, 0, [], sg0),
  (.nop, 66, 35, 0, 0, 0, [], sg0)]
set_option maxRecDepth 100000 in
theorem okX1_readOr : Chk sgX1_readOr kX1_readOr := ⟨by decide +kernel, And.intro sgVX1_readAnd (And.intro sgVX6_advance (And.intro sgVX1_readAnd (And.intro sgVX0_add trivial))), tb_l2 [(2, 105), (1, 85), (1, 85), (2, 105), (1, 86)] (by decide +kernel) (by decide +kernel), nw_l2 [(1, 33), (2, 100), (2, 129)] (by decide +kernel) (by decide +kernel), by decide +kernel⟩
set_option maxRecDepth 100000 in
def kX1_readAnd : List Row := [(.aload_n 0, 0, 1, 0, 0, 0, [], sg0),
  (.iload_n 1, 1, 2, 0, 0, 0, [], sg0),
  (.invokevirtual 54, 2, 3, 1, 0, 0, [], sgX1_readNot),
  (.ifCond .ne 5, 5, 4, 6, 0, 0, [], sg0),
  (.iconst 0, 8, 5, 0, 0, 0, [], sg0),
  (.ireturn, 9, 6, 0, 0, 0, [], sg0),
  (.iconst 0, 10, 7, 0, 0, 0, [], sg0),
  (.istore_n 2, 11, 8, 0, 0, 0, [], sg0),
  (.iload_n 2, 12, 9, 0, 0, 0, [], sg0),
  (.sipush 160, 13, 10, 0, 0, 160, [], sg0),
  (.if_icmp .ge 48, 16, 11, 32, 0, 0, [], sg0),
  (.aload_n 0, 19, 12, 0, 0, 0, [], sg0),
  (.getfield 9, 20, 13, 1, 0, 0, [], sg0),
  (.getfield 40, 23, 14, 6, 2, 1, [], sg0),
  (.bipush 8, 26, 15, 0, 0, 8, [], sg0),
  (.if_icmp .ne 36, 28, 16, 32, 0, 0, [], sg0),
  (.aload_n 0, 31, 17, 0, 0, 0, [], sg0),
  (.getfield 9, 32, 18, 1, 0, 0, [], sg0),
  (.invokevirtual 44, 35, 19, 6, 0, 1, [], sgX6_advance),
  (.aload_n 0, 38, 20, 0, 0, 0, [], sg0),
  (.iload_n 1, 39, 21, 0, 0, 0, [], sg0),
  (.invokevirtual 54, 40, 22, 1, 0, 0, [], sgX1_readNot),
  (.ifCond .ne 5, 43, 23, 25, 0, 0, [], sg0),
  (.iconst 0, 46, 24, 0, 0, 0, [], sg0),
  (.ireturn, 47, 25, 0, 0, 0, [], sg0),
  (.aload_n 0, 48, 26, 0, 0, 0, [], sg0),
  (.getfield 15, 49, 27, 1, 1, 0, [], sg0),
  (.bipush 8, 52, 28, 0, 0, 8, [], sg0),
  (.iconst 0, 54, 29, 0, 0, 0, [], sg0),
  (.invokevirtual 50, 55, 30, 0, 0, 1, [], sgX0_add),
  (.iinc 2 1, 58, 31, 0, 0, 1, [], sg0),
  (.goto (-49), 61, 32, 8, 0, 0, [], sg0),
  (.iconst 1, 64, 33, 0, 0, 1, [], sg0),
  (.ireturn, 65, 34, 0, 0, 0, [], sg0),
  (.nop, 66, 35, 0, 0, 0, [], sg0)]
set_option maxRecDepth 100000 in
theorem okX1_readAnd : Chk sgX1_readAnd kX1_readAnd := ⟨by decide +kernel, And.intro sgVX1_readNot (And.intro sgVX6_advance (And.intro sgVX1_readNot (And.intro sgVX0_add trivial))), tb_l2 [(2, 109), (1, 85), (1, 85), (2, 109), (1, 86)] (by decide +kernel) (by decide +kernel), nw_l2 [(1, 33), (2, 100), (2, 129)] (by decide +kernel) (by decide +kernel), by decide +kernel⟩
set_option maxRecDepth 100000 in
def kX1_readNot : List Row := [(.aload_n 0, 0, 1, 0, 0, 0, [], sg0),
  (.getfield 9, 1, 2, 1, 0, 0, [], sg0),
  (.getfield 40, 4, 3, 6, 2, 1, [], sg0),
  (.bipush 9, 7, 4, 0, 0, 9, [], sg0),
  (.if_icmp .eq 9, 9, 5, 9, 0, 0, [], sg0),
  (.aload_n 0, 12, 6, 0, 0, 0, [], sg0),
  (.iload_n 1, 13, 7, 0, 0, 0, [], sg0),
  (.invokevirtual 57, 14, 8, 1, 0, 0, [], sgX1_readCompared),
  (.ireturn, 17, 9, 0, 0, 0, [], sg0),
  (.iload_n 1, 18, 10, 0, 0, 0, [], sg0),
  (.iconst 5, 19, 11, 0, 0, 5, [], sg0),
  (.if_icmp .lt 5, 20, 12, 14, 0, 0, [], sg0),
  (.iconst 0, 23, 13, 0, 0, 0, [], sg0),
  (.ireturn, 24, 14, 0, 0, 0, [], sg0),
  (.aload_n 0, 25, 15, 0, 0, 0, [], sg0),
  (.getfield 9, 26, 16, 1, 0, 0, [], sg0),
  (.invokevirtual 44, 29, 17, 6, 0, 1, [], sgX6_advance),
  (.aload_n 0, 32, 18, 0, 0, 0, [], sg0),
  (.iload_n 1, 33, 19, 0, 0, 0, [], sg0),
  (.iconst 1, 34, 20, 0, 0, 1, [], sg0),
  (.iadd, 35, 21, 0, 0, 0, [], sg0),
  (.invokevirtual 54, 36, 22, 1, 0, 0, [], sgX1_readNot),
  (.ifCond .ne 5, 39, 23, 25, 0, 0, [], sg0),
  (.iconst 0, 42, 24, 0, 0, 0, [], sg0),
  (.ireturn, 43, 25, 0, 0, 0, [], sg0),
  (.aload_n 0, 44, 26, 0, 0, 0, [], sg0),
  (.getfield 15, 45, 27, 1, 1, 0, [], sg0),
  (.bipush 9, 48, 28, 0, 0, 9, [], sg0),
  (.iconst 0, 50, 29, 0, 0, 0, [], sg0),
  (.invokevirtual 50, 51, 30, 0, 0, 1, [], sgX0_add),
  (.iconst 1, 54, 31, 0, 0, 1, [], sg0),
  (.ireturn, 55, 32, 0, 0, 0, [], sg0),
  (.nop, 56, 33, 0, 0, 0, [], sg0)]
set_option maxRecDepth 100000 in
theorem okX1_readNot : Chk sgX1_readNot kX1_readNot := ⟨by decide +kernel, And.intro sgVX1_readCompared (And.intro sgVX6_advance (And.intro sgVX1_readNot (And.intro sgVX0_add trivial))), tb_l2 [(1, 85), (2, 113), (1, 85), (2, 109), (1, 86)] (by decide +kernel) (by decide +kernel), nw_l2 [(1, 33), (2, 100), (2, 129)] (by decide +kernel) (by decide +kernel), by decide +kernel⟩
set_option maxRecDepth 100000 in
def kX1_readCompared : List Row := [(.aload_n 0, 0, 1, 0, 0, 0, [], sg0),
  (.iload_n 1, 1, 2, 0, 0, 0, [], sg0),
  (.invokevirtual 60, 2, 3, 1, 0, 0, [], sgX1_readSum),
  (.ifCond .ne 5, 5, 4, 6, 0, 0, [], sg0),
  (.iconst 0, 8, 5, 0, 0, 0, [], sg0),
  (.ireturn, 9, 6, 0, 0, 0, [], sg0),
  (.aload_n 0, 10, 7, 0, 0, 0, [], sg0),
  (.getfield 9, 11, 8, 1, 0, 0, [], sg0),
  (.getfield 40, 14, 9, 6, 2, 1, [], sg0),
  (.istore_n 2, 17, 10, 0, 0, 0, [], sg0),
  (.iload_n 2, 18, 11, 0, 0, 0, [], sg0),
  (.bipush 60, 19, 12, 0, 0, 60, [], sg0),
  (.if_icmp .eq 11, 21, 13, 18, 0, 0, [], sg0),
  (.iload_n 2, 24, 14, 0, 0, 0, [], sg0),
  (.bipush 61, 25, 15, 0, 0, 61, [], sg0),
  (.if_icmp .eq 5, 27, 16, 18, 0, 0, [], sg0),
  (.iconst 1, 30, 17, 0, 0, 1, [], sg0),
  (.ireturn, 31, 18, 0, 0, 0, [], sg0),
  (.aload_n 0, 32, 19, 0, 0, 0, [], sg0),
  (.getfield 9, 33, 20, 1, 0, 0, [], sg0),
  (.invokevirtual 44, 36, 21, 6, 0, 1, [], sgX6_advance),
  (.aload_n 0, 39, 22, 0, 0, 0, [], sg0),
  (.iload_n 1, 40, 23, 0, 0, 0, [], sg0),
  (.invokevirtual 60, 41, 24, 1, 0, 0, [], sgX1_readSum),
  (.ifCond .ne 5, 44, 25, 27, 0, 0, [], sg0),
  (.iconst 0, 47, 26, 0, 0, 0, [], sg0),
  (.ireturn, 48, 27, 0, 0, 0, [], sg0),
  (.aload_n 0, 49, 28, 0, 0, 0, [], sg0),
  (.getfield 15, 50, 29, 1, 1, 0, [], sg0),
  (.iload_n 2, 53, 30, 0, 0, 0, [], sg0),
  (.iconst 0, 54, 31, 0, 0, 0, [], sg0),
  (.invokevirtual 50, 55, 32, 0, 0, 1, [], sgX0_add),
  (.iconst 1, 58, 33, 0, 0, 1, [], sg0),
  (.ireturn, 59, 34, 0, 0, 0, [], sg0),
  (.nop, 60, 35, 0, 0, 0, [], sg0)]
set_option maxRecDepth 100000 in
theorem okX1_readCompared : Chk sgX1_readCompared kX1_readCompared := ⟨by decide +kernel, And.intro sgVX1_readSum (And.intro sgVX6_advance (And.intro sgVX1_readSum (And.intro sgVX0_add trivial))), tb_l2 [(2, 117), (1, 85), (1, 85), (2, 117), (1, 86)] (by decide +kernel) (by decide +kernel), nw_l2 [(1, 33), (2, 100), (2, 129)] (by decide +kernel) (by decide +kernel), by decide +kernel⟩
set_option maxRecDepth 100000 in
def kX1_readSum : List Row := [(.aload_n 0, 0, 1, 0, 0, 0, [], sg0),
  (.iload_n 1, 1, 2, 0, 0, 0, [], sg0),
  (.invokevirtual 63, 2, 3, 1, 0, 0, [], sgX1_readTerm),
  (.ifCond .ne 5, 5, 4, 6, 0, 0, [], sg0),
  (.iconst 0, 8, 5, 0, 0, 0, [], sg0),
  (.ireturn, 9, 6, 0, 0, 0, [], sg0),
  (.iconst 0, 10, 7, 0, 0, 0, [], sg0),
  (.istore_n 2, 11, 8, 0, 0, 0, [], sg0),
  (.iload_n 2, 12, 9, 0, 0, 0, [], sg0),
  (.sipush 160, 13, 10, 0, 0, 160, [], sg0),
  (.if_icmp .ge 67, 16, 11, 41, 0, 0, [], sg0),
  (.aload_n 0, 19, 12, 0, 0, 0, [], sg0),
  (.getfield 9, 20, 13, 1, 0, 0, [], sg0),
  (.getfield 40, 23, 14, 6, 2, 1, [], sg0),
  (.bipush 43, 26, 15, 0, 0, 43, [], sg0),
  (.if_icmp .eq 15, 28, 16, 21, 0, 0, [], sg0),
  (.aload_n 0, 31, 17, 0, 0, 0, [], sg0),
  (.getfield 9, 32, 18, 1, 0, 0, [], sg0),
  (.getfield 40, 35, 19, 6, 2, 1, [], sg0),
  (.bipush 45, 38, 20, 0, 0, 45, [], sg0),
  (.if_icmp .ne 43, 40, 21, 41, 0, 0, [], sg0),
  (.aload_n 0, 43, 22, 0, 0, 0, [], sg0),
  (.getfield 9, 44, 23, 1, 0, 0, [], sg0),
  (.getfield 40, 47, 24, 6, 2, 1, [], sg0),
  (.istore_n 3, 50, 25, 0, 0, 0, [], sg0),
  (.aload_n 0, 51, 26, 0, 0, 0, [], sg0),
  (.getfield 9, 52, 27, 1, 0, 0, [], sg0),
  (.invokevirtual 44, 55, 28, 6, 0, 1, [], sgX6_advance),
  (.aload_n 0, 58, 29, 0, 0, 0, [], sg0),
  (.iload_n 1, 59, 30, 0, 0, 0, [], sg0),
  (.invokevirtual 63, 60, 31, 1, 0, 0, [], sgX1_readTerm),
  (.ifCond .ne 5, 63, 32, 34, 0, 0, [], sg0),
  (.iconst 0, 66, 33, 0, 0, 0, [], sg0),
  (.ireturn, 67, 34, 0, 0, 0, [], sg0),
  (.aload_n 0, 68, 35, 0, 0, 0, [], sg0),
  (.getfield 15, 69, 36, 1, 1, 0, [], sg0),
  (.iload_n 3, 72, 37, 0, 0, 0, [], sg0),
  (.iconst 0, 73, 38, 0, 0, 0, [], sg0),
  (.invokevirtual 50, 74, 39, 0, 0, 1, [], sgX0_add),
  (.iinc 2 1, 77, 40, 0, 0, 1, [], sg0),
  (.goto (-68), 80, 41, 8, 0, 0, [], sg0),
  (.iconst 1, 83, 42, 0, 0, 1, [], sg0),
  (.ireturn, 84, 43, 0, 0, 0, [], sg0),
  (.nop, 85, 44, 0, 0, 0, [], sg0)]
set_option maxRecDepth 100000 in
theorem okX1_readSum : Chk sgX1_readSum kX1_readSum := ⟨by decide +kernel, And.intro sgVX1_readTerm (And.intro sgVX6_advance (And.intro sgVX1_readTerm (And.intro sgVX0_add trivial))), tb_l2 [(2, 121), (1, 85), (1, 85), (1, 85), (1, 85), (2, 121), (1, 86)] (by decide +kernel) (by decide +kernel), nw_l2 [(1, 33), (1, 33), (1, 33), (2, 100), (2, 129)] (by decide +kernel) (by decide +kernel), by decide +kernel⟩
set_option maxRecDepth 100000 in
def kX1_readTerm : List Row := [(.aload_n 0, 0, 1, 0, 0, 0, [], sg0),
  (.iload_n 1, 1, 2, 0, 0, 0, [], sg0),
  (.invokevirtual 66, 2, 3, 1, 0, 0, [], sgX1_readOne),
  (.ifCond .ne 5, 5, 4, 6, 0, 0, [], sg0),
  (.iconst 0, 8, 5, 0, 0, 0, [], sg0),
  (.ireturn, 9, 6, 0, 0, 0, [], sg0),
  (.iconst 0, 10, 7, 0, 0, 0, [], sg0),
  (.istore_n 2, 11, 8, 0, 0, 0, [], sg0),
  (.iload_n 2, 12, 9, 0, 0, 0, [], sg0),
  (.sipush 160, 13, 10, 0, 0, 160, [], sg0),
  (.if_icmp .ge 48, 16, 11, 32, 0, 0, [], sg0),
  (.aload_n 0, 19, 12, 0, 0, 0, [], sg0),
  (.getfield 9, 20, 13, 1, 0, 0, [], sg0),
  (.getfield 40, 23, 14, 6, 2, 1, [], sg0),
  (.bipush 42, 26, 15, 0, 0, 42, [], sg0),
  (.if_icmp .ne 36, 28, 16, 32, 0, 0, [], sg0),
  (.aload_n 0, 31, 17, 0, 0, 0, [], sg0),
  (.getfield 9, 32, 18, 1, 0, 0, [], sg0),
  (.invokevirtual 44, 35, 19, 6, 0, 1, [], sgX6_advance),
  (.aload_n 0, 38, 20, 0, 0, 0, [], sg0),
  (.iload_n 1, 39, 21, 0, 0, 0, [], sg0),
  (.invokevirtual 66, 40, 22, 1, 0, 0, [], sgX1_readOne),
  (.ifCond .ne 5, 43, 23, 25, 0, 0, [], sg0),
  (.iconst 0, 46, 24, 0, 0, 0, [], sg0),
  (.ireturn, 47, 25, 0, 0, 0, [], sg0),
  (.aload_n 0, 48, 26, 0, 0, 0, [], sg0),
  (.getfield 15, 49, 27, 1, 1, 0, [], sg0),
  (.bipush 42, 52, 28, 0, 0, 42, [], sg0),
  (.iconst 0, 54, 29, 0, 0, 0, [], sg0),
  (.invokevirtual 50, 55, 30, 0, 0, 1, [], sgX0_add),
  (.iinc 2 1, 58, 31, 0, 0, 1, [], sg0),
  (.goto (-49), 61, 32, 8, 0, 0, [], sg0),
  (.iconst 1, 64, 33, 0, 0, 1, [], sg0),
  (.ireturn, 65, 34, 0, 0, 0, [], sg0),
  (.nop, 66, 35, 0, 0, 0, [], sg0)]
set_option maxRecDepth 100000 in
theorem okX1_readTerm : Chk sgX1_readTerm kX1_readTerm := ⟨by decide +kernel, And.intro sgVX1_readOne (And.intro sgVX6_advance (And.intro sgVX1_readOne (And.intro sgVX0_add trivial))), tb_l2 [(2, 125), (1, 85), (1, 85), (2, 125), (1, 86)] (by decide +kernel) (by decide +kernel), nw_l2 [(1, 33), (2, 100), (2, 129)] (by decide +kernel) (by decide +kernel), by decide +kernel⟩
set_option maxRecDepth 100000 in
def kX1_readOne : List Row := [(.aload_n 0, 0, 1, 0, 0, 0, [], sg0),
  (.getfield 9, 1, 2, 1, 0, 0, [], sg0),
  (.getfield 40, 4, 3, 6, 2, 1, [], sg0),
  (.iconst 2, 7, 4, 0, 0, 2, [], sg0),
  (.if_icmp .eq 14, 8, 5, 10, 0, 0, [], sg0),
  (.aload_n 0, 11, 6, 0, 0, 0, [], sg0),
  (.getfield 9, 12, 7, 1, 0, 0, [], sg0),
  (.getfield 40, 15, 8, 6, 2, 1, [], sg0),
  (.iconst 3, 18, 9, 0, 0, 3, [], sg0),
  (.if_icmp .ne 33, 19, 10, 24, 0, 0, [], sg0),
  (.aload_n 0, 22, 11, 0, 0, 0, [], sg0),
  (.getfield 15, 23, 12, 1, 1, 0, [], sg0),
  (.aload_n 0, 26, 13, 0, 0, 0, [], sg0),
  (.getfield 9, 27, 14, 1, 0, 0, [], sg0),
  (.getfield 40, 30, 15, 6, 2, 1, [], sg0),
  (.aload_n 0, 33, 16, 0, 0, 0, [], sg0),
  (.getfield 9, 34, 17, 1, 0, 0, [], sg0),
  (.getfield 69, 37, 18, 6, 3, 1, [], sg0),
  (.invokevirtual 50, 40, 19, 0, 0, 1, [], sgX0_add),
  (.aload_n 0, 43, 20, 0, 0, 0, [], sg0),
  (.getfield 9, 44, 21, 1, 0, 0, [], sg0),
  (.invokevirtual 44, 47, 22, 6, 0, 1, [], sgX6_advance),
  (.iconst 1, 50, 23, 0, 0, 1, [], sg0),
  (.ireturn, 51, 24, 0, 0, 0, [], sg0),
  (.aload_n 0, 52, 25, 0, 0, 0, [], sg0),
  (.getfield 9, 53, 26, 1, 0, 0, [], sg0),
  (.getfield 40, 56, 27, 6, 2, 1, [], sg0),
  (.bipush 45, 59, 28, 0, 0, 45, [], sg0),
  (.if_icmp .eq 17, 61, 29, 36, 0, 0, [], sg0),
  (.aload_n 0, 64, 30, 0, 0, 0, [], sg0),
  (.getfield 9, 65, 31, 1, 0, 0, [], sg0),
  (.getfield 40, 68, 32, 6, 2, 1, [], sg0),
  (.bipush 40, 71, 33, 0, 0, 40, [], sg0),
  (.if_icmp .eq 5, 73, 34, 36, 0, 0, [], sg0),
  (.iconst 0, 76, 35, 0, 0, 0, [], sg0),
  (.ireturn, 77, 36, 0, 0, 0, [], sg0),
  (.iload_n 1, 78, 37, 0, 0, 0, [], sg0),
  (.iconst 5, 79, 38, 0, 0, 5, [], sg0),
  (.if_icmp .lt 5, 80, 39, 41, 0, 0, [], sg0),
  (.iconst 0, 83, 40, 0, 0, 0, [], sg0),
  (.ireturn, 84, 41, 0, 0, 0, [], sg0),
  (.aload_n 0, 85, 42, 0, 0, 0, [], sg0),
  (.getfield 9, 86, 43, 1, 0, 0, [], sg0),
  (.getfield 40, 89, 44, 6, 2, 1, [], sg0),
  (.bipush 40, 92, 45, 0, 0, 40, [], sg0),
  (.if_icmp .ne 7, 94, 46, 48, 0, 0, [], sg0),
  (.iconst 1, 97, 47, 0, 0, 1, [], sg0),
  (.goto 4, 98, 48, 49, 0, 0, [], sg0),
  (.iconst 0, 101, 49, 0, 0, 0, [], sg0),
  (.istore_n 2, 102, 50, 0, 0, 0, [], sg0),
  (.aload_n 0, 103, 51, 0, 0, 0, [], sg0),
  (.getfield 9, 104, 52, 1, 0, 0, [], sg0),
  (.invokevirtual 44, 107, 53, 6, 0, 1, [], sgX6_advance),
  (.iload_n 2, 110, 54, 0, 0, 0, [], sg0),
  (.ifCond .eq 11, 111, 55, 61, 0, 0, [], sg0),
  (.aload_n 0, 114, 56, 0, 0, 0, [], sg0),
  (.iload_n 1, 115, 57, 0, 0, 0, [], sg0),
  (.iconst 1, 116, 58, 0, 0, 1, [], sg0),
  (.iadd, 117, 59, 0, 0, 0, [], sg0),
  (.invokevirtual 72, 118, 60, 1, 0, 0, [], sgX1_readBracket),
  (.ireturn, 121, 61, 0, 0, 0, [], sg0),
  (.aload_n 0, 122, 62, 0, 0, 0, [], sg0),
  (.iload_n 1, 123, 63, 0, 0, 0, [], sg0),
  (.iconst 1, 124, 64, 0, 0, 1, [], sg0),
  (.iadd, 125, 65, 0, 0, 0, [], sg0),
  (.invokevirtual 66, 126, 66, 1, 0, 0, [], sgX1_readOne),
  (.ifCond .ne 5, 129, 67, 69, 0, 0, [], sg0),
  (.iconst 0, 132, 68, 0, 0, 0, [], sg0),
  (.ireturn, 133, 69, 0, 0, 0, [], sg0),
  (.aload_n 0, 134, 70, 0, 0, 0, [], sg0),
  (.getfield 15, 135, 71, 1, 1, 0, [], sg0),
  (.bipush 10, 138, 72, 0, 0, 10, [], sg0),
  (.iconst 0, 140, 73, 0, 0, 0, [], sg0),
  (.invokevirtual 50, 141, 74, 0, 0, 1, [], sgX0_add),
  (.iconst 1, 144, 75, 0, 0, 1, [], sg0),
  (.ireturn, 145, 76, 0, 0, 0, [], sg0),
  (.nop, 146, 77, 0, 0, 0, [], sg0)]
set_option maxRecDepth 100000 in
theorem okX1_readOne : Chk sgX1_readOne kX1_readOne := ⟨by decide +kernel, And.intro sgVX0_add (And.intro sgVX6_advance (And.intro sgVX6_advance (And.intro sgVX1_readBracket (And.intro sgVX1_readOne (And.intro sgVX0_add trivial))))), tb_l2 [(1, 85), (1, 85), (1, 86), (1, 85), (1, 85), (1, 85), (1, 85), (1, 85), (1, 85), (1, 85), (2, 134), (2, 125), (1, 86)] (by decide +kernel) (by decide +kernel), nw_l2 [(1, 33), (1, 33), (1, 33), (1, 36), (2, 129), (2, 100), (1, 33), (1, 33), (1, 33), (2, 100), (2, 129)] (by decide +kernel) (by decide +kernel), by decide +kernel⟩
set_option maxRecDepth 100000 in
def kX1_readBracket : List Row := [(.aload_n 0, 0, 1, 0, 0, 0, [], sg0),
  (.iload_n 1, 1, 2, 0, 0, 0, [], sg0),
  (.invokevirtual 33, 2, 3, 1, 0, 0, [], sgX1_readOr),
  (.ifCond .eq 15, 5, 4, 9, 0, 0, [], sg0),
  (.aload_n 0, 8, 5, 0, 0, 0, [], sg0),
  (.getfield 9, 9, 6, 1, 0, 0, [], sg0),
  (.getfield 40, 12, 7, 6, 2, 1, [], sg0),
  (.bipush 41, 15, 8, 0, 0, 41, [], sg0),
  (.if_icmp .eq 5, 17, 9, 11, 0, 0, [], sg0),
  (.iconst 0, 20, 10, 0, 0, 0, [], sg0),
  (.ireturn, 21, 11, 0, 0, 0, [], sg0),
  (.aload_n 0, 22, 12, 0, 0, 0, [], sg0),
  (.getfield 9, 23, 13, 1, 0, 0, [], sg0),
  (.invokevirtual 44, 26, 14, 6, 0, 1, [], sgX6_advance),
  (.iconst 1, 29, 15, 0, 0, 1, [], sg0),
  (.ireturn, 30, 16, 0, 0, 0, [], sg0),
  (.nop, 31, 17, 0, 0, 0, [], sg0)]
set_option maxRecDepth 100000 in
theorem okX1_readBracket : Chk sgX1_readBracket kX1_readBracket := ⟨by decide +kernel, And.intro sgVX1_readOr (And.intro sgVX6_advance trivial), tb_l2 [(2, 101), (1, 85), (1, 85)] (by decide +kernel) (by decide +kernel), nw_l2 [(1, 33), (2, 100)] (by decide +kernel) (by decide +kernel), by decide +kernel⟩
set_option maxRecDepth 100000 in
def kX2_init : List Row := [(.aload_n 0, 0, 1, 0, 0, 0, [], sg0),
  (.invokespecial 1, 1, 2, 0, 9, 0, [], sg0),
  (.return_, 4, 3, 0, 0, 0, [], sg0),
  (.nop, 5, 4, 0, 0, 0, [], sg0)]
set_option maxRecDepth 100000 in
theorem okX2_init : Chk sgX2_init kX2_init := ⟨by decide +kernel, trivial, tb_l2 [(1, 172), (1, 22), (1, 23)] (by decide +kernel) (by decide +kernel), nw_l2 [] (by decide +kernel) (by decide +kernel), by decide +kernel⟩
set_option maxRecDepth 100000 in
def kX2_consider : List Row := [(.iload_n 3, 0, 1, 0, 0, 0, [], sg0),
  (.aload_n 0, 1, 2, 0, 0, 0, [], sg0),
  (.getfield 7, 2, 3, 2, 2, 0, [], sg0),
  (.if_icmp .lt 20, 5, 4, 12, 0, 0, [], sg0),
  (.iload_n 3, 8, 5, 0, 0, 0, [], sg0),
  (.aload_n 0, 9, 6, 0, 0, 0, [], sg0),
  (.getfield 7, 10, 7, 2, 2, 0, [], sg0),
  (.if_icmp .ne 16, 13, 8, 14, 0, 0, [], sg0),
  (.iload 4, 16, 9, 0, 0, 0, [], sg0),
  (.aload_n 0, 18, 10, 0, 0, 0, [], sg0),
  (.getfield 13, 19, 11, 2, 3, 0, [], sg0),
  (.if_icmp .ge 7, 22, 12, 14, 0, 0, [], sg0),
  (.iconst 1, 25, 13, 0, 0, 1, [], sg0),
  (.goto 4, 26, 14, 15, 0, 0, [], sg0),
  (.iconst 0, 29, 15, 0, 0, 0, [], sg0),
  (.istore 5, 30, 16, 0, 0, 0, [], sg0),
  (.iload 5, 32, 17, 0, 0, 0, [], sg0),
  (.ifCond .ne 4, 34, 18, 19, 0, 0, [], sg0),
  (.return_, 37, 19, 0, 0, 0, [], sg0),
  (.aload_n 0, 38, 20, 0, 0, 0, [], sg0),
  (.iload_n 1, 39, 21, 0, 0, 0, [], sg0),
  (.putfield 16, 40, 22, 2, 0, 0, [], sg0),
  (.aload_n 0, 43, 23, 0, 0, 0, [], sg0),
  (.iload_n 2, 44, 24, 0, 0, 0, [], sg0),
  (.putfield 19, 45, 25, 2, 1, 0, [], sg0),
  (.aload_n 0, 48, 26, 0, 0, 0, [], sg0),
  (.iload_n 3, 49, 27, 0, 0, 0, [], sg0),
  (.putfield 7, 50, 28, 2, 2, 0, [], sg0),
  (.aload_n 0, 53, 29, 0, 0, 0, [], sg0),
  (.iload 4, 54, 30, 0, 0, 0, [], sg0),
  (.putfield 13, 56, 31, 2, 3, 0, [], sg0),
  (.return_, 59, 32, 0, 0, 0, [], sg0),
  (.nop, 60, 33, 0, 0, 0, [], sg0)]
set_option maxRecDepth 100000 in
theorem okX2_consider : Chk sgX2_consider kX2_consider := ⟨by decide +kernel, trivial, tb_l2 [(1, 177), (1, 177), (1, 179), (1, 173), (1, 175), (1, 177), (1, 179)] (by decide +kernel) (by decide +kernel), nw_l2 [] (by decide +kernel) (by decide +kernel), by decide +kernel⟩
set_option maxRecDepth 100000 in
def kX3_init : List Row := [(.aload_n 0, 0, 1, 0, 0, 0, [], sg0),
  (.invokespecial 3, 1, 2, 0, 9, 0, [], sg0),
  (.aload_n 0, 4, 3, 0, 0, 0, [], sg0),
  (.iconst 4, 5, 4, 0, 0, 4, [], sg0),
  (.newarray .int, 6, 5, 0, 0, 0, [], sg0),
  (.putfield 9, 8, 6, 3, 0, 0, [], sg0),
  (.aload_n 0, 11, 7, 0, 0, 0, [], sg0),
  (.iconst 4, 12, 8, 0, 0, 4, [], sg0),
  (.newarray .int, 13, 9, 0, 0, 0, [], sg0),
  (.putfield 15, 15, 10, 3, 1, 0, [], sg0),
  (.aload_n 0, 18, 11, 0, 0, 0, [], sg0),
  (.sipush 160, 19, 12, 0, 0, 160, [], sg0),
  (.newarray .int, 22, 13, 0, 0, 0, [], sg0),
  (.putfield 18, 24, 14, 3, 2, 0, [], sg0),
  (.aload_n 0, 27, 15, 0, 0, 0, [], sg0),
  (.bipush 40, 28, 16, 0, 0, 40, [], sg0),
  (.newarray .int, 30, 17, 0, 0, 0, [], sg0),
  (.putfield 21, 32, 18, 3, 3, 0, [], sg0),
  (.iconst 0, 35, 19, 0, 0, 0, [], sg0),
  (.istore_n 1, 36, 20, 0, 0, 0, [], sg0),
  (.iload_n 1, 37, 21, 0, 0, 0, [], sg0),
  (.iconst 4, 38, 22, 0, 0, 4, [], sg0),
  (.if_icmp .ge 18, 39, 23, 30, 0, 0, [], sg0),
  (.aload_n 0, 42, 24, 0, 0, 0, [], sg0),
  (.getfield 9, 43, 25, 3, 0, 0, [], sg0),
  (.iload_n 1, 46, 26, 0, 0, 0, [], sg0),
  (.iconst (-1), 47, 27, 0, 0, (-1), [], sg0),
  (.invokestatic 24, 48, 28, 0, 0, 1, [], sgX7_put),
  (.iinc 1 1, 51, 29, 0, 0, 1, [], sg0),
  (.goto (-17), 54, 30, 20, 0, 0, [], sg0),
  (.return_, 57, 31, 0, 0, 0, [], sg0),
  (.nop, 58, 32, 0, 0, 0, [], sg0)]
set_option maxRecDepth 100000 in
theorem okX3_init : Chk sgX3_init kX3_init := ⟨by decide +kernel, And.intro sgSX7_put trivial, tb_l2 [(1, 150), (1, 22), (1, 23), (1, 53), (1, 152), (1, 53), (1, 154), (1, 53), (1, 156), (1, 53), (1, 157), (1, 152)] (by decide +kernel) (by decide +kernel), nw_l2 [(1, 151)] (by decide +kernel) (by decide +kernel), by decide +kernel⟩
set_option maxRecDepth 100000 in
def kX3_isMissing : List Row := [(.aload_n 0, 0, 1, 0, 0, 0, [], sg0),
  (.getfield 9, 1, 2, 3, 0, 0, [], sg0),
  (.iload_n 1, 4, 3, 0, 0, 0, [], sg0),
  (.invokestatic 28, 5, 4, 0, 0, 1, [], sgX7_at),
  (.iconst (-1), 8, 5, 0, 0, (-1), [], sg0),
  (.if_icmp .ne 7, 9, 6, 8, 0, 0, [], sg0),
  (.iconst 1, 12, 7, 0, 0, 1, [], sg0),
  (.goto 4, 13, 8, 9, 0, 0, [], sg0),
  (.iconst 0, 16, 9, 0, 0, 0, [], sg0),
  (.ireturn, 17, 10, 0, 0, 0, [], sg0),
  (.nop, 18, 11, 0, 0, 0, [], sg0)]
set_option maxRecDepth 100000 in
theorem okX3_isMissing : Chk sgX3_isMissing kX3_isMissing := ⟨by decide +kernel, And.intro sgSX7_at trivial, tb_l2 [(1, 152)] (by decide +kernel) (by decide +kernel), nw_l2 [(3, 217)] (by decide +kernel) (by decide +kernel), by decide +kernel⟩
set_option maxRecDepth 100000 in
def kX3_make : List Row := [(.aload_n 0, 0, 1, 0, 0, 0, [], sg0),
  (.getfield 9, 1, 2, 3, 0, 0, [], sg0),
  (.iload_n 1, 4, 3, 0, 0, 0, [], sg0),
  (.iload_n 2, 5, 4, 0, 0, 0, [], sg0),
  (.invokestatic 24, 6, 5, 0, 0, 1, [], sgX7_put),
  (.aload_n 0, 9, 6, 0, 0, 0, [], sg0),
  (.getfield 15, 10, 7, 3, 1, 0, [], sg0),
  (.iload_n 1, 13, 8, 0, 0, 0, [], sg0),
  (.iload_n 3, 14, 9, 0, 0, 0, [], sg0),
  (.invokestatic 24, 15, 10, 0, 0, 1, [], sgX7_put),
  (.iconst 0, 18, 11, 0, 0, 0, [], sg0),
  (.istore 4, 19, 12, 0, 0, 0, [], sg0),
  (.iload 4, 21, 13, 0, 0, 0, [], sg0),
  (.bipush 40, 23, 14, 0, 0, 40, [], sg0),
  (.if_icmp .ge 24, 25, 15, 26, 0, 0, [], sg0),
  (.aload_n 0, 28, 16, 0, 0, 0, [], sg0),
  (.getfield 18, 29, 17, 3, 2, 0, [], sg0),
  (.iload_n 1, 32, 18, 0, 0, 0, [], sg0),
  (.bipush 40, 33, 19, 0, 0, 40, [], sg0),
  (.imul, 35, 20, 0, 0, 0, [], sg0),
  (.iload 4, 36, 21, 0, 0, 0, [], sg0),
  (.iadd, 38, 22, 0, 0, 0, [], sg0),
  (.iconst 0, 39, 23, 0, 0, 0, [], sg0),
  (.invokestatic 24, 40, 24, 0, 0, 1, [], sgX7_put),
  (.iinc 4 1, 43, 25, 0, 0, 1, [], sg0),
  (.goto (-25), 46, 26, 12, 0, 0, [], sg0),
  (.return_, 49, 27, 0, 0, 0, [], sg0),
  (.nop, 50, 28, 0, 0, 0, [], sg0)]
set_option maxRecDepth 100000 in
theorem okX3_make : Chk sgX3_make kX3_make := ⟨by decide +kernel, And.intro sgSX7_put (And.intro sgSX7_put (And.intro sgSX7_put trivial)), tb_l2 [(1, 152), (1, 154), (1, 156)] (by decide +kernel) (by decide +kernel), nw_l2 [(1, 151), (1, 151), (1, 151)] (by decide +kernel) (by decide +kernel), by decide +kernel⟩
set_option maxRecDepth 100000 in
def kX3_holds : List Row := [(.iload_n 2, 0, 1, 0, 0, 0, [], sg0),
  (.aload_n 0, 1, 2, 0, 0, 0, [], sg0),
  (.getfield 15, 2, 3, 3, 1, 0, [], sg0),
  (.iload_n 1, 5, 4, 0, 0, 0, [], sg0),
  (.invokestatic 28, 6, 5, 0, 0, 1, [], sgX7_at),
  (.invokestatic 32, 9, 6, 0, 0, 1, [], sgX7_isBelow),
  (.ireturn, 12, 7, 0, 0, 0, [], sg0),
  (.nop, 13, 8, 0, 0, 0, [], sg0)]
set_option maxRecDepth 100000 in
theorem okX3_holds : Chk sgX3_holds kX3_holds := ⟨by decide +kernel, And.intro sgSX7_at (And.intro sgSX7_isBelow trivial), tb_l2 [(1, 154)] (by decide +kernel) (by decide +kernel), nw_l2 [(3, 217), (4, 46)] (by decide +kernel) (by decide +kernel), by decide +kernel⟩
set_option maxRecDepth 100000 in
def kX3_holdsRun : List Row := [(.iload_n 3, 0, 1, 0, 0, 0, [], sg0),
  (.ifCond .lt 37, 1, 2, 20, 0, 0, [], sg0),
  (.iload_n 2, 4, 3, 0, 0, 0, [], sg0),
  (.ifCond .lt 33, 5, 4, 20, 0, 0, [], sg0),
  (.iload_n 3, 8, 5, 0, 0, 0, [], sg0),
  (.aload_n 0, 9, 6, 0, 0, 0, [], sg0),
  (.getfield 15, 10, 7, 3, 1, 0, [], sg0),
  (.iload_n 1, 13, 8, 0, 0, 0, [], sg0),
  (.invokestatic 28, 14, 9, 0, 0, 1, [], sgX7_at),
  (.if_icmp .gt 21, 17, 10, 20, 0, 0, [], sg0),
  (.iload_n 2, 20, 11, 0, 0, 0, [], sg0),
  (.aload_n 0, 21, 12, 0, 0, 0, [], sg0),
  (.getfield 15, 22, 13, 3, 1, 0, [], sg0),
  (.iload_n 1, 25, 14, 0, 0, 0, [], sg0),
  (.invokestatic 28, 26, 15, 0, 0, 1, [], sgX7_at),
  (.iload_n 3, 29, 16, 0, 0, 0, [], sg0),
  (.isub, 30, 17, 0, 0, 0, [], sg0),
  (.if_icmp .gt 7, 31, 18, 20, 0, 0, [], sg0),
  (.iconst 1, 34, 19, 0, 0, 1, [], sg0),
  (.goto 4, 35, 20, 21, 0, 0, [], sg0),
  (.iconst 0, 38, 21, 0, 0, 0, [], sg0),
  (.ireturn, 39, 22, 0, 0, 0, [], sg0),
  (.nop, 40, 23, 0, 0, 0, [], sg0)]
set_option maxRecDepth 100000 in
theorem okX3_holdsRun : Chk sgX3_holdsRun kX3_holdsRun := ⟨by decide +kernel, And.intro sgSX7_at (And.intro sgSX7_at trivial), tb_l2 [(1, 154), (1, 154)] (by decide +kernel) (by decide +kernel), nw_l2 [(3, 217), (3, 217)] (by decide +kernel) (by decide +kernel), by decide +kernel⟩
set_option maxRecDepth 100000 in
def kX3_read : List Row := [(.aload_n 0, 0, 1, 0, 0, 0, [], sg0),
  (.getfield 18, 1, 2, 3, 2, 0, [], sg0),
  (.iload_n 1, 4, 3, 0, 0, 0, [], sg0),
  (.bipush 40, 5, 4, 0, 0, 40, [], sg0),
  (.imul, 7, 5, 0, 0, 0, [], sg0),
  (.iload_n 2, 8, 6, 0, 0, 0, [], sg0),
  (.iadd, 9, 7, 0, 0, 0, [], sg0),
  (.invokestatic 28, 10, 8, 0, 0, 1, [], sgX7_at),
  (.ireturn, 13, 9, 0, 0, 0, [], sg0),
  (.nop, 14, 10, 0, 0, 0, [], sg0)]
set_option maxRecDepth 100000 in
theorem okX3_read : Chk sgX3_read kX3_read := ⟨by decide +kernel, And.intro sgSX7_at trivial, tb_l2 [(1, 156)] (by decide +kernel) (by decide +kernel), nw_l2 [(3, 217)] (by decide +kernel) (by decide +kernel), by decide +kernel⟩
set_option maxRecDepth 100000 in
def kX3_write : List Row := [(.aload_n 0, 0, 1, 0, 0, 0, [], sg0),
  (.getfield 9, 1, 2, 3, 0, 0, [], sg0),
  (.iload_n 1, 4, 3, 0, 0, 0, [], sg0),
  (.invokestatic 28, 5, 4, 0, 0, 1, [], sgX7_at),
  (.istore 4, 8, 5, 0, 0, 0, [], sg0),
  (.iload 4, 10, 6, 0, 0, 0, [], sg0),
  (.ifCond .ne 8, 12, 7, 10, 0, 0, [], sg0),
  (.iload_n 3, 15, 8, 0, 0, 0, [], sg0),
  (.i2b, 16, 9, 0, 0, 0, [], sg0),
  (.goto 15, 17, 10, 17, 0, 0, [], sg0),
  (.iload 4, 20, 11, 0, 0, 0, [], sg0),
  (.iconst 1, 22, 12, 0, 0, 1, [], sg0),
  (.if_icmp .ne 8, 23, 13, 16, 0, 0, [], sg0),
  (.iload_n 3, 26, 14, 0, 0, 0, [], sg0),
  (.i2s, 27, 15, 0, 0, 0, [], sg0),
  (.goto 4, 28, 16, 17, 0, 0, [], sg0),
  (.iload_n 3, 31, 17, 0, 0, 0, [], sg0),
  (.istore 5, 32, 18, 0, 0, 0, [], sg0),
  (.aload_n 0, 34, 19, 0, 0, 0, [], sg0),
  (.getfield 18, 35, 20, 3, 2, 0, [], sg0),
  (.iload_n 1, 38, 21, 0, 0, 0, [], sg0),
  (.bipush 40, 39, 22, 0, 0, 40, [], sg0),
  (.imul, 41, 23, 0, 0, 0, [], sg0),
  (.iload_n 2, 42, 24, 0, 0, 0, [], sg0),
  (.iadd, 43, 25, 0, 0, 0, [], sg0),
  (.iload 5, 44, 26, 0, 0, 0, [], sg0),
  (.invokestatic 24, 46, 27, 0, 0, 1, [], sgX7_put),
  (.return_, 49, 28, 0, 0, 0, [], sg0),
  (.nop, 50, 29, 0, 0, 0, [], sg0)]
set_option maxRecDepth 100000 in
theorem okX3_write : Chk sgX3_write kX3_write := ⟨by decide +kernel, And.intro sgSX7_at (And.intro sgSX7_put trivial), tb_l2 [(1, 152), (1, 156)] (by decide +kernel) (by decide +kernel), nw_l2 [(3, 217), (1, 151)] (by decide +kernel) (by decide +kernel), by decide +kernel⟩
set_option maxRecDepth 100000 in
def kX3_move : List Row := [(.iconst 0, 0, 1, 0, 0, 0, [], sg0),
  (.istore 6, 1, 2, 0, 0, 0, [], sg0),
  (.iload 6, 3, 3, 0, 0, 0, [], sg0),
  (.iload 5, 5, 4, 0, 0, 0, [], sg0),
  (.if_icmp .ge 27, 7, 5, 17, 0, 0, [], sg0),
  (.aload_n 0, 10, 6, 0, 0, 0, [], sg0),
  (.getfield 21, 11, 7, 3, 3, 0, [], sg0),
  (.iload 6, 14, 8, 0, 0, 0, [], sg0),
  (.aload_n 0, 16, 9, 0, 0, 0, [], sg0),
  (.iload_n 1, 17, 10, 0, 0, 0, [], sg0),
  (.iload_n 2, 18, 11, 0, 0, 0, [], sg0),
  (.iload 6, 19, 12, 0, 0, 0, [], sg0),
  (.iadd, 21, 13, 0, 0, 0, [], sg0),
  (.invokevirtual 36, 22, 14, 3, 0, 0, [], sgX3_read),
  (.invokestatic 24, 25, 15, 0, 0, 1, [], sgX7_put),
  (.iinc 6 1, 28, 16, 0, 0, 1, [], sg0),
  (.goto (-28), 31, 17, 2, 0, 0, [], sg0),
  (.iconst 0, 34, 18, 0, 0, 0, [], sg0),
  (.istore 6, 35, 19, 0, 0, 0, [], sg0),
  (.iload 6, 37, 20, 0, 0, 0, [], sg0),
  (.iload 5, 39, 21, 0, 0, 0, [], sg0),
  (.if_icmp .ge 28, 41, 22, 34, 0, 0, [], sg0),
  (.aload_n 0, 44, 23, 0, 0, 0, [], sg0),
  (.iload_n 3, 45, 24, 0, 0, 0, [], sg0),
  (.iload 4, 46, 25, 0, 0, 0, [], sg0),
  (.iload 6, 48, 26, 0, 0, 0, [], sg0),
  (.iadd, 50, 27, 0, 0, 0, [], sg0),
  (.aload_n 0, 51, 28, 0, 0, 0, [], sg0),
  (.getfield 21, 52, 29, 3, 3, 0, [], sg0),
  (.iload 6, 55, 30, 0, 0, 0, [], sg0),
  (.invokestatic 28, 57, 31, 0, 0, 1, [], sgX7_at),
  (.invokevirtual 40, 60, 32, 3, 0, 0, [], sgX3_write),
  (.iinc 6 1, 63, 33, 0, 0, 1, [], sg0),
  (.goto (-29), 66, 34, 19, 0, 0, [], sg0),
  (.return_, 69, 35, 0, 0, 0, [], sg0),
  (.nop, 70, 36, 0, 0, 0, [], sg0)]
set_option maxRecDepth 100000 in
theorem okX3_move : Chk sgX3_move kX3_move := ⟨by decide +kernel, And.intro sgVX3_read (And.intro sgSX7_put (And.intro sgSX7_at (And.intro sgVX3_write trivial))), tb_l2 [(1, 157), (4, 59), (1, 157), (4, 60)] (by decide +kernel) (by decide +kernel), nw_l2 [(1, 151), (3, 217)] (by decide +kernel) (by decide +kernel), by decide +kernel⟩
set_option maxRecDepth 100000 in
def kX4_init : List Row := [(.aload_n 0, 0, 1, 0, 0, 0, [], sg0),
  (.invokespecial 3, 1, 2, 0, 9, 0, [], sg0),
  (.aload_n 0, 4, 3, 0, 0, 0, [], sg0),
  (.iconst 5, 5, 4, 0, 0, 5, [], sg0),
  (.newarray .int, 6, 5, 0, 0, 0, [], sg0),
  (.putfield 9, 8, 6, 4, 0, 0, [], sg0),
  (.aload_n 0, 11, 7, 0, 0, 0, [], sg0),
  (.iconst 5, 12, 8, 0, 0, 5, [], sg0),
  (.newarray .int, 13, 9, 0, 0, 0, [], sg0),
  (.putfield 15, 15, 10, 4, 1, 0, [], sg0),
  (.aload_n 0, 18, 11, 0, 0, 0, [], sg0),
  (.bipush 36, 19, 12, 0, 0, 36, [], sg0),
  (.newarray .int, 21, 13, 0, 0, 0, [], sg0),
  (.putfield 18, 23, 14, 4, 2, 0, [], sg0),
  (.return_, 26, 15, 0, 0, 0, [], sg0),
  (.nop, 27, 16, 0, 0, 0, [], sg0)]
set_option maxRecDepth 100000 in
theorem okX4_init : Chk sgX4_init kX4_init := ⟨by decide +kernel, trivial, tb_l2 [(1, 120), (1, 22), (1, 23), (1, 53), (1, 121), (1, 53), (1, 123), (1, 53), (1, 125)] (by decide +kernel) (by decide +kernel), nw_l2 [] (by decide +kernel) (by decide +kernel), by decide +kernel⟩
set_option maxRecDepth 100000 in
def kX4_become : List Row := [(.aload_n 0, 0, 1, 0, 0, 0, [], sg0),
  (.getfield 9, 1, 2, 4, 0, 0, [], sg0),
  (.iload_n 1, 4, 3, 0, 0, 0, [], sg0),
  (.iload_n 2, 5, 4, 0, 0, 0, [], sg0),
  (.invokestatic 21, 6, 5, 0, 0, 1, [], sgX7_put),
  (.aload_n 0, 9, 6, 0, 0, 0, [], sg0),
  (.getfield 15, 10, 7, 4, 1, 0, [], sg0),
  (.iload_n 1, 13, 8, 0, 0, 0, [], sg0),
  (.iload_n 3, 14, 9, 0, 0, 0, [], sg0),
  (.invokestatic 21, 15, 10, 0, 0, 1, [], sgX7_put),
  (.return_, 18, 11, 0, 0, 0, [], sg0),
  (.nop, 19, 12, 0, 0, 0, [], sg0)]
set_option maxRecDepth 100000 in
theorem okX4_become : Chk sgX4_become kX4_become := ⟨by decide +kernel, And.intro sgSX7_put (And.intro sgSX7_put trivial), tb_l2 [(1, 121), (1, 123)] (by decide +kernel) (by decide +kernel), nw_l2 [(2, 236), (2, 236)] (by decide +kernel) (by decide +kernel), by decide +kernel⟩
set_option maxRecDepth 100000 in
def kX4_append : List Row := [(.aload_n 0, 0, 1, 0, 0, 0, [], sg0),
  (.getfield 25, 1, 2, 4, 4, 0, [], sg0),
  (.bipush 12, 4, 3, 0, 0, 12, [], sg0),
  (.if_icmp .lt 4, 6, 4, 5, 0, 0, [], sg0),
  (.return_, 9, 5, 0, 0, 0, [], sg0),
  (.aload_n 0, 10, 6, 0, 0, 0, [], sg0),
  (.getfield 18, 11, 7, 4, 2, 0, [], sg0),
  (.iconst 3, 14, 8, 0, 0, 3, [], sg0),
  (.aload_n 0, 15, 9, 0, 0, 0, [], sg0),
  (.getfield 25, 16, 10, 4, 4, 0, [], sg0),
  (.imul, 19, 11, 0, 0, 0, [], sg0),
  (.iload_n 1, 20, 12, 0, 0, 0, [], sg0),
  (.invokestatic 21, 21, 13, 0, 0, 1, [], sgX7_put),
  (.aload_n 0, 24, 14, 0, 0, 0, [], sg0),
  (.getfield 18, 25, 15, 4, 2, 0, [], sg0),
  (.iconst 3, 28, 16, 0, 0, 3, [], sg0),
  (.aload_n 0, 29, 17, 0, 0, 0, [], sg0),
  (.getfield 25, 30, 18, 4, 4, 0, [], sg0),
  (.imul, 33, 19, 0, 0, 0, [], sg0),
  (.iconst 1, 34, 20, 0, 0, 1, [], sg0),
  (.iadd, 35, 21, 0, 0, 0, [], sg0),
  (.iload_n 2, 36, 22, 0, 0, 0, [], sg0),
  (.invokestatic 21, 37, 23, 0, 0, 1, [], sgX7_put),
  (.aload_n 0, 40, 24, 0, 0, 0, [], sg0),
  (.getfield 18, 41, 25, 4, 2, 0, [], sg0),
  (.iconst 3, 44, 26, 0, 0, 3, [], sg0),
  (.aload_n 0, 45, 27, 0, 0, 0, [], sg0),
  (.getfield 25, 46, 28, 4, 4, 0, [], sg0),
  (.imul, 49, 29, 0, 0, 0, [], sg0),
  (.iconst 2, 50, 30, 0, 0, 2, [], sg0),
  (.iadd, 51, 31, 0, 0, 0, [], sg0),
  (.iload_n 3, 52, 32, 0, 0, 0, [], sg0),
  (.invokestatic 21, 53, 33, 0, 0, 1, [], sgX7_put),
  (.aload_n 0, 56, 34, 0, 0, 0, [], sg0),
  (.dup, 57, 35, 0, 0, 0, [], sg0),
  (.getfield 25, 58, 36, 4, 4, 0, [], sg0),
  (.iconst 1, 61, 37, 0, 0, 1, [], sg0),
  (.iadd, 62, 38, 0, 0, 0, [], sg0),
  (.putfield 25, 63, 39, 4, 4, 0, [], sg0),
  (.return_, 66, 40, 0, 0, 0, [], sg0),
  (.nop, 67, 41, 0, 0, 0, [], sg0)]
set_option maxRecDepth 100000 in
theorem okX4_append : Chk sgX4_append kX4_append := ⟨by decide +kernel, And.intro sgSX7_put (And.intro sgSX7_put (And.intro sgSX7_put trivial)), tb_l2 [(1, 129), (1, 125), (1, 129), (1, 125), (1, 129), (1, 125), (1, 129), (1, 129), (1, 129)] (by decide +kernel) (by decide +kernel), nw_l2 [(2, 236), (2, 236), (2, 236)] (by decide +kernel) (by decide +kernel), by decide +kernel⟩
set_option maxRecDepth 100000 in
def kX4_sayingPart : List Row := [(.aload_n 0, 0, 1, 0, 0, 0, [], sg0),
  (.getfield 18, 1, 2, 4, 2, 0, [], sg0),
  (.iconst 3, 4, 3, 0, 0, 3, [], sg0),
  (.iload_n 1, 5, 4, 0, 0, 0, [], sg0),
  (.imul, 6, 5, 0, 0, 0, [], sg0),
  (.iload_n 2, 7, 6, 0, 0, 0, [], sg0),
  (.iadd, 8, 7, 0, 0, 0, [], sg0),
  (.invokestatic 29, 9, 8, 0, 0, 1, [], sgX7_at),
  (.ireturn, 12, 9, 0, 0, 0, [], sg0),
  (.nop, 13, 10, 0, 0, 0, [], sg0)]
set_option maxRecDepth 100000 in
theorem okX4_sayingPart : Chk sgX4_sayingPart kX4_sayingPart := ⟨by decide +kernel, And.intro sgSX7_at trivial, tb_l2 [(1, 125)] (by decide +kernel) (by decide +kernel), nw_l2 [(3, 30)] (by decide +kernel) (by decide +kernel), by decide +kernel⟩
set_option maxRecDepth 100000 in
def kX4_becomeLike : List Row := [(.aload_n 1, 0, 1, 0, 0, 0, [], sg0),
  (.ifnonnull 4, 1, 2, 3, 0, 0, [], sg0),
  (.return_, 4, 3, 0, 0, 0, [], sg0),
  (.iconst 0, 5, 4, 0, 0, 0, [], sg0),
  (.istore_n 2, 6, 5, 0, 0, 0, [], sg0),
  (.iload_n 2, 7, 6, 0, 0, 0, [], sg0),
  (.iconst 5, 8, 7, 0, 0, 5, [], sg0),
  (.if_icmp .ge 30, 9, 8, 21, 0, 0, [], sg0),
  (.aload_n 0, 12, 9, 0, 0, 0, [], sg0),
  (.iload_n 2, 13, 10, 0, 0, 0, [], sg0),
  (.aload_n 1, 14, 11, 0, 0, 0, [], sg0),
  (.getfield 9, 15, 12, 4, 0, 0, [], sg0),
  (.iload_n 2, 18, 13, 0, 0, 0, [], sg0),
  (.invokestatic 29, 19, 14, 0, 0, 1, [], sgX7_at),
  (.aload_n 1, 22, 15, 0, 0, 0, [], sg0),
  (.getfield 15, 23, 16, 4, 1, 0, [], sg0),
  (.iload_n 2, 26, 17, 0, 0, 0, [], sg0),
  (.invokestatic 29, 27, 18, 0, 0, 1, [], sgX7_at),
  (.invokevirtual 33, 30, 19, 4, 0, 0, [], sgX4_become),
  (.iinc 2 1, 33, 20, 0, 0, 1, [], sg0),
  (.goto (-29), 36, 21, 5, 0, 0, [], sg0),
  (.iconst 0, 39, 22, 0, 0, 0, [], sg0),
  (.istore_n 2, 40, 23, 0, 0, 0, [], sg0),
  (.iload_n 2, 41, 24, 0, 0, 0, [], sg0),
  (.bipush 36, 42, 25, 0, 0, 36, [], sg0),
  (.if_icmp .ge 25, 44, 26, 36, 0, 0, [], sg0),
  (.aload_n 0, 47, 27, 0, 0, 0, [], sg0),
  (.getfield 18, 48, 28, 4, 2, 0, [], sg0),
  (.iload_n 2, 51, 29, 0, 0, 0, [], sg0),
  (.aload_n 1, 52, 30, 0, 0, 0, [], sg0),
  (.getfield 18, 53, 31, 4, 2, 0, [], sg0),
  (.iload_n 2, 56, 32, 0, 0, 0, [], sg0),
  (.invokestatic 29, 57, 33, 0, 0, 1, [], sgX7_at),
  (.invokestatic 21, 60, 34, 0, 0, 1, [], sgX7_put),
  (.iinc 2 1, 63, 35, 0, 0, 1, [], sg0),
  (.goto (-25), 66, 36, 23, 0, 0, [], sg0),
  (.aload_n 0, 69, 37, 0, 0, 0, [], sg0),
  (.aload_n 1, 70, 38, 0, 0, 0, [], sg0),
  (.getfield 37, 71, 39, 4, 3, 0, [], sg0),
  (.putfield 37, 74, 40, 4, 3, 0, [], sg0),
  (.aload_n 0, 77, 41, 0, 0, 0, [], sg0),
  (.aload_n 1, 78, 42, 0, 0, 0, [], sg0),
  (.getfield 25, 79, 43, 4, 4, 0, [], sg0),
  (.putfield 25, 82, 44, 4, 4, 0, [], sg0),
  (.aload_n 0, 85, 45, 0, 0, 0, [], sg0),
  (.aload_n 1, 86, 46, 0, 0, 0, [], sg0),
  (.getfield 40, 87, 47, 4, 5, 0, [], sg0),
  (.putfield 40, 90, 48, 4, 5, 0, [], sg0),
  (.return_, 93, 49, 0, 0, 0, [], sg0),
  (.nop, 94, 50, 0, 0, 0, [], sg0)]
set_option maxRecDepth 100000 in
theorem okX4_becomeLike : Chk sgX4_becomeLike kX4_becomeLike := ⟨by decide +kernel, And.intro sgSX7_at (And.intro sgSX7_at (And.intro sgVX4_become (And.intro sgSX7_at (And.intro sgSX7_put trivial)))), tb_l2 [(1, 121), (1, 123), (4, 29), (1, 125), (1, 125), (1, 127), (1, 127), (1, 129), (1, 129), (1, 131), (1, 131)] (by decide +kernel) (by decide +kernel), nw_l2 [(3, 30), (3, 30), (3, 30), (2, 236)] (by decide +kernel) (by decide +kernel), by decide +kernel⟩
set_option maxRecDepth 100000 in
def kX5_init : List Row := [(.aload_n 0, 0, 1, 0, 0, 0, [], sg0),
  (.invokespecial 3, 1, 2, 0, 9, 0, [], sg0),
  (.aload_n 0, 4, 3, 0, 0, 0, [], sg0),
  (.bipush 30, 5, 4, 0, 0, 30, [], sg0),
  (.newarray .int, 7, 5, 0, 0, 0, [], sg0),
  (.putfield 9, 9, 6, 5, 0, 0, [], sg0),
  (.aload_n 0, 12, 7, 0, 0, 0, [], sg0),
  (.bipush 30, 13, 8, 0, 0, 30, [], sg0),
  (.newarray .int, 15, 9, 0, 0, 0, [], sg0),
  (.putfield 15, 17, 10, 5, 1, 0, [], sg0),
  (.aload_n 0, 20, 11, 0, 0, 0, [], sg0),
  (.bipush 30, 21, 12, 0, 0, 30, [], sg0),
  (.newarray .int, 23, 13, 0, 0, 0, [], sg0),
  (.putfield 18, 25, 14, 5, 2, 0, [], sg0),
  (.iconst 0, 28, 15, 0, 0, 0, [], sg0),
  (.istore_n 1, 29, 16, 0, 0, 0, [], sg0),
  (.iload_n 1, 30, 17, 0, 0, 0, [], sg0),
  (.iconst 5, 31, 18, 0, 0, 5, [], sg0),
  (.if_icmp .ge 27, 32, 19, 31, 0, 0, [], sg0),
  (.aload_n 0, 35, 20, 0, 0, 0, [], sg0),
  (.getfield 9, 36, 21, 5, 0, 0, [], sg0),
  (.iload_n 1, 39, 22, 0, 0, 0, [], sg0),
  (.iconst (-1), 40, 23, 0, 0, (-1), [], sg0),
  (.invokestatic 21, 41, 24, 0, 0, 1, [], sgX7_put),
  (.aload_n 0, 44, 25, 0, 0, 0, [], sg0),
  (.getfield 18, 45, 26, 5, 2, 0, [], sg0),
  (.iload_n 1, 48, 27, 0, 0, 0, [], sg0),
  (.iconst 1, 49, 28, 0, 0, 1, [], sg0),
  (.invokestatic 21, 50, 29, 0, 0, 1, [], sgX7_put),
  (.iinc 1 1, 53, 30, 0, 0, 1, [], sg0),
  (.goto (-26), 56, 31, 16, 0, 0, [], sg0),
  (.aload_n 0, 59, 32, 0, 0, 0, [], sg0),
  (.iconst 1, 60, 33, 0, 0, 1, [], sg0),
  (.putfield 25, 61, 34, 5, 3, 0, [], sg0),
  (.return_, 64, 35, 0, 0, 0, [], sg0),
  (.nop, 65, 36, 0, 0, 0, [], sg0)]
set_option maxRecDepth 100000 in
theorem okX5_init : Chk sgX5_init kX5_init := ⟨by decide +kernel, And.intro sgSX7_put (And.intro sgSX7_put trivial), tb_l2 [(1, 97), (1, 22), (1, 23), (1, 53), (1, 101), (1, 53), (1, 102), (1, 53), (1, 103), (1, 101), (1, 103), (1, 104)] (by decide +kernel) (by decide +kernel), nw_l2 [(1, 98), (1, 98)] (by decide +kernel) (by decide +kernel), by decide +kernel⟩
set_option maxRecDepth 100000 in
def kX5_add : List Row := [(.aload_n 0, 0, 1, 0, 0, 0, [], sg0),
  (.getfield 25, 1, 2, 5, 3, 0, [], sg0),
  (.bipush 6, 4, 3, 0, 0, 6, [], sg0),
  (.if_icmp .lt 4, 6, 4, 5, 0, 0, [], sg0),
  (.return_, 9, 5, 0, 0, 0, [], sg0),
  (.iconst 0, 10, 6, 0, 0, 0, [], sg0),
  (.istore_n 2, 11, 7, 0, 0, 0, [], sg0),
  (.iload_n 2, 12, 8, 0, 0, 0, [], sg0),
  (.iconst 5, 13, 9, 0, 0, 5, [], sg0),
  (.if_icmp .ge 70, 14, 10, 48, 0, 0, [], sg0),
  (.aload_n 0, 17, 11, 0, 0, 0, [], sg0),
  (.getfield 25, 18, 12, 5, 3, 0, [], sg0),
  (.iconst 5, 21, 13, 0, 0, 5, [], sg0),
  (.imul, 22, 14, 0, 0, 0, [], sg0),
  (.iload_n 2, 23, 15, 0, 0, 0, [], sg0),
  (.iadd, 24, 16, 0, 0, 0, [], sg0),
  (.istore_n 3, 25, 17, 0, 0, 0, [], sg0),
  (.aload_n 0, 26, 18, 0, 0, 0, [], sg0),
  (.getfield 9, 27, 19, 5, 0, 0, [], sg0),
  (.iload_n 3, 30, 20, 0, 0, 0, [], sg0),
  (.aload_n 1, 31, 21, 0, 0, 0, [], sg0),
  (.iconst 0, 32, 22, 0, 0, 0, [], sg0),
  (.iload_n 2, 33, 23, 0, 0, 0, [], sg0),
  (.invokevirtual 29, 34, 24, 0, 0, 1, [], sgX0_truths),
  (.invokestatic 21, 37, 25, 0, 0, 1, [], sgX7_put),
  (.aload_n 0, 40, 26, 0, 0, 0, [], sg0),
  (.getfield 15, 41, 27, 5, 1, 0, [], sg0),
  (.iload_n 3, 44, 28, 0, 0, 0, [], sg0),
  (.aload_n 1, 45, 29, 0, 0, 0, [], sg0),
  (.iconst 1, 46, 30, 0, 0, 1, [], sg0),
  (.iload_n 2, 47, 31, 0, 0, 0, [], sg0),
  (.invokevirtual 29, 48, 32, 0, 0, 1, [], sgX0_truths),
  (.invokestatic 21, 51, 33, 0, 0, 1, [], sgX7_put),
  (.aload_n 0, 54, 34, 0, 0, 0, [], sg0),
  (.getfield 18, 55, 35, 5, 2, 0, [], sg0),
  (.iload_n 3, 58, 36, 0, 0, 0, [], sg0),
  (.iconst 0, 59, 37, 0, 0, 0, [], sg0),
  (.bipush 99, 60, 38, 0, 0, 99, [], sg0),
  (.aload_n 1, 62, 39, 0, 0, 0, [], sg0),
  (.iconst 2, 63, 40, 0, 0, 2, [], sg0),
  (.iconst 0, 64, 41, 0, 0, 0, [], sg0),
  (.iload_n 2, 65, 42, 0, 0, 0, [], sg0),
  (.invokevirtual 35, 66, 43, 0, 0, 1, [], sgX0_valueOf),
  (.invokestatic 39, 69, 44, 0, 8, 0, [], sg0),
  (.invokestatic 44, 72, 45, 0, 7, 0, [], sg0),
  (.invokestatic 21, 75, 46, 0, 0, 1, [], sgX7_put),
  (.iinc 2 1, 78, 47, 0, 0, 1, [], sg0),
  (.goto (-69), 81, 48, 7, 0, 0, [], sg0),
  (.aload_n 0, 84, 49, 0, 0, 0, [], sg0),
  (.dup, 85, 50, 0, 0, 0, [], sg0),
  (.getfield 25, 86, 51, 5, 3, 0, [], sg0),
  (.iconst 1, 89, 52, 0, 0, 1, [], sg0),
  (.iadd, 90, 53, 0, 0, 0, [], sg0),
  (.putfield 25, 91, 54, 5, 3, 0, [], sg0),
  (.return_, 94, 55, 0, 0, 0, [], sg0),
  (.nop, 95, 56, 0, 0, 0, [], sg0)]
set_option maxRecDepth 100000 in
theorem okX5_add : Chk sgX5_add kX5_add := ⟨by decide +kernel, And.intro sgVX0_truths (And.intro sgSX7_put (And.intro sgVX0_truths (And.intro sgSX7_put (And.intro sgVX0_valueOf (And.intro sgSX7_put trivial))))), tb_l2 [(1, 104), (1, 104), (1, 101), (1, 102), (1, 103), (2, 174), (2, 175), (1, 14), (2, 176), (2, 177), (2, 178), (1, 14), (2, 179), (1, 104), (1, 104)] (by decide +kernel) (by decide +kernel), nw_l2 [(2, 146), (1, 98), (2, 146), (1, 98), (2, 173), (1, 98)] (by decide +kernel) (by decide +kernel), by decide +kernel⟩
set_option maxRecDepth 100000 in
def kX5_side : List Row := [(.iload_n 3, 0, 1, 0, 0, 0, [], sg0),
  (.ifCond .ne 10, 1, 2, 5, 0, 0, [], sg0),
  (.aload_n 0, 4, 3, 0, 0, 0, [], sg0),
  (.getfield 9, 5, 4, 5, 0, 0, [], sg0),
  (.goto 7, 8, 5, 7, 0, 0, [], sg0),
  (.aload_n 0, 11, 6, 0, 0, 0, [], sg0),
  (.getfield 15, 12, 7, 5, 1, 0, [], sg0),
  (.iload_n 1, 15, 8, 0, 0, 0, [], sg0),
  (.iconst 5, 16, 9, 0, 0, 5, [], sg0),
  (.imul, 17, 10, 0, 0, 0, [], sg0),
  (.iload_n 2, 18, 11, 0, 0, 0, [], sg0),
  (.iadd, 19, 12, 0, 0, 0, [], sg0),
  (.invokestatic 47, 20, 13, 0, 0, 1, [], sgX7_at),
  (.ireturn, 23, 14, 0, 0, 0, [], sg0),
  (.nop, 24, 15, 0, 0, 0, [], sg0)]
set_option maxRecDepth 100000 in
theorem okX5_side : Chk sgX5_side kX5_side := ⟨by decide +kernel, And.intro sgSX7_at trivial, tb_l2 [(1, 101), (1, 102)] (by decide +kernel) (by decide +kernel), nw_l2 [(2, 203)] (by decide +kernel) (by decide +kernel), by decide +kernel⟩
set_option maxRecDepth 100000 in
def kX5_costOf : List Row := [(.aload_n 0, 0, 1, 0, 0, 0, [], sg0),
  (.getfield 18, 1, 2, 5, 2, 0, [], sg0),
  (.iload_n 1, 4, 3, 0, 0, 0, [], sg0),
  (.iconst 5, 5, 4, 0, 0, 5, [], sg0),
  (.imul, 6, 5, 0, 0, 0, [], sg0),
  (.iload_n 2, 7, 6, 0, 0, 0, [], sg0),
  (.iadd, 8, 7, 0, 0, 0, [], sg0),
  (.invokestatic 47, 9, 8, 0, 0, 1, [], sgX7_at),
  (.ireturn, 12, 9, 0, 0, 0, [], sg0),
  (.nop, 13, 10, 0, 0, 0, [], sg0)]
set_option maxRecDepth 100000 in
theorem okX5_costOf : Chk sgX5_costOf kX5_costOf := ⟨by decide +kernel, And.intro sgSX7_at trivial, tb_l2 [(1, 103)] (by decide +kernel) (by decide +kernel), nw_l2 [(2, 203)] (by decide +kernel) (by decide +kernel), by decide +kernel⟩
set_option maxRecDepth 100000 in
def kX6_init : List Row := [(.aload_n 0, 0, 1, 0, 0, 0, [], sg0),
  (.invokespecial 3, 1, 2, 0, 9, 0, [], sg0),
  (.aload_n 0, 4, 3, 0, 0, 0, [], sg0),
  (.sipush 160, 5, 4, 0, 0, 160, [], sg0),
  (.newarray .int, 8, 5, 0, 0, 0, [], sg0),
  (.putfield 9, 10, 6, 6, 0, 0, [], sg0),
  (.return_, 13, 7, 0, 0, 0, [], sg0),
  (.nop, 14, 8, 0, 0, 0, [], sg0)]
set_option maxRecDepth 100000 in
theorem okX6_init : Chk sgX6_init kX6_init := ⟨by decide +kernel, trivial, tb_l2 [(1, 29), (1, 22), (1, 23), (1, 53), (1, 30)] (by decide +kernel) (by decide +kernel), nw_l2 [] (by decide +kernel) (by decide +kernel), by decide +kernel⟩
set_option maxRecDepth 100000 in
def kX6_append : List Row := [(.aload_n 0, 0, 1, 0, 0, 0, [], sg0),
  (.getfield 15, 1, 2, 6, 1, 0, [], sg0),
  (.sipush 160, 4, 3, 0, 0, 160, [], sg0),
  (.if_icmp .lt 4, 7, 4, 5, 0, 0, [], sg0),
  (.return_, 10, 5, 0, 0, 0, [], sg0),
  (.aload_n 0, 11, 6, 0, 0, 0, [], sg0),
  (.getfield 9, 12, 7, 6, 0, 0, [], sg0),
  (.aload_n 0, 15, 8, 0, 0, 0, [], sg0),
  (.getfield 15, 16, 9, 6, 1, 0, [], sg0),
  (.iload_n 1, 19, 10, 0, 0, 0, [], sg0),
  (.invokestatic 19, 20, 11, 0, 0, 1, [], sgX7_put),
  (.aload_n 0, 23, 12, 0, 0, 0, [], sg0),
  (.dup, 24, 13, 0, 0, 0, [], sg0),
  (.getfield 15, 25, 14, 6, 1, 0, [], sg0),
  (.iconst 1, 28, 15, 0, 0, 1, [], sg0),
  (.iadd, 29, 16, 0, 0, 0, [], sg0),
  (.putfield 15, 30, 17, 6, 1, 0, [], sg0),
  (.return_, 33, 18, 0, 0, 0, [], sg0),
  (.nop, 34, 19, 0, 0, 0, [], sg0)]
set_option maxRecDepth 100000 in
theorem okX6_append : Chk sgX6_append kX6_append := ⟨by decide +kernel, And.intro sgSX7_put trivial, tb_l2 [(1, 31), (1, 30), (1, 31), (1, 31), (1, 31)] (by decide +kernel) (by decide +kernel), nw_l2 [(1, 233)] (by decide +kernel) (by decide +kernel), by decide +kernel⟩
set_option maxRecDepth 100000 in
def kX6_start : List Row := [(.aload_n 0, 0, 1, 0, 0, 0, [], sg0),
  (.iconst 0, 1, 2, 0, 0, 0, [], sg0),
  (.putfield 23, 2, 3, 6, 5, 0, [], sg0),
  (.aload_n 0, 5, 4, 0, 0, 0, [], sg0),
  (.invokevirtual 26, 6, 5, 6, 0, 0, [], sgX6_advance),
  (.return_, 9, 6, 0, 0, 0, [], sg0),
  (.nop, 10, 7, 0, 0, 0, [], sg0)]
set_option maxRecDepth 100000 in
theorem okX6_start : Chk sgX6_start kX6_start := ⟨by decide +kernel, And.intro sgVX6_advance trivial, tb_l2 [(1, 39), (2, 6)] (by decide +kernel) (by decide +kernel), nw_l2 [] (by decide +kernel) (by decide +kernel), by decide +kernel⟩
set_option maxRecDepth 100000 in
def kX6_advance : List Row := [(.aload_n 0, 0, 1, 0, 0, 0, [], sg0),
  (.aload_n 0, 1, 2, 0, 0, 0, [], sg0),
  (.getfield 23, 2, 3, 6, 5, 0, [], sg0),
  (.putfield 29, 5, 4, 6, 4, 0, [], sg0),
  (.iconst 0, 8, 5, 0, 0, 0, [], sg0),
  (.istore_n 1, 9, 6, 0, 0, 0, [], sg0),
  (.iload_n 1, 10, 7, 0, 0, 0, [], sg0),
  (.sipush 160, 11, 8, 0, 0, 160, [], sg0),
  (.if_icmp .ge 47, 14, 9, 29, 0, 0, [], sg0),
  (.aload_n 0, 17, 10, 0, 0, 0, [], sg0),
  (.getfield 29, 18, 11, 6, 4, 0, [], sg0),
  (.aload_n 0, 21, 12, 0, 0, 0, [], sg0),
  (.getfield 15, 22, 13, 6, 1, 0, [], sg0),
  (.if_icmp .ge 36, 25, 14, 29, 0, 0, [], sg0),
  (.aload_n 0, 28, 15, 0, 0, 0, [], sg0),
  (.getfield 9, 29, 16, 6, 0, 0, [], sg0),
  (.aload_n 0, 32, 17, 0, 0, 0, [], sg0),
  (.getfield 29, 33, 18, 6, 4, 0, [], sg0),
  (.invokestatic 32, 36, 19, 0, 0, 1, [], sgX7_at),
  (.invokestatic 36, 39, 20, 0, 0, 0, [], sgX6_isBlank),
  (.ifCond .eq 19, 42, 21, 29, 0, 0, [], sg0),
  (.aload_n 0, 45, 22, 0, 0, 0, [], sg0),
  (.dup, 46, 23, 0, 0, 0, [], sg0),
  (.getfield 29, 47, 24, 6, 4, 0, [], sg0),
  (.iconst 1, 50, 25, 0, 0, 1, [], sg0),
  (.iadd, 51, 26, 0, 0, 0, [], sg0),
  (.putfield 29, 52, 27, 6, 4, 0, [], sg0),
  (.iinc 1 1, 55, 28, 0, 0, 1, [], sg0),
  (.goto (-48), 58, 29, 6, 0, 0, [], sg0),
  (.aload_n 0, 61, 30, 0, 0, 0, [], sg0),
  (.iconst 0, 62, 31, 0, 0, 0, [], sg0),
  (.putfield 40, 63, 32, 6, 3, 0, [], sg0),
  (.aload_n 0, 66, 33, 0, 0, 0, [], sg0),
  (.getfield 29, 67, 34, 6, 4, 0, [], sg0),
  (.aload_n 0, 70, 35, 0, 0, 0, [], sg0),
  (.getfield 15, 71, 36, 6, 1, 0, [], sg0),
  (.if_icmp .lt 19, 74, 37, 45, 0, 0, [], sg0),
  (.aload_n 0, 77, 38, 0, 0, 0, [], sg0),
  (.aload_n 0, 78, 39, 0, 0, 0, [], sg0),
  (.getfield 29, 79, 40, 6, 4, 0, [], sg0),
  (.putfield 23, 82, 41, 6, 5, 0, [], sg0),
  (.aload_n 0, 85, 42, 0, 0, 0, [], sg0),
  (.iconst 0, 86, 43, 0, 0, 0, [], sg0),
  (.putfield 43, 87, 44, 6, 2, 0, [], sg0),
  (.goto 97, 90, 45, 87, 0, 0, [], sg0),
  (.aload_n 0, 93, 46, 0, 0, 0, [], sg0),
  (.getfield 9, 94, 47, 6, 0, 0, [], sg0),
  (.aload_n 0, 97, 48, 0, 0, 0, [], sg0),
  (.getfield 29, 98, 49, 6, 4, 0, [], sg0),
  (.invokestatic 32, 101, 50, 0, 0, 1, [], sgX7_at),
  (.invokestatic 46, 104, 51, 0, 0, 0, [], sgX6_isLetter),
  (.ifCond .eq 10, 107, 52, 55, 0, 0, [], sg0),
  (.aload_n 0, 110, 53, 0, 0, 0, [], sg0),
  (.invokevirtual 49, 111, 54, 6, 0, 0, [], sgX6_readWord),
  (.goto 73, 114, 55, 87, 0, 0, [], sg0),
  (.aload_n 0, 117, 56, 0, 0, 0, [], sg0),
  (.getfield 9, 118, 57, 6, 0, 0, [], sg0),
  (.aload_n 0, 121, 58, 0, 0, 0, [], sg0),
  (.getfield 29, 122, 59, 6, 4, 0, [], sg0),
  (.invokestatic 32, 125, 60, 0, 0, 1, [], sgX7_at),
  (.invokestatic 52, 128, 61, 0, 0, 0, [], sgX6_isDigit),
  (.ifCond .eq 10, 131, 62, 65, 0, 0, [], sg0),
  (.aload_n 0, 134, 63, 0, 0, 0, [], sg0),
  (.invokevirtual 55, 135, 64, 6, 0, 0, [], sgX6_readNumber),
  (.goto 49, 138, 65, 87, 0, 0, [], sg0),
  (.aload_n 0, 141, 66, 0, 0, 0, [], sg0),
  (.aload_n 0, 142, 67, 0, 0, 0, [], sg0),
  (.getfield 29, 143, 68, 6, 4, 0, [], sg0),
  (.iconst 1, 146, 69, 0, 0, 1, [], sg0),
  (.iadd, 147, 70, 0, 0, 0, [], sg0),
  (.putfield 23, 148, 71, 6, 5, 0, [], sg0),
  (.aload_n 0, 151, 72, 0, 0, 0, [], sg0),
  (.aload_n 0, 152, 73, 0, 0, 0, [], sg0),
  (.getfield 9, 153, 74, 6, 0, 0, [], sg0),
  (.aload_n 0, 156, 75, 0, 0, 0, [], sg0),
  (.getfield 29, 157, 76, 6, 4, 0, [], sg0),
  (.invokestatic 32, 160, 77, 0, 0, 1, [], sgX7_at),
  (.invokestatic 58, 163, 78, 0, 0, 0, [], sgX6_isSign),
  (.ifCond .eq 17, 166, 79, 85, 0, 0, [], sg0),
  (.aload_n 0, 169, 80, 0, 0, 0, [], sg0),
  (.getfield 9, 170, 81, 6, 0, 0, [], sg0),
  (.aload_n 0, 173, 82, 0, 0, 0, [], sg0),
  (.getfield 29, 174, 83, 6, 4, 0, [], sg0),
  (.invokestatic 32, 177, 84, 0, 0, 1, [], sgX7_at),
  (.goto 4, 180, 85, 86, 0, 0, [], sg0),
  (.iconst 1, 183, 86, 0, 0, 1, [], sg0),
  (.putfield 43, 184, 87, 6, 2, 0, [], sg0),
  (.return_, 187, 88, 0, 0, 0, [], sg0),
  (.nop, 188, 89, 0, 0, 0, [], sg0)]
set_option maxRecDepth 100000 in
theorem okX6_advance : Chk sgX6_advance kX6_advance := ⟨by decide +kernel, And.intro sgSX7_at (And.intro sgSX6_isBlank (And.intro sgSX7_at (And.intro sgSX6_isLetter (And.intro sgVX6_readWord (And.intro sgSX7_at (And.intro sgSX6_isDigit (And.intro sgVX6_readNumber (And.intro sgSX7_at (And.intro sgSX6_isSign (And.intro sgSX7_at trivial)))))))))), tb_l2 [(1, 39), (1, 37), (1, 37), (1, 31), (1, 30), (1, 37), (2, 13), (1, 37), (1, 37), (1, 35), (1, 37), (1, 31), (1, 37), (1, 39), (1, 34), (1, 30), (1, 37), (2, 16), (2, 19), (1, 30), (1, 37), (2, 82), (2, 85), (1, 37), (1, 39), (1, 30), (1, 37), (2, 89), (1, 30), (1, 37), (1, 34)] (by decide +kernel) (by decide +kernel), nw_l2 [(2, 10), (2, 10), (2, 10), (2, 10), (2, 10)] (by decide +kernel) (by decide +kernel), by decide +kernel⟩
set_option maxRecDepth 100000 in
def kX6_readNumber : List Row := [(.aload_n 0, 0, 1, 0, 0, 0, [], sg0),
  (.aload_n 0, 1, 2, 0, 0, 0, [], sg0),
  (.getfield 29, 2, 3, 6, 4, 0, [], sg0),
  (.putfield 23, 5, 4, 6, 5, 0, [], sg0),
  (.iconst 0, 8, 5, 0, 0, 0, [], sg0),
  (.istore_n 1, 9, 6, 0, 0, 0, [], sg0),
  (.iload_n 1, 10, 7, 0, 0, 0, [], sg0),
  (.sipush 160, 11, 8, 0, 0, 160, [], sg0),
  (.if_icmp .ge 73, 14, 9, 43, 0, 0, [], sg0),
  (.aload_n 0, 17, 10, 0, 0, 0, [], sg0),
  (.getfield 23, 18, 11, 6, 5, 0, [], sg0),
  (.aload_n 0, 21, 12, 0, 0, 0, [], sg0),
  (.getfield 15, 22, 13, 6, 1, 0, [], sg0),
  (.if_icmp .ge 62, 25, 14, 43, 0, 0, [], sg0),
  (.aload_n 0, 28, 15, 0, 0, 0, [], sg0),
  (.getfield 9, 29, 16, 6, 0, 0, [], sg0),
  (.aload_n 0, 32, 17, 0, 0, 0, [], sg0),
  (.getfield 23, 33, 18, 6, 5, 0, [], sg0),
  (.invokestatic 32, 36, 19, 0, 0, 1, [], sgX7_at),
  (.invokestatic 52, 39, 20, 0, 0, 0, [], sgX6_isDigit),
  (.ifCond .eq 45, 42, 21, 43, 0, 0, [], sg0),
  (.aload_n 0, 45, 22, 0, 0, 0, [], sg0),
  (.aload_n 0, 46, 23, 0, 0, 0, [], sg0),
  (.getfield 40, 47, 24, 6, 3, 0, [], sg0),
  (.bipush 10, 50, 25, 0, 0, 10, [], sg0),
  (.imul, 52, 26, 0, 0, 0, [], sg0),
  (.aload_n 0, 53, 27, 0, 0, 0, [], sg0),
  (.getfield 9, 54, 28, 6, 0, 0, [], sg0),
  (.aload_n 0, 57, 29, 0, 0, 0, [], sg0),
  (.getfield 23, 58, 30, 6, 5, 0, [], sg0),
  (.invokestatic 32, 61, 31, 0, 0, 1, [], sgX7_at),
  (.iadd, 64, 32, 0, 0, 0, [], sg0),
  (.bipush 48, 65, 33, 0, 0, 48, [], sg0),
  (.isub, 67, 34, 0, 0, 0, [], sg0),
  (.putfield 40, 68, 35, 6, 3, 0, [], sg0),
  (.aload_n 0, 71, 36, 0, 0, 0, [], sg0),
  (.dup, 72, 37, 0, 0, 0, [], sg0),
  (.getfield 23, 73, 38, 6, 5, 0, [], sg0),
  (.iconst 1, 76, 39, 0, 0, 1, [], sg0),
  (.iadd, 77, 40, 0, 0, 0, [], sg0),
  (.putfield 23, 78, 41, 6, 5, 0, [], sg0),
  (.iinc 1 1, 81, 42, 0, 0, 1, [], sg0),
  (.goto (-74), 84, 43, 6, 0, 0, [], sg0),
  (.aload_n 0, 87, 44, 0, 0, 0, [], sg0),
  (.aload_n 0, 88, 45, 0, 0, 0, [], sg0),
  (.getfield 23, 89, 46, 6, 5, 0, [], sg0),
  (.aload_n 0, 92, 47, 0, 0, 0, [], sg0),
  (.getfield 29, 93, 48, 6, 4, 0, [], sg0),
  (.isub, 96, 49, 0, 0, 0, [], sg0),
  (.iconst 4, 97, 50, 0, 0, 4, [], sg0),
  (.if_icmp .le 7, 98, 51, 53, 0, 0, [], sg0),
  (.iconst 1, 101, 52, 0, 0, 1, [], sg0),
  (.goto 4, 102, 53, 54, 0, 0, [], sg0),
  (.iconst 2, 105, 54, 0, 0, 2, [], sg0),
  (.putfield 43, 106, 55, 6, 2, 0, [], sg0),
  (.return_, 109, 56, 0, 0, 0, [], sg0),
  (.nop, 110, 57, 0, 0, 0, [], sg0)]
set_option maxRecDepth 100000 in
theorem okX6_readNumber : Chk sgX6_readNumber kX6_readNumber := ⟨by decide +kernel, And.intro sgSX7_at (And.intro sgSX6_isDigit (And.intro sgSX7_at trivial)), tb_l2 [(1, 37), (1, 39), (1, 39), (1, 31), (1, 30), (1, 39), (2, 82), (1, 35), (1, 30), (1, 39), (1, 35), (1, 39), (1, 39), (1, 39), (1, 37), (1, 34)] (by decide +kernel) (by decide +kernel), nw_l2 [(2, 10), (2, 10)] (by decide +kernel) (by decide +kernel), by decide +kernel⟩
set_option maxRecDepth 100000 in
def kX6_isBlank : List Row := [(.iload_n 0, 0, 1, 0, 0, 0, [], sg0),
  (.bipush 32, 1, 2, 0, 0, 32, [], sg0),
  (.if_icmp .eq 9, 3, 3, 6, 0, 0, [], sg0),
  (.iload_n 0, 6, 4, 0, 0, 0, [], sg0),
  (.bipush 10, 7, 5, 0, 0, 10, [], sg0),
  (.if_icmp .ne 7, 9, 6, 8, 0, 0, [], sg0),
  (.iconst 1, 12, 7, 0, 0, 1, [], sg0),
  (.goto 4, 13, 8, 9, 0, 0, [], sg0),
  (.iconst 0, 16, 9, 0, 0, 0, [], sg0),
  (.ireturn, 17, 10, 0, 0, 0, [], sg0),
  (.nop, 18, 11, 0, 0, 0, [], sg0)]
set_option maxRecDepth 100000 in
theorem okX6_isBlank : Chk sgX6_isBlank kX6_isBlank := ⟨by decide +kernel, trivial, tb_l2 [] (by decide +kernel) (by decide +kernel), nw_l2 [] (by decide +kernel) (by decide +kernel), by decide +kernel⟩
set_option maxRecDepth 100000 in
def kX6_isLetter : List Row := [(.iload_n 0, 0, 1, 0, 0, 0, [], sg0),
  (.bipush 97, 1, 2, 0, 0, 97, [], sg0),
  (.if_icmp .lt 13, 3, 3, 8, 0, 0, [], sg0),
  (.iload_n 0, 6, 4, 0, 0, 0, [], sg0),
  (.bipush 122, 7, 5, 0, 0, 122, [], sg0),
  (.if_icmp .gt 7, 9, 6, 8, 0, 0, [], sg0),
  (.iconst 1, 12, 7, 0, 0, 1, [], sg0),
  (.goto 4, 13, 8, 9, 0, 0, [], sg0),
  (.iconst 0, 16, 9, 0, 0, 0, [], sg0),
  (.ireturn, 17, 10, 0, 0, 0, [], sg0),
  (.nop, 18, 11, 0, 0, 0, [], sg0)]
set_option maxRecDepth 100000 in
theorem okX6_isLetter : Chk sgX6_isLetter kX6_isLetter := ⟨by decide +kernel, trivial, tb_l2 [] (by decide +kernel) (by decide +kernel), nw_l2 [] (by decide +kernel) (by decide +kernel), by decide +kernel⟩
set_option maxRecDepth 100000 in
def kX6_isDigit : List Row := [(.iload_n 0, 0, 1, 0, 0, 0, [], sg0),
  (.bipush 48, 1, 2, 0, 0, 48, [], sg0),
  (.if_icmp .lt 13, 3, 3, 8, 0, 0, [], sg0),
  (.iload_n 0, 6, 4, 0, 0, 0, [], sg0),
  (.bipush 57, 7, 5, 0, 0, 57, [], sg0),
  (.if_icmp .gt 7, 9, 6, 8, 0, 0, [], sg0),
  (.iconst 1, 12, 7, 0, 0, 1, [], sg0),
  (.goto 4, 13, 8, 9, 0, 0, [], sg0),
  (.iconst 0, 16, 9, 0, 0, 0, [], sg0),
  (.ireturn, 17, 10, 0, 0, 0, [], sg0),
  (.nop, 18, 11, 0, 0, 0, [], sg0)]
set_option maxRecDepth 100000 in
theorem okX6_isDigit : Chk sgX6_isDigit kX6_isDigit := ⟨by decide +kernel, trivial, tb_l2 [] (by decide +kernel) (by decide +kernel), nw_l2 [] (by decide +kernel) (by decide +kernel), by decide +kernel⟩
set_option maxRecDepth 100000 in
def kX6_isSign : List Row := [(.iload_n 0, 0, 1, 0, 0, 0, [], sg0),
  (.tableswitch 105 40 61 #[103, 103, 103, 103, 105, 103, 105, 105, 105, 105, 105, 105, 105, 105, 105, 105, 105, 105, 105, 103, 103, 103], 1, 2, 4, 0, 0, [2, 2, 2, 2, 4, 2, 4, 4, 4, 4, 4, 4, 4, 4, 4, 4, 4, 4, 4, 2, 2, 2], sg0),
  (.iconst 1, 104, 3, 0, 0, 1, [], sg0),
  (.ireturn, 105, 4, 0, 0, 0, [], sg0),
  (.iconst 0, 106, 5, 0, 0, 0, [], sg0),
  (.ireturn, 107, 6, 0, 0, 0, [], sg0),
  (.nop, 108, 7, 0, 0, 0, [], sg0)]
set_option maxRecDepth 100000 in
theorem okX6_isSign : Chk sgX6_isSign kX6_isSign := ⟨by decide +kernel, trivial, tb_l2 [] (by decide +kernel) (by decide +kernel), nw_l2 [] (by decide +kernel) (by decide +kernel), by decide +kernel⟩
end
section
abbrev PP : Type := Nat → LO → List Value → AH → Nat → Nat → Prop
abbrev PK : Type := List Value → Prop
def iU (f : Int32 → Int32) : List Value → PK → Prop
  | .int x :: r, K => K (.int (f x) :: r)
  | _, _ => False
def iB (f : Int32 → Int32 → Int32) : List Value → PK → Prop
  | .int y :: .int x :: r, K => K (.int (f x y) :: r)
  | _, _ => False
def iD (f : Int32 → Int32 → Int32) : List Value → PK → Prop
  | .int y :: .int x :: r, K => ¬ y = 0 ∧ K (.int (f x y) :: r)
  | _, _ => False
def jB (f : Int64 → Int64 → Int64) : List Value → PK → Prop
  | .long y :: .long x :: r, K => K (.long (f x y) :: r)
  | _, _ => False
def jD (f : Int64 → Int64 → Int64) : List Value → PK → Prop
  | .long y :: .long x :: r, K => ¬ y = 0 ∧ K (.long (f x y) :: r)
  | _, _ => False
def jS (f : Int64 → Int32 → Int64) : List Value → PK → Prop
  | .int y :: .long x :: r, K => K (.long (f x y) :: r)
  | _, _ => False
def jC : List Value → PK → Prop
  | .long y :: .long x :: r, K => K (.int (lg_cmp x y) :: r)
  | _, _ => False
def ijU : List Value → PK → Prop
  | .int x :: r, K => K (.long x.toInt64 :: r)
  | _, _ => False
def jiU : List Value → PK → Prop
  | .long x :: r, K => K (.int x.toInt32 :: r)
  | _, _ => False
def icC (q : Int32 → Int32 → Prop) : List Value → PK → PK → Prop
  | .int y :: .int x :: r, T, F => (q x y → T r) ∧ (¬ q x y → F r)
  | _, _, _ => False
def izC (q : Int32 → Prop) : List Value → PK → PK → Prop
  | .int x :: r, T, F => (q x → T r) ∧ (¬ q x → F r)
  | _, _, _ => False
def rfN : List Value → PK → Prop
  | .ref _ :: r, K => K r
  | _, _ => False
def ldI (ls : LO) (j : Nat) (K : Value → Prop) : Prop := match ls[j]? with
  | some (some (.int x)) => K (.int x)
  | _ => False
def ldL (ls : LO) (j : Nat) (K : Value → Prop) : Prop := match ls[j]? with
  | some (some (.long x)) => K (.long x)
  | _ => False
def ldA (ls : LO) (j : Nat) (K : Value → Prop) : Prop := match ls[j]? with
  | some (some (.ref x)) => K (.ref x)
  | _ => False
def stO : LO → Nat → Value → (LO → Prop) → Prop
  | [], _, _, _ => False
  | _ :: r, 0, v, K => K (some v :: r)
  | x :: r, j + 1, v, K => match j, x with
    | 0, some (.long _) => False
    | 0, some (.double _) => False
    | _, _ => stO r j v (fun r' => K (x :: r'))
def stT : LO → Nat → Value → (LO → Prop) → Prop
  | [], _, _, _ => False
  | _ :: r, 0, v, K => match r with
    | [] => False
    | _ :: r' => K (some v :: none :: r')
  | x :: r, j + 1, v, K => match j, x with
    | 0, some (.long _) => False
    | 0, some (.double _) => False
    | _, _ => stT r j v (fun r' => K (x :: r'))
def stI (ls : LO) (j : Nat) (st : List Value) (K : LO → List Value → Prop) : Prop := match st with
  | .int x :: r => stO ls j (.int x) (fun ls' => K ls' r)
  | _ => False
def stA (ls : LO) (j : Nat) (st : List Value) (K : LO → List Value → Prop) : Prop := match st with
  | .ref x :: r => stO ls j (.ref x) (fun ls' => K ls' r)
  | _ => False
def stL (ls : LO) (j : Nat) (st : List Value) (K : LO → List Value → Prop) : Prop := match st with
  | .long x :: r => stT ls j (.long x) (fun ls' => K ls' r)
  | _ => False
/-- a cell put in place of another -/
def seH : AH → Nat → AC → (AH → Prop) → Prop
  | [], _, _, _ => False
  | _ :: r, 0, c, K => K (c :: r)
  | x :: r, j + 1, c, K => seH r j c (fun r' => K (x :: r'))
def seV : List Value → Nat → Value → (List Value → Prop) → Prop
  | [], _, _, _ => False
  | _ :: r, 0, c, K => K (c :: r)
  | x :: r, j + 1, c, K => seV r j c (fun r' => K (x :: r'))
def popN : Nat → List Value → List Value → (List Value → List Value → Prop) → Prop
  | 0, acc, st, K => K acc st
  | n + 1, acc, v :: st, K => popN n (v :: acc) st K
  | _ + 1, _, [], _ => False
def catN : List Value → Nat
  | [] => 0
  | v :: r => v.category + catN r
def rOk (n : Nat) : Value → Bool
  | .ref k => Nat.blt k n || Nat.ble 1000 k
  | _ => true
def rOkS (n : Nat) (vs : List Value) : Bool := vs.all (rOk n)
def rOkL (n : Nat) (ls : LO) : Bool := ls.all (fun o => match o with | some v => rOk n v | none => true)
def rOkC (n : Nat) : AC → Bool
  | .inl o => rOkS n o.2
  | .inr _ => true
def rOkH (n : Nat) (hp : AH) : Bool := hp.all (rOkC n)
def swT (x : Int32) : Int → List Nat → (Nat → Prop) → Prop
  | _, [], _ => True
  | lo, t :: ts, K => (x = Int32.ofInt lo → K t) ∧ swT x (lo + 1) ts K
def swL (x : Int32) : List (Int × Int) → List Nat → (Nat → Prop) → Prop
  | a :: as, t :: ts, K => (x = Int32.ofInt a.1 → K t) ∧ swL x as ts K
  | _, _, _ => True
def dfl (ci N : Nat) : List Value := (List.range N).map (fun j => defaultValue ((clTy.getD ci tyX0) j))
def putOk (ty : FieldType) (v : Value) : Prop := match ty, v with
  | .int, .int _ => True
  | .boolean, .int x => x = 0 ∨ x = 1
  | .object _, .ref _ => True
  | .array _, .ref _ => True
  | _, _ => False
def retOk (rt : Option FieldType) (x : Int32) (K : Prop) : Prop := match rt with
  | some .int => K
  | some t => narrow t (.int x) = .int x ∧ K
  | none => False
def rmD (d : Nat) (mc ms : Nat) : Room := { frames := d, cells := mc, slots := ms, locals := 64 * d }
def ctys (tc : Nat → Nat) : List (ClassId × FieldType) := [(tc 0, .int), (tc 1, .long)]
def cV (ad : Nat → Nat) : Value → Value
  | .ref k => .ref (ad k)
  | v => v
def cE (ad tc : Nat → Nat) : AC → va_E
  | .inl o => .inr (o.1, o.2.map (cV ad))
  | .inr (.inl xs) => .inl (tc 0, xs.length, .inl (fun j => xs.getD j 0))
  | .inr (.inr xs) => .inl (tc 1, xs.length, .inr (.inl (fun j => xs.getD j 0)))
def cW (ad tc : Nat → Nat) (hp : AH) : va_W := hp.mapIdx (fun k c => (ad k, cE ad tc c))
/-- a row that is only read -/
def roX (a : Nat) (xs : List Int32) (U : State) (H : Heap) : Prop := ∃ cell : Cell, H[a]? = some cell ∧ U.isArrayOf cell .int ∧ cell.vm ≠ .unknown ∧ xs.length ≤ cell.slots.size ∧ cell.slots.size.toInt32 = Int32.ofNat xs.length ∧ ∀ j : Nat, j < xs.length → cell.slots[j]? = some (.int (xs.getD j 0))
/-- what stays: classes, nest words, the static row, rows that are only read -/
def EF (X : List (List Int32)) (D : va_G) (tc xa : Nat → Nat) (A : Nat → Prop) (U : State) : Prop :=
  va_K D vwCl (ctys tc) U ∧ (∀ w ∈ NWL, va_Nw w U) ∧ va_Z "SaidTwice" "SO_IN" "[I" (.ref (xa 0)) A U U.heap ∧ ∀ (j : Nat) (xs : List Int32), X[j]? = some xs → roX (xa j) xs U U.heap ∧ xa j < U.heap.size ∧ ¬ A (xa j)
def sgW (g : Sig) : List Cond := Cond.code (sY g) (sB g) (sL g) (sR g) :: TBL
/-- the addresses that were there stay; of a method that makes no cell, all -/
def adK (n : Nat) (mc : Nat) (ad ad' : Nat → Nat) : Prop := (∀ k, k < n ∨ 1000 ≤ k → ad' k = ad k) ∧ (mc = 0 → ad' = ad)
/-- the world before a method -/
def CPre (X : List (List Int32)) (D : va_G) (tc ad : Nat → Nat) (sz : Nat) (hp : AH) : State → Prop := fun U => U.heap.size = sz ∧ va_P D vwCl (cW ad tc hp) U.heap ∧ va_D (fun _ => True) (cW ad tc hp) ∧ EF X D tc (fun j => ad (1000 + j)) (va_A (cW ad tc hp) sz) U
/-- the world behind it -/
def CPost (mc : Nat) (D : va_G) (tc ad : Nat → Nat) (sz : Nat) (hp : AH) (R : AH → Option Value → Prop) : Array Value → State → Outcome → State → Prop :=
  fun _ st oc t => (∃ (v : Option Value) (hp' : AH) (ad' : Nat → Nat), oc = .returned (v.map (cV ad')) ∧ R hp' v ∧ adK hp.length mc ad ad' ∧ hp.length ≤ hp'.length ∧ va_P D vwCl (cW ad' tc hp') t.heap ∧ va_D (va_A (cW ad tc hp) sz) (cW ad' tc hp')) ∧ va_F (va_A (cW ad tc hp) sz) st t
/-- A CONTRACT: over any heap that holds the picture, the method returns, with R of the picture behind it and the answer -/
def Ctr (l : Launch) (d : Nat) (X : List (List Int32)) (g : Sig) (as : List Value) (hp : AH) (R : AH → Option Value → Prop) : Prop :=
  ∀ (D : va_G) (tc ad : Nat → Nat) (sz : Nat), Met l (sY g) (sgW g) (rmD d (sC g) (sS g)) (va_Pc (as.map (cV ad)) (CPre X D tc ad sz hp)) (CPost (sC g) D tc ad sz hp R) (sC g) (sS g) (va_A (cW ad tc hp) sz)
/-- a row of ints: of those that are only read, or of the cells -/
def rowI (X : List (List Int32)) (hp : AH) (q : Nat) : Option (List Int32) := match Nat.ble 1000 q with
  | true => X[q - 1000]?
  | false => match hp[q]? with
    | some (.inr (.inl xs)) => some xs
    | _ => none
/-- one instruction -/
def stp (l : Launch) (R : Room) (X : List (List Int32)) (g : Sig) (code : List Row) (Q : AH → Option Value → Prop) (P : PP) : PP := fun i ls st hp k n =>
  match code[i]? with
  | none => False
  | some (ins, _, nx, a, b, c, ts, cs) =>
    match ins with
    | .aload_n j => ldA ls j.val (fun v => P nx ls (v :: st) hp k n)
    | .aload j => ldA ls j (fun v => P nx ls (v :: st) hp k n)
    | .iload_n j => ldI ls j.val (fun v => P nx ls (v :: st) hp k n)
    | .iload j => ldI ls j (fun v => P nx ls (v :: st) hp k n)
    | .lload_n j => ldL ls j.val (fun v => P nx ls (v :: st) hp k n)
    | .lload j => ldL ls j (fun v => P nx ls (v :: st) hp k n)
    | .istore_n j => stI ls j.val st (fun ls' r => P nx ls' r hp k n)
    | .istore j => stI ls j st (fun ls' r => P nx ls' r hp k n)
    | .astore_n j => stA ls j.val st (fun ls' r => P nx ls' r hp k n)
    | .astore j => stA ls j st (fun ls' r => P nx ls' r hp k n)
    | .lstore_n j => stL ls j.val st (fun ls' r => P nx ls' r hp k n)
    | .lstore j => stL ls j st (fun ls' r => P nx ls' r hp k n)
    | .iinc j _ => ldI ls j (fun v => match v with
      | .int x => stO ls j (.int (x + Int32.ofInt c)) (fun ls' => P nx ls' st hp k n)
      | _ => False)
    | .iconst _ => P nx ls (.int (Int32.ofInt c) :: st) hp k n
    | .bipush _ => P nx ls (.int (Int32.ofInt c) :: st) hp k n
    | .sipush _ => P nx ls (.int (Int32.ofInt c) :: st) hp k n
    | .lconst _ => P nx ls (.long (Int64.ofInt c) :: st) hp k n
    | .ldc _ => P nx ls (.int (Int32.ofInt c) :: st) hp k n
    | .ldc_w _ => P nx ls (.int (Int32.ofInt c) :: st) hp k n
    | .ldc2_w _ => P nx ls (.long (Int64.ofInt c) :: st) hp k n
    | .iadd => iB (fun x y => x + y) st (fun r => P nx ls r hp k n)
    | .isub => iB (fun x y => x - y) st (fun r => P nx ls r hp k n)
    | .imul => iB (fun x y => x * y) st (fun r => P nx ls r hp k n)
    | .iand => iB (fun x y => x &&& y) st (fun r => P nx ls r hp k n)
    | .ior => iB (fun x y => x ||| y) st (fun r => P nx ls r hp k n)
    | .ixor => iB (fun x y => x ^^^ y) st (fun r => P nx ls r hp k n)
    | .idiv => iD (fun x y => x / y) st (fun r => P nx ls r hp k n)
    | .irem => iD (fun x y => x - x / y * y) st (fun r => P nx ls r hp k n)
    | .ineg => iU (fun x => -x) st (fun r => P nx ls r hp k n)
    | .ishl => iB (fun x y => x <<< (y &&& 31)) st (fun r => P nx ls r hp k n)
    | .ishr => iB (fun x y => x >>> (y &&& 31)) st (fun r => P nx ls r hp k n)
    | .iushr => iB (fun x y => (x.toUInt32 >>> (y.toUInt32 &&& Int32.toUInt32 31)).toInt32) st (fun r => P nx ls r hp k n)
    | .i2b => iU (fun x => x.toInt8.toInt32) st (fun r => P nx ls r hp k n)
    | .i2s => iU (fun x => x.toInt16.toInt32) st (fun r => P nx ls r hp k n)
    | .i2l => ijU st (fun r => P nx ls r hp k n)
    | .l2i => jiU st (fun r => P nx ls r hp k n)
    | .ladd => jB (fun x y => x + y) st (fun r => P nx ls r hp k n)
    | .lmul => jB (fun x y => x * y) st (fun r => P nx ls r hp k n)
    | .land => jB (fun x y => x &&& y) st (fun r => P nx ls r hp k n)
    | .lor => jB (fun x y => x ||| y) st (fun r => P nx ls r hp k n)
    | .lxor => jB (fun x y => x ^^^ y) st (fun r => P nx ls r hp k n)
    | .ldiv => jD (fun x y => x / y) st (fun r => P nx ls r hp k n)
    | .lrem => jD (fun x y => x - x / y * y) st (fun r => P nx ls r hp k n)
    | .lshl => jS (fun x y => x <<< (y.toInt64 &&& 63)) st (fun r => P nx ls r hp k n)
    | .lshr => jS (fun x y => x >>> (y.toInt64 &&& 63)) st (fun r => P nx ls r hp k n)
    | .lcmp => jC st (fun r => P nx ls r hp k n)
    | .dup => match st with
      | v :: r => v.category = 1 ∧ P nx ls (v :: v :: r) hp k n
      | _ => False
    | .pop => match st with
      | v :: r => v.category = 1 ∧ P nx ls r hp k n
      | _ => False
    | .goto _ => P a ls st hp k n
    | .ifCond .eq _ => izC (fun x => x = 0) st (fun r => P a ls r hp k n) (fun r => P nx ls r hp k n)
    | .ifCond .ne _ => izC (fun x => x = 0) st (fun r => P nx ls r hp k n) (fun r => P a ls r hp k n)
    | .ifCond .lt _ => izC (fun x => x < 0) st (fun r => P a ls r hp k n) (fun r => P nx ls r hp k n)
    | .ifCond .ge _ => izC (fun x => 0 ≤ x) st (fun r => P a ls r hp k n) (fun r => P nx ls r hp k n)
    | .ifCond .gt _ => izC (fun x => 0 < x) st (fun r => P a ls r hp k n) (fun r => P nx ls r hp k n)
    | .ifCond .le _ => izC (fun x => x ≤ 0) st (fun r => P a ls r hp k n) (fun r => P nx ls r hp k n)
    | .if_icmp .eq _ => icC (fun x y => x = y) st (fun r => P a ls r hp k n) (fun r => P nx ls r hp k n)
    | .if_icmp .ne _ => icC (fun x y => x = y) st (fun r => P nx ls r hp k n) (fun r => P a ls r hp k n)
    | .if_icmp .lt _ => icC (fun x y => x < y) st (fun r => P a ls r hp k n) (fun r => P nx ls r hp k n)
    | .if_icmp .ge _ => icC (fun x y => y ≤ x) st (fun r => P a ls r hp k n) (fun r => P nx ls r hp k n)
    | .if_icmp .gt _ => icC (fun x y => y < x) st (fun r => P a ls r hp k n) (fun r => P nx ls r hp k n)
    | .if_icmp .le _ => icC (fun x y => x ≤ y) st (fun r => P a ls r hp k n) (fun r => P nx ls r hp k n)
    | .ifnull _ => rfN st (fun r => P nx ls r hp k n)
    | .ifnonnull _ => rfN st (fun r => P a ls r hp k n)
    | .tableswitch _ lo hi _ => match st with
      | .int x :: r => (x.toInt < lo ∨ hi < x.toInt → P a ls r hp k n) ∧ swT x lo ts (fun t => P t ls r hp k n)
      | _ => False
    | .lookupswitch _ ps => match st with
      | .int x :: r => ((∀ p ∈ ps.toList, ¬ x = Int32.ofInt p.1) → P a ls r hp k n) ∧ swL x ps.toList ts (fun t => P t ls r hp k n)
      | _ => False
    | .arraylength => match st with
      | .ref q :: r => ∃ xs, rowI X hp q = some xs ∧ P nx ls (.int (Int32.ofNat xs.length) :: r) hp k n
      | _ => False
    | .iaload => match st with
      | .int j :: .ref q :: r => ∃ xs, rowI X hp q = some xs ∧ vp_in j xs.length ∧ P nx ls (.int (xs.getD j.toNatClampNeg 0) :: r) hp k n
      | _ => False
    | .iastore => match st with
      | .int x :: .int j :: .ref q :: r => ∃ xs, hp[q]? = some (AI xs) ∧ vp_in j xs.length ∧ P nx ls r (hp.set q (AI (xs.set j.toNatClampNeg x))) k n
      | _ => False
    | .laload => match st with
      | .int j :: .ref q :: r => ∃ xs, hp[q]? = some (AL xs) ∧ vp_in j xs.length ∧ P nx ls (.long (xs.getD j.toNatClampNeg 0) :: r) hp k n
      | _ => False
    | .lastore => match st with
      | .long x :: .int j :: .ref q :: r => ∃ xs, hp[q]? = some (AL xs) ∧ vp_in j xs.length ∧ P nx ls r (hp.set q (AL (xs.set j.toNatClampNeg x))) k n
      | _ => False
    | .getfield _ => match st with
      | .ref q :: r => match hp[q]? with
        | some (.inl (ci, fs)) => match Nat.beq ci a, fs[b]? with
          | true, some v => P nx ls (v :: r) hp k n
          | _, _ => False
        | _ => False
      | _ => False
    | .putfield _ => match st with
      | v :: .ref q :: r => match hp[q]? with
        | some (.inl (ci, fs)) => match Nat.beq ci a with
          | true => putOk ((clTy.getD a tyX0) b) v ∧ seV fs b v (fun fs' => seH hp q (AO ci fs') (fun hp' => P nx ls r hp' k n))
          | false => False
        | _ => False
      | _ => False
    | .getstatic _ => P nx ls (.ref 1000 :: st) hp k n
    | .new _ => match vwCl[a]? with
      | some (_, _, N) => (rOkH hp.length hp && (rOkS hp.length st && rOkL hp.length ls)) = true ∧ (k + 1 ≤ R.cells ∧ n + N ≤ R.slots) ∧ hp.length < 1000 ∧ P nx ls (.ref hp.length :: st) (hp ++ [AO a (dfl a N)]) (k + 1) (n + N)
      | none => False
    | .newarray t => match st with
      | .int x :: r => match t with
        | .int => (rOkH hp.length hp && (rOkS hp.length st && rOkL hp.length ls)) = true ∧ (k + 1 ≤ R.cells ∧ n + x.toNatClampNeg ≤ R.slots) ∧ hp.length < 1000 ∧ (¬ x < 0 ∧ x.toNatClampNeg ≤ 10000) ∧ P nx ls (.ref hp.length :: r) (hp ++ [AI (List.replicate x.toNatClampNeg 0)]) (k + 1) (n + x.toNatClampNeg)
        | .long => (rOkH hp.length hp && (rOkS hp.length st && rOkL hp.length ls)) = true ∧ (k + 1 ≤ R.cells ∧ n + x.toNatClampNeg ≤ R.slots) ∧ hp.length < 1000 ∧ (¬ x < 0 ∧ x.toNatClampNeg ≤ 10000) ∧ P nx ls (.ref hp.length :: r) (hp ++ [AL (List.replicate x.toNatClampNeg 0)]) (k + 1) (n + x.toNatClampNeg)
        | _ => False
      | _ => False
    | .invokevirtual _ => popN (sA cs) [] st (fun as r => match as with
      | .ref q :: _ => match hp[q]? with
        | some (.inl (ci, _)) => match Nat.beq ci a, Nat.ble (catN r) 8, (Nat.beq (sC cs) 0 || (rOkS hp.length r && rOkL hp.length ls)) with
          | true, true, true => ∃ (d' : Nat) (Rq : AH → Option Value → Prop), (d' + 1 ≤ R.frames ∧ 8 + (sL cs + 11) + 64 * d' ≤ R.locals ∧ k + sC cs ≤ R.cells ∧ n + sS cs ≤ R.slots) ∧ Ctr l d' X cs as hp Rq ∧ ∀ hp' v, Rq hp' v → P nx ls (v.toList ++ r) hp' (k + sC cs) (n + sS cs)
          | _, _, _ => False
        | _ => False
      | _ => False)
    | .invokestatic _ => match Nat.beq b 7, Nat.beq b 8 with
      | true, _ => match st with
        | .int y :: .int x :: r => (Nat.ble (catN r) 8 = true ∧ 1 ≤ R.frames ∧ 21 ≤ R.locals) ∧ P nx ls (.int (if x < y then y else x) :: r) hp k n
        | _ => False
      | _, true => match st with
        | .int y :: .int x :: r => (Nat.ble (catN r) 8 = true ∧ 1 ≤ R.frames ∧ 21 ≤ R.locals) ∧ P nx ls (.int (if y < x then y else x) :: r) hp k n
        | _ => False
      | false, false => popN (sA cs) [] st (fun as r => match Nat.ble (catN r) 8, (Nat.beq (sC cs) 0 || (rOkS hp.length r && rOkL hp.length ls)) with
        | true, true => ∃ (d' : Nat) (Rq : AH → Option Value → Prop), (d' + 1 ≤ R.frames ∧ 8 + (sL cs + 11) + 64 * d' ≤ R.locals ∧ k + sC cs ≤ R.cells ∧ n + sS cs ≤ R.slots) ∧ Ctr l d' X cs as hp Rq ∧ ∀ hp' v, Rq hp' v → P nx ls (v.toList ++ r) hp' (k + sC cs) (n + sS cs)
        | _, _ => False)
    | .invokespecial _ => match Nat.beq b 9 with
      | true => match st with
        | .ref _ :: r => match Nat.ble (catN r) 8 with
          | true => (1 ≤ R.frames ∧ 20 ≤ R.locals) ∧ P nx ls r hp k n
          | false => False
        | _ => False
      | false => popN (sA cs) [] st (fun as r => match as with
        | .ref _ :: _ => match Nat.ble (catN r) 8, (Nat.beq (sC cs) 0 || (rOkS hp.length r && rOkL hp.length ls)) with
          | true, true => ∃ (d' : Nat) (Rq : AH → Option Value → Prop), (d' + 1 ≤ R.frames ∧ 8 + (sL cs + 11) + 64 * d' ≤ R.locals ∧ k + sC cs ≤ R.cells ∧ n + sS cs ≤ R.slots) ∧ Ctr l d' X cs as hp Rq ∧ ∀ hp' v, Rq hp' v → P nx ls (v.toList ++ r) hp' (k + sC cs) (n + sS cs)
          | _, _ => False
        | _ => False)
    | .ireturn => match st with
      | .int x :: [] => retOk (sR g) x (Q hp (some (.int x)))
      | _ => False
    | .lreturn => match st with
      | .long x :: [] => sR g = some .long ∧ Q hp (some (.long x))
      | _ => False
    | .return_ => match st with
      | [] => sR g = none ∧ Q hp none
      | _ => False
    | _ => False
/-- many instructions, up to the rows that are cut -/
def run (l : Launch) (R : Room) (X : List (List Int32)) (g : Sig) (code : List Row) (cut : Nat → Bool) (Q : AH → Option Value → Prop) (P : PP) : Nat → PP
  | 0 => P
  | m + 1 => stp l R X g code Q (fun i ls st hp k n => match cut i with
    | true => P i ls st hp k n
    | false => run l R X g code cut Q P m i ls st hp k n)
end
section
theorem nest_warm {w : Cond} (h : isNest w = true) {s U : State} (hW : s.WarmedH U.vm) (hZ : va_Nw w s) : va_Nw w U := by
  cases w <;> first | exact va_Nw.warmF hW hZ | exact va_Nw.warmM hW hZ | (simp [isNest] at h)
theorem nest_same {w : Cond} (h : isNest w = true) {u U : State} (hv : u.vm = U.vm) (hZ : va_Nw w u) : va_Nw w U := by
  cases w <;> first | exact va_Nw.same rfl hv hZ | (simp [isNest] at h)
theorem cW_get {ad tc : Nat → Nat} {hp : AH} {k : Nat} {c : AC} (h : hp[k]? = some c) : (cW ad tc hp)[k]? = some (ad k, cE ad tc c) := by
  simp [cW, h]
theorem cW_len {ad tc : Nat → Nat} {hp : AH} : (cW ad tc hp).length = hp.length := by simp [cW]
theorem cW_set {ad tc : Nat → Nat} {hp : AH} {k : Nat} {c : AC} : (cW ad tc hp).set k (ad k, cE ad tc c) = cW ad tc (hp.set k c) := by
  apply List.ext_getElem?
  intro j
  by_cases hj : k = j
  · subst hj
    by_cases hl : k < hp.length
    · simp [cW, List.getElem?_set, hl]
    · simp [cW, List.getElem?_set, hl]
  · simp [cW, List.getElem?_set, hj]
theorem cV_cat (ad : Nat → Nat) (v : Value) : (cV ad v).category = v.category := by cases v <;> rfl
theorem rOk_cV {n : Nat} {ad ad' : Nat → Nat} (h : ∀ k, k < n ∨ 1000 ≤ k → ad' k = ad k) : ∀ v, rOk n v = true → cV ad' v = cV ad v := by
  intro v hv
  cases v with
  | ref k =>
    simp only [rOk, Bool.or_eq_true] at hv
    have : k < n ∨ 1000 ≤ k := hv.imp (fun q => Nat.blt_eq.mp q) (fun q => Nat.le_of_ble_eq_true q)
    simp [cV, h k this]
  | _ => rfl
theorem rOkS_map {n : Nat} {ad ad' : Nat → Nat} (h : ∀ k, k < n ∨ 1000 ≤ k → ad' k = ad k) (vs : List Value) (hv : rOkS n vs = true) : vs.map (cV ad') = vs.map (cV ad) := by
  apply List.map_congr_left
  intro v hm
  exact rOk_cV h v (List.all_eq_true.mp hv v hm)
theorem rOkH_cW {n : Nat} {ad ad' tc : Nat → Nat} {hp : AH} (h : ∀ k, k < n ∨ 1000 ≤ k → ad' k = ad k) (hn : hp.length = n) (hv : rOkH n hp = true) : cW ad' tc hp = cW ad tc hp := by
  apply List.ext_getElem?
  intro j
  simp only [cW, List.getElem?_mapIdx]
  cases hj : hp[j]? with
  | none => rfl
  | some c =>
    have hl : j < n := by rw [← hn]; exact (List.getElem?_eq_some_iff.mp hj).1
    have hc := List.all_eq_true.mp hv c (List.mem_of_getElem? hj)
    simp only [Option.map_some, h j (Or.inl hl)]
    cases c with
    | inl o => simp only [cE, rOkS_map h o.2 hc]
    | inr q => cases q <;> rfl
/-- the locals -/
def LR (ad : Nat → Nat) (nL : Nat) (al : LO) (ls : Array Slot) : Prop := al.length = nL ∧ ls.size = nL ∧ lv_wf ls ∧ ∀ (j : Nat) (v : Value), al[j]? = some (some v) → ls[j]? = some (.val (cV ad v))
def asL (ad : Nat → Nat) (al : LO) : List (Nat × Value) := (List.range al.length).filterMap (fun j => match al[j]? with
  | some (some v) => some (j, cV ad v)
  | _ => none)
theorem asL_mem {ad : Nat → Nat} {al : LO} {j : Nat} {v : Value} (h : al[j]? = some (some v)) : (j, cV ad v) ∈ asL ad al := by
  refine List.mem_filterMap.mpr ⟨j, List.mem_range.mpr (List.getElem?_eq_some_iff.mp h).1, ?_⟩
  simp [h]
theorem LR.has {ad : Nat → Nat} {nL : Nat} {al : LO} {ls : Array Slot} (h : LR ad nL al ls) : lv_has ls nL (asL ad al) := by
  obtain ⟨h0, h1, h2, h3⟩ := h
  refine ⟨h1, h2, fun q hq => ?_⟩
  obtain ⟨j, -, hj⟩ := List.mem_filterMap.mp hq
  split at hj
  · rename_i v hv
    cases hj
    exact h3 j v hv
  · cases hj
theorem LR.kept {ad ad' : Nat → Nat} {n nL : Nat} {al : LO} {ls : Array Slot} (h : LR ad nL al ls) (ha : ∀ k, k < n ∨ 1000 ≤ k → ad' k = ad k) (ho : rOkL n al = true) : LR ad' nL al ls := by
  refine ⟨h.1, h.2.1, h.2.2.1, fun j v hv => ?_⟩
  have := List.all_eq_true.mp ho (some v) (List.mem_of_getElem? hv)
  rw [rOk_cV ha v this]
  exact h.2.2.2 j v hv
theorem cat_two {x : Option Value} {w : Value} (h1 : ∀ a, ¬ x = some (.long a)) (h2 : ∀ a, ¬ x = some (.double a)) (hx : x = some w) : ¬ w.category = 2 := by
  subst hx
  cases w with
  | long a => exact absurd rfl (h1 a)
  | double a => exact absurd rfl (h2 a)
  | _ => simp [Value.category]
theorem stO_step {K : LO → Prop} {v : Value} {x : Option Value} {r : LO} {j : Nat} (h : stO (x :: r) (j + 1) v K) : stO r j v (fun r' => K (x :: r')) ∧ (j = 0 → ∀ w, x = some w → ¬ w.category = 2) := by
  unfold stO at h
  split at h
  · exact h.elim
  · exact h.elim
  · rename_i h1 h2
    exact ⟨h, fun hj w hx => cat_two (fun a e => h1 a hj e) (fun a e => h2 a hj e) hx⟩
theorem stO_spec {v : Value} : ∀ {al : LO} {j : Nat} {K : LO → Prop}, stO al j v K → j < al.length ∧ K (al.set j (some v)) ∧ ∀ (q : Nat) (w : Value), q + 1 = j → al[q]? = some (some w) → ¬ w.category = 2 := by
  intro al
  induction al with
  | nil => intro j K h; exact h.elim
  | cons x r ih =>
    intro j K h
    cases j with
    | zero => exact ⟨Nat.succ_pos _, h, fun q w e => by omega⟩
    | succ j =>
      have key := stO_step h
      obtain ⟨h1, h2, h3⟩ := ih key.1
      refine ⟨by simpa using h1, h2, fun q w e hq => ?_⟩
      cases q with
      | zero =>
        simp at hq
        exact key.2 (by omega) w hq
      | succ q => exact h3 q w (by omega) (by simpa using hq)
theorem stT_step {K : LO → Prop} {v : Value} {x : Option Value} {r : LO} {j : Nat} (h : stT (x :: r) (j + 1) v K) : stT r j v (fun r' => K (x :: r')) ∧ (j = 0 → ∀ w, x = some w → ¬ w.category = 2) := by
  unfold stT at h
  split at h
  · exact h.elim
  · exact h.elim
  · rename_i h1 h2
    exact ⟨h, fun hj w hx => cat_two (fun a e => h1 a hj e) (fun a e => h2 a hj e) hx⟩
theorem stT_spec {v : Value} : ∀ {al : LO} {j : Nat} {K : LO → Prop}, stT al j v K → j + 1 < al.length ∧ K ((al.set j (some v)).set (j + 1) none) ∧ ∀ (q : Nat) (w : Value), q + 1 = j → al[q]? = some (some w) → ¬ w.category = 2 := by
  intro al
  induction al with
  | nil => intro j K h; exact h.elim
  | cons x r ih =>
    intro j K h
    cases j with
    | zero =>
      cases r with
      | nil => exact h.elim
      | cons y r => exact ⟨by simp, h, fun q w e => by omega⟩
    | succ j =>
      have key := stT_step h
      obtain ⟨h1, h2, h3⟩ := ih key.1
      refine ⟨by simp only [List.length_cons]; omega, h2, fun q w e hq => ?_⟩
      cases q with
      | zero =>
        simp at hq
        exact key.2 (by omega) w hq
      | succ q => exact h3 q w (by omega) (by simpa using hq)
theorem seH_spec {c : AC} : ∀ {hp : AH} {j : Nat} {K : AH → Prop}, seH hp j c K → j < hp.length ∧ K (hp.set j c) := by
  intro hp
  induction hp with
  | nil => intro j K h; exact h.elim
  | cons x r ih =>
    intro j K h
    cases j with
    | zero => exact ⟨Nat.succ_pos _, h⟩
    | succ j =>
      obtain ⟨h1, h2⟩ := ih h
      exact ⟨by simpa using h1, h2⟩
theorem seV_spec {c : Value} : ∀ {hp : List Value} {j : Nat} {K : List Value → Prop}, seV hp j c K → j < hp.length ∧ K (hp.set j c) := by
  intro hp
  induction hp with
  | nil => intro j K h; exact h.elim
  | cons x r ih =>
    intro j K h
    cases j with
    | zero => exact ⟨Nat.succ_pos _, h⟩
    | succ j =>
      obtain ⟨h1, h2⟩ := ih h
      exact ⟨by simpa using h1, h2⟩
theorem popN_spec : ∀ {n : Nat} {acc st : List Value} {K : List Value → List Value → Prop}, popN n acc st K → ∃ as r, as.length = n ∧ st = as.reverse ++ r ∧ K (as ++ acc) r := by
  intro n
  induction n with
  | zero => intro acc st K h; exact ⟨[], st, rfl, rfl, h⟩
  | succ n ih =>
    intro acc st K h
    cases st with
    | nil => exact h.elim
    | cons v st =>
      obtain ⟨as, r, h1, h2, h3⟩ := ih h
      refine ⟨as ++ [v], r, by simp [h1], by simp [h2], by simpa using h3⟩
theorem catN_sum (ad : Nat → Nat) (vs : List Value) : ((vs.map (cV ad)).map fun v => v.category).sum = catN vs := by
  induction vs with
  | nil => rfl
  | cons v r ih => simp only [List.map_cons, List.sum_cons, cV_cat, catN, ih]
/-- stores to the locals -/
theorem LR.st1 {ad : Nat → Nat} {nL i : Nat} {al : LO} {v : Value} {ls' : Array Slot} (h0 : al.length = nL) (hi : i < al.length) (hq : ∀ (q : Nat) (w : Value), q + 1 = i → al[q]? = some (some w) → ¬ w.category = 2)
    (h : lv_has ls' nL ((i, cV ad v) :: (asL ad al).filter (fun q => !(q.1 == i) && !(q.1 + 1 == i && q.2.category == 2)))) : LR ad nL (al.set i (some v)) ls' := by
  refine ⟨by simp [h0], h.1, h.2.1, fun j w hj => ?_⟩
  by_cases e : j = i
  · subst e
    rw [List.getElem?_set_self hi] at hj
    cases hj
    exact h.2.2 _ List.mem_cons_self
  · rw [List.getElem?_set_ne (fun q => e q.symm)] at hj
    refine h.2.2 (j, cV ad w) (List.mem_cons_of_mem _ (List.mem_filter.mpr ⟨asL_mem hj, ?_⟩))
    simp only [Bool.and_eq_true, Bool.not_eq_true', beq_eq_false_iff_ne, ne_eq, Bool.and_eq_false_iff]
    refine ⟨e, ?_⟩
    by_cases e2 : j + 1 = i
    · exact Or.inr (by rw [cV_cat]; exact hq j w e2 hj)
    · exact Or.inl e2
theorem LR.st2 {ad : Nat → Nat} {nL i : Nat} {al : LO} {v : Value} {ls' : Array Slot} (h0 : al.length = nL) (hi : i + 1 < al.length) (hq : ∀ (q : Nat) (w : Value), q + 1 = i → al[q]? = some (some w) → ¬ w.category = 2)
    (h : lv_has ls' nL ((i, cV ad v) :: (asL ad al).filter (fun q => !(q.1 == i) && (!(q.1 == i + 1) && !(q.1 + 1 == i && q.2.category == 2))))) : LR ad nL ((al.set i (some v)).set (i + 1) none) ls' := by
  refine ⟨by simp [h0], h.1, h.2.1, fun j w hj => ?_⟩
  by_cases e1 : j = i + 1
  · subst e1
    rw [List.getElem?_set_self (by simpa using hi)] at hj
    cases hj
  rw [List.getElem?_set_ne (fun q => e1 q.symm)] at hj
  by_cases e : j = i
  · subst e
    rw [List.getElem?_set_self (by omega)] at hj
    cases hj
    exact h.2.2 _ List.mem_cons_self
  · rw [List.getElem?_set_ne (fun q => e q.symm)] at hj
    refine h.2.2 (j, cV ad w) (List.mem_cons_of_mem _ (List.mem_filter.mpr ⟨asL_mem hj, ?_⟩))
    simp only [Bool.and_eq_true, Bool.not_eq_true', beq_eq_false_iff_ne, ne_eq, Bool.and_eq_false_iff]
    refine ⟨e, e1, ?_⟩
    by_cases e2 : j + 1 = i
    · exact Or.inr (by rw [cV_cat]; exact hq j w e2 hj)
    · exact Or.inl e2
end
section
section STEP
variable {p : Program} {l : Launch} {e : Env} {R : Room} {s : State} {m : MethodId} {args : Array Value} {below : List Frame} {meth : Method} {c : Code} {H : Heap} {locs : List Loc} {cells slots : Nat} {Q : State → Prop}
/-- behind a call, whatever it says -/
theorem va_callg {pc : Nat} {ls : Array Slot} {rest st0 : List Value} {A0 A1 : Nat → Prop} {H0 : Heap} {mc ms : Nat} {free : Addr → Prop} {Qa : State → Outcome → State → Prop}
    (hr : va_Run p l e R s m args below meth c H locs cells slots mc ms (F0 m pc ls st0) rest Qa free) (hS : va_S A0 H0 H locs) (hF : ∀ st oc t, Qa st oc t → va_F A1 st t) (hA : ∀ q, A1 q → A0 q) (hf : ∀ q, free q → A0 q)
    (kk : ∀ (v : Option Value) (st₀ t : State) (H1 : Heap) (locs1 : List Loc), st₀.heap = H → t.heap = H1 → Qa st₀ (.returned v) t → va_S A0 H0 H1 locs1 → W p l e R s m args below meth c H1 locs1 (cells + mc) (slots + ms) Q (F0 m (pc + 3) ls (v.toList ++ rest))) : W p l e R s m args below meth c H locs cells slots Q (F0 m pc ls st0) := by
  intro T hT X
  obtain ⟨v, st₀, t, T', L, h0, X', hL, e1, e2, hq, st⟩ := hr T hT X
  obtain ⟨hz, hk⟩ := hF _ _ _ hq
  rw [h0] at hz hk
  obtain ⟨t2, a1, b1⟩ := kk v st₀ t T'.heap (locs ++ L) h0 e1.symm hq
    ⟨Nat.le_trans hS.1 (by rw [e1]; exact hz), fun q h1 h2 => by rw [e1, hk q (Nat.lt_of_lt_of_le h1 hS.1) (fun z => h2 (hA q z))]; exact hS.2.1 q h1 h2, fun q hq => by
      rcases List.mem_append.mp hq with h | h
      · exact hS.2.2 q h
      · exact hf _ (hL q h)⟩ T' rfl X'
  exact ⟨t2, st t2 a1, b1⟩
end STEP
theorem TBL_good {ws : List Cond} (h : ∀ w ∈ ws, w ∈ TBL) : GoodIn TBL ws := fun w hw => ⟨h w hw, good_of_word (tb_good w (h w hw))⟩
theorem NWL_nest : ∀ w ∈ NWL, isNest w = true := fun w h => (List.mem_filter.mp h).2
theorem roX.kept {a : Nat} {xs : List Int32} {U : State} {H H1 : Heap} (h : roX a xs U H) (hq : H1[a]? = H[a]?) : roX a xs U H1 := by
  obtain ⟨c, h1, h2⟩ := h
  exact ⟨c, by rw [hq]; exact h1, h2⟩
theorem roX.moved {a : Nat} {xs : List Int32} {u U : State} {H : Heap} (hvm : u.vm.Alike U.vm) (h : roX a xs u H) : roX a xs U H := by
  obtain ⟨c, h1, h2, h3⟩ := h
  exact ⟨c, h1, State.isArrayOf_alike hvm h2, h3⟩
/-- what stays, at a callee's start -/
theorem EF_call {X : List (List Int32)} {D : va_G} {tc xa : Nat → Nat} {A A' : Nat → Prop} {s U : State} {H : Heap} {locs : List Loc} (h : EF X D tc xa A s) (hS : va_S A s.heap H locs) (hU : U.heap = H) (hW : s.WarmedH U.vm) (hA : ∀ q, A' q → A q) : EF X D tc xa A' U := by
  obtain ⟨h1, h2, h3, h4⟩ := h
  refine ⟨va_K.moved hW.alike h1, fun w hw => nest_warm (NWL_nest w hw) hW (h2 w hw), ?_, fun j xs hj => ?_⟩
  · rw [hU]
    exact ((h3.kept (fun a g1 g2 => hS.2.1 a g1 g2)).moved hW.alike).narrow hA
  · obtain ⟨g1, g2, g3⟩ := h4 j xs hj
    rw [hU]
    exact ⟨(g1.kept (hS.2.1 _ g2 g3)).moved hW.alike, Nat.lt_of_lt_of_le g2 hS.1, fun z => g3 (hA _ z)⟩
theorem EF_same {X : List (List Int32)} {D : va_G} {tc xa : Nat → Nat} {A : Nat → Prop} {u U : State} (h : EF X D tc xa A u) (hh : U.heap = u.heap) (hv : U.vm = u.vm) : EF X D tc xa A U := by
  obtain ⟨h1, h2, h3, h4⟩ := h
  have ha : u.vm.Alike U.vm := by rw [hv]; exact Vm.Alike.refl u.vm
  refine ⟨va_K.moved ha h1, fun w hw => nest_same (NWL_nest w hw) hv.symm (h2 w hw), ?_, fun j xs hj => ?_⟩
  · rw [hh]; exact h3.moved ha
  · obtain ⟨g1, g2, g3⟩ := h4 j xs hj
    rw [hh]
    exact ⟨g1.moved ha, g2, g3⟩
theorem CPre_blind {as : List Value} {X : List (List Int32)} {D : va_G} {tc ad : Nat → Nat} {sz : Nat} {hp : AH} : FrameBlind (va_Pc as (CPre X D tc ad sz hp)) := by
  intro a U g mk ⟨h1, h2, h3, h4, h5⟩
  exact ⟨h1, h2, h3, h4, EF_same h5 rfl rfl⟩
theorem va_D_A {A : Nat → Prop} {ws : va_W} {s : State} {H : Heap} {locs : List Loc} (hD : va_D A ws) (hS : va_S A s.heap H locs) (hA : ∀ q, s.heap.size ≤ q → A q) : ∀ q, va_A ws H.size q → A q := by
  intro q h
  rcases h with ⟨k, e, h⟩ | h
  · exact hD.2 k (q, e) h
  · exact hA q (Nat.le_trans hS.1 h)
/-- what holds of a method's activation -/
def AF (X : List (List Int32)) (g : Sig) (p : Program) (s : State) (m : MethodId) (args : Array Value) (meth : Method) (c : Code) (D : va_G) (tc xa : Nat → Nat) (A : Nat → Prop) : Prop :=
  p.tables.exec = Jvm.exec ∧ c.code = sB g ∧ c.maxLocals = sL g ∧ s.vm.findClass (sY g).cls = some m.cls ∧ (∀ w ∈ TBL, w.before args s = true) ∧ meth.name = (sY g).name ∧ EF X D tc xa A s ∧ ∀ q, s.heap.size ≤ q → A q
def WR (D : va_G) (tc ad : Nat → Nat) (A : Nat → Prop) (s : State) (hp : AH) (H : Heap) (locs : List Loc) : Prop := va_P D vwCl (cW ad tc hp) H ∧ va_D A (cW ad tc hp) ∧ va_S A s.heap H locs
def rtD (g : Sig) (pc : Nat) (v : Option Value) : Prop := match v with
  | none => decode (sB g) pc = .ok (.return_, 1) ∧ sR g = none
  | some (.int x) => decode (sB g) pc = .ok (.ireturn, 1) ∧ ∃ t, sR g = some t ∧ narrow t (.int x) = .int x
  | some (.long _) => decode (sB g) pc = .ok (.lreturn, 1) ∧ sR g = some .long
  | _ => False
/-- a return comes to the end that is sought -/
def RZ (l : Launch) (R : Room) (g : Sig) (Q : AH → Option Value → Prop) (p : Program) (e : Env) (s : State) (m : MethodId) (args : Array Value) (below : List Frame) (meth : Method) (c : Code) (D : va_G) (tc ad0 : Nat → Nat) (n0 : Nat) (A : Nat → Prop) (Z : State → Prop) : Prop :=
  ∀ (v : Option Value) (hp : AH) (ad : Nat → Nat) (H : Heap) (locs : List Loc) (k n pc : Nat) (ls : Array Slot), Q hp v → WR D tc ad A s hp H locs → adK n0 R.cells ad0 ad → n0 ≤ hp.length → k ≤ R.cells → n ≤ R.slots → rtD g pc v → W p l e R s m args below meth c H locs k n Z (F0 m pc ls (v.toList.map (cV ad)))
/-- from here the machine comes to an end that is sought -/
def WP (l : Launch) (R : Room) (X : List (List Int32)) (g : Sig) (code : List Row) (Q : AH → Option Value → Prop) : PP := fun i al st hp k n =>
  ∀ (p : Program) (e : Env) (s : State) (m : MethodId) (args : Array Value) (below : List Frame) (meth : Method) (c : Code) (D : va_G) (tc ad ad0 : Nat → Nat) (n0 : Nat) (A : Nat → Prop) (Z : State → Prop) (H : Heap) (locs : List Loc) (ls : Array Slot),
    AF X g p s m args meth c D tc (fun j => ad0 (1000 + j)) A → RZ l R g Q p e s m args below meth c D tc ad0 n0 A Z → WR D tc ad A s hp H locs → adK n0 R.cells ad0 ad → n0 ≤ hp.length → k ≤ R.cells → n ≤ R.slots → LR ad (sL g) al ls →
      W p l e R s m args below meth c H locs k n Z (F0 m (pcO code i) ls (st.map (cV ad)))
end
section
theorem bd {a b : Prop} [Decidable a] [Decidable b] (h : (decide a && decide b) = true) : a ∧ b := by simpa using h
theorem bt {a : Prop} [Decidable a] {b : Bool} (h : (decide a && b) = true) : a ∧ b = true := by simpa using h
theorem iU_spec {f : Int32 → Int32} {st : List Value} {K : PK} (h : iU f st K) : ∃ x r, st = .int x :: r ∧ K (.int (f x) :: r) := by
  unfold iU at h; split at h
  · exact ⟨_, _, rfl, h⟩
  · exact h.elim
theorem iB_spec {f : Int32 → Int32 → Int32} {st : List Value} {K : PK} (h : iB f st K) : ∃ y x r, st = .int y :: .int x :: r ∧ K (.int (f x y) :: r) := by
  unfold iB at h; split at h
  · exact ⟨_, _, _, rfl, h⟩
  · exact h.elim
theorem iD_spec {f : Int32 → Int32 → Int32} {st : List Value} {K : PK} (h : iD f st K) : ∃ y x r, st = .int y :: .int x :: r ∧ ¬ y = 0 ∧ K (.int (f x y) :: r) := by
  unfold iD at h; split at h
  · exact ⟨_, _, _, rfl, h⟩
  · exact h.elim
theorem jB_spec {f : Int64 → Int64 → Int64} {st : List Value} {K : PK} (h : jB f st K) : ∃ y x r, st = .long y :: .long x :: r ∧ K (.long (f x y) :: r) := by
  unfold jB at h; split at h
  · exact ⟨_, _, _, rfl, h⟩
  · exact h.elim
theorem jD_spec {f : Int64 → Int64 → Int64} {st : List Value} {K : PK} (h : jD f st K) : ∃ y x r, st = .long y :: .long x :: r ∧ ¬ y = 0 ∧ K (.long (f x y) :: r) := by
  unfold jD at h; split at h
  · exact ⟨_, _, _, rfl, h⟩
  · exact h.elim
theorem jS_spec {f : Int64 → Int32 → Int64} {st : List Value} {K : PK} (h : jS f st K) : ∃ y x r, st = .int y :: .long x :: r ∧ K (.long (f x y) :: r) := by
  unfold jS at h; split at h
  · exact ⟨_, _, _, rfl, h⟩
  · exact h.elim
theorem jC_spec {st : List Value} {K : PK} (h : jC st K) : ∃ y x r, st = .long y :: .long x :: r ∧ K (.int (lg_cmp x y) :: r) := by
  unfold jC at h; split at h
  · exact ⟨_, _, _, rfl, h⟩
  · exact h.elim
theorem ijU_spec {st : List Value} {K : PK} (h : ijU st K) : ∃ x r, st = .int x :: r ∧ K (.long x.toInt64 :: r) := by
  unfold ijU at h; split at h
  · exact ⟨_, _, rfl, h⟩
  · exact h.elim
theorem jiU_spec {st : List Value} {K : PK} (h : jiU st K) : ∃ x r, st = .long x :: r ∧ K (.int x.toInt32 :: r) := by
  unfold jiU at h; split at h
  · exact ⟨_, _, rfl, h⟩
  · exact h.elim
theorem icC_spec {q : Int32 → Int32 → Prop} {st : List Value} {T F : PK} (h : icC q st T F) : ∃ y x r, st = .int y :: .int x :: r ∧ (q x y → T r) ∧ (¬ q x y → F r) := by
  unfold icC at h; split at h
  · exact ⟨_, _, _, rfl, h⟩
  · exact h.elim
theorem izC_spec {q : Int32 → Prop} {st : List Value} {T F : PK} (h : izC q st T F) : ∃ x r, st = .int x :: r ∧ (q x → T r) ∧ (¬ q x → F r) := by
  unfold izC at h; split at h
  · exact ⟨_, _, rfl, h⟩
  · exact h.elim
theorem rfN_spec {st : List Value} {K : PK} (h : rfN st K) : ∃ x r, st = .ref x :: r ∧ K r := by
  unfold rfN at h; split at h
  · exact ⟨_, _, rfl, h⟩
  · exact h.elim
theorem ldI_spec {ls : LO} {j : Nat} {K : Value → Prop} (h : ldI ls j K) : ∃ x, ls[j]? = some (some (.int x)) ∧ K (.int x) := by
  unfold ldI at h; split at h
  · rename_i x e; exact ⟨x, e, h⟩
  · exact h.elim
theorem ldL_spec {ls : LO} {j : Nat} {K : Value → Prop} (h : ldL ls j K) : ∃ x, ls[j]? = some (some (.long x)) ∧ K (.long x) := by
  unfold ldL at h; split at h
  · rename_i x e; exact ⟨x, e, h⟩
  · exact h.elim
theorem ldA_spec {ls : LO} {j : Nat} {K : Value → Prop} (h : ldA ls j K) : ∃ x, ls[j]? = some (some (.ref x)) ∧ K (.ref x) := by
  unfold ldA at h; split at h
  · rename_i x e; exact ⟨x, e, h⟩
  · exact h.elim
theorem stI_spec {ls : LO} {j : Nat} {st : List Value} {K : LO → List Value → Prop} (h : stI ls j st K) : ∃ x r, st = .int x :: r ∧ stO ls j (.int x) (fun l => K l r) := by
  unfold stI at h; split at h
  · exact ⟨_, _, rfl, h⟩
  · exact h.elim
theorem stA_spec {ls : LO} {j : Nat} {st : List Value} {K : LO → List Value → Prop} (h : stA ls j st K) : ∃ x r, st = .ref x :: r ∧ stO ls j (.ref x) (fun l => K l r) := by
  unfold stA at h; split at h
  · exact ⟨_, _, rfl, h⟩
  · exact h.elim
theorem stL_spec {ls : LO} {j : Nat} {st : List Value} {K : LO → List Value → Prop} (h : stL ls j st K) : ∃ x r, st = .long x :: r ∧ stT ls j (.long x) (fun l => K l r) := by
  unfold stL at h; split at h
  · exact ⟨_, _, rfl, h⟩
  · exact h.elim

set_option maxHeartbeats 4000000 in
set_option maxRecDepth 100000 in
theorem stp_plain {l : Launch} {R : Room} {X : List (List Int32)} {g : Sig} {code : List Row} {Q : AH → Option Value → Prop} {P : PP} (hC : Chk g code)
    {i : Nat} {al : LO} {st : List Value} {hp : AH} {k n : Nat} {ins : Instr} {pc nx a b : Nat} {cc : Int} {ts : List Nat} {cs : Sig} (hB : rowB g code (ins, pc, nx, a, b, cc, ts, cs) = true) (hT : ∀ w ∈ needT (sY g).cls (ins, pc, nx, a, b, cc, ts, cs), w ∈ TBL)
    (hrow : code[i]? = some (ins, pc, nx, a, b, cc, ts, cs)) (h : stp l R X g code Q P i al st hp k n)
    {p : Program} {e : Env} {s : State} {m : MethodId} {args : Array Value} {below : List Frame} {meth : Method} {c : Code} {D : va_G} {tc ad : Nat → Nat} {A : Nat → Prop} {Z : State → Prop} {H : Heap} {locs : List Loc} {ls : Array Slot}
    (hx : p.tables.exec = Jvm.exec) (hb : c.code = sB g) (hown : s.vm.findClass (sY g).cls = some m.cls) (hts : ∀ w ∈ TBL, w.before args s = true) (hL : LR ad (sL g) al ls)
    (go : ∀ {i' pc' : Nat} {al' : LO} {st' : List Value} {ls' : Array Slot}, pcO code i' = pc' → P i' al' st' hp k n → LR ad (sL g) al' ls' → W p l e R s m args below meth c H locs k n Z (F0 m pc' ls' (st'.map (cV ad))))
    (other : (match ins with
      | .arraylength | .iaload | .iastore | .laload | .lastore | .getfield _ | .putfield _ | .getstatic _ | .new _ | .newarray _ | .invokevirtual _ | .invokestatic _ | .invokespecial _ | .ireturn | .lreturn | .return_ | .tableswitch _ _ _ _ | .lookupswitch _ _ => True
      | _ => False) → W p l e R s m args below meth c H locs k n Z (F0 m pc ls (st.map (cV ad)))) :
    W p l e R s m args below meth c H locs k n Z (F0 m pc ls (st.map (cV ad))) := by
  unfold stp at h
  rw [hrow] at h
  dsimp only at h
  have hLh := hL.has
  cases ins
  case aload_n j =>
    obtain ⟨hd, hnx⟩ := bd hB
    obtain ⟨x, hj, h⟩ := ldA_spec h
    refine lv_aload_n hx hb hd rfl (hL.2.2.2 _ _ hj) ?_
    exact go hnx h hL
  case aload j =>
    obtain ⟨hd, hnx⟩ := bd hB
    obtain ⟨x, hj, h⟩ := ldA_spec h
    refine lv_aload hx hb hd (hL.2.2.2 _ _ hj) ?_
    exact go hnx h hL
  case iload_n j =>
    obtain ⟨hd, hnx⟩ := bd hB
    obtain ⟨x, hj, h⟩ := ldI_spec h
    refine lv_iload_n hx hb hd rfl (hL.2.2.2 _ _ hj) ?_
    exact go hnx h hL
  case iload j =>
    obtain ⟨hd, hnx⟩ := bd hB
    obtain ⟨x, hj, h⟩ := ldI_spec h
    refine lv_iload hx hb hd (hL.2.2.2 _ _ hj) ?_
    exact go hnx h hL
  case lload_n j =>
    obtain ⟨hd, hnx⟩ := bd hB
    obtain ⟨x, hj, h⟩ := ldL_spec h
    refine lv_lload_n hx hb hd rfl (hL.2.2.2 _ _ hj) ?_
    exact go hnx h hL
  case lload j =>
    obtain ⟨hd, hnx⟩ := bd hB
    obtain ⟨x, hj, h⟩ := ldL_spec h
    refine lv_lload hx hb hd (hL.2.2.2 _ _ hj) ?_
    exact go hnx h hL
  case istore_n j =>
    obtain ⟨hd, hnx⟩ := bd hB
    obtain ⟨x, r, rfl, h⟩ := stI_spec h
    obtain ⟨h1, h2, h3⟩ := stO_spec h
    refine lv_istore_n hx hb hd rfl hLh (by rw [← hL.1]; exact h1) rfl (fun ls' hl' => ?_)
    exact go hnx h2 (LR.st1 hL.1 h1 h3 hl')
  case istore j =>
    obtain ⟨hd, hnx⟩ := bd hB
    obtain ⟨x, r, rfl, h⟩ := stI_spec h
    obtain ⟨h1, h2, h3⟩ := stO_spec h
    refine lv_istore hx hb hd hLh (by rw [← hL.1]; exact h1) rfl (fun ls' hl' => ?_)
    exact go hnx h2 (LR.st1 hL.1 h1 h3 hl')
  case astore_n j =>
    obtain ⟨hd, hnx⟩ := bd hB
    obtain ⟨x, r, rfl, h⟩ := stA_spec h
    obtain ⟨h1, h2, h3⟩ := stO_spec h
    refine lv_astore_n hx hb hd rfl hLh (by rw [← hL.1]; exact h1) rfl (fun ls' hl' => ?_)
    exact go hnx h2 (LR.st1 hL.1 h1 h3 hl')
  case astore j =>
    obtain ⟨hd, hnx⟩ := bd hB
    obtain ⟨x, r, rfl, h⟩ := stA_spec h
    obtain ⟨h1, h2, h3⟩ := stO_spec h
    refine lv_astore hx hb hd hLh (by rw [← hL.1]; exact h1) rfl (fun ls' hl' => ?_)
    exact go hnx h2 (LR.st1 hL.1 h1 h3 hl')
  case lstore_n j =>
    obtain ⟨hd, hnx⟩ := bd hB
    obtain ⟨x, r, rfl, h⟩ := stL_spec h
    obtain ⟨h1, h2, h3⟩ := stT_spec h
    refine lv_lstore_n hx hb hd rfl hLh (by rw [← hL.1]; exact h1) rfl (fun ls' hl' => ?_)
    exact go hnx h2 (LR.st2 hL.1 h1 h3 hl')
  case lstore j =>
    obtain ⟨hd, hnx⟩ := bd hB
    obtain ⟨x, r, rfl, h⟩ := stL_spec h
    obtain ⟨h1, h2, h3⟩ := stT_spec h
    refine lv_lstore hx hb hd hLh (by rw [← hL.1]; exact h1) rfl (fun ls' hl' => ?_)
    exact go hnx h2 (LR.st2 hL.1 h1 h3 hl')
  case iinc j z =>
    obtain ⟨hd, hz⟩ := bt hB
    obtain ⟨hz, hnx⟩ := bd hz
    obtain ⟨x, hj, h⟩ := ldI_spec h
    obtain ⟨h1, h2, h3⟩ := stO_spec h
    obtain ⟨q, hq⟩ := List.getElem?_of_mem (asL_mem (ad := ad) hj)
    refine lv_iinc (v := x + Int32.ofInt cc) hx hb hd hLh hq (by rw [hz]) (by rw [← hL.1]; exact h1) rfl (fun ls' hl' => ?_)
    exact go hnx h2 (LR.st1 (v := .int (x + Int32.ofInt cc)) hL.1 h1 h3 hl')
  case iconst z =>
    obtain ⟨hd, hz⟩ := bt hB
    obtain ⟨hz, hnx⟩ := bd hz
    refine lv_iconst hx hb hd hz ?_
    exact go hnx h hL
  case bipush z =>
    obtain ⟨hd, hz⟩ := bt hB
    obtain ⟨hz, hnx⟩ := bd hz
    refine lv_bipush hx hb hd hz ?_
    exact go hnx h hL
  case sipush z =>
    obtain ⟨hd, hz⟩ := bt hB
    obtain ⟨hz, hnx⟩ := bd hz
    refine lv_sipush hx hb hd hz ?_
    exact go hnx h hL
  case lconst z =>
    obtain ⟨hd, hz⟩ := bt hB
    obtain ⟨hz, hnx⟩ := bd hz
    refine lv_lconst hx hb hd hz ?_
    exact go hnx h hL
  case ldc ix =>
    obtain ⟨hd, hnx⟩ := bd hB
    refine lv_ldc hx hb hown (hts _ (hT _ List.mem_cons_self)) hd ?_
    exact go hnx h hL
  case ldc_w ix =>
    obtain ⟨hd, hnx⟩ := bd hB
    refine lv_ldcw hx hb hown (hts _ (hT _ List.mem_cons_self)) hd ?_
    exact go hnx h hL
  case ldc2_w ix =>
    obtain ⟨hd, hnx⟩ := bd hB
    refine lv_ldc2 hx hb hown (hts _ (hT _ List.mem_cons_self)) hd ?_
    exact go hnx h hL
  case iadd =>
    obtain ⟨hd, hnx⟩ := bd hB
    obtain ⟨y, x, r, rfl, h⟩ := iB_spec h
    refine lv_iadd hx hb hd ?_
    exact go hnx h hL
  case isub =>
    obtain ⟨hd, hnx⟩ := bd hB
    obtain ⟨y, x, r, rfl, h⟩ := iB_spec h
    refine lv_isub hx hb hd ?_
    exact go hnx h hL
  case imul =>
    obtain ⟨hd, hnx⟩ := bd hB
    obtain ⟨y, x, r, rfl, h⟩ := iB_spec h
    refine lv_imul hx hb hd ?_
    exact go hnx h hL
  case iand =>
    obtain ⟨hd, hnx⟩ := bd hB
    obtain ⟨y, x, r, rfl, h⟩ := iB_spec h
    refine lv_iand hx hb hd ?_
    exact go hnx h hL
  case ior =>
    obtain ⟨hd, hnx⟩ := bd hB
    obtain ⟨y, x, r, rfl, h⟩ := iB_spec h
    refine lv_ior hx hb hd ?_
    exact go hnx h hL
  case ixor =>
    obtain ⟨hd, hnx⟩ := bd hB
    obtain ⟨y, x, r, rfl, h⟩ := iB_spec h
    refine lv_ixor hx hb hd ?_
    exact go hnx h hL
  case ishl =>
    obtain ⟨hd, hnx⟩ := bd hB
    obtain ⟨y, x, r, rfl, h⟩ := iB_spec h
    refine lv_ishl hx hb hd ?_
    exact go hnx h hL
  case ishr =>
    obtain ⟨hd, hnx⟩ := bd hB
    obtain ⟨y, x, r, rfl, h⟩ := iB_spec h
    refine lv_ishr hx hb hd ?_
    exact go hnx h hL
  case iushr =>
    obtain ⟨hd, hnx⟩ := bd hB
    obtain ⟨y, x, r, rfl, h⟩ := iB_spec h
    refine lv_iushr hx hb hd rfl ?_
    exact go hnx h hL
  case idiv =>
    obtain ⟨hd, hnx⟩ := bd hB
    obtain ⟨y, x, r, rfl, hne, h⟩ := iD_spec h
    refine lv_idiv hx hb hd hne ?_
    exact go hnx h hL
  case irem =>
    obtain ⟨hd, hnx⟩ := bd hB
    obtain ⟨y, x, r, rfl, hne, h⟩ := iD_spec h
    refine lv_irem hx hb hd hne ?_
    exact go hnx h hL
  case ineg =>
    obtain ⟨hd, hnx⟩ := bd hB
    obtain ⟨x, r, rfl, h⟩ := iU_spec h
    refine lv_ineg hx hb hd ?_
    exact go hnx h hL
  case i2b =>
    obtain ⟨hd, hnx⟩ := bd hB
    obtain ⟨x, r, rfl, h⟩ := iU_spec h
    refine lv_i2b hx hb hd rfl ?_
    exact go hnx h hL
  case i2s =>
    obtain ⟨hd, hnx⟩ := bd hB
    obtain ⟨x, r, rfl, h⟩ := iU_spec h
    refine lv_i2s hx hb hd rfl ?_
    exact go hnx h hL
  case i2l =>
    obtain ⟨hd, hnx⟩ := bd hB
    obtain ⟨x, r, rfl, h⟩ := ijU_spec h
    refine lv_i2l hx hb hd rfl ?_
    exact go hnx h hL
  case l2i =>
    obtain ⟨hd, hnx⟩ := bd hB
    obtain ⟨x, r, rfl, h⟩ := jiU_spec h
    refine lv_l2i hx hb hd rfl ?_
    exact go hnx h hL
  case ladd =>
    obtain ⟨hd, hnx⟩ := bd hB
    obtain ⟨y, x, r, rfl, h⟩ := jB_spec h
    refine lv_ladd hx hb hd ?_
    exact go hnx h hL
  case lmul =>
    obtain ⟨hd, hnx⟩ := bd hB
    obtain ⟨y, x, r, rfl, h⟩ := jB_spec h
    refine lv_lmul hx hb hd ?_
    exact go hnx h hL
  case land =>
    obtain ⟨hd, hnx⟩ := bd hB
    obtain ⟨y, x, r, rfl, h⟩ := jB_spec h
    refine lv_land hx hb hd ?_
    exact go hnx h hL
  case lor =>
    obtain ⟨hd, hnx⟩ := bd hB
    obtain ⟨y, x, r, rfl, h⟩ := jB_spec h
    refine lv_lor hx hb hd ?_
    exact go hnx h hL
  case lxor =>
    obtain ⟨hd, hnx⟩ := bd hB
    obtain ⟨y, x, r, rfl, h⟩ := jB_spec h
    refine lv_lxor hx hb hd ?_
    exact go hnx h hL
  case ldiv =>
    obtain ⟨hd, hnx⟩ := bd hB
    obtain ⟨y, x, r, rfl, hne, h⟩ := jD_spec h
    refine lv_ldiv hx hb hd hne ?_
    exact go hnx h hL
  case lrem =>
    obtain ⟨hd, hnx⟩ := bd hB
    obtain ⟨y, x, r, rfl, hne, h⟩ := jD_spec h
    refine lv_lrem hx hb hd hne ?_
    exact go hnx h hL
  case lshl =>
    obtain ⟨hd, hnx⟩ := bd hB
    obtain ⟨y, x, r, rfl, h⟩ := jS_spec h
    refine lv_lshl hx hb hd rfl ?_
    exact go hnx h hL
  case lshr =>
    obtain ⟨hd, hnx⟩ := bd hB
    obtain ⟨y, x, r, rfl, h⟩ := jS_spec h
    refine lv_lshr hx hb hd rfl ?_
    exact go hnx h hL
  case lcmp =>
    obtain ⟨hd, hnx⟩ := bd hB
    obtain ⟨y, x, r, rfl, h⟩ := jC_spec h
    refine W.lcmp hx hb hd ?_
    exact go hnx h hL
  case dup =>
    obtain ⟨hd, hnx⟩ := bd hB
    cases st with
    | nil => exact h.elim
    | cons v r =>
      refine lv_dup hx hb hd (by rw [cV_cat]; exact h.1) ?_
      exact go hnx h.2 hL
  case pop =>
    obtain ⟨hd, hnx⟩ := bd hB
    cases st with
    | nil => exact h.elim
    | cons v r =>
      refine lv_pop hx hb hd (by rw [cV_cat]; exact h.1) ?_
      exact go hnx h.2 hL
  case goto o =>
    obtain ⟨hd, ht⟩ := bd hB
    refine lv_goto hx hb hd ht ?_
    exact go rfl h hL
  case ifnull o =>
    obtain ⟨hd, ht⟩ := bt hB
    obtain ⟨ht, hnx⟩ := bd ht
    obtain ⟨x, r, rfl, h⟩ := rfN_spec h
    refine lv_ifnull hx hb hd ?_
    exact go hnx h hL
  case ifnonnull o =>
    obtain ⟨hd, ht⟩ := bt hB
    obtain ⟨ht, hnx⟩ := bd ht
    obtain ⟨x, r, rfl, h⟩ := rfN_spec h
    refine lv_ifnonnull hx hb hd ht ?_
    exact go rfl h hL
  case ifCond q o =>
    obtain ⟨hd, ht0⟩ := bt hB
    obtain ⟨ht, hnx⟩ := bd ht0
    cases q
    case eq =>
      obtain ⟨x, r, rfl, h1, h2⟩ := izC_spec h
      exact lv_if_eq hx hb hd ht (fun z => go rfl (h1 z) hL) (fun z => go hnx (h2 z) hL)
    case ne =>
      obtain ⟨x, r, rfl, h1, h2⟩ := izC_spec h
      exact lv_if_ne hx hb hd ht (fun z => go rfl (h2 z) hL) (fun z => go hnx (h1 z) hL)
    case lt =>
      obtain ⟨x, r, rfl, h1, h2⟩ := izC_spec h
      exact lv_if_lt hx hb hd ht (fun z => go rfl (h1 z) hL) (fun z => go hnx (h2 z) hL)
    case ge =>
      obtain ⟨x, r, rfl, h1, h2⟩ := izC_spec h
      exact lv_if_ge hx hb hd ht (fun z => go rfl (h1 z) hL) (fun z => go hnx (h2 z) hL)
    case gt =>
      obtain ⟨x, r, rfl, h1, h2⟩ := izC_spec h
      exact lv_if_gt hx hb hd ht (fun z => go rfl (h1 z) hL) (fun z => go hnx (h2 z) hL)
    case le =>
      obtain ⟨x, r, rfl, h1, h2⟩ := izC_spec h
      exact lv_if_le hx hb hd ht (fun z => go rfl (h1 z) hL) (fun z => go hnx (h2 z) hL)
  case if_icmp q o =>
    obtain ⟨hd, ht0⟩ := bt hB
    obtain ⟨ht, hnx⟩ := bd ht0
    cases q
    case eq =>
      obtain ⟨y, x, r, rfl, h1, h2⟩ := icC_spec h
      exact lv_icmp_eq hx hb hd ht (fun z => go rfl (h1 z) hL) (fun z => go hnx (h2 z) hL)
    case ne =>
      obtain ⟨y, x, r, rfl, h1, h2⟩ := icC_spec h
      exact lv_icmp_ne hx hb hd ht (fun z => go rfl (h2 z) hL) (fun z => go hnx (h1 z) hL)
    case lt =>
      obtain ⟨y, x, r, rfl, h1, h2⟩ := icC_spec h
      exact lv_icmp_lt hx hb hd ht (fun z => go rfl (h1 z) hL) (fun z => go hnx (h2 z) hL)
    case ge =>
      obtain ⟨y, x, r, rfl, h1, h2⟩ := icC_spec h
      exact lv_icmp_ge hx hb hd ht (fun z => go rfl (h1 z) hL) (fun z => go hnx (h2 z) hL)
    case gt =>
      obtain ⟨y, x, r, rfl, h1, h2⟩ := icC_spec h
      exact lv_icmp_gt hx hb hd ht (fun z => go rfl (h1 z) hL) (fun z => go hnx (h2 z) hL)
    case le =>
      obtain ⟨y, x, r, rfl, h1, h2⟩ := icC_spec h
      exact lv_icmp_le hx hb hd ht (fun z => go rfl (h1 z) hL) (fun z => go hnx (h2 z) hL)
  all_goals first | exact h.elim | exact other trivial
end
section
theorem iw_X0 : ∀ w ∈ wsX00, w ∈ TBL := fun w h => List.mem_filter.mpr ⟨(by decide +kernel : ∀ w ∈ wsX00, w ∈ lw_tbl) w h, (by decide +kernel : ∀ w ∈ wsX00, goodWord w = true) w h⟩
theorem iw_X1 : ∀ w ∈ wsX10, w ∈ TBL := fun w h => List.mem_filter.mpr ⟨(by decide +kernel : ∀ w ∈ wsX10, w ∈ lw_tbl) w h, (by decide +kernel : ∀ w ∈ wsX10, goodWord w = true) w h⟩
theorem iw_X2 : ∀ w ∈ wsX20, w ∈ TBL := fun w h => List.mem_filter.mpr ⟨(by decide +kernel : ∀ w ∈ wsX20, w ∈ lw_tbl) w h, (by decide +kernel : ∀ w ∈ wsX20, goodWord w = true) w h⟩
theorem iw_X3 : ∀ w ∈ wsX30, w ∈ TBL := fun w h => List.mem_filter.mpr ⟨(by decide +kernel : ∀ w ∈ wsX30, w ∈ lw_tbl) w h, (by decide +kernel : ∀ w ∈ wsX30, goodWord w = true) w h⟩
theorem iw_X4 : ∀ w ∈ wsX40, w ∈ TBL := fun w h => List.mem_filter.mpr ⟨(by decide +kernel : ∀ w ∈ wsX40, w ∈ lw_tbl) w h, (by decide +kernel : ∀ w ∈ wsX40, goodWord w = true) w h⟩
theorem iw_X5 : ∀ w ∈ wsX50, w ∈ TBL := fun w h => List.mem_filter.mpr ⟨(by decide +kernel : ∀ w ∈ wsX50, w ∈ lw_tbl) w h, (by decide +kernel : ∀ w ∈ wsX50, goodWord w = true) w h⟩
theorem iw_X6 : ∀ w ∈ wsX60, w ∈ TBL := fun w h => List.mem_filter.mpr ⟨(by decide +kernel : ∀ w ∈ wsX60, w ∈ lw_tbl) w h, (by decide +kernel : ∀ w ∈ wsX60, goodWord w = true) w h⟩
theorem iw_X7 : ∀ w ∈ wsX70, w ∈ TBL := fun w h => List.mem_filter.mpr ⟨(by decide +kernel : ∀ w ∈ wsX70, w ∈ lw_tbl) w h, (by decide +kernel : ∀ w ∈ wsX70, goodWord w = true) w h⟩
theorem iw_X8 : ∀ w ∈ wsX80, w ∈ TBL := fun w h => List.mem_filter.mpr ⟨(by decide +kernel : ∀ w ∈ wsX80, w ∈ lw_tbl) w h, (by decide +kernel : ∀ w ∈ wsX80, goodWord w = true) w h⟩
theorem cd_all : ∀ a, a < 9 → ∀ b, b < clS a → (clF a b).1 = clN a := by decide +kernel
/-- what holds of a class and its place -/
def clAll (a : Nat) : Prop := (∀ w ∈ u_ws (clN a) (clF a) (clS a), w ∈ TBL) ∧ (∀ k, k < clS a → parseFieldDescriptor (clF a k).2.2.1 = some ((clTy.getD a tyX0) k)) ∧ (∀ x, x < clS a → ∀ y, y < clS a → x ≠ y → (clF a x).2.1 ≠ (clF a y).2.1) ∧ ∀ b, b < clS a → (clF a b).1 = clN a
theorem cl_all {a b : Nat} (h : clOk a b = true) : vwCl[a]? = some (clN a, clF a, clS a) ∧ b < clS a ∧ clAll a := by
  have ha : a < 9 := by
    unfold clOk at h
    cases hq : vwCl[a]? with
    | none => rw [hq] at h; cases h
    | some q => exact (List.getElem?_eq_some_iff.mp hq).1
  have hd := cd_all a ha
  match a, ha with
  | 0, _ => exact ⟨rfl, Nat.blt_eq.mp h, iw_X0, tyX0_ok, nmX0, hd⟩
  | 1, _ => exact ⟨rfl, Nat.blt_eq.mp h, iw_X1, tyX1_ok, nmX1, hd⟩
  | 2, _ => exact ⟨rfl, Nat.blt_eq.mp h, iw_X2, tyX2_ok, nmX2, hd⟩
  | 3, _ => exact ⟨rfl, Nat.blt_eq.mp h, iw_X3, tyX3_ok, nmX3, hd⟩
  | 4, _ => exact ⟨rfl, Nat.blt_eq.mp h, iw_X4, tyX4_ok, nmX4, hd⟩
  | 5, _ => exact ⟨rfl, Nat.blt_eq.mp h, iw_X5, tyX5_ok, nmX5, hd⟩
  | 6, _ => exact ⟨rfl, Nat.blt_eq.mp h, iw_X6, tyX6_ok, nmX6, hd⟩
  | 7, _ => exact ⟨rfl, Nat.blt_eq.mp h, iw_X7, tyX7_ok, nmX7, hd⟩
  | 8, _ => exact ⟨rfl, Nat.blt_eq.mp h, iw_X8, tyX8_ok, nmX8, hd⟩
theorem cE_seI {ad tc : Nat → Nat} {xs : List Int32} {j : Nat} {x : Int32} (h : j < xs.length) : (Sum.inl (tc 0, xs.length, Sum.inl (upd (fun q => xs.getD q 0) j x)) : va_E) = cE ad tc (AI (xs.set j x)) := by
  have e : upd (fun q => xs.getD q 0) j x = fun q => (xs.set j x).getD q 0 := by
    funext q
    unfold upd
    by_cases hq : q = j
    · subst hq
      simp [h]
    · rw [if_neg hq]
      simp [List.getD_eq_getElem?_getD, List.getElem?_set_ne (fun z => hq z.symm)]
  rw [e]
  simp [cE]
theorem putOk_spec {ty : FieldType} {v : Value} (ad : Nat → Nat) (h : putOk ty v) : narrow ty (cV ad v) = cV ad v ∧ fits ty (cV ad v) = true := by
  unfold putOk at h
  split at h
  · exact ⟨rfl, rfl⟩
  · rcases h with rfl | rfl <;> exact ⟨rfl, rfl⟩
  · exact ⟨rfl, rfl⟩
  · exact ⟨rfl, rfl⟩
  · exact h.elim
theorem cV_dfl (ad : Nat → Nat) (a N : Nat) : (dfl a N).map (cV ad) = dfl a N := by
  unfold dfl
  rw [List.map_map]
  apply List.map_congr_left
  intro j _
  show cV ad (defaultValue _) = defaultValue _
  cases (clTy.getD a tyX0) j <;> rfl
theorem cW_push {ad tc : Nat → Nat} {hp : AH} {q : Nat} {x : AC} {z : va_E} (h : rOkH hp.length hp = true) (hz : cE (fun k => if k = hp.length then q else ad k) tc x = z) (hn : hp.length < 1000) : cW (fun k => if k = hp.length then q else ad k) tc (hp ++ [x]) = cW ad tc hp ++ [(q, z)] := by
  have e := rOkH_cW (ad := ad) (ad' := fun k => if k = hp.length then q else ad k) (tc := tc) (n := hp.length) (fun k hk => if_neg (by rcases hk with hk | hk <;> omega)) rfl h
  have : cW (fun k => if k = hp.length then q else ad k) tc (hp ++ [x]) = cW (fun k => if k = hp.length then q else ad k) tc hp ++ [((fun k => if k = hp.length then q else ad k) hp.length, cE (fun k => if k = hp.length then q else ad k) tc x)] := by
    unfold cW
    rw [List.mapIdx_append]
    simp
  rw [this, e, hz]
  simp
theorem cE_seL {ad tc : Nat → Nat} {xs : List Int64} {j : Nat} {x : Int64} (h : j < xs.length) : (Sum.inl (tc 1, xs.length, Sum.inr (Sum.inl (vp_updL (fun q => xs.getD q 0) j x))) : va_E) = cE ad tc (AL (xs.set j x)) := by
  have e : vp_updL (fun q => xs.getD q 0) j x = fun q => (xs.set j x).getD q 0 := by
    funext q
    unfold vp_updL
    by_cases hq : q = j
    · subst hq
      simp [h]
    · rw [if_neg hq]
      simp [List.getD_eq_getElem?_getD, List.getElem?_set_ne (fun z => hq z.symm)]
  rw [e]
  simp [cE]
theorem rep_cellI (cA : ClassId) (N : Nat) : vp_cell cA ((List.replicate N (0 : Int32)).length, Sum.inl (fun j => (List.replicate N (0 : Int32)).getD j 0)) = arrV cA N (fun _ => defaultValue .int) := by
  have e : (fun j => (List.replicate N (0 : Int32)).getD j 0) = fun _ => 0 := by
    funext j
    by_cases h : j < N <;> simp [List.getD_eq_getElem?_getD, List.getElem?_replicate, h]
  rw [e]
  simp [vp_cell, defaultValue]
theorem rep_cellL (cA : ClassId) (N : Nat) : vp_cell cA ((List.replicate N (0 : Int64)).length, Sum.inr (Sum.inl (fun j => (List.replicate N (0 : Int64)).getD j 0))) = arrV cA N (fun _ => defaultValue .long) := by
  have e : (fun j => (List.replicate N (0 : Int64)).getD j 0) = fun _ => 0 := by
    funext j
    by_cases h : j < N <;> simp [List.getD_eq_getElem?_getD, List.getElem?_replicate, h]
  rw [e]
  simp [vp_cell, defaultValue]
theorem swT_spec {x : Int32} {K : Nat → Prop} : ∀ {ts : List Nat} {lo : Int} {j t : Nat}, swT x lo ts K → ts[j]? = some t → x = Int32.ofInt (lo + (j : Int)) → K t := by
  intro ts
  induction ts with
  | nil => intro lo j t h hj; simp at hj
  | cons a r ih =>
    intro lo j t h hj hx
    cases j with
    | zero =>
      simp at hj
      subst hj
      exact h.1 (by rw [hx]; simp)
    | succ j => exact ih h.2 (by simpa using hj) (by rw [hx]; congr 1; omega)
theorem swL_spec {x : Int32} {K : Nat → Prop} {pc : Nat} {code : List Row} {d : Int} {a : Nat} (hd : (pc : Int) + d = (pcO code a : Int)) : ∀ {ps : List (Int × Int)} {ts : List Nat}, ps.map (fun o => (pc : Int) + o.2) = ts.map (fun t => (pcO code t : Int)) → (∀ o ∈ ps, (Int32.ofInt o.1).toInt = o.1) → swL x ps ts K → ((∀ o ∈ ps, ¬ x = Int32.ofInt o.1) → K a) → ∃ (off : Int) (t : Nat), Op.lookupswitch.offset ps d x.toInt = off ∧ (pc : Int) + off = (pcO code t : Int) ∧ K t := by
  intro ps
  induction ps with
  | nil => intro ts h1 h2 h3 h4; exact ⟨d, a, rfl, hd, h4 (fun _ z => by cases z)⟩
  | cons o r ih =>
    intro ts h1 h2 h3 h4
    cases ts with
    | nil => simp at h1
    | cons t ts =>
      simp only [List.map_cons, List.cons.injEq] at h1
      obtain ⟨a0, o0⟩ := o
      rw [Op.lookupswitch.offset_cons]
      by_cases hx : a0 = x.toInt
      · exact ⟨o0, t, if_pos hx, h1.1, h3.1 (by rw [hx]; simp)⟩
      · rw [if_neg hx]
        refine ih h1.2 (fun o ho => h2 o (List.mem_cons_of_mem _ ho)) h3.2 (fun hn => h4 (fun o ho => ?_))
        rcases List.mem_cons.mp ho with rfl | ho
        · intro z
          apply hx
          rw [z]
          exact (h2 _ List.mem_cons_self).symm
        · exact hn o ho
theorem rowI_spec {X : List (List Int32)} {hp : AH} {q : Nat} {xs : List Int32} (h : rowI X hp q = some xs) : (1000 ≤ q ∧ X[q - 1000]? = some xs) ∨ hp[q]? = some (AI xs) := by
  unfold rowI at h
  split at h
  · rename_i hq
    exact Or.inl ⟨Nat.le_of_ble_eq_true hq, h⟩
  · split at h
    · rename_i ys hy
      cases h
      exact Or.inr hy
    · cases h
end
section
theorem sg_good {g : Sig} (h : Cond.code (sY g) (sB g) (sL g) (sR g) ∈ TBL) : GoodIn TBL (sgW g) := TBL_good (fun w hw => (List.mem_cons.mp hw).elim (fun e => by rw [e]; exact h) id)
theorem adK.trans {n0 n1 M mc : Nat} {ad0 ad ad' : Nat → Nat} (h : adK n0 M ad0 ad) (h' : adK n1 mc ad ad') (hn : n0 ≤ n1) (hm : mc ≤ M) : adK n0 M ad0 ad' :=
  ⟨fun k hk => (h'.1 k (hk.imp (fun q => by omega) id)).trans (h.1 k hk), fun hM => (h'.2 (by omega)).trans (h.2 hM)⟩
section CALLS
variable {p : Program} {l : Launch} {e : Env} {R : Room} {s : State} {m : MethodId} {args : Array Value} {below : List Frame} {meth : Method} {c : Code} {H : Heap} {locs : List Loc} {k n : Nat} {Z : State → Prop}
variable {X : List (List Int32)} {g cs : Sig} {D : va_G} {tc ad ad0 : Nat → Nat} {A : Nat → Prop} {hp : AH} {ls : Array Slot} {pc : Nat} {as r st0 : List Value} {Rq : AH → Option Value → Prop} {d' ix : Nat}
theorem call_end {a0 : Array Value} (hrun : va_Run p l e R s m args below meth c H locs k n (sC cs) (sS cs) (F0 m pc ls st0) (r.map (cV ad)) (CPost (sC cs) D tc ad H.size hp Rq a0) (va_A (cW ad tc hp) H.size))
    (hW : WR D tc ad A s hp H locs) (hA : ∀ q, s.heap.size ≤ q → A q)
    (kk : ∀ (v : Option Value) (hp' : AH) (ad' : Nat → Nat) (H' : Heap) (locs' : List Loc), Rq hp' v → adK hp.length (sC cs) ad ad' → hp.length ≤ hp'.length → WR D tc ad' A s hp' H' locs' → W p l e R s m args below meth c H' locs' (k + sC cs) (n + sS cs) Z (F0 m (pc + 3) ls (v.toList.map (cV ad') ++ r.map (cV ad)))) :
    W p l e R s m args below meth c H locs k n Z (F0 m pc ls st0) := by
  obtain ⟨hP, hD, hS⟩ := hW
  have hAA := va_D_A hD hS hA
  refine va_callg hrun hS (fun st oc t h => h.2) hAA hAA (fun v st₀ t H1 locs1 h0 h1 hq hS1 => ?_)
  obtain ⟨⟨w, hp', ad', ho, hR, hak, hln, hP', hD'⟩, -⟩ := hq
  cases ho
  have := kk w hp' ad' H1 locs1 hR hak hln ⟨by rw [← h1]; exact hP', hD'.weaken (fun _ _ _ h => hAA _ h), hS1⟩
  cases w <;> exact this
theorem call_pre (hW : WR D tc ad A s hp H locs) (hA : ∀ q, s.heap.size ≤ q → A q) (hEF : EF X D tc (fun j => ad (1000 + j)) A s) : PreS s H (va_Pc (as.map (cV ad)) (CPre X D tc ad H.size hp)) (as.map (cV ad)) :=
  ⟨CPre_blind, fun U hU hw => ⟨rfl, by rw [hU], by rw [hU]; exact hW.1, hW.2.1.weaken (fun _ _ _ _ => trivial), EF_call hEF hW.2.2 hU hw (va_D_A hW.2.1 hW.2.2 hA)⟩⟩
theorem call_room (hc : catN r ≤ 8) : 2 * (F0 m pc ls st0).monitorRoom + ((r.map (cV ad)).map fun v => v.category).sum ≤ 8 := lv_room (pc := pc) (m := m) (ls := ls) (rest := st0) (by rw [catN_sum]; exact hc)
/-- a static method -/
theorem call_st (hC : Ctr l d' X cs as hp Rq) (S : CallFix p m c (sB g) (sL g) s args TBL (sY g).cls) (hW : WR D tc ad A s hp H locs) (hA : ∀ q, s.heap.size ≤ q → A q) (hEF : EF X D tc (fun j => ad (1000 + j)) A s) (hLs : ls.size = sL g)
    (hd : decode (sB g) pc = .ok (.invokestatic ix, 3)) (hc : catN r ≤ 8) (hn : as.length = sA cs) (hsg : sgOk cs (sA cs) = true) (hT : ∀ w ∈ [Cond.static (sY cs), .initialized (sY cs).cls, .code (sY cs) (sB cs) (sL cs) (sR cs)], w ∈ TBL) {own : String} (hown : own = (sY g).cls) {z : Int}
    (hT0 : z = 0 → Cond.methodLink own ix (sY cs) ∈ TBL) (hN : z = 1 → Cond.methodLinkNest own ix (sY cs) "SaidTwice" ∈ NWL) (hz : z = 0 ∨ z = 1)
    (hR : d' + 1 ≤ R.frames ∧ 8 + (sL cs + 11) + 64 * d' ≤ R.locals ∧ k + sC cs ≤ R.cells ∧ n + sS cs ≤ R.slots)
    (kk : ∀ (v : Option Value) (hp' : AH) (ad' : Nat → Nat) (H' : Heap) (locs' : List Loc), Rq hp' v → adK hp.length (sC cs) ad ad' → hp.length ≤ hp'.length → WR D tc ad' A s hp' H' locs' → W p l e R s m args below meth c H' locs' (k + sC cs) (n + sS cs) Z (F0 m (pc + 3) ls (v.toList.map (cV ad') ++ r.map (cV ad)))) :
    W p l e R s m args below meth c H locs k n Z (F0 m pc ls ((as.reverse ++ r).map (cV ad))) := by
  subst hown
  have hts := S.2.2.2.2
  simp only [sgOk, Bool.and_eq_true, decide_eq_true_eq] at hsg
  have hcode : Cond.code (sY cs) (sB cs) (sL cs) (sR cs) ∈ TBL := hT _ (by simp)
  have hG : GoodIn TBL (sgW cs) := sg_good hcode
  have hini := hts (.initialized (sY cs).cls) (hT _ (by simp))
  have hst := hts (.static (sY cs)) (hT _ (by simp))
  have hstack : (as.reverse ++ r).map (cV ad) = (as.map (cV ad)).reverse ++ r.map (cV ad) := by simp
  have hCS := hC D tc ad H.size
  refine call_end (a0 := (as.map (cV ad)).toArray) ?_ hW hA kk
  rcases hz with rfl | rfl
  · have hlink := hts (.methodLink (sY g).cls ix (sY cs)) (hT0 rfl)
    exact va_runS S hCS ⟨callB_of (sA cs) hts hG rfl rfl rfl hini hlink ⟨hsg.1.1, hsg.1.2, hsg.2⟩ ⟨hR.1, hR.2.1⟩, hst⟩ (call_pre hW hA hEF) rfl (by simp [hn]) hLs hstack (call_room hc) hd ⟨hR.2.2.1, hR.2.2.2⟩
  · have hlink := S
    exact va_runSN S hCS ⟨va_cnB (sA cs) hts hG rfl rfl rfl (hEF.2.1 _ (hN rfl)) hini ⟨hsg.1.1, hsg.1.2, hsg.2⟩ ⟨hR.1, hR.2.1⟩, hst, trivial⟩ (call_pre hW hA hEF) rfl (by simp [hn]) hLs hstack (call_room hc) hd ⟨hR.2.2.1, hR.2.2.2⟩
/-- a method of an object -/
theorem call_vi (hC : Ctr l d' X cs as hp Rq) (S : CallFix p m c (sB g) (sL g) s args TBL (sY g).cls) (hW : WR D tc ad A s hp H locs) (hA : ∀ q, s.heap.size ≤ q → A q) (hEF : EF X D tc (fun j => ad (1000 + j)) A s) (hLs : ls.size = sL g)
    (hd : decode (sB g) pc = .ok (.invokevirtual ix, 3)) (hc : catN r ≤ 8) (hn : as.length = sA cs) {q a : Nat} {as' : List Value} (has : as = .ref q :: as') (hsg : sgOk cs (sA cs - 1) = true) {fs : List Value} (hq : hp[q]? = some (AO a fs)) (hcl : clOk a 0 = true) (hcn : (sY cs).cls = clN a) (hT : ∀ w ∈ [Cond.instanceMethod (sY cs), .selects (clN a) (sY cs) (sY cs), .initialized (sY cs).cls, .code (sY cs) (sB cs) (sL cs) (sR cs)], w ∈ TBL) {own : String} (hown : own = (sY g).cls) {z : Int}
    (hT0 : z = 0 → Cond.methodLink own ix (sY cs) ∈ TBL) (hN : z = 1 → Cond.methodLinkNest own ix (sY cs) "SaidTwice" ∈ NWL) (hz : z = 0 ∨ z = 1)
    (hR : d' + 1 ≤ R.frames ∧ 8 + (sL cs + 11) + 64 * d' ≤ R.locals ∧ k + sC cs ≤ R.cells ∧ n + sS cs ≤ R.slots)
    (kk : ∀ (v : Option Value) (hp' : AH) (ad' : Nat → Nat) (H' : Heap) (locs' : List Loc), Rq hp' v → adK hp.length (sC cs) ad ad' → hp.length ≤ hp'.length → WR D tc ad' A s hp' H' locs' → W p l e R s m args below meth c H' locs' (k + sC cs) (n + sS cs) Z (F0 m (pc + 3) ls (v.toList.map (cV ad') ++ r.map (cV ad)))) :
    W p l e R s m args below meth c H locs k n Z (F0 m pc ls ((as.reverse ++ r).map (cV ad))) := by
  subst hown
  subst has
  have hts := S.2.2.2.2
  simp only [sgOk, Bool.and_eq_true, decide_eq_true_eq] at hsg
  have hcode : Cond.code (sY cs) (sB cs) (sL cs) (sR cs) ∈ TBL := hT _ (by simp)
  have hG : GoodIn TBL (sgW cs) := sg_good hcode
  have hini := hts (.initialized (sY cs).cls) (hT _ (by simp))
  have hin := hts (.instanceMethod (sY cs)) (hT _ (by simp))
  have hse : (Cond.selects (sY cs).cls (sY cs) (sY cs)).before args s = true := by rw [hcn]; exact hts (.selects (clN a) (sY cs) (sY cs)) (hT _ (by simp))
  have hstack : ((Value.ref q :: as').reverse ++ r).map (cV ad) = (as'.map (cV ad)).reverse ++ .ref (ad q) :: r.map (cV ad) := by simp [cV]
  have hCS := hC D tc ad H.size
  obtain ⟨hcl1, -, -⟩ := cl_all hcl
  have hrecv := va_recv hEF.1 hW.1 hcl1 (cW_get (ad := ad) (tc := tc) hq)
  have hpre := call_pre (as := .ref q :: as') hW hA hEF
  have hp' : PreV s H (sY cs).cls (ad q) (va_Pc ((Value.ref q :: as').map (cV ad)) (CPre X D tc ad H.size hp)) (as'.map (cV ad)) := ⟨hpre.1, by rw [hcn]; exact hrecv, hpre.2⟩
  have hn' : as'.length = sA cs - 1 := by simp at hn; omega
  refine call_end (a0 := ((Value.ref q :: as').map (cV ad)).toArray) ?_ hW hA kk
  rcases hz with rfl | rfl
  · have hlink := hts (.methodLink (sY g).cls ix (sY cs)) (hT0 rfl)
    exact va_runV S hCS ⟨callB_of (sA cs - 1) hts hG rfl rfl rfl hini hlink ⟨hsg.1.1, hsg.1.2, hsg.2⟩ ⟨hR.1, hR.2.1⟩, hin, hse⟩ hp' rfl (by simp [hn']) hLs hstack (call_room hc) hd ⟨hR.2.2.1, hR.2.2.2⟩
  · exact va_runVN S hCS ⟨va_cnB (sA cs - 1) hts hG rfl rfl rfl (hEF.2.1 _ (hN rfl)) hini ⟨hsg.1.1, hsg.1.2, hsg.2⟩ ⟨hR.1, hR.2.1⟩, hin, hse⟩ hp' rfl (by simp [hn']) hLs hstack (call_room hc) hd ⟨hR.2.2.1, hR.2.2.2⟩
/-- a constructor -/
theorem call_sp (hC : Ctr l d' X cs as hp Rq) (S : CallFix p m c (sB g) (sL g) s args TBL (sY g).cls) (hW : WR D tc ad A s hp H locs) (hA : ∀ q, s.heap.size ≤ q → A q) (hEF : EF X D tc (fun j => ad (1000 + j)) A s) (hLs : ls.size = sL g)
    (hd : decode (sB g) pc = .ok (.invokespecial ix, 3)) (hc : catN r ≤ 8) (hn : as.length = sA cs) {q : Nat} {as' : List Value} (has : as = .ref q :: as') (hsg : sgOk cs (sA cs - 1) = true) (hinit : (sY cs).name = "<init>") (hret : sR cs = none) (hT : ∀ w ∈ [Cond.instanceMethod (sY cs), .initialized (sY cs).cls, .code (sY cs) (sB cs) (sL cs) (sR cs)], w ∈ TBL) {own : String} (hown : own = (sY g).cls) {z : Int}
    (hT0 : z = 0 → Cond.methodLink own ix (sY cs) ∈ TBL) (hN : z = 1 → Cond.methodLinkNest own ix (sY cs) "SaidTwice" ∈ NWL) (hz : z = 0 ∨ z = 1)
    (hR : d' + 1 ≤ R.frames ∧ 8 + (sL cs + 11) + 64 * d' ≤ R.locals ∧ k + sC cs ≤ R.cells ∧ n + sS cs ≤ R.slots)
    (kk : ∀ (v : Option Value) (hp' : AH) (ad' : Nat → Nat) (H' : Heap) (locs' : List Loc), Rq hp' v → adK hp.length (sC cs) ad ad' → hp.length ≤ hp'.length → WR D tc ad' A s hp' H' locs' → W p l e R s m args below meth c H' locs' (k + sC cs) (n + sS cs) Z (F0 m (pc + 3) ls (v.toList.map (cV ad') ++ r.map (cV ad)))) :
    W p l e R s m args below meth c H locs k n Z (F0 m pc ls ((as.reverse ++ r).map (cV ad))) := by
  subst hown
  subst has
  have hts := S.2.2.2.2
  simp only [sgOk, Bool.and_eq_true, decide_eq_true_eq] at hsg
  have hcode : Cond.code (sY cs) (sB cs) (sL cs) (sR cs) ∈ TBL := hT _ (by simp)
  have hG : GoodIn TBL (sgW cs) := sg_good hcode
  have hini := hts (.initialized (sY cs).cls) (hT _ (by simp))
  have hin := hts (.instanceMethod (sY cs)) (hT _ (by simp))
  have hstack : ((Value.ref q :: as').reverse ++ r).map (cV ad) = (as'.map (cV ad)).reverse ++ .ref (ad q) :: r.map (cV ad) := by simp [cV]
  have hCS := hC D tc ad H.size
  have hpre := call_pre (as := .ref q :: as') hW hA hEF
  have hn' : as'.length = sA cs - 1 := by simp at hn; omega
  have hwc : sgW cs = Cond.code (sY cs) (sB cs) (sL cs) none :: TBL := by rw [← hret]; rfl
  refine call_end (a0 := ((Value.ref q :: as').map (cV ad)).toArray) ?_ hW hA kk
  rcases hz with rfl | rfl
  · have hlink := hts (.methodLink (sY g).cls ix (sY cs)) (hT0 rfl)
    exact va_runI S hCS ⟨callB_of (sA cs - 1) hts hG hwc rfl rfl hini hlink ⟨hsg.1.1, hsg.1.2, hsg.2⟩ ⟨hR.1, hR.2.1⟩, hinit, hin⟩ hpre rfl (by simp [hn']) hLs hstack (call_room hc) hd ⟨hR.2.2.1, hR.2.2.2⟩
  · exact va_runIN S hCS ⟨va_cnB (sA cs - 1) hts hG hwc rfl rfl (hEF.2.1 _ (hN rfl)) hini ⟨hsg.1.1, hsg.1.2, hsg.2⟩ ⟨hR.1, hR.2.1⟩, hinit, hin⟩ hpre rfl (by simp [hn']) hLs hstack (call_room hc) hd ⟨hR.2.2.1, hR.2.2.2⟩
end CALLS
end
section
set_option maxHeartbeats 4000000 in
set_option maxRecDepth 100000 in
/-- one instruction: what the abstract machine does, the machine does -/
theorem stp_sound {l : Launch} {R : Room} {X : List (List Int32)} {g : Sig} {code : List Row} {Q : AH → Option Value → Prop} {P : PP} (hC : Chk g code) (hP : ∀ i al st hp k n, P i al st hp k n → WP l R X g code Q i al st hp k n)
    {i : Nat} {al : LO} {st : List Value} {hp : AH} {k n : Nat} (h : stp l R X g code Q P i al st hp k n) : WP l R X g code Q i al st hp k n := by
  intro p e s m args below meth c D tc ad ad0 n0 A Z H locs ls hAF hZ hW hadk hn0 hk hn hL
  cases hrow : code[i]? with
  | none => unfold stp at h; rw [hrow] at h; exact h.elim
  | some row =>
  obtain ⟨ins, pc, nx, a, b, cc, ts, cs⟩ := row
  have hpc : pcO code i = pc := by simp [pcO, hrow]
  rw [hpc]
  have hAF0 := hAF
  obtain ⟨hx, hb, hml, hown, hts, hnm, hEF0, hA⟩ := hAF
  obtain ⟨hPw, hD, hS⟩ := hW
  have hmem := List.mem_of_getElem? hrow
  have hB : rowB g code (ins, pc, nx, a, b, cc, ts, cs) = true := linB_spec (code := code) (pre := []) rfl hC.1 _ hmem
  have hcall := allC_mem hC.2.1 _ hmem
  have hT : ∀ w ∈ needT (sY g).cls (ins, pc, nx, a, b, cc, ts, cs), w ∈ TBL := fun w h => hC.2.2.1 w (List.mem_flatMap.mpr ⟨_, hmem, h⟩)
  have hN : ∀ w ∈ needN (sY g).cls (ins, pc, nx, a, b, cc, ts, cs), w ∈ NWL := fun w h => hC.2.2.2.1 w (List.mem_flatMap.mpr ⟨_, hmem, h⟩)
  have hxa : (fun j => ad (1000 + j)) = (fun j => ad0 (1000 + j)) := by
    funext j
    exact hadk.1 _ (Or.inr (by omega))
  have hEF : EF X D tc (fun j => ad (1000 + j)) A s := by rw [hxa]; exact hEF0
  have hK := hEF.1
  have hSf : CallFix p m c (sB g) (sL g) s args TBL (sY g).cls := ⟨hx, hb, hml, hown, hts⟩
  have go : ∀ {i' pc' : Nat} {al' : LO} {st' : List Value} {ls' : Array Slot}, pcO code i' = pc' → P i' al' st' hp k n → LR ad (sL g) al' ls' → W p l e R s m args below meth c H locs k n Z (F0 m pc' ls' (st'.map (cV ad))) := by
    intro i' pc' al' st' ls' hq h1 h2
    subst hq
    exact hP _ _ _ _ _ _ h1 p e s m args below meth c D tc ad ad0 n0 A Z H locs ls' hAF0 hZ ⟨hPw, hD, hS⟩ hadk hn0 hk hn h2
  have goH : ∀ {i' pc' : Nat} {st' : List Value} {hp' : AH} {H' : Heap} {locs' : List Loc}, pcO code i' = pc' → P i' al st' hp' k n → WR D tc ad A s hp' H' locs' → hp'.length = hp.length → W p l e R s m args below meth c H' locs' k n Z (F0 m pc' ls (st'.map (cV ad))) := by
    intro i' pc' st' hp' H' locs' hq h1 h2 h3
    subst hq
    exact hP _ _ _ _ _ _ h1 p e s m args below meth c D tc ad ad0 n0 A Z H' locs' ls hAF0 hZ h2 hadk (by omega) hk hn hL
  have goC : ∀ {as r st' : List Value} {Rq : AH → Option Value → Prop} {pc' : Nat}, (Nat.beq (sC cs) 0 || (rOkS hp.length r && rOkL hp.length al)) = true → k + sC cs ≤ R.cells → n + sS cs ≤ R.slots → pcO code nx = pc' → (∀ hp' v, Rq hp' v → P nx al (v.toList ++ r) hp' (k + sC cs) (n + sS cs)) →
      ∀ (v : Option Value) (hp' : AH) (ad' : Nat → Nat) (H' : Heap) (locs' : List Loc), Rq hp' v → adK hp.length (sC cs) ad ad' → hp.length ≤ hp'.length → WR D tc ad' A s hp' H' locs' → W p l e R s m args below meth c H' locs' (k + sC cs) (n + sS cs) Z (F0 m pc' ls (v.toList.map (cV ad') ++ r.map (cV ad))) := by
    intro as r st' Rq pc' hok hk1 hn1 hq hall v hp' ad' H' locs' hR hak hlen hW'
    subst hq
    have hre : r.map (cV ad') = r.map (cV ad) ∧ LR ad' (sL g) al ls := by
      by_cases h0 : sC cs = 0
      · rw [hak.2 h0]
        exact ⟨rfl, hL⟩
      · simp only [Bool.or_eq_true, Bool.and_eq_true] at hok
        rcases hok with z | ⟨z1, z2⟩
        · exact absurd (Nat.eq_of_beq_eq_true z) h0
        · exact ⟨rOkS_map hak.1 r z1, hL.kept hak.1 z2⟩
    have := hP _ _ _ _ _ _ (hall hp' v hR) p e s m args below meth c D tc ad' ad0 n0 A Z H' locs' ls hAF0 hZ hW' (hadk.trans hak hn0 (by omega)) (by omega) hk1 hn1 hre.2
    rw [List.map_append, hre.1] at this
    exact this
  refine stp_plain (D := D) (tc := tc) (A := A) hC hB hT hrow h hx hb hown hts hL go (fun hoth => ?_)
  unfold stp at h
  rw [hrow] at h
  dsimp only at h
  cases ins
  case arraylength =>
    try dsimp only at h
    obtain ⟨hd, hnx⟩ := bd hB
    split at h
    · rename_i q r
      obtain ⟨xs, hxs, h⟩ := h
      rcases rowI_spec hxs with ⟨hq', hxs⟩ | hxs
      · obtain ⟨g1, g2, g3⟩ := hEF.2.2.2 _ _ hxs
        have eq1 : 1000 + (q - 1000) = q := Nat.add_sub_of_le hq'
        simp only [eq1] at g1 g2 g3
        obtain ⟨c1, q1, q2, q3, q4, q5, q6⟩ := g1
        exact W.alen hx hb (by rw [hS.2.1 _ g2 g3]; exact q1) q2 q5 rfl rfl hd (go hnx h hL)
      · exact va_alen hx hb hK hPw q 0 (cW_get (ad := ad) (tc := tc) hxs) rfl rfl hd (go hnx h hL)
    · exact h.elim
  case iaload =>
    try dsimp only at h
    obtain ⟨hd, hnx⟩ := bd hB
    split at h
    · rename_i j q r
      obtain ⟨xs, hxs, h⟩ := h
      rcases rowI_spec hxs with ⟨hq', hxs⟩ | hxs
      · obtain ⟨g1, g2, g3⟩ := hEF.2.2.2 _ _ hxs
        have eq1 : 1000 + (q - 1000) = q := Nat.add_sub_of_le hq'
        simp only [eq1] at g1 g2 g3
        obtain ⟨c1, q1, q2, q3, q4, q5, q6⟩ := g1
        have hj : j.toNatClampNeg < xs.length := Nat.not_le.mp fun z => h.1 (Or.inr z)
        exact W.iald (v := .int (xs.getD j.toNatClampNeg 0)) hx hb (by rw [hS.2.1 _ g2 g3]; exact q1) q2 q3 (fun z => z.elim (fun z => h.1 (Or.inl z)) (fun z => by omega)) (q6 _ hj) rfl rfl hd (go hnx h.2 hL)
      · exact va_iald hx hb hK hPw q 0 (cW_get (ad := ad) (tc := tc) hxs) rfl h.1 hd (go hnx h.2 hL)
    · exact h.elim
  case laload =>
    try dsimp only at h
    obtain ⟨hd, hnx⟩ := bd hB
    split at h
    · rename_i j q r
      obtain ⟨xs, hxs, h⟩ := h
      exact va_lald hx hb hK hPw q 1 (cW_get (ad := ad) (tc := tc) hxs) rfl h.1 hd (go hnx h.2 hL)
    · exact h.elim
  case iastore =>
    try dsimp only at h
    obtain ⟨hd, hnx⟩ := bd hB
    split at h
    · rename_i x j q r
      obtain ⟨xs, hxs, h1, h3⟩ := h
      have hj : j.toNatClampNeg < xs.length := Nat.not_le.mp fun z => h1 (Or.inr z)
      refine va_iast hx hb hK hPw hD hS q 0 (cW_get (ad := ad) (tc := tc) hxs) rfl h1 hd (fun H1 locs1 g1 g2 g3 => ?_)
      rw [cE_seI hj, cW_set] at g1 g2
      exact goH hnx h3 ⟨g1, g2, g3⟩ (by simp)
    · exact h.elim
  case lastore =>
    try dsimp only at h
    obtain ⟨hd, hnx⟩ := bd hB
    split at h
    · rename_i x j q r
      obtain ⟨xs, hxs, h1, h3⟩ := h
      have hj : j.toNatClampNeg < xs.length := Nat.not_le.mp fun z => h1 (Or.inr z)
      refine va_last hx hb hK hPw hD hS q 1 (cW_get (ad := ad) (tc := tc) hxs) rfl h1 hd (fun H1 locs1 g1 g2 g3 => ?_)
      rw [cE_seL hj, cW_set] at g1 g2
      exact goH hnx h3 ⟨g1, g2, g3⟩ (by simp)
    · exact h.elim
  case getstatic ix =>
    try dsimp only at h
    obtain ⟨hd, hnx⟩ := bd hB
    exact va_gets hx hb hEF.2.2.1 hS hown (hts _ (hT _ List.mem_cons_self)) (fun _ q => q) hd (go hnx h hL)
  case getfield ix =>
    try dsimp only at h
    obtain ⟨hd, hq⟩ := bt hB
    simp only [Bool.and_eq_true, decide_eq_true_eq] at hq
    obtain ⟨hcl, hz, hnx⟩ := hq
    obtain ⟨hc1, hc2, hc3⟩ := cl_all hcl
    split at h
    · rename_i q r
      split at h
      · rename_i ci fs hfs
        split at h
        · rename_i v hci hv
          have hci' : ci = a := Nat.eq_of_beq_eq_true hci
          subst hci'
          have he := cW_get (ad := ad) (tc := tc) hfs
          have hv' : (fs.map (cV ad))[b]? = some (cV ad v) := by rw [List.getElem?_map, hv]; rfl
          rcases hz with rfl | rfl
          · exact va_get hx hb hts hc3.1 hown hK hPw q he hc1 b hc2 (hts _ (hT _ List.mem_cons_self)) (fun _ z => by rw [← hc3.2.2.2 b hc2]; exact z) hv' hd (go hnx h hL)
          · exact va_getN hx hb hts hc3.1 hown hK hPw q he hc1 b hc2 (va_Nw.use rfl (hEF.2.1 _ (hN _ List.mem_cons_self))) (fun _ z => by rw [← hc3.2.2.2 b hc2]; exact z) hv' hd (go hnx h hL)
        · exact h.elim
      · exact h.elim
    · exact h.elim
  case putfield ix =>
    try dsimp only at h
    obtain ⟨hd, hq⟩ := bt hB
    simp only [Bool.and_eq_true, decide_eq_true_eq] at hq
    obtain ⟨hcl, hz, hfin, hnx⟩ := hq
    obtain ⟨hc1, hc2, hc3⟩ := cl_all hcl
    split at h
    · rename_i v q r
      split at h
      · rename_i ci fs hfs
        split at h
        · rename_i hci
          have hci' : ci = a := Nat.eq_of_beq_eq_true hci
          subst hci'
          obtain ⟨h1, h2⟩ := h
          obtain ⟨h2, h3⟩ := seV_spec h2
          obtain ⟨h4, h5⟩ := seH_spec h3
          have he := cW_get (ad := ad) (tc := tc) hfs
          obtain ⟨e1, e2⟩ := putOk_spec ad h1
          have hl : b < (fs.map (cV ad)).length := by simpa using h2
          have fin : ∀ (H1 : Heap) (locs1 : List Loc), va_P D vwCl ((cW ad tc hp).set q (ad q, .inr (ci, (fs.map (cV ad)).set b (cV ad v)))) H1 → va_D A ((cW ad tc hp).set q (ad q, .inr (ci, (fs.map (cV ad)).set b (cV ad v)))) → va_S A s.heap H1 locs1 → W p l e R s m args below meth c H1 locs1 k n Z (F0 m (pc + 3) ls (r.map (cV ad))) := by
            intro H1 locs1 g1 g2 g3
            have e3 : (Sum.inr (ci, (fs.map (cV ad)).set b (cV ad v)) : va_E) = cE ad tc (AO ci (fs.set b v)) := by
              simp [cE, List.map_set]
            rw [e3, cW_set] at g1 g2
            exact goH hnx h5 ⟨g1, g2, g3⟩ (by simp)
          rcases hfin with hf | ⟨hf1, hf2, rfl⟩
          · rcases hz with rfl | rfl
            · exact va_put hx hb hts hc3.1 _ hc3.2.1 hc3.2.2.1 hown hK hPw hD hS q he hc1 b hc2 (hts _ (hT _ List.mem_cons_self)) (fun _ z => by rw [← hc3.2.2.2 b hc2]; exact z) hf (hc3.2.1 b hc2) e1 e2 hl hd fin
            · exact va_putN hx hb hts hc3.1 _ hc3.2.1 hc3.2.2.1 hown hK hPw hD hS q he hc1 b hc2 (va_Nw.use rfl (hEF.2.1 _ (hN _ List.mem_cons_self))) (fun _ z => by rw [← hc3.2.2.2 b hc2]; exact z) hf (hc3.2.1 b hc2) e1 e2 hl hd fin
          · cases hfb : (clF ci b).2.2.2 with
            | false => exact va_put hx hb hts hc3.1 _ hc3.2.1 hc3.2.2.1 hown hK hPw hD hS q he hc1 b hc2 (hts _ (hT _ List.mem_cons_self)) (fun _ z => by rw [← hc3.2.2.2 b hc2]; exact z) hfb (hc3.2.1 b hc2) e1 e2 hl hd fin
            | true => exact va_putF hx hb hts hc3.1 _ hc3.2.1 hc3.2.2.1 hown hK hPw hD hS q he hc1 b hc2 (hts _ (hT _ List.mem_cons_self)) (fun _ z => by rw [← hc3.2.2.2 b hc2]; exact z) hfb (hnm.trans hf1) hf2 (hc3.2.1 b hc2) e1 e2 hl hd fin
        · exact h.elim
      · exact h.elim
    · exact h.elim
  case ireturn =>
    try dsimp only at h
    obtain ⟨hd, -⟩ := bt hB
    split at h
    · rename_i x
      unfold retOk at h
      split at h
      · rename_i hr
        exact hZ (some (.int x)) hp ad H locs k n pc ls h ⟨hPw, hD, hS⟩ hadk hn0 hk hn ⟨hd, _, hr, rfl⟩
      · rename_i t hr1 hr
        exact hZ (some (.int x)) hp ad H locs k n pc ls h.2 ⟨hPw, hD, hS⟩ hadk hn0 hk hn ⟨hd, _, hr, h.1⟩
      · exact h.elim
    · exact h.elim
  case lreturn =>
    try dsimp only at h
    obtain ⟨hd, -⟩ := bt hB
    split at h
    · rename_i x
      exact hZ (some (.long x)) hp ad H locs k n pc ls h.2 ⟨hPw, hD, hS⟩ hadk hn0 hk hn ⟨hd, h.1⟩
    · exact h.elim
  case return_ =>
    try dsimp only at h
    obtain ⟨hd, -⟩ := bt hB
    split at h
    · exact hZ none hp ad H locs k n pc ls h.2 ⟨hPw, hD, hS⟩ hadk hn0 hk hn ⟨hd, h.1⟩
    · exact h.elim
  case new ix =>
    try dsimp only at h
    obtain ⟨hd, hq⟩ := bt hB
    simp only [Bool.and_eq_true, decide_eq_true_eq] at hq
    obtain ⟨hcl, hnx⟩ := hq
    obtain ⟨hc1, -, hc3⟩ := cl_all hcl
    rw [hc1] at h
    dsimp only at h
    obtain ⟨hok, ⟨hk1, hn1⟩, hlt, h⟩ := h
    simp only [Bool.and_eq_true] at hok
    refine va_new (ci := a) (fs := dfl a (clS a)) hx hb hts hc3.1 _ hc3.2.1 hown (hts _ (hT (.classLink (sY g).cls ix (clN a)) (by simp [needT]))) (hts _ (hT (.instantiable (clN a) (clS a)) (by simp [needT]))) (hts _ (hT (.initialized (clN a)) (by simp [needT]))) hK hPw hD hS hA hc1 (fun j hj => ?_) hk1 hn1 hd (fun q H1 g1 g2 g3 => ?_)
    · simp [vp_V, dfl, hj, List.getD_eq_getElem?_getD]
    · have ec := cW_push (ad := ad) (tc := tc) (q := q) (x := AO a (dfl a (clS a))) (z := .inr (a, dfl a (clS a))) hok.1 (by simp [cE, cV_dfl]) hlt
      rw [← ec] at g1 g2
      have hak : adK hp.length 1 ad (fun k => if k = hp.length then q else ad k) := ⟨fun k hk => if_neg (by rcases hk with hk | hk <;> omega), fun z => by omega⟩
      have key := hP _ _ _ _ _ _ h p e s m args below meth c D tc _ ad0 n0 A Z H1 locs ls hAF0 hZ ⟨g1, g2, g3⟩ (hadk.trans hak hn0 (by omega)) (by simp; omega) hk1 hn1 (hL.kept hak.1 hok.2.2)
      rw [hnx, List.map_cons, rOkS_map hak.1 st hok.2.1] at key
      simpa [cV] using key
  case newarray t =>
    try dsimp only at h
    obtain ⟨hd, hnx⟩ := bd hB
    have hnx2 : pcO code nx = pc + 2 := hnx
    have harr := hts _ (hT (.arrayClass (newarray.typeOf t)) (by simp [needT]))
    split at h
    · rename_i x r
      cases t
      case int =>
        obtain ⟨hok, ⟨hk1, hn1⟩, hlt, ⟨hx0, hxN⟩, h⟩ := h
        simp only [Bool.and_eq_true] at hok
        refine va_newa (atype := .int) (ty := .int) (N' := x.toNatClampNeg) hx hb harr rfl hK hPw hD hS hA (fun cA => rep_cellI cA x.toNatClampNeg) hx0 rfl (by show x.toNatClampNeg * 4 ≤ 536870912; omega) hk1 hn1 hd (fun q cA H1 gK g1 g2 g3 => ?_)
        have h1 := (hK.2 0 (tc 0, .int) rfl).2
        have h2 := (gK.2 2 (cA, .int) rfl).2
        have hcA : cA = tc 0 := Option.some.inj (h2.symm.trans h1)
        subst hcA
        have ec := cW_push (ad := ad) (tc := tc) (q := q) (x := AI (List.replicate x.toNatClampNeg 0)) (z := .inl (tc 0, (List.replicate x.toNatClampNeg (0 : Int32)).length, .inl (fun j => (List.replicate x.toNatClampNeg (0 : Int32)).getD j 0))) hok.1 rfl hlt
        rw [← ec] at g1 g2
        have hak : adK hp.length 1 ad (fun k => if k = hp.length then q else ad k) := ⟨fun k hk => if_neg (by rcases hk with hk | hk <;> omega), fun z => by omega⟩
        have hok2 := hok.2.1
        simp only [rOkS, List.all_cons, Bool.and_eq_true] at hok2
        have key := hP _ _ _ _ _ _ h p e s m args below meth c D tc _ ad0 n0 A Z H1 locs ls hAF0 hZ ⟨g1, g2, g3⟩ (hadk.trans hak hn0 (by omega)) (by simp; omega) hk1 hn1 (hL.kept hak.1 hok.2.2)
        rw [hnx2, List.map_cons, rOkS_map hak.1 r hok2.2] at key
        simpa [cV] using key
      case long =>
        obtain ⟨hok, ⟨hk1, hn1⟩, hlt, ⟨hx0, hxN⟩, h⟩ := h
        simp only [Bool.and_eq_true] at hok
        refine va_newa (atype := .long) (ty := .long) (N' := x.toNatClampNeg) hx hb harr rfl hK hPw hD hS hA (fun cA => rep_cellL cA x.toNatClampNeg) hx0 rfl (by show x.toNatClampNeg * 8 ≤ 536870912; omega) hk1 hn1 hd (fun q cA H1 gK g1 g2 g3 => ?_)
        have h1 := (hK.2 1 (tc 1, .long) rfl).2
        have h2 := (gK.2 2 (cA, .long) rfl).2
        have hcA : cA = tc 1 := Option.some.inj (h2.symm.trans h1)
        subst hcA
        have ec := cW_push (ad := ad) (tc := tc) (q := q) (x := AL (List.replicate x.toNatClampNeg 0)) (z := .inl (tc 1, (List.replicate x.toNatClampNeg (0 : Int64)).length, .inr (.inl (fun j => (List.replicate x.toNatClampNeg (0 : Int64)).getD j 0)))) hok.1 rfl hlt
        rw [← ec] at g1 g2
        have hak : adK hp.length 1 ad (fun k => if k = hp.length then q else ad k) := ⟨fun k hk => if_neg (by rcases hk with hk | hk <;> omega), fun z => by omega⟩
        have hok2 := hok.2.1
        simp only [rOkS, List.all_cons, Bool.and_eq_true] at hok2
        have key := hP _ _ _ _ _ _ h p e s m args below meth c D tc _ ad0 n0 A Z H1 locs ls hAF0 hZ ⟨g1, g2, g3⟩ (hadk.trans hak hn0 (by omega)) (by simp; omega) hk1 hn1 (hL.kept hak.1 hok.2.2)
        rw [hnx2, List.map_cons, rOkS_map hak.1 r hok2.2] at key
        simpa [cV] using key
      all_goals exact h.elim
    · exact h.elim
  case invokestatic ix =>
    try dsimp only at h
    obtain ⟨hd, hq⟩ := bt hB
    simp only [Bool.and_eq_true, decide_eq_true_eq] at hq
    obtain ⟨hz, hnx⟩ := hq
    split at h
    · rename_i hb7
      have hb7' : b = 7 := Nat.eq_of_beq_eq_true hb7
      subst hb7'
      split at h
      · rename_i y x r
        obtain ⟨⟨hcat, hf, hlo⟩, h⟩ := h
        have hw : ∀ w ∈ [Cond.methodLink (sY g).cls ix Lib.Math.max.name, .static Lib.Math.max.name, .initialized "java/lang/Math", .code Lib.Math.max.name Lib.Math.max.code 2 (some .int)], w ∈ TBL := fun w hw => hT w hw
        refine va_mmax hx hb (hml.trans hL.2.1.symm) hown (hts _ (hw _ (by simp))) (hts _ (hw _ (by simp))) (hts _ (hw _ (by simp))) (hts _ (hw _ (by simp))) hf ?_ hk hn hd ?_
        · rw [catN_sum]
          have := Nat.le_of_ble_eq_true hcat
          omega
        · exact go hnx h hL
      · exact h.elim
    · rename_i hb8 hb7
      have hb8' : b = 8 := Nat.eq_of_beq_eq_true hb8
      subst hb8'
      split at h
      · rename_i y x r
        obtain ⟨⟨hcat, hf, hlo⟩, h⟩ := h
        have hw : ∀ w ∈ [Cond.methodLink (sY g).cls ix Lib.Math.min.name, .static Lib.Math.min.name, .initialized "java/lang/Math", .code Lib.Math.min.name Lib.Math.min.code 2 (some .int)], w ∈ TBL := fun w hw => hT w hw
        refine va_mmin hx hb (hml.trans hL.2.1.symm) hown (hts _ (hw _ (by simp))) (hts _ (hw _ (by simp))) (hts _ (hw _ (by simp))) (hts _ (hw _ (by simp))) hf ?_ hk hn hd ?_
        · rw [catN_sum]
          have := Nat.le_of_ble_eq_true hcat
          omega
        · exact go hnx h hL
      · exact h.elim
    · rename_i hb7 hb8
      have n7 : ¬ b = 7 := fun z => by subst z; cases hb7
      have n8 : ¬ b = 8 := fun z => by subst z; cases hb8
      have hcall2 : SgS cs := by
        unfold callOk at hcall
        simp only [hb7, hb8, Bool.or_false] at hcall
        exact hcall
      obtain ⟨hsg, hTs⟩ := hcall2
      obtain ⟨as, r, hn', hst, h'⟩ := popN_spec h
      subst hst
      clear h
      rw [List.append_nil] at h'
      split at h'
      · rename_i hcat hok
        obtain ⟨d', Rq, hR, hCt, hall⟩ := h'
        exact call_st hCt hSf ⟨hPw, hD, hS⟩ hA hEF hL.2.1 hd (Nat.le_of_ble_eq_true hcat) hn' hsg hTs rfl (z := cc) (fun hz0 => hT _ (by subst hz0; simp [needT, n7, n8])) (fun hz1 => hN _ (by subst hz1; exact List.mem_cons_self)) hz hR (goC (as := as) (st' := []) hok hR.2.2.1 hR.2.2.2 hnx hall)
      · exact h'.elim
  case invokevirtual ix =>
    try dsimp only at h
    obtain ⟨hd, hq⟩ := bt hB
    simp only [Bool.and_eq_true, decide_eq_true_eq] at hq
    obtain ⟨hz, hnx⟩ := hq
    obtain ⟨hq2, hTs⟩ := hcall
    simp only [Bool.and_eq_true, decide_eq_true_eq] at hq2
    obtain ⟨hsg, hcn, hcl, h1A⟩ := hq2
    obtain ⟨as, r, hn', hst, h'⟩ := popN_spec h
    subst hst
    clear h
    rw [List.append_nil] at h'
    split at h'
    · rename_i q as'
      split at h'
      · rename_i ci fs hfs
        split at h'
        · rename_i hci hcat hok
          have hci' : ci = a := Nat.eq_of_beq_eq_true hci
          subst hci'
          obtain ⟨d', Rq, hR, hCt, hall⟩ := h'
          exact call_vi hCt hSf ⟨hPw, hD, hS⟩ hA hEF hL.2.1 hd (Nat.le_of_ble_eq_true hcat) hn' rfl hsg hfs hcl hcn hTs rfl (z := cc) (fun hz0 => hT _ (by subst hz0; exact List.mem_cons_self)) (fun hz1 => hN _ (by subst hz1; exact List.mem_cons_self)) hz hR (goC (as := .ref q :: as') (st' := []) hok hR.2.2.1 hR.2.2.2 hnx hall)
        · exact h'.elim
      · exact h'.elim
    · exact h'.elim
  case invokespecial ix =>
    try dsimp only at h
    obtain ⟨hd, hq⟩ := bt hB
    simp only [Bool.and_eq_true, decide_eq_true_eq] at hq
    obtain ⟨hz, hnx⟩ := hq
    split at h
    · rename_i hb9
      have hb9' : b = 9 := Nat.eq_of_beq_eq_true hb9
      subst hb9'
      split at h
      · rename_i q r
        split at h
        · rename_i hcat
          obtain ⟨⟨hf, hlo⟩, h⟩ := h
          refine W.objInit hx hb hown (hts _ (hT (.methodLink (sY g).cls ix Lib.objectInit) (by simp [needT]))) (hts _ (hT (.instanceMethod Lib.objectInit) (by simp [needT]))) (hts _ (hT (.code Lib.objectInit ⟨#[0xb1]⟩ 1 none) (by simp [needT]))) rfl (by rw [hml]; exact hL.2.1) (a := ad q) (rest := r.map (cV ad)) rfl hd hf ?_ ?_
          · have := call_room (m := m) (pc := pc) (ls := ls) (st0 := []) (ad := ad) (r := r) (Nat.le_of_ble_eq_true hcat)
            have e2 : (F0 m pc ls ((Value.ref q :: r).map (cV ad))).monitorRoom = (F0 m pc ls []).monitorRoom := rfl
            rw [e2]
            omega
          · exact go hnx h hL
        · exact h.elim
      · exact h.elim
    · rename_i hb9
      have hb9' : ¬ b = 9 := fun z => by subst z; cases hb9
      have hcall2 : SgI cs := by
        unfold callOk at hcall
        simp only [hb9] at hcall
        exact hcall
      obtain ⟨hq2, hTs⟩ := hcall2
      simp only [Bool.and_eq_true, decide_eq_true_eq] at hq2
      obtain ⟨hsg, h1A, hin, hret⟩ := hq2
      obtain ⟨as, r, hn', hst, h'⟩ := popN_spec h
      subst hst
      clear h
      rw [List.append_nil] at h'
      split at h'
      · rename_i q as'
        split at h'
        · rename_i hcat hok
          obtain ⟨d', Rq, hR, hCt, hall⟩ := h'
          exact call_sp hCt hSf ⟨hPw, hD, hS⟩ hA hEF hL.2.1 hd (Nat.le_of_ble_eq_true hcat) hn' rfl hsg hin hret hTs rfl (z := cc) (fun hz0 => hT _ (by subst hz0; simp [needT, hb9'])) (fun hz1 => hN _ (by subst hz1; simp [needN, hb9'])) hz hR (goC (as := .ref q :: as') (st' := []) hok hR.2.2.1 hR.2.2.2 hnx hall)
        · exact h'.elim
      · exact h'.elim
  case tableswitch d lo hi offs =>
    try dsimp only at h
    simp only [rowB, rowP, Bool.and_eq_true, decide_eq_true_eq] at hB
    obtain ⟨hd, ht, hoffs, hhi⟩ := hB
    split at h
    · rename_i x r
      by_cases hlo : x.toInt < lo ∨ hi < x.toInt
      · exact lv_tableOut hx hb hd hlo ht (go rfl (h.1 hlo) hL)
      · have g1 : ¬ x.toInt < lo := fun z => hlo (Or.inl z)
        have g2 : ¬ hi < x.toInt := fun z => hlo (Or.inr z)
        have hj : (x.toInt - lo).toNat < ts.length := by omega
        have hlen : offs.toList.length = ts.length := by
          have := congrArg List.length hoffs
          simpa using this
        have hjo : (x.toInt - lo).toNat < offs.size := by rw [← Array.length_toList, hlen]; exact hj
        have hoff : (pc : Int) + offs[(x.toInt - lo).toNat] = (pcO code ts[(x.toInt - lo).toNat] : Int) := by
          have := congrArg (fun z => z[(x.toInt - lo).toNat]?) hoffs
          simp only [List.getElem?_map, List.getElem?_eq_getElem hj, Option.map_some, Array.getElem?_toList, Array.getElem?_eq_getElem hjo] at this
          exact Option.some.inj this
        refine lv_tableIn hx hb hd g1 g2 (Array.getElem?_eq_getElem hjo) hoff ?_
        have ex : x = Int32.ofInt (lo + (((x.toInt - lo).toNat : Nat) : Int)) := by
          have : lo + (((x.toInt - lo).toNat : Nat) : Int) = x.toInt := by omega
          rw [this, Int32.ofInt_toInt]
        exact go rfl (swT_spec (K := fun t => P t al r hp k n) h.2 (List.getElem?_eq_getElem hj) ex) hL
    · exact h.elim
  case lookupswitch d ps =>
    try dsimp only at h
    simp only [rowB, rowP, Bool.and_eq_true, decide_eq_true_eq, List.all_eq_true (p := fun o : Int × Int => decide ((Int32.ofInt o.1).toInt = o.1))] at hB
    obtain ⟨hd, ht, hoffs, hsort, hrng⟩ := hB
    split at h
    · rename_i x r
      obtain ⟨off, t, g1, g2, g3⟩ := swL_spec (K := fun t => P t al r hp k n) ht hoffs (fun o ho => by simpa using hrng o ho) h.2 h.1
      exact lv_lookup hx hb hd hsort g1 g2 (go rfl g3 hL)
    · exact h.elim
  all_goals exact hoth.elim
end
section
/-- many instructions -/
theorem run_sound {l : Launch} {R : Room} {X : List (List Int32)} {g : Sig} {code : List Row} {Q : AH → Option Value → Prop} (hC : Chk g code) (cut : Nat → Bool) : ∀ (f : Nat) {i : Nat} {al : LO} {st : List Value} {hp : AH} {k n : Nat}, run l R X g code cut Q (WP l R X g code Q) f i al st hp k n → WP l R X g code Q i al st hp k n := by
  intro f
  induction f with
  | zero => intro i al st hp k n h; exact h
  | succ f ih =>
    intro i al st hp k n h
    refine stp_sound hC (fun i' al' st' hp' k' n' h' => ?_) h
    split at h'
    · exact h'
    · exact ih h'
/-- the locals at a method's entry -/
def enL : List Value → Nat → LO
  | [], n => List.replicate n none
  | v :: r, n => match v with
    | .long x => some (.long x) :: none :: enL r (n - 2)
    | .double x => some (.double x) :: none :: enL r (n - 2)
    | w => some w :: enL r (n - 1)
theorem enL_cons {v : Value} {r : List Value} {n : Nat} : enL (v :: r) n = if v.category = 2 then some v :: none :: enL r (n - 2) else some v :: enL r (n - 1) := by
  cases v <;> simp [enL, Value.category]
theorem lg_len (v : Value) (q : List Value) : (lg_sl (v :: q)).length = (if v.category = 2 then 2 else 1) + (lg_sl q).length := by
  have e : lg_sl (v :: q) = (if v.category = 2 then [Slot.val v, Slot.second] else [Slot.val v]) ++ lg_sl q := by simp [lg_sl]
  rw [e, List.length_append]
  by_cases hc : v.category = 2 <;> simp [hc]
theorem enL_spec : ∀ (as : List Value) (n i0 : Nat), (lg_sl as).length ≤ n → (enL as n).length = n ∧ ∀ (j : Nat) (v : Value), (enL as n)[j]? = some (some v) → (i0 + j, v) ∈ lv_args i0 as := by
  intro as
  induction as with
  | nil =>
    intro n i0 _
    refine ⟨by simp [enL], fun j v h => ?_⟩
    simp [enL, List.getElem?_replicate] at h
  | cons a r ih =>
    intro n i0 hn
    rw [enL_cons]
    by_cases hc : a.category = 2
    · have h2 : (lg_sl r).length + 2 ≤ n := by rw [lg_len, if_pos hc] at hn; omega
      obtain ⟨h3, h4⟩ := ih (n - 2) (i0 + 2) (by omega)
      rw [if_pos hc]
      refine ⟨by simp only [List.length_cons, h3]; omega, fun j v h => ?_⟩
      cases j with
      | zero => simp at h; subst h; simp [lv_args]
      | succ j =>
        cases j with
        | zero => simp at h
        | succ j =>
          have := h4 j v (by simpa using h)
          simp only [lv_args, hc, if_true]
          refine List.mem_cons_of_mem _ ?_
          rw [show i0 + (j + 1 + 1) = i0 + 2 + j by omega]
          exact this
    · have h2 : (lg_sl r).length + 1 ≤ n := by rw [lg_len, if_neg hc] at hn; omega
      obtain ⟨h3, h4⟩ := ih (n - 1) (i0 + 1) (by omega)
      rw [if_neg hc]
      refine ⟨by simp only [List.length_cons, h3]; omega, fun j v h => ?_⟩
      cases j with
      | zero => simp at h; subst h; simp [lv_args]
      | succ j =>
        have := h4 j v (by simpa using h)
        simp only [lv_args, hc, if_false]
        refine List.mem_cons_of_mem _ ?_
        rw [show i0 + (j + 1) = i0 + 1 + j by omega]
        exact this
theorem lv_args_cV (ad : Nat → Nat) : ∀ (as : List Value) (i : Nat) (j : Nat) (v : Value), (j, v) ∈ lv_args i as → (j, cV ad v) ∈ lv_args i (as.map (cV ad)) := by
  intro as
  induction as with
  | nil => intro i j v h; cases h
  | cons a r ih =>
    intro i j v h
    simp only [lv_args, List.map_cons, cV_cat] at h ⊢
    rcases List.mem_cons.mp h with e | h
    · cases e; exact List.mem_cons_self
    · exact List.mem_cons_of_mem _ (ih _ _ _ h)
theorem lg_sl_cV (ad : Nat → Nat) (as : List Value) : (lg_sl (as.map (cV ad))).length = (lg_sl as).length := by
  induction as with
  | nil => rfl
  | cons a r ih =>
    rw [List.map_cons, lg_len, lg_len, ih, cV_cat]
/-- A METHOD'S CONTRACT out of its run -/
theorem Ctr.of {l : Launch} {d : Nat} {X : List (List Int32)} {g : Sig} {code : List Row} {as : List Value} {hp : AH} {Rq : AH → Option Value → Prop} (hC : Chk g code) (h0 : pcO code 0 = 0) (hlen : (lg_sl as).length ≤ sL g)
    (h : WP l (rmD d (sC g) (sS g)) X g code Rq 0 (enL as (sL g)) [] hp 0 0) : Ctr l d X g as hp Rq := by
  intro D tc ad sz
  refine Met.ofW (cc := sB g) (maxL := sL g) (ret := sR g) hC.2.2.2.2 rfl ?_
  intro p e s m args below meth c s₁ B hml hv
  obtain ⟨rfl, hsz, hP, hD0, hEF⟩ := hv
  have hts := atoms_spec (ws := sgW g) B.pre
  have hts' : ∀ w ∈ TBL, w.before (as.map (cV ad)).toArray s = true := fun w hw => hts w (List.mem_cons_of_mem _ hw)
  have hown : s.vm.findClass (sY g).cls = some m.cls := findClass_of_methodNamed B.named
  have hin : meth.name = (sY g).name := (name_of_methodNamed B.named B.method).1
  have hlocks := B.notSynchronized
  have hx := B.exec
  have hb := B.bytes
  have hr := B.returns
  rw [lg_entry_eq]
  have hl := lv_entry (as.map (cV ad)) (n := sL g) (by rw [lg_sl_cV]; exact hlen)
  generalize (lg_sl (as.map (cV ad)) ++ List.replicate (sL g - (lg_sl (as.map (cV ad))).length) Slot.unset).toArray = ls at hl ⊢
  obtain ⟨e1, e2⟩ := enL_spec as (sL g) 0 hlen
  have hL : LR ad (sL g) (enL as (sL g)) ls := by
    refine ⟨e1, hl.1, hl.2.1, fun j v hj => ?_⟩
    have := lv_args_cV ad as 0 (0 + j) v (e2 j v hj)
    rw [Nat.zero_add] at this
    exact hl.2.2 _ this
  have key := h p e s m (as.map (cV ad)).toArray below meth c D tc ad ad hp.length (va_A (cW ad tc hp) sz) (MQ below (CPost (sC g) D tc ad sz hp Rq) (as.map (cV ad)).toArray s (sC g) (sS g) (va_A (cW ad tc hp) sz)) s.heap [] ls
    ⟨hx, hb, hml, hown, hts', hin, hEF, fun q hq => Or.inr (by rw [← hsz]; exact hq)⟩ ?_ ⟨hP, hD0.self, va_S.rf⟩ ⟨fun _ _ => rfl, fun _ => rfl⟩ (Nat.le_refl _) (Nat.zero_le _) (Nat.zero_le _) hL
  · rw [h0] at key
    exact key
  · intro v hp' ad' H locs k n pc ls' hR hW hak hn0 hk hn hrt
    refine W.widen hk hn ?_
    have post : ∀ t : State, t.heap = H → s.WarmedH t.vm → CPost (sC g) D tc ad sz hp Rq (as.map (cV ad)).toArray s (.returned (v.map (cV ad'))) t := fun t ht _ =>
      ⟨⟨v, hp', ad', rfl, hR, hak, hn0, by rw [ht]; exact hW.1, hW.2.1⟩, hW.2.2.F ht⟩
    cases v with
    | none => exact W.vret hx hb (hr.trans hrt.2) post hW.2.2.2.2 hrt.1
    | some w =>
      cases w with
      | int x =>
        obtain ⟨hd, t, ht, hnar⟩ := hrt
        exact W.zret hx hb (hr.trans ht) hnar post hW.2.2.2.2 hd
      | long x => exact W.lret hx hb (hr.trans hrt.2) post hW.2.2.2.2 hrt.1
      | _ => exact hrt.elim
/-- a contract says less -/
theorem Ctr.weak {l : Launch} {d : Nat} {X : List (List Int32)} {g : Sig} {as : List Value} {hp : AH} {R1 R2 : AH → Option Value → Prop} (h : Ctr l d X g as hp R1) (hR : ∀ hp' v, R1 hp' v → R2 hp' v) : Ctr l d X g as hp R2 := by
  intro D tc ad sz p e ha hc hk s m args below hf happ hP hK
  obtain ⟨n, o, h1, h2, h3, ⟨⟨v, hp', ad', g1, g2, g3⟩, hF⟩, hL⟩ := h D tc ad sz p e ha hc hk s m args below hf happ hP hK
  exact ⟨n, o, h1, h2, h3, ⟨⟨v, hp', ad', g1, hR _ _ g2, g3⟩, hF⟩, hL⟩
end
