section
-- ===== PART A: goes FIRST, ahead of the names: the tables' words, and 'selects' of the private methods out of them =====
/-- a private method of a class that the tables say can be made, by its rows of tables_1 -/
def lw_okq (q : MethodName × Nat) : Prop := (q.1.cls ≠ "java/lang/invoke/MethodHandle" ∧ q.1.cls ≠ "java/lang/invoke/VarHandle") ∧ Cond.instantiable q.1.cls q.2 ∈ tables_1 ∧ Cond.privateMethod q.1 ∈ tables_1 ∧ Cond.instanceMethod q.1 ∈ tables_1
theorem lw_p0 : lw_okq (⟨"SaidTwice$Tokens", "append", "(I)V"⟩, 6) := ⟨⟨by decide +kernel, by decide +kernel⟩, List.mem_of_getElem? (i := 25) (by decide +kernel), List.mem_of_getElem? (i := 230) (by decide +kernel), List.mem_of_getElem? (i := 231) (by decide +kernel)⟩
theorem lw_p1 : lw_okq (⟨"SaidTwice$Grammar", "readText", "()Z"⟩, 2) := ⟨⟨by decide +kernel, by decide +kernel⟩, List.mem_of_getElem? (i := 80) (by decide +kernel), List.mem_of_getElem? (i := 239) (by decide +kernel), List.mem_of_getElem? (i := 240) (by decide +kernel)⟩
theorem lw_p2 : lw_okq (⟨"SaidTwice$Tokens", "start", "()V"⟩, 6) := ⟨⟨by decide +kernel, by decide +kernel⟩, List.mem_of_getElem? (i := 25) (by decide +kernel), List.mem_of_getElem? (i := 243) (by decide +kernel), List.mem_of_getElem? (i := 244) (by decide +kernel)⟩
theorem lw_p3 : lw_okq (⟨"SaidTwice$Tokens", "advance", "()V"⟩, 6) := ⟨⟨by decide +kernel, by decide +kernel⟩, List.mem_of_getElem? (i := 25) (by decide +kernel), List.mem_of_getElem? (i := 247) (by decide +kernel), List.mem_of_getElem? (i := 248) (by decide +kernel)⟩
theorem lw_p4 : lw_okq (⟨"SaidTwice$Tokens", "readWord", "()V"⟩, 6) := ⟨⟨by decide +kernel, by decide +kernel⟩, List.mem_of_getElem? (i := 25) (by decide +kernel), List.mem_of_getElem? (i := 260) (by decide +kernel), List.mem_of_getElem? (i := 261) (by decide +kernel)⟩
theorem lw_p5 : lw_okq (⟨"SaidTwice$Tokens", "spells", "(Ljava/lang/String;)Z"⟩, 6) := ⟨⟨by decide +kernel, by decide +kernel⟩, List.mem_of_getElem? (i := 25) (by decide +kernel), List.mem_of_getElem? (i := 265) (by decide +kernel), List.mem_of_getElem? (i := 266) (by decide +kernel)⟩
theorem lw_p6 : lw_okq (⟨"SaidTwice$Tokens", "readNumber", "()V"⟩, 6) := ⟨⟨by decide +kernel, by decide +kernel⟩, List.mem_of_getElem? (i := 25) (by decide +kernel), List.mem_of_getElem? (i := 326) (by decide +kernel), List.mem_of_getElem? (i := 327) (by decide +kernel)⟩
theorem lw_p7 : lw_okq (⟨"SaidTwice$Code", "clear", "()V"⟩, 6) := ⟨⟨by decide +kernel, by decide +kernel⟩, List.mem_of_getElem? (i := 55) (by decide +kernel), List.mem_of_getElem? (i := 333) (by decide +kernel), List.mem_of_getElem? (i := 334) (by decide +kernel)⟩
theorem lw_p8 : lw_okq (⟨"SaidTwice$Grammar", "readToken", "(I)Z"⟩, 2) := ⟨⟨by decide +kernel, by decide +kernel⟩, List.mem_of_getElem? (i := 80) (by decide +kernel), List.mem_of_getElem? (i := 337) (by decide +kernel), List.mem_of_getElem? (i := 338) (by decide +kernel)⟩
theorem lw_p9 : lw_okq (⟨"SaidTwice$Grammar", "readOr", "(I)Z"⟩, 2) := ⟨⟨by decide +kernel, by decide +kernel⟩, List.mem_of_getElem? (i := 80) (by decide +kernel), List.mem_of_getElem? (i := 342) (by decide +kernel), List.mem_of_getElem? (i := 343) (by decide +kernel)⟩
theorem lw_p10 : lw_okq (⟨"SaidTwice$Grammar", "readAnd", "(I)Z"⟩, 2) := ⟨⟨by decide +kernel, by decide +kernel⟩, List.mem_of_getElem? (i := 80) (by decide +kernel), List.mem_of_getElem? (i := 346) (by decide +kernel), List.mem_of_getElem? (i := 347) (by decide +kernel)⟩
theorem lw_p11 : lw_okq (⟨"SaidTwice$Grammar", "readNot", "(I)Z"⟩, 2) := ⟨⟨by decide +kernel, by decide +kernel⟩, List.mem_of_getElem? (i := 80) (by decide +kernel), List.mem_of_getElem? (i := 350) (by decide +kernel), List.mem_of_getElem? (i := 351) (by decide +kernel)⟩
theorem lw_p12 : lw_okq (⟨"SaidTwice$Grammar", "readCompared", "(I)Z"⟩, 2) := ⟨⟨by decide +kernel, by decide +kernel⟩, List.mem_of_getElem? (i := 80) (by decide +kernel), List.mem_of_getElem? (i := 354) (by decide +kernel), List.mem_of_getElem? (i := 355) (by decide +kernel)⟩
theorem lw_p13 : lw_okq (⟨"SaidTwice$Grammar", "readSum", "(I)Z"⟩, 2) := ⟨⟨by decide +kernel, by decide +kernel⟩, List.mem_of_getElem? (i := 80) (by decide +kernel), List.mem_of_getElem? (i := 358) (by decide +kernel), List.mem_of_getElem? (i := 359) (by decide +kernel)⟩
theorem lw_p14 : lw_okq (⟨"SaidTwice$Grammar", "readTerm", "(I)Z"⟩, 2) := ⟨⟨by decide +kernel, by decide +kernel⟩, List.mem_of_getElem? (i := 80) (by decide +kernel), List.mem_of_getElem? (i := 362) (by decide +kernel), List.mem_of_getElem? (i := 363) (by decide +kernel)⟩
theorem lw_p15 : lw_okq (⟨"SaidTwice$Grammar", "readOne", "(I)Z"⟩, 2) := ⟨⟨by decide +kernel, by decide +kernel⟩, List.mem_of_getElem? (i := 80) (by decide +kernel), List.mem_of_getElem? (i := 366) (by decide +kernel), List.mem_of_getElem? (i := 367) (by decide +kernel)⟩
def lw_privs_1 : List (MethodName × Nat) := [(⟨"SaidTwice$Tokens", "append", "(I)V"⟩, 6), (⟨"SaidTwice$Grammar", "readText", "()Z"⟩, 2), (⟨"SaidTwice$Tokens", "start", "()V"⟩, 6), (⟨"SaidTwice$Tokens", "advance", "()V"⟩, 6), (⟨"SaidTwice$Tokens", "readWord", "()V"⟩, 6), (⟨"SaidTwice$Tokens", "spells", "(Ljava/lang/String;)Z"⟩, 6), (⟨"SaidTwice$Tokens", "readNumber", "()V"⟩, 6), (⟨"SaidTwice$Code", "clear", "()V"⟩, 6), (⟨"SaidTwice$Grammar", "readToken", "(I)Z"⟩, 2), (⟨"SaidTwice$Grammar", "readOr", "(I)Z"⟩, 2), (⟨"SaidTwice$Grammar", "readAnd", "(I)Z"⟩, 2), (⟨"SaidTwice$Grammar", "readNot", "(I)Z"⟩, 2), (⟨"SaidTwice$Grammar", "readCompared", "(I)Z"⟩, 2), (⟨"SaidTwice$Grammar", "readSum", "(I)Z"⟩, 2), (⟨"SaidTwice$Grammar", "readTerm", "(I)Z"⟩, 2), (⟨"SaidTwice$Grammar", "readOne", "(I)Z"⟩, 2)]
theorem lw_r1 : ∀ q ∈ lw_privs_1, lw_okq q := List.forall_mem_cons.mpr ⟨lw_p0, List.forall_mem_cons.mpr ⟨lw_p1, List.forall_mem_cons.mpr ⟨lw_p2, List.forall_mem_cons.mpr ⟨lw_p3, List.forall_mem_cons.mpr ⟨lw_p4, List.forall_mem_cons.mpr ⟨lw_p5, List.forall_mem_cons.mpr ⟨lw_p6, List.forall_mem_cons.mpr ⟨lw_p7, List.forall_mem_cons.mpr ⟨lw_p8, List.forall_mem_cons.mpr ⟨lw_p9, List.forall_mem_cons.mpr ⟨lw_p10, List.forall_mem_cons.mpr ⟨lw_p11, List.forall_mem_cons.mpr ⟨lw_p12, List.forall_mem_cons.mpr ⟨lw_p13, List.forall_mem_cons.mpr ⟨lw_p14, List.forall_mem_cons.mpr ⟨lw_p15, fun _ h => absurd h List.not_mem_nil⟩⟩⟩⟩⟩⟩⟩⟩⟩⟩⟩⟩⟩⟩⟩⟩
theorem lw_p16 : lw_okq (⟨"SaidTwice$Code", "add", "(II)V"⟩, 6) := ⟨⟨by decide +kernel, by decide +kernel⟩, List.mem_of_getElem? (i := 55) (by decide +kernel), List.mem_of_getElem? (i := 370) (by decide +kernel), List.mem_of_getElem? (i := 371) (by decide +kernel)⟩
theorem lw_p17 : lw_okq (⟨"SaidTwice$Grammar", "readBracket", "(I)Z"⟩, 2) := ⟨⟨by decide +kernel, by decide +kernel⟩, List.mem_of_getElem? (i := 80) (by decide +kernel), List.mem_of_getElem? (i := 375) (by decide +kernel), List.mem_of_getElem? (i := 376) (by decide +kernel)⟩
theorem lw_p18 : lw_okq (⟨"SaidTwice$Code", "endPart", "(I)V"⟩, 6) := ⟨⟨by decide +kernel, by decide +kernel⟩, List.mem_of_getElem? (i := 55) (by decide +kernel), List.mem_of_getElem? (i := 379) (by decide +kernel), List.mem_of_getElem? (i := 380) (by decide +kernel)⟩
theorem lw_p19 : lw_okq (⟨"SaidTwice$Texts", "add", "(LSaidTwice$Code;)V"⟩, 4) := ⟨⟨by decide +kernel, by decide +kernel⟩, List.mem_of_getElem? (i := 93) (by decide +kernel), List.mem_of_getElem? (i := 383) (by decide +kernel), List.mem_of_getElem? (i := 384) (by decide +kernel)⟩
theorem lw_p20 : lw_okq (⟨"SaidTwice$Code", "truths", "(II)I"⟩, 6) := ⟨⟨by decide +kernel, by decide +kernel⟩, List.mem_of_getElem? (i := 55) (by decide +kernel), List.mem_of_getElem? (i := 387) (by decide +kernel), List.mem_of_getElem? (i := 388) (by decide +kernel)⟩
theorem lw_p21 : lw_okq (⟨"SaidTwice$Code", "valueOf", "(III)I"⟩, 6) := ⟨⟨by decide +kernel, by decide +kernel⟩, List.mem_of_getElem? (i := 55) (by decide +kernel), List.mem_of_getElem? (i := 391) (by decide +kernel), List.mem_of_getElem? (i := 392) (by decide +kernel)⟩
theorem lw_p22 : lw_okq (⟨"SaidTwice$Code", "step", "(IIII)V"⟩, 6) := ⟨⟨by decide +kernel, by decide +kernel⟩, List.mem_of_getElem? (i := 55) (by decide +kernel), List.mem_of_getElem? (i := 396) (by decide +kernel), List.mem_of_getElem? (i := 397) (by decide +kernel)⟩
theorem lw_p23 : lw_okq (⟨"SaidTwice$Code", "push", "(I)V"⟩, 6) := ⟨⟨by decide +kernel, by decide +kernel⟩, List.mem_of_getElem? (i := 55) (by decide +kernel), List.mem_of_getElem? (i := 400) (by decide +kernel), List.mem_of_getElem? (i := 401) (by decide +kernel)⟩
theorem lw_p24 : lw_okq (⟨"SaidTwice$Code", "pop", "()I"⟩, 6) := ⟨⟨by decide +kernel, by decide +kernel⟩, List.mem_of_getElem? (i := 55) (by decide +kernel), List.mem_of_getElem? (i := 407) (by decide +kernel), List.mem_of_getElem? (i := 408) (by decide +kernel)⟩
theorem lw_p25 : lw_okq (⟨"SaidTwice", "isText", "(I)Z"⟩, 9) := ⟨⟨by decide +kernel, by decide +kernel⟩, List.mem_of_getElem? (i := 17) (by decide +kernel), List.mem_of_getElem? (i := 426) (by decide +kernel), List.mem_of_getElem? (i := 427) (by decide +kernel)⟩
theorem lw_p26 : lw_okq (⟨"SaidTwice$Texts", "costOf", "(II)I"⟩, 4) := ⟨⟨by decide +kernel, by decide +kernel⟩, List.mem_of_getElem? (i := 93) (by decide +kernel), List.mem_of_getElem? (i := 440) (by decide +kernel), List.mem_of_getElem? (i := 441) (by decide +kernel)⟩
theorem lw_p27 : lw_okq (⟨"SaidTwice$Texts", "side", "(III)I"⟩, 4) := ⟨⟨by decide +kernel, by decide +kernel⟩, List.mem_of_getElem? (i := 93) (by decide +kernel), List.mem_of_getElem? (i := 445) (by decide +kernel), List.mem_of_getElem? (i := 446) (by decide +kernel)⟩
theorem lw_p28 : lw_okq (⟨"SaidTwice$Talk", "become", "(III)V"⟩, 6) := ⟨⟨by decide +kernel, by decide +kernel⟩, List.mem_of_getElem? (i := 116) (by decide +kernel), List.mem_of_getElem? (i := 473) (by decide +kernel), List.mem_of_getElem? (i := 474) (by decide +kernel)⟩
theorem lw_p29 : lw_okq (⟨"SaidTwice", "isSpeaker", "(I)Z"⟩, 9) := ⟨⟨by decide +kernel, by decide +kernel⟩, List.mem_of_getElem? (i := 17) (by decide +kernel), List.mem_of_getElem? (i := 482) (by decide +kernel), List.mem_of_getElem? (i := 483) (by decide +kernel)⟩
theorem lw_p30 : lw_okq (⟨"SaidTwice$Talk", "append", "(III)V"⟩, 6) := ⟨⟨by decide +kernel, by decide +kernel⟩, List.mem_of_getElem? (i := 116) (by decide +kernel), List.mem_of_getElem? (i := 495) (by decide +kernel), List.mem_of_getElem? (i := 496) (by decide +kernel)⟩
theorem lw_p31 : lw_okq (⟨"SaidTwice$Talk", "sayingPart", "(II)I"⟩, 6) := ⟨⟨by decide +kernel, by decide +kernel⟩, List.mem_of_getElem? (i := 116) (by decide +kernel), List.mem_of_getElem? (i := 507) (by decide +kernel), List.mem_of_getElem? (i := 508) (by decide +kernel)⟩
def lw_privs_2 : List (MethodName × Nat) := [(⟨"SaidTwice$Code", "add", "(II)V"⟩, 6), (⟨"SaidTwice$Grammar", "readBracket", "(I)Z"⟩, 2), (⟨"SaidTwice$Code", "endPart", "(I)V"⟩, 6), (⟨"SaidTwice$Texts", "add", "(LSaidTwice$Code;)V"⟩, 4), (⟨"SaidTwice$Code", "truths", "(II)I"⟩, 6), (⟨"SaidTwice$Code", "valueOf", "(III)I"⟩, 6), (⟨"SaidTwice$Code", "step", "(IIII)V"⟩, 6), (⟨"SaidTwice$Code", "push", "(I)V"⟩, 6), (⟨"SaidTwice$Code", "pop", "()I"⟩, 6), (⟨"SaidTwice", "isText", "(I)Z"⟩, 9), (⟨"SaidTwice$Texts", "costOf", "(II)I"⟩, 4), (⟨"SaidTwice$Texts", "side", "(III)I"⟩, 4), (⟨"SaidTwice$Talk", "become", "(III)V"⟩, 6), (⟨"SaidTwice", "isSpeaker", "(I)Z"⟩, 9), (⟨"SaidTwice$Talk", "append", "(III)V"⟩, 6), (⟨"SaidTwice$Talk", "sayingPart", "(II)I"⟩, 6)]
theorem lw_r2 : ∀ q ∈ lw_privs_2, lw_okq q := List.forall_mem_cons.mpr ⟨lw_p16, List.forall_mem_cons.mpr ⟨lw_p17, List.forall_mem_cons.mpr ⟨lw_p18, List.forall_mem_cons.mpr ⟨lw_p19, List.forall_mem_cons.mpr ⟨lw_p20, List.forall_mem_cons.mpr ⟨lw_p21, List.forall_mem_cons.mpr ⟨lw_p22, List.forall_mem_cons.mpr ⟨lw_p23, List.forall_mem_cons.mpr ⟨lw_p24, List.forall_mem_cons.mpr ⟨lw_p25, List.forall_mem_cons.mpr ⟨lw_p26, List.forall_mem_cons.mpr ⟨lw_p27, List.forall_mem_cons.mpr ⟨lw_p28, List.forall_mem_cons.mpr ⟨lw_p29, List.forall_mem_cons.mpr ⟨lw_p30, List.forall_mem_cons.mpr ⟨lw_p31, fun _ h => absurd h List.not_mem_nil⟩⟩⟩⟩⟩⟩⟩⟩⟩⟩⟩⟩⟩⟩⟩⟩
theorem lw_p32 : lw_okq (⟨"SaidTwice", "fitting", "()I"⟩, 9) := ⟨⟨by decide +kernel, by decide +kernel⟩, List.mem_of_getElem? (i := 17) (by decide +kernel), List.mem_of_getElem? (i := 516) (by decide +kernel), List.mem_of_getElem? (i := 517) (by decide +kernel)⟩
theorem lw_p33 : lw_okq (⟨"SaidTwice", "fittingFirst", "(I)I"⟩, 9) := ⟨⟨by decide +kernel, by decide +kernel⟩, List.mem_of_getElem? (i := 17) (by decide +kernel), List.mem_of_getElem? (i := 520) (by decide +kernel), List.mem_of_getElem? (i := 521) (by decide +kernel)⟩
theorem lw_p34 : lw_okq (⟨"SaidTwice", "lawful", "()I"⟩, 9) := ⟨⟨by decide +kernel, by decide +kernel⟩, List.mem_of_getElem? (i := 17) (by decide +kernel), List.mem_of_getElem? (i := 524) (by decide +kernel), List.mem_of_getElem? (i := 525) (by decide +kernel)⟩
theorem lw_p35 : lw_okq (⟨"SaidTwice", "onceOf", "(I)I"⟩, 9) := ⟨⟨by decide +kernel, by decide +kernel⟩, List.mem_of_getElem? (i := 17) (by decide +kernel), List.mem_of_getElem? (i := 528) (by decide +kernel), List.mem_of_getElem? (i := 529) (by decide +kernel)⟩
theorem lw_p36 : lw_okq (⟨"SaidTwice", "sayable", "(I)I"⟩, 9) := ⟨⟨by decide +kernel, by decide +kernel⟩, List.mem_of_getElem? (i := 17) (by decide +kernel), List.mem_of_getElem? (i := 532) (by decide +kernel), List.mem_of_getElem? (i := 533) (by decide +kernel)⟩
theorem lw_p37 : lw_okq (⟨"SaidTwice", "sayableAs", "(II)I"⟩, 9) := ⟨⟨by decide +kernel, by decide +kernel⟩, List.mem_of_getElem? (i := 17) (by decide +kernel), List.mem_of_getElem? (i := 536) (by decide +kernel), List.mem_of_getElem? (i := 537) (by decide +kernel)⟩
theorem lw_p38 : lw_okq (⟨"SaidTwice", "firstSaid", "(I)I"⟩, 9) := ⟨⟨by decide +kernel, by decide +kernel⟩, List.mem_of_getElem? (i := 17) (by decide +kernel), List.mem_of_getElem? (i := 540) (by decide +kernel), List.mem_of_getElem? (i := 541) (by decide +kernel)⟩
theorem lw_p39 : lw_okq (⟨"SaidTwice", "secondSaid", "(I)I"⟩, 9) := ⟨⟨by decide +kernel, by decide +kernel⟩, List.mem_of_getElem? (i := 17) (by decide +kernel), List.mem_of_getElem? (i := 544) (by decide +kernel), List.mem_of_getElem? (i := 545) (by decide +kernel)⟩
theorem lw_p40 : lw_okq (⟨"SaidTwice", "fittingWithout", "(I)I"⟩, 9) := ⟨⟨by decide +kernel, by decide +kernel⟩, List.mem_of_getElem? (i := 17) (by decide +kernel), List.mem_of_getElem? (i := 583) (by decide +kernel), List.mem_of_getElem? (i := 584) (by decide +kernel)⟩
theorem lw_p41 : lw_okq (⟨"SaidTwice", "misfits", "(I)I"⟩, 9) := ⟨⟨by decide +kernel, by decide +kernel⟩, List.mem_of_getElem? (i := 17) (by decide +kernel), List.mem_of_getElem? (i := 591) (by decide +kernel), List.mem_of_getElem? (i := 592) (by decide +kernel)⟩
theorem lw_p42 : lw_okq (⟨"SaidTwice", "fittingWereMad", "(I)I"⟩, 9) := ⟨⟨by decide +kernel, by decide +kernel⟩, List.mem_of_getElem? (i := 17) (by decide +kernel), List.mem_of_getElem? (i := 602) (by decide +kernel), List.mem_of_getElem? (i := 603) (by decide +kernel)⟩
theorem lw_p43 : lw_okq (⟨"SaidTwice", "allSayableWere", "(II)I"⟩, 9) := ⟨⟨by decide +kernel, by decide +kernel⟩, List.mem_of_getElem? (i := 17) (by decide +kernel), List.mem_of_getElem? (i := 620) (by decide +kernel), List.mem_of_getElem? (i := 621) (by decide +kernel)⟩
theorem lw_p44 : lw_okq (⟨"SaidTwice", "findBest", "(II)Z"⟩, 9) := ⟨⟨by decide +kernel, by decide +kernel⟩, List.mem_of_getElem? (i := 17) (by decide +kernel), List.mem_of_getElem? (i := 628) (by decide +kernel), List.mem_of_getElem? (i := 629) (by decide +kernel)⟩
theorem lw_p45 : lw_okq (⟨"SaidTwice", "worstOf", "(IIII)I"⟩, 9) := ⟨⟨by decide +kernel, by decide +kernel⟩, List.mem_of_getElem? (i := 17) (by decide +kernel), List.mem_of_getElem? (i := 632) (by decide +kernel), List.mem_of_getElem? (i := 633) (by decide +kernel)⟩
theorem lw_p46 : lw_okq (⟨"SaidTwice", "sayableNext", "(IIII)I"⟩, 9) := ⟨⟨by decide +kernel, by decide +kernel⟩, List.mem_of_getElem? (i := 17) (by decide +kernel), List.mem_of_getElem? (i := 636) (by decide +kernel), List.mem_of_getElem? (i := 637) (by decide +kernel)⟩
theorem lw_p47 : lw_okq (⟨"SaidTwice$Question", "consider", "(IIII)V"⟩, 4) := ⟨⟨by decide +kernel, by decide +kernel⟩, List.mem_of_getElem? (i := 168) (by decide +kernel), List.mem_of_getElem? (i := 641) (by decide +kernel), List.mem_of_getElem? (i := 642) (by decide +kernel)⟩
def lw_privs_3 : List (MethodName × Nat) := [(⟨"SaidTwice", "fitting", "()I"⟩, 9), (⟨"SaidTwice", "fittingFirst", "(I)I"⟩, 9), (⟨"SaidTwice", "lawful", "()I"⟩, 9), (⟨"SaidTwice", "onceOf", "(I)I"⟩, 9), (⟨"SaidTwice", "sayable", "(I)I"⟩, 9), (⟨"SaidTwice", "sayableAs", "(II)I"⟩, 9), (⟨"SaidTwice", "firstSaid", "(I)I"⟩, 9), (⟨"SaidTwice", "secondSaid", "(I)I"⟩, 9), (⟨"SaidTwice", "fittingWithout", "(I)I"⟩, 9), (⟨"SaidTwice", "misfits", "(I)I"⟩, 9), (⟨"SaidTwice", "fittingWereMad", "(I)I"⟩, 9), (⟨"SaidTwice", "allSayableWere", "(II)I"⟩, 9), (⟨"SaidTwice", "findBest", "(II)Z"⟩, 9), (⟨"SaidTwice", "worstOf", "(IIII)I"⟩, 9), (⟨"SaidTwice", "sayableNext", "(IIII)I"⟩, 9), (⟨"SaidTwice$Question", "consider", "(IIII)V"⟩, 4)]
theorem lw_r3 : ∀ q ∈ lw_privs_3, lw_okq q := List.forall_mem_cons.mpr ⟨lw_p32, List.forall_mem_cons.mpr ⟨lw_p33, List.forall_mem_cons.mpr ⟨lw_p34, List.forall_mem_cons.mpr ⟨lw_p35, List.forall_mem_cons.mpr ⟨lw_p36, List.forall_mem_cons.mpr ⟨lw_p37, List.forall_mem_cons.mpr ⟨lw_p38, List.forall_mem_cons.mpr ⟨lw_p39, List.forall_mem_cons.mpr ⟨lw_p40, List.forall_mem_cons.mpr ⟨lw_p41, List.forall_mem_cons.mpr ⟨lw_p42, List.forall_mem_cons.mpr ⟨lw_p43, List.forall_mem_cons.mpr ⟨lw_p44, List.forall_mem_cons.mpr ⟨lw_p45, List.forall_mem_cons.mpr ⟨lw_p46, List.forall_mem_cons.mpr ⟨lw_p47, fun _ h => absurd h List.not_mem_nil⟩⟩⟩⟩⟩⟩⟩⟩⟩⟩⟩⟩⟩⟩⟩⟩
theorem lw_p48 : lw_okq (⟨"SaidTwice", "worstBehind", "(III)I"⟩, 9) := ⟨⟨by decide +kernel, by decide +kernel⟩, List.mem_of_getElem? (i := 17) (by decide +kernel), List.mem_of_getElem? (i := 649) (by decide +kernel), List.mem_of_getElem? (i := 650) (by decide +kernel)⟩
theorem lw_p49 : lw_okq (⟨"SaidTwice", "settles", "(II)Z"⟩, 9) := ⟨⟨by decide +kernel, by decide +kernel⟩, List.mem_of_getElem? (i := 17) (by decide +kernel), List.mem_of_getElem? (i := 673) (by decide +kernel), List.mem_of_getElem? (i := 674) (by decide +kernel)⟩
theorem lw_p50 : lw_okq (⟨"SaidTwice", "markOf", "(II)I"⟩, 9) := ⟨⟨by decide +kernel, by decide +kernel⟩, List.mem_of_getElem? (i := 17) (by decide +kernel), List.mem_of_getElem? (i := 677) (by decide +kernel), List.mem_of_getElem? (i := 678) (by decide +kernel)⟩
theorem lw_p51 : lw_okq (⟨"SaidTwice$Sheets", "isMissing", "(I)Z"⟩, 4) := ⟨⟨by decide +kernel, by decide +kernel⟩, List.mem_of_getElem? (i := 146) (by decide +kernel), List.mem_of_getElem? (i := 694) (by decide +kernel), List.mem_of_getElem? (i := 695) (by decide +kernel)⟩
theorem lw_p52 : lw_okq (⟨"SaidTwice", "rowFits", "(III)Z"⟩, 9) := ⟨⟨by decide +kernel, by decide +kernel⟩, List.mem_of_getElem? (i := 17) (by decide +kernel), List.mem_of_getElem? (i := 699) (by decide +kernel), List.mem_of_getElem? (i := 700) (by decide +kernel)⟩
theorem lw_p53 : lw_okq (⟨"SaidTwice$Sheets", "read", "(II)I"⟩, 4) := ⟨⟨by decide +kernel, by decide +kernel⟩, List.mem_of_getElem? (i := 146) (by decide +kernel), List.mem_of_getElem? (i := 703) (by decide +kernel), List.mem_of_getElem? (i := 704) (by decide +kernel)⟩
theorem lw_p54 : lw_okq (⟨"SaidTwice$Sheets", "make", "(III)V"⟩, 4) := ⟨⟨by decide +kernel, by decide +kernel⟩, List.mem_of_getElem? (i := 146) (by decide +kernel), List.mem_of_getElem? (i := 711) (by decide +kernel), List.mem_of_getElem? (i := 712) (by decide +kernel)⟩
theorem lw_p55 : lw_okq (⟨"SaidTwice$Sheets", "write", "(III)V"⟩, 4) := ⟨⟨by decide +kernel, by decide +kernel⟩, List.mem_of_getElem? (i := 146) (by decide +kernel), List.mem_of_getElem? (i := 715) (by decide +kernel), List.mem_of_getElem? (i := 716) (by decide +kernel)⟩
theorem lw_p56 : lw_okq (⟨"SaidTwice", "strangerAsks", "(II)I"⟩, 9) := ⟨⟨by decide +kernel, by decide +kernel⟩, List.mem_of_getElem? (i := 17) (by decide +kernel), List.mem_of_getElem? (i := 724) (by decide +kernel), List.mem_of_getElem? (i := 725) (by decide +kernel)⟩
theorem lw_p57 : lw_okq (⟨"SaidTwice", "answered", "(IIZ)I"⟩, 9) := ⟨⟨by decide +kernel, by decide +kernel⟩, List.mem_of_getElem? (i := 17) (by decide +kernel), List.mem_of_getElem? (i := 734) (by decide +kernel), List.mem_of_getElem? (i := 735) (by decide +kernel)⟩
theorem lw_p58 : lw_okq (⟨"SaidTwice$Talk", "becomeLike", "(LSaidTwice$Talk;)V"⟩, 6) := ⟨⟨by decide +kernel, by decide +kernel⟩, List.mem_of_getElem? (i := 116) (by decide +kernel), List.mem_of_getElem? (i := 746) (by decide +kernel), List.mem_of_getElem? (i := 747) (by decide +kernel)⟩
theorem lw_p59 : lw_okq (⟨"SaidTwice$Sheets", "holds", "(II)Z"⟩, 4) := ⟨⟨by decide +kernel, by decide +kernel⟩, List.mem_of_getElem? (i := 146) (by decide +kernel), List.mem_of_getElem? (i := 763) (by decide +kernel), List.mem_of_getElem? (i := 764) (by decide +kernel)⟩
theorem lw_p60 : lw_okq (⟨"SaidTwice$Sheets", "holdsRun", "(III)Z"⟩, 4) := ⟨⟨by decide +kernel, by decide +kernel⟩, List.mem_of_getElem? (i := 146) (by decide +kernel), List.mem_of_getElem? (i := 772) (by decide +kernel), List.mem_of_getElem? (i := 773) (by decide +kernel)⟩
theorem lw_p61 : lw_okq (⟨"SaidTwice$Sheets", "move", "(IIIII)V"⟩, 4) := ⟨⟨by decide +kernel, by decide +kernel⟩, List.mem_of_getElem? (i := 146) (by decide +kernel), List.mem_of_getElem? (i := 776) (by decide +kernel), List.mem_of_getElem? (i := 777) (by decide +kernel)⟩
theorem lw_p62 : lw_okq (⟨"SaidTwice", "sayingTaken", "(II)I"⟩, 9) := ⟨⟨by decide +kernel, by decide +kernel⟩, List.mem_of_getElem? (i := 17) (by decide +kernel), List.mem_of_getElem? (i := 791) (by decide +kernel), List.mem_of_getElem? (i := 792) (by decide +kernel)⟩
theorem lw_p63 : lw_okq (⟨"SaidTwice", "speakerTaken", "(II)I"⟩, 9) := ⟨⟨by decide +kernel, by decide +kernel⟩, List.mem_of_getElem? (i := 17) (by decide +kernel), List.mem_of_getElem? (i := 795) (by decide +kernel), List.mem_of_getElem? (i := 796) (by decide +kernel)⟩
def lw_privs_4 : List (MethodName × Nat) := [(⟨"SaidTwice", "worstBehind", "(III)I"⟩, 9), (⟨"SaidTwice", "settles", "(II)Z"⟩, 9), (⟨"SaidTwice", "markOf", "(II)I"⟩, 9), (⟨"SaidTwice$Sheets", "isMissing", "(I)Z"⟩, 4), (⟨"SaidTwice", "rowFits", "(III)Z"⟩, 9), (⟨"SaidTwice$Sheets", "read", "(II)I"⟩, 4), (⟨"SaidTwice$Sheets", "make", "(III)V"⟩, 4), (⟨"SaidTwice$Sheets", "write", "(III)V"⟩, 4), (⟨"SaidTwice", "strangerAsks", "(II)I"⟩, 9), (⟨"SaidTwice", "answered", "(IIZ)I"⟩, 9), (⟨"SaidTwice$Talk", "becomeLike", "(LSaidTwice$Talk;)V"⟩, 6), (⟨"SaidTwice$Sheets", "holds", "(II)Z"⟩, 4), (⟨"SaidTwice$Sheets", "holdsRun", "(III)Z"⟩, 4), (⟨"SaidTwice$Sheets", "move", "(IIIII)V"⟩, 4), (⟨"SaidTwice", "sayingTaken", "(II)I"⟩, 9), (⟨"SaidTwice", "speakerTaken", "(II)I"⟩, 9)]
theorem lw_r4 : ∀ q ∈ lw_privs_4, lw_okq q := List.forall_mem_cons.mpr ⟨lw_p48, List.forall_mem_cons.mpr ⟨lw_p49, List.forall_mem_cons.mpr ⟨lw_p50, List.forall_mem_cons.mpr ⟨lw_p51, List.forall_mem_cons.mpr ⟨lw_p52, List.forall_mem_cons.mpr ⟨lw_p53, List.forall_mem_cons.mpr ⟨lw_p54, List.forall_mem_cons.mpr ⟨lw_p55, List.forall_mem_cons.mpr ⟨lw_p56, List.forall_mem_cons.mpr ⟨lw_p57, List.forall_mem_cons.mpr ⟨lw_p58, List.forall_mem_cons.mpr ⟨lw_p59, List.forall_mem_cons.mpr ⟨lw_p60, List.forall_mem_cons.mpr ⟨lw_p61, List.forall_mem_cons.mpr ⟨lw_p62, List.forall_mem_cons.mpr ⟨lw_p63, fun _ h => absurd h List.not_mem_nil⟩⟩⟩⟩⟩⟩⟩⟩⟩⟩⟩⟩⟩⟩⟩⟩
theorem lw_p64 : lw_okq (⟨"SaidTwiceModel", "next", "()V"⟩, 37) := ⟨⟨by decide +kernel, by decide +kernel⟩, List.mem_of_getElem? (i := 802) (by decide +kernel), List.mem_of_getElem? (i := 812) (by decide +kernel), List.mem_of_getElem? (i := 813) (by decide +kernel)⟩
theorem lw_p65 : lw_okq (⟨"SaidTwiceModel", "wordFrom", "(II)I"⟩, 37) := ⟨⟨by decide +kernel, by decide +kernel⟩, List.mem_of_getElem? (i := 802) (by decide +kernel), List.mem_of_getElem? (i := 819) (by decide +kernel), List.mem_of_getElem? (i := 820) (by decide +kernel)⟩
theorem lw_p66 : lw_okq (⟨"SaidTwiceModel", "eRead", "()Z"⟩, 37) := ⟨⟨by decide +kernel, by decide +kernel⟩, List.mem_of_getElem? (i := 802) (by decide +kernel), List.mem_of_getElem? (i := 823) (by decide +kernel), List.mem_of_getElem? (i := 824) (by decide +kernel)⟩
theorem lw_p67 : lw_okq (⟨"SaidTwiceModel", "puts", "(I)V"⟩, 37) := ⟨⟨by decide +kernel, by decide +kernel⟩, List.mem_of_getElem? (i := 802) (by decide +kernel), List.mem_of_getElem? (i := 828) (by decide +kernel), List.mem_of_getElem? (i := 829) (by decide +kernel)⟩
theorem lw_p68 : lw_okq (⟨"SaidTwiceModel", "unwinds", "(I)V"⟩, 37) := ⟨⟨by decide +kernel, by decide +kernel⟩, List.mem_of_getElem? (i := 802) (by decide +kernel), List.mem_of_getElem? (i := 832) (by decide +kernel), List.mem_of_getElem? (i := 833) (by decide +kernel)⟩
theorem lw_p69 : lw_okq (⟨"SaidTwiceModel", "opensOne", "(I)Z"⟩, 37) := ⟨⟨by decide +kernel, by decide +kernel⟩, List.mem_of_getElem? (i := 802) (by decide +kernel), List.mem_of_getElem? (i := 839) (by decide +kernel), List.mem_of_getElem? (i := 840) (by decide +kernel)⟩
theorem lw_p70 : lw_okq (⟨"SaidTwiceModel", "holds", "(I)V"⟩, 37) := ⟨⟨by decide +kernel, by decide +kernel⟩, List.mem_of_getElem? (i := 802) (by decide +kernel), List.mem_of_getElem? (i := 843) (by decide +kernel), List.mem_of_getElem? (i := 844) (by decide +kernel)⟩
theorem lw_p71 : lw_okq (⟨"SaidTwiceModel", "signOf", "()I"⟩, 37) := ⟨⟨by decide +kernel, by decide +kernel⟩, List.mem_of_getElem? (i := 802) (by decide +kernel), List.mem_of_getElem? (i := 847) (by decide +kernel), List.mem_of_getElem? (i := 848) (by decide +kernel)⟩
theorem lw_p72 : lw_okq (⟨"SaidTwiceModel", "between", "(I)Z"⟩, 37) := ⟨⟨by decide +kernel, by decide +kernel⟩, List.mem_of_getElem? (i := 802) (by decide +kernel), List.mem_of_getElem? (i := 851) (by decide +kernel), List.mem_of_getElem? (i := 852) (by decide +kernel)⟩
theorem lw_p73 : lw_okq (⟨"SaidTwiceModel", "isOfTexts", "(I)Z"⟩, 37) := ⟨⟨by decide +kernel, by decide +kernel⟩, List.mem_of_getElem? (i := 802) (by decide +kernel), List.mem_of_getElem? (i := 988) (by decide +kernel), List.mem_of_getElem? (i := 989) (by decide +kernel)⟩
theorem lw_p74 : lw_okq (⟨"SaidTwiceModel", "saysOf", "(IIII)I"⟩, 37) := ⟨⟨by decide +kernel, by decide +kernel⟩, List.mem_of_getElem? (i := 802) (by decide +kernel), List.mem_of_getElem? (i := 995) (by decide +kernel), List.mem_of_getElem? (i := 996) (by decide +kernel)⟩
theorem lw_p75 : lw_okq (⟨"SaidTwiceModel", "says", "(I)I"⟩, 37) := ⟨⟨by decide +kernel, by decide +kernel⟩, List.mem_of_getElem? (i := 802) (by decide +kernel), List.mem_of_getElem? (i := 999) (by decide +kernel), List.mem_of_getElem? (i := 1000) (by decide +kernel)⟩
theorem lw_p76 : lw_okq (⟨"SaidTwiceModel", "soIn", "(III)J"⟩, 37) := ⟨⟨by decide +kernel, by decide +kernel⟩, List.mem_of_getElem? (i := 802) (by decide +kernel), List.mem_of_getElem? (i := 1013) (by decide +kernel), List.mem_of_getElem? (i := 1014) (by decide +kernel)⟩
theorem lw_p77 : lw_okq (⟨"SaidTwiceModel", "isSpeaker", "(I)Z"⟩, 37) := ⟨⟨by decide +kernel, by decide +kernel⟩, List.mem_of_getElem? (i := 802) (by decide +kernel), List.mem_of_getElem? (i := 1034) (by decide +kernel), List.mem_of_getElem? (i := 1035) (by decide +kernel)⟩
theorem lw_p78 : lw_okq (⟨"SaidTwiceModel", "worldsNow", "()J"⟩, 37) := ⟨⟨by decide +kernel, by decide +kernel⟩, List.mem_of_getElem? (i := 802) (by decide +kernel), List.mem_of_getElem? (i := 1058) (by decide +kernel), List.mem_of_getElem? (i := 1059) (by decide +kernel)⟩
theorem lw_p79 : lw_okq (⟨"SaidTwiceModel", "reads", "()V"⟩, 37) := ⟨⟨by decide +kernel, by decide +kernel⟩, List.mem_of_getElem? (i := 802) (by decide +kernel), List.mem_of_getElem? (i := 1062) (by decide +kernel), List.mem_of_getElem? (i := 1063) (by decide +kernel)⟩
def lw_privs_5 : List (MethodName × Nat) := [(⟨"SaidTwiceModel", "next", "()V"⟩, 37), (⟨"SaidTwiceModel", "wordFrom", "(II)I"⟩, 37), (⟨"SaidTwiceModel", "eRead", "()Z"⟩, 37), (⟨"SaidTwiceModel", "puts", "(I)V"⟩, 37), (⟨"SaidTwiceModel", "unwinds", "(I)V"⟩, 37), (⟨"SaidTwiceModel", "opensOne", "(I)Z"⟩, 37), (⟨"SaidTwiceModel", "holds", "(I)V"⟩, 37), (⟨"SaidTwiceModel", "signOf", "()I"⟩, 37), (⟨"SaidTwiceModel", "between", "(I)Z"⟩, 37), (⟨"SaidTwiceModel", "isOfTexts", "(I)Z"⟩, 37), (⟨"SaidTwiceModel", "saysOf", "(IIII)I"⟩, 37), (⟨"SaidTwiceModel", "says", "(I)I"⟩, 37), (⟨"SaidTwiceModel", "soIn", "(III)J"⟩, 37), (⟨"SaidTwiceModel", "isSpeaker", "(I)Z"⟩, 37), (⟨"SaidTwiceModel", "worldsNow", "()J"⟩, 37), (⟨"SaidTwiceModel", "reads", "()V"⟩, 37)]
theorem lw_r5 : ∀ q ∈ lw_privs_5, lw_okq q := List.forall_mem_cons.mpr ⟨lw_p64, List.forall_mem_cons.mpr ⟨lw_p65, List.forall_mem_cons.mpr ⟨lw_p66, List.forall_mem_cons.mpr ⟨lw_p67, List.forall_mem_cons.mpr ⟨lw_p68, List.forall_mem_cons.mpr ⟨lw_p69, List.forall_mem_cons.mpr ⟨lw_p70, List.forall_mem_cons.mpr ⟨lw_p71, List.forall_mem_cons.mpr ⟨lw_p72, List.forall_mem_cons.mpr ⟨lw_p73, List.forall_mem_cons.mpr ⟨lw_p74, List.forall_mem_cons.mpr ⟨lw_p75, List.forall_mem_cons.mpr ⟨lw_p76, List.forall_mem_cons.mpr ⟨lw_p77, List.forall_mem_cons.mpr ⟨lw_p78, List.forall_mem_cons.mpr ⟨lw_p79, fun _ h => absurd h List.not_mem_nil⟩⟩⟩⟩⟩⟩⟩⟩⟩⟩⟩⟩⟩⟩⟩⟩
theorem lw_p80 : lw_okq (⟨"SaidTwiceModel", "worldsOf", "(I)J"⟩, 37) := ⟨⟨by decide +kernel, by decide +kernel⟩, List.mem_of_getElem? (i := 802) (by decide +kernel), List.mem_of_getElem? (i := 1066) (by decide +kernel), List.mem_of_getElem? (i := 1067) (by decide +kernel)⟩
theorem lw_p81 : lw_okq (⟨"SaidTwiceModel", "once", "(I)J"⟩, 37) := ⟨⟨by decide +kernel, by decide +kernel⟩, List.mem_of_getElem? (i := 802) (by decide +kernel), List.mem_of_getElem? (i := 1070) (by decide +kernel), List.mem_of_getElem? (i := 1071) (by decide +kernel)⟩
theorem lw_p82 : lw_okq (⟨"SaidTwiceModel", "fitsSaying", "(I)J"⟩, 37) := ⟨⟨by decide +kernel, by decide +kernel⟩, List.mem_of_getElem? (i := 802) (by decide +kernel), List.mem_of_getElem? (i := 1074) (by decide +kernel), List.mem_of_getElem? (i := 1075) (by decide +kernel)⟩
theorem lw_p83 : lw_okq (⟨"SaidTwiceModel", "fits", "(IIII)J"⟩, 37) := ⟨⟨by decide +kernel, by decide +kernel⟩, List.mem_of_getElem? (i := 802) (by decide +kernel), List.mem_of_getElem? (i := 1078) (by decide +kernel), List.mem_of_getElem? (i := 1079) (by decide +kernel)⟩
theorem lw_p84 : lw_okq (⟨"SaidTwiceModel", "canSay", "(IIIIII)J"⟩, 37) := ⟨⟨by decide +kernel, by decide +kernel⟩, List.mem_of_getElem? (i := 802) (by decide +kernel), List.mem_of_getElem? (i := 1082) (by decide +kernel), List.mem_of_getElem? (i := 1083) (by decide +kernel)⟩
theorem lw_p85 : lw_okq (⟨"SaidTwiceModel", "findsFitting", "()V"⟩, 37) := ⟨⟨by decide +kernel, by decide +kernel⟩, List.mem_of_getElem? (i := 802) (by decide +kernel), List.mem_of_getElem? (i := 1114) (by decide +kernel), List.mem_of_getElem? (i := 1115) (by decide +kernel)⟩
theorem lw_p86 : lw_okq (⟨"SaidTwiceModel", "without", "(I)J"⟩, 37) := ⟨⟨by decide +kernel, by decide +kernel⟩, List.mem_of_getElem? (i := 802) (by decide +kernel), List.mem_of_getElem? (i := 1118) (by decide +kernel), List.mem_of_getElem? (i := 1119) (by decide +kernel)⟩
theorem lw_p87 : lw_okq (⟨"SaidTwiceModel", "worldsMad", "(I)J"⟩, 37) := ⟨⟨by decide +kernel, by decide +kernel⟩, List.mem_of_getElem? (i := 802) (by decide +kernel), List.mem_of_getElem? (i := 1130) (by decide +kernel), List.mem_of_getElem? (i := 1131) (by decide +kernel)⟩
theorem lw_p88 : lw_okq (⟨"SaidTwiceModel", "findsQuestion", "(JI)V"⟩, 37) := ⟨⟨by decide +kernel, by decide +kernel⟩, List.mem_of_getElem? (i := 802) (by decide +kernel), List.mem_of_getElem? (i := 1149) (by decide +kernel), List.mem_of_getElem? (i := 1150) (by decide +kernel)⟩
theorem lw_p89 : lw_okq (⟨"SaidTwiceModel", "worstOf", "(JIII)I"⟩, 37) := ⟨⟨by decide +kernel, by decide +kernel⟩, List.mem_of_getElem? (i := 802) (by decide +kernel), List.mem_of_getElem? (i := 1153) (by decide +kernel), List.mem_of_getElem? (i := 1154) (by decide +kernel)⟩
theorem lw_p90 : lw_okq (⟨"SaidTwiceModel", "worstBehind", "(J)I"⟩, 37) := ⟨⟨by decide +kernel, by decide +kernel⟩, List.mem_of_getElem? (i := 802) (by decide +kernel), List.mem_of_getElem? (i := 1161) (by decide +kernel), List.mem_of_getElem? (i := 1162) (by decide +kernel)⟩
theorem lw_p91 : lw_okq (⟨"SaidTwiceModel", "settles", "(JI)Z"⟩, 37) := ⟨⟨by decide +kernel, by decide +kernel⟩, List.mem_of_getElem? (i := 802) (by decide +kernel), List.mem_of_getElem? (i := 1188) (by decide +kernel), List.mem_of_getElem? (i := 1189) (by decide +kernel)⟩
theorem lw_p92 : lw_okq (⟨"SaidTwiceModel", "isRow", "(III)Z"⟩, 37) := ⟨⟨by decide +kernel, by decide +kernel⟩, List.mem_of_getElem? (i := 802) (by decide +kernel), List.mem_of_getElem? (i := 1204) (by decide +kernel), List.mem_of_getElem? (i := 1205) (by decide +kernel)⟩
theorem lw_p93 : lw_okq (⟨"SaidTwiceModel", "asksBy", "(JI)I"⟩, 37) := ⟨⟨by decide +kernel, by decide +kernel⟩, List.mem_of_getElem? (i := 802) (by decide +kernel), List.mem_of_getElem? (i := 1217) (by decide +kernel), List.mem_of_getElem? (i := 1218) (by decide +kernel)⟩
def lw_privs_6 : List (MethodName × Nat) := [(⟨"SaidTwiceModel", "worldsOf", "(I)J"⟩, 37), (⟨"SaidTwiceModel", "once", "(I)J"⟩, 37), (⟨"SaidTwiceModel", "fitsSaying", "(I)J"⟩, 37), (⟨"SaidTwiceModel", "fits", "(IIII)J"⟩, 37), (⟨"SaidTwiceModel", "canSay", "(IIIIII)J"⟩, 37), (⟨"SaidTwiceModel", "findsFitting", "()V"⟩, 37), (⟨"SaidTwiceModel", "without", "(I)J"⟩, 37), (⟨"SaidTwiceModel", "worldsMad", "(I)J"⟩, 37), (⟨"SaidTwiceModel", "findsQuestion", "(JI)V"⟩, 37), (⟨"SaidTwiceModel", "worstOf", "(JIII)I"⟩, 37), (⟨"SaidTwiceModel", "worstBehind", "(J)I"⟩, 37), (⟨"SaidTwiceModel", "settles", "(JI)Z"⟩, 37), (⟨"SaidTwiceModel", "isRow", "(III)Z"⟩, 37), (⟨"SaidTwiceModel", "asksBy", "(JI)I"⟩, 37)]
theorem lw_r6 : ∀ q ∈ lw_privs_6, lw_okq q := List.forall_mem_cons.mpr ⟨lw_p80, List.forall_mem_cons.mpr ⟨lw_p81, List.forall_mem_cons.mpr ⟨lw_p82, List.forall_mem_cons.mpr ⟨lw_p83, List.forall_mem_cons.mpr ⟨lw_p84, List.forall_mem_cons.mpr ⟨lw_p85, List.forall_mem_cons.mpr ⟨lw_p86, List.forall_mem_cons.mpr ⟨lw_p87, List.forall_mem_cons.mpr ⟨lw_p88, List.forall_mem_cons.mpr ⟨lw_p89, List.forall_mem_cons.mpr ⟨lw_p90, List.forall_mem_cons.mpr ⟨lw_p91, List.forall_mem_cons.mpr ⟨lw_p92, List.forall_mem_cons.mpr ⟨lw_p93, fun _ h => absurd h List.not_mem_nil⟩⟩⟩⟩⟩⟩⟩⟩⟩⟩⟩⟩⟩⟩
def lw_privs : List (MethodName × Nat) := lw_privs_1 ++ (lw_privs_2 ++ (lw_privs_3 ++ (lw_privs_4 ++ (lw_privs_5 ++ (lw_privs_6)))))
def lw_tbl : List Cond := k2_sels lw_privs ++ tables_1
theorem lw_privs_ok : ∀ q ∈ lw_privs, lw_okq q := by
  show ∀ q ∈ lw_privs_1 ++ (lw_privs_2 ++ (lw_privs_3 ++ (lw_privs_4 ++ (lw_privs_5 ++ (lw_privs_6))))), lw_okq q
  exact List.forall_mem_append.mpr ⟨lw_r1, List.forall_mem_append.mpr ⟨lw_r2, List.forall_mem_append.mpr ⟨lw_r3, List.forall_mem_append.mpr ⟨lw_r4, List.forall_mem_append.mpr ⟨lw_r5, lw_r6⟩⟩⟩⟩⟩
def RX0 : String := "SaidTwice$Code"
def TX0 : u_T := fun k => match k with
  | 0 => ("SaidTwice$Code", "sorts", "[I", true)
  | 1 => ("SaidTwice$Code", "values", "[I", true)
  | 2 => ("SaidTwice$Code", "starts", "[I", true)
  | 3 => ("SaidTwice$Code", "stack", "[I", true)
  | 4 => ("SaidTwice$Code", "size", "I", false)
  | _ => ("SaidTwice$Code", "height", "I", false)
def tyX0 : Nat → FieldType := fun k => match k with
  | 0 => .array .int
  | 1 => .array .int
  | 2 => .array .int
  | 3 => .array .int
  | 4 => .int
  | _ => .int
abbrev wsX00 : List Cond := u_ws RX0 TX0 6
theorem nmX0 : ∀ a, a < 6 → ∀ b, b < 6 → a ≠ b → (TX0 a).2.1 ≠ (TX0 b).2.1 := by decide +kernel
theorem tyX0_ok : ∀ k, k < 6 → parseFieldDescriptor (TX0 k).2.2.1 = some (tyX0 k) := by decide +kernel
abbrev cX0_init : ByteArray := prog_2_method_1_code
def yX0_init : MethodName := ⟨RX0, "<init>", "()V"⟩
abbrev cX0_clear : ByteArray := prog_2_method_2_code
def yX0_clear : MethodName := ⟨RX0, "clear", "()V"⟩
abbrev cX0_add : ByteArray := prog_2_method_3_code
def yX0_add : MethodName := ⟨RX0, "add", "(II)V"⟩
abbrev cX0_endPart : ByteArray := prog_2_method_4_code
def yX0_endPart : MethodName := ⟨RX0, "endPart", "(I)V"⟩
abbrev cX0_truths : ByteArray := prog_2_method_5_code
def yX0_truths : MethodName := ⟨RX0, "truths", "(II)I"⟩
abbrev cX0_valueOf : ByteArray := prog_2_method_6_code
def yX0_valueOf : MethodName := ⟨RX0, "valueOf", "(III)I"⟩
abbrev cX0_step : ByteArray := prog_2_method_7_code
def yX0_step : MethodName := ⟨RX0, "step", "(IIII)V"⟩
abbrev cX0_joined : ByteArray := prog_2_method_8_code
def yX0_joined : MethodName := ⟨RX0, "joined", "(III)I"⟩
abbrev cX0_push : ByteArray := prog_2_method_9_code
def yX0_push : MethodName := ⟨RX0, "push", "(I)V"⟩
abbrev cX0_pop : ByteArray := prog_2_method_10_code
def yX0_pop : MethodName := ⟨RX0, "pop", "()I"⟩
def RX1 : String := "SaidTwice$Grammar"
def TX1 : u_T := fun k => match k with
  | 0 => ("SaidTwice$Grammar", "tokens", "LSaidTwice$Tokens;", true)
  | _ => ("SaidTwice$Grammar", "code", "LSaidTwice$Code;", true)
def tyX1 : Nat → FieldType := fun k => match k with
  | 0 => .object "SaidTwice$Tokens"
  | _ => .object "SaidTwice$Code"
abbrev wsX10 : List Cond := u_ws RX1 TX1 2
theorem nmX1 : ∀ a, a < 2 → ∀ b, b < 2 → a ≠ b → (TX1 a).2.1 ≠ (TX1 b).2.1 := by decide +kernel
theorem tyX1_ok : ∀ k, k < 2 → parseFieldDescriptor (TX1 k).2.2.1 = some (tyX1 k) := by decide +kernel
abbrev cX1_init : ByteArray := prog_3_method_1_code
def yX1_init : MethodName := ⟨RX1, "<init>", "(LSaidTwice$Tokens;LSaidTwice$Code;)V"⟩
abbrev cX1_readText : ByteArray := prog_3_method_2_code
def yX1_readText : MethodName := ⟨RX1, "readText", "()Z"⟩
abbrev cX1_readToken : ByteArray := prog_3_method_3_code
def yX1_readToken : MethodName := ⟨RX1, "readToken", "(I)Z"⟩
abbrev cX1_readOr : ByteArray := prog_3_method_4_code
def yX1_readOr : MethodName := ⟨RX1, "readOr", "(I)Z"⟩
abbrev cX1_readAnd : ByteArray := prog_3_method_5_code
def yX1_readAnd : MethodName := ⟨RX1, "readAnd", "(I)Z"⟩
abbrev cX1_readNot : ByteArray := prog_3_method_6_code
def yX1_readNot : MethodName := ⟨RX1, "readNot", "(I)Z"⟩
abbrev cX1_readCompared : ByteArray := prog_3_method_7_code
def yX1_readCompared : MethodName := ⟨RX1, "readCompared", "(I)Z"⟩
abbrev cX1_readSum : ByteArray := prog_3_method_8_code
def yX1_readSum : MethodName := ⟨RX1, "readSum", "(I)Z"⟩
abbrev cX1_readTerm : ByteArray := prog_3_method_9_code
def yX1_readTerm : MethodName := ⟨RX1, "readTerm", "(I)Z"⟩
abbrev cX1_readOne : ByteArray := prog_3_method_10_code
def yX1_readOne : MethodName := ⟨RX1, "readOne", "(I)Z"⟩
abbrev cX1_readBracket : ByteArray := prog_3_method_11_code
def yX1_readBracket : MethodName := ⟨RX1, "readBracket", "(I)Z"⟩
def RX2 : String := "SaidTwice$Question"
def TX2 : u_T := fun k => match k with
  | 0 => ("SaidTwice$Question", "speaker", "I", false)
  | 1 => ("SaidTwice$Question", "text", "I", false)
  | 2 => ("SaidTwice$Question", "worst", "I", false)
  | _ => ("SaidTwice$Question", "cost", "I", false)
def tyX2 : Nat → FieldType := fun k => match k with
  | 0 => .int
  | 1 => .int
  | 2 => .int
  | _ => .int
abbrev wsX20 : List Cond := u_ws RX2 TX2 4
theorem nmX2 : ∀ a, a < 4 → ∀ b, b < 4 → a ≠ b → (TX2 a).2.1 ≠ (TX2 b).2.1 := by decide +kernel
theorem tyX2_ok : ∀ k, k < 4 → parseFieldDescriptor (TX2 k).2.2.1 = some (tyX2 k) := by decide +kernel
abbrev cX2_init : ByteArray := prog_4_method_1_code
def yX2_init : MethodName := ⟨RX2, "<init>", "()V"⟩
abbrev cX2_consider : ByteArray := prog_4_method_2_code
def yX2_consider : MethodName := ⟨RX2, "consider", "(IIII)V"⟩
def RX3 : String := "SaidTwice$Sheets"
def TX3 : u_T := fun k => match k with
  | 0 => ("SaidTwice$Sheets", "sorts", "[I", true)
  | 1 => ("SaidTwice$Sheets", "sizes", "[I", true)
  | 2 => ("SaidTwice$Sheets", "cells", "[I", true)
  | _ => ("SaidTwice$Sheets", "moved", "[I", true)
def tyX3 : Nat → FieldType := fun k => match k with
  | 0 => .array .int
  | 1 => .array .int
  | 2 => .array .int
  | _ => .array .int
abbrev wsX30 : List Cond := u_ws RX3 TX3 4
theorem nmX3 : ∀ a, a < 4 → ∀ b, b < 4 → a ≠ b → (TX3 a).2.1 ≠ (TX3 b).2.1 := by decide +kernel
theorem tyX3_ok : ∀ k, k < 4 → parseFieldDescriptor (TX3 k).2.2.1 = some (tyX3 k) := by decide +kernel
abbrev cX3_init : ByteArray := prog_5_method_1_code
def yX3_init : MethodName := ⟨RX3, "<init>", "()V"⟩
abbrev cX3_isMissing : ByteArray := prog_5_method_2_code
def yX3_isMissing : MethodName := ⟨RX3, "isMissing", "(I)Z"⟩
abbrev cX3_make : ByteArray := prog_5_method_3_code
def yX3_make : MethodName := ⟨RX3, "make", "(III)V"⟩
abbrev cX3_holds : ByteArray := prog_5_method_4_code
def yX3_holds : MethodName := ⟨RX3, "holds", "(II)Z"⟩
abbrev cX3_holdsRun : ByteArray := prog_5_method_5_code
def yX3_holdsRun : MethodName := ⟨RX3, "holdsRun", "(III)Z"⟩
abbrev cX3_read : ByteArray := prog_5_method_6_code
def yX3_read : MethodName := ⟨RX3, "read", "(II)I"⟩
abbrev cX3_write : ByteArray := prog_5_method_7_code
def yX3_write : MethodName := ⟨RX3, "write", "(III)V"⟩
abbrev cX3_move : ByteArray := prog_5_method_8_code
def yX3_move : MethodName := ⟨RX3, "move", "(IIIII)V"⟩
def RX4 : String := "SaidTwice$Talk"
def TX4 : u_T := fun k => match k with
  | 0 => ("SaidTwice$Talk", "kindOf", "[I", true)
  | 1 => ("SaidTwice$Talk", "moreOf", "[I", true)
  | 2 => ("SaidTwice$Talk", "rows", "[I", true)
  | 3 => ("SaidTwice$Talk", "speakers", "I", false)
  | 4 => ("SaidTwice$Talk", "sayings", "I", false)
  | _ => ("SaidTwice$Talk", "law", "I", false)
def tyX4 : Nat → FieldType := fun k => match k with
  | 0 => .array .int
  | 1 => .array .int
  | 2 => .array .int
  | 3 => .int
  | 4 => .int
  | _ => .int
abbrev wsX40 : List Cond := u_ws RX4 TX4 6
theorem nmX4 : ∀ a, a < 6 → ∀ b, b < 6 → a ≠ b → (TX4 a).2.1 ≠ (TX4 b).2.1 := by decide +kernel
theorem tyX4_ok : ∀ k, k < 6 → parseFieldDescriptor (TX4 k).2.2.1 = some (tyX4 k) := by decide +kernel
abbrev cX4_init : ByteArray := prog_6_method_1_code
def yX4_init : MethodName := ⟨RX4, "<init>", "()V"⟩
abbrev cX4_become : ByteArray := prog_6_method_2_code
def yX4_become : MethodName := ⟨RX4, "become", "(III)V"⟩
abbrev cX4_append : ByteArray := prog_6_method_3_code
def yX4_append : MethodName := ⟨RX4, "append", "(III)V"⟩
abbrev cX4_sayingPart : ByteArray := prog_6_method_4_code
def yX4_sayingPart : MethodName := ⟨RX4, "sayingPart", "(II)I"⟩
abbrev cX4_becomeLike : ByteArray := prog_6_method_5_code
def yX4_becomeLike : MethodName := ⟨RX4, "becomeLike", "(LSaidTwice$Talk;)V"⟩
def RX5 : String := "SaidTwice$Texts"
def TX5 : u_T := fun k => match k with
  | 0 => ("SaidTwice$Texts", "once", "[I", true)
  | 1 => ("SaidTwice$Texts", "twice", "[I", true)
  | 2 => ("SaidTwice$Texts", "costs", "[I", true)
  | _ => ("SaidTwice$Texts", "size", "I", false)
def tyX5 : Nat → FieldType := fun k => match k with
  | 0 => .array .int
  | 1 => .array .int
  | 2 => .array .int
  | _ => .int
abbrev wsX50 : List Cond := u_ws RX5 TX5 4
theorem nmX5 : ∀ a, a < 4 → ∀ b, b < 4 → a ≠ b → (TX5 a).2.1 ≠ (TX5 b).2.1 := by decide +kernel
theorem tyX5_ok : ∀ k, k < 4 → parseFieldDescriptor (TX5 k).2.2.1 = some (tyX5 k) := by decide +kernel
abbrev cX5_init : ByteArray := prog_7_method_1_code
def yX5_init : MethodName := ⟨RX5, "<init>", "()V"⟩
abbrev cX5_add : ByteArray := prog_7_method_2_code
def yX5_add : MethodName := ⟨RX5, "add", "(LSaidTwice$Code;)V"⟩
abbrev cX5_side : ByteArray := prog_7_method_3_code
def yX5_side : MethodName := ⟨RX5, "side", "(III)I"⟩
abbrev cX5_costOf : ByteArray := prog_7_method_4_code
def yX5_costOf : MethodName := ⟨RX5, "costOf", "(II)I"⟩
def RX6 : String := "SaidTwice$Tokens"
def TX6 : u_T := fun k => match k with
  | 0 => ("SaidTwice$Tokens", "tape", "[I", true)
  | 1 => ("SaidTwice$Tokens", "size", "I", false)
  | 2 => ("SaidTwice$Tokens", "sort", "I", false)
  | 3 => ("SaidTwice$Tokens", "value", "I", false)
  | 4 => ("SaidTwice$Tokens", "place", "I", false)
  | _ => ("SaidTwice$Tokens", "after", "I", false)
def tyX6 : Nat → FieldType := fun k => match k with
  | 0 => .array .int
  | 1 => .int
  | 2 => .int
  | 3 => .int
  | 4 => .int
  | _ => .int
abbrev wsX60 : List Cond := u_ws RX6 TX6 6
theorem nmX6 : ∀ a, a < 6 → ∀ b, b < 6 → a ≠ b → (TX6 a).2.1 ≠ (TX6 b).2.1 := by decide +kernel
theorem tyX6_ok : ∀ k, k < 6 → parseFieldDescriptor (TX6 k).2.2.1 = some (tyX6 k) := by decide +kernel
abbrev cX6_init : ByteArray := prog_8_method_1_code
def yX6_init : MethodName := ⟨RX6, "<init>", "()V"⟩
abbrev cX6_append : ByteArray := prog_8_method_2_code
def yX6_append : MethodName := ⟨RX6, "append", "(I)V"⟩
abbrev cX6_start : ByteArray := prog_8_method_3_code
def yX6_start : MethodName := ⟨RX6, "start", "()V"⟩
abbrev cX6_advance : ByteArray := prog_8_method_4_code
def yX6_advance : MethodName := ⟨RX6, "advance", "()V"⟩
abbrev cX6_readWord : ByteArray := prog_8_method_5_code
def yX6_readWord : MethodName := ⟨RX6, "readWord", "()V"⟩
abbrev cX6_spells : ByteArray := prog_8_method_6_code
def yX6_spells : MethodName := ⟨RX6, "spells", "(Ljava/lang/String;)Z"⟩
abbrev cX6_readNumber : ByteArray := prog_8_method_7_code
def yX6_readNumber : MethodName := ⟨RX6, "readNumber", "()V"⟩
abbrev cX6_isBlank : ByteArray := prog_8_method_8_code
def yX6_isBlank : MethodName := ⟨RX6, "isBlank", "(I)Z"⟩
abbrev cX6_isLetter : ByteArray := prog_8_method_9_code
def yX6_isLetter : MethodName := ⟨RX6, "isLetter", "(I)Z"⟩
abbrev cX6_isDigit : ByteArray := prog_8_method_10_code
def yX6_isDigit : MethodName := ⟨RX6, "isDigit", "(I)Z"⟩
abbrev cX6_isSign : ByteArray := prog_8_method_11_code
def yX6_isSign : MethodName := ⟨RX6, "isSign", "(I)Z"⟩
def RX7 : String := "SaidTwice"
def TX7 : u_T := fun k => match k with
  | 0 => ("SaidTwice", "tokens", "LSaidTwice$Tokens;", true)
  | 1 => ("SaidTwice", "code", "LSaidTwice$Code;", true)
  | 2 => ("SaidTwice", "grammar", "LSaidTwice$Grammar;", true)
  | 3 => ("SaidTwice", "texts", "LSaidTwice$Texts;", true)
  | 4 => ("SaidTwice", "talk", "LSaidTwice$Talk;", true)
  | 5 => ("SaidTwice", "kept", "LSaidTwice$Talk;", true)
  | 6 => ("SaidTwice", "sheets", "LSaidTwice$Sheets;", true)
  | 7 => ("SaidTwice", "best", "LSaidTwice$Question;", true)
  | _ => ("SaidTwice", "hasImage", "Z", false)
def tyX7 : Nat → FieldType := fun k => match k with
  | 0 => .object "SaidTwice$Tokens"
  | 1 => .object "SaidTwice$Code"
  | 2 => .object "SaidTwice$Grammar"
  | 3 => .object "SaidTwice$Texts"
  | 4 => .object "SaidTwice$Talk"
  | 5 => .object "SaidTwice$Talk"
  | 6 => .object "SaidTwice$Sheets"
  | 7 => .object "SaidTwice$Question"
  | _ => .boolean
abbrev wsX70 : List Cond := u_ws RX7 TX7 9
theorem nmX7 : ∀ a, a < 9 → ∀ b, b < 9 → a ≠ b → (TX7 a).2.1 ≠ (TX7 b).2.1 := by decide +kernel
theorem tyX7_ok : ∀ k, k < 9 → parseFieldDescriptor (TX7 k).2.2.1 = some (tyX7 k) := by decide +kernel
abbrev cX7_init : ByteArray := prog_1_method_1_code
def yX7_init : MethodName := ⟨RX7, "<init>", "()V"⟩
abbrev cX7_count : ByteArray := prog_1_method_2_code
def yX7_count : MethodName := ⟨RX7, "count", "(I)I"⟩
abbrev cX7_feed : ByteArray := prog_1_method_3_code
def yX7_feed : MethodName := ⟨RX7, "feed", "(IIIIII)I"⟩
abbrev cX7_text : ByteArray := prog_1_method_4_code
def yX7_text : MethodName := ⟨RX7, "text", "()I"⟩
abbrev cX7_force : ByteArray := prog_1_method_5_code
def yX7_force : MethodName := ⟨RX7, "force", "(I)I"⟩
abbrev cX7_asks : ByteArray := prog_1_method_6_code
def yX7_asks : MethodName := ⟨RX7, "asks", "(IIII)I"⟩
abbrev cX7_means : ByteArray := prog_1_method_7_code
def yX7_means : MethodName := ⟨RX7, "means", "(II)J"⟩
abbrev cX7_pairs : ByteArray := prog_1_method_8_code
def yX7_pairs : MethodName := ⟨RX7, "pairs", "(I)I"⟩
abbrev cX7_speaker : ByteArray := prog_1_method_9_code
def yX7_speaker : MethodName := ⟨RX7, "speaker", "(II)I"⟩
abbrev cX7_turn : ByteArray := prog_1_method_10_code
def yX7_turn : MethodName := ⟨RX7, "turn", "(III)I"⟩
abbrev cX7_told : ByteArray := prog_1_method_11_code
def yX7_told : MethodName := ⟨RX7, "told", "(II)I"⟩
abbrev cX7_say : ByteArray := prog_1_method_12_code
def yX7_say : MethodName := ⟨RX7, "say", "(III)I"⟩
abbrev cX7_unsay : ByteArray := prog_1_method_13_code
def yX7_unsay : MethodName := ⟨RX7, "unsay", "()I"⟩
abbrev cX7_said : ByteArray := prog_1_method_14_code
def yX7_said : MethodName := ⟨RX7, "said", "(II)I"⟩
abbrev cX7_worlds : ByteArray := prog_1_method_15_code
def yX7_worlds : MethodName := ⟨RX7, "worlds", "()J"⟩
abbrev cX7_behind : ByteArray := prog_1_method_16_code
def yX7_behind : MethodName := ⟨RX7, "behind", "(II)I"⟩
abbrev cX7_cannot : ByteArray := prog_1_method_17_code
def yX7_cannot : MethodName := ⟨RX7, "cannot", "()I"⟩
abbrev cX7_lies : ByteArray := prog_1_method_18_code
def yX7_lies : MethodName := ⟨RX7, "lies", "()I"⟩
abbrev cX7_least : ByteArray := prog_1_method_19_code
def yX7_least : MethodName := ⟨RX7, "least", "(I)I"⟩
abbrev cX7_mad : ByteArray := prog_1_method_20_code
def yX7_mad : MethodName := ⟨RX7, "mad", "(I)I"⟩
abbrev cX7_habit : ByteArray := prog_1_method_21_code
def yX7_habit : MethodName := ⟨RX7, "habit", "(III)J"⟩
abbrev cX7_kinds : ByteArray := prog_1_method_22_code
def yX7_kinds : MethodName := ⟨RX7, "kinds", "(II)I"⟩
abbrev cX7_ask : ByteArray := prog_1_method_23_code
def yX7_ask : MethodName := ⟨RX7, "ask", "(I)I"⟩
abbrev cX7_two : ByteArray := prog_1_method_24_code
def yX7_two : MethodName := ⟨RX7, "two", "(I)I"⟩
abbrev cX7_parts : ByteArray := prog_1_method_25_code
def yX7_parts : MethodName := ⟨RX7, "parts", "(III)J"⟩
abbrev cX7_hide : ByteArray := prog_1_method_26_code
def yX7_hide : MethodName := ⟨RX7, "hide", "(III)I"⟩
abbrev cX7_same : ByteArray := prog_1_method_27_code
def yX7_same : MethodName := ⟨RX7, "same", "(III)I"⟩
abbrev cX7_claims : ByteArray := prog_1_method_28_code
def yX7_claims : MethodName := ⟨RX7, "claims", "(I)I"⟩
abbrev cX7_settle : ByteArray := prog_1_method_29_code
def yX7_settle : MethodName := ⟨RX7, "settle", "(I)I"⟩
abbrev cX7_thrice : ByteArray := prog_1_method_30_code
def yX7_thrice : MethodName := ⟨RX7, "thrice", "(III)J"⟩
abbrev cX7_many : ByteArray := prog_1_method_31_code
def yX7_many : MethodName := ⟨RX7, "many", "(I)I"⟩
abbrev cX7_judge : ByteArray := prog_1_method_32_code
def yX7_judge : MethodName := ⟨RX7, "judge", "(II)I"⟩
abbrev cX7_film : ByteArray := prog_1_method_33_code
def yX7_film : MethodName := ⟨RX7, "film", "(I)I"⟩
abbrev cX7_drawn : ByteArray := prog_1_method_34_code
def yX7_drawn : MethodName := ⟨RX7, "drawn", "(I)I"⟩
abbrev cX7_mean : ByteArray := prog_1_method_35_code
def yX7_mean : MethodName := ⟨RX7, "mean", "(III)J"⟩
abbrev cX7_image : ByteArray := prog_1_method_36_code
def yX7_image : MethodName := ⟨RX7, "image", "()I"⟩
abbrev cX7_back : ByteArray := prog_1_method_37_code
def yX7_back : MethodName := ⟨RX7, "back", "()I"⟩
abbrev cX7_sheet : ByteArray := prog_1_method_38_code
def yX7_sheet : MethodName := ⟨RX7, "sheet", "(III)I"⟩
abbrev cX7_cell : ByteArray := prog_1_method_39_code
def yX7_cell : MethodName := ⟨RX7, "cell", "(III)I"⟩
abbrev cX7_copy : ByteArray := prog_1_method_40_code
def yX7_copy : MethodName := ⟨RX7, "copy", "(IIIII)I"⟩
abbrev cX7_sayingsBy : ByteArray := prog_1_method_41_code
def yX7_sayingsBy : MethodName := ⟨RX7, "sayingsBy", "(IIII)I"⟩
abbrev cX7_taken : ByteArray := prog_1_method_42_code
def yX7_taken : MethodName := ⟨RX7, "taken", "(II)I"⟩
abbrev cX7_isBelow : ByteArray := prog_1_method_43_code
def yX7_isBelow : MethodName := ⟨RX7, "isBelow", "(II)Z"⟩
abbrev cX7_isByte : ByteArray := prog_1_method_44_code
def yX7_isByte : MethodName := ⟨RX7, "isByte", "(I)Z"⟩
abbrev cX7_isKind : ByteArray := prog_1_method_45_code
def yX7_isKind : MethodName := ⟨RX7, "isKind", "(I)Z"⟩
abbrev cX7_isMore : ByteArray := prog_1_method_46_code
def yX7_isMore : MethodName := ⟨RX7, "isMore", "(I)Z"⟩
abbrev cX7_isWorld : ByteArray := prog_1_method_47_code
def yX7_isWorld : MethodName := ⟨RX7, "isWorld", "(I)Z"⟩
abbrev cX7_isText : ByteArray := prog_1_method_48_code
def yX7_isText : MethodName := ⟨RX7, "isText", "(I)Z"⟩
abbrev cX7_isSpeaker : ByteArray := prog_1_method_49_code
def yX7_isSpeaker : MethodName := ⟨RX7, "isSpeaker", "(I)Z"⟩
abbrev cX7_at : ByteArray := prog_1_method_50_code
def yX7_at : MethodName := ⟨RX7, "at", "([II)I"⟩
abbrev cX7_put : ByteArray := prog_1_method_51_code
def yX7_put : MethodName := ⟨RX7, "put", "([III)V"⟩
abbrev cX7_bit : ByteArray := prog_1_method_52_code
def yX7_bit : MethodName := ⟨RX7, "bit", "(II)I"⟩
abbrev cX7_bits : ByteArray := prog_1_method_53_code
def yX7_bits : MethodName := ⟨RX7, "bits", "(I)J"⟩
abbrev cX7_worldNumber : ByteArray := prog_1_method_54_code
def yX7_worldNumber : MethodName := ⟨RX7, "worldNumber", "(II)I"⟩
abbrev cX7_fewer : ByteArray := prog_1_method_55_code
def yX7_fewer : MethodName := ⟨RX7, "fewer", "(II)I"⟩
abbrev cX7_inLowestTerms : ByteArray := prog_1_method_56_code
def yX7_inLowestTerms : MethodName := ⟨RX7, "inLowestTerms", "(III)J"⟩
abbrev cX7_commonDivisor : ByteArray := prog_1_method_57_code
def yX7_commonDivisor : MethodName := ⟨RX7, "commonDivisor", "(II)I"⟩
abbrev cX7_canSay : ByteArray := prog_1_method_58_code
def yX7_canSay : MethodName := ⟨RX7, "canSay", "(IIIII)I"⟩
abbrev cX7_turnsAt : ByteArray := prog_1_method_59_code
def yX7_turnsAt : MethodName := ⟨RX7, "turnsAt", "(II)Z"⟩
abbrev cX7_onceOf : ByteArray := prog_1_method_60_code
def yX7_onceOf : MethodName := ⟨RX7, "onceOf", "(I)I"⟩
abbrev cX7_lawful : ByteArray := prog_1_method_61_code
def yX7_lawful : MethodName := ⟨RX7, "lawful", "()I"⟩
abbrev cX7_firstSaid : ByteArray := prog_1_method_62_code
def yX7_firstSaid : MethodName := ⟨RX7, "firstSaid", "(I)I"⟩
abbrev cX7_secondSaid : ByteArray := prog_1_method_63_code
def yX7_secondSaid : MethodName := ⟨RX7, "secondSaid", "(I)I"⟩
abbrev cX7_sayableNext : ByteArray := prog_1_method_64_code
def yX7_sayableNext : MethodName := ⟨RX7, "sayableNext", "(IIII)I"⟩
abbrev cX7_sayable : ByteArray := prog_1_method_65_code
def yX7_sayable : MethodName := ⟨RX7, "sayable", "(I)I"⟩
abbrev cX7_sayableAs : ByteArray := prog_1_method_66_code
def yX7_sayableAs : MethodName := ⟨RX7, "sayableAs", "(II)I"⟩
abbrev cX7_allSayableWere : ByteArray := prog_1_method_67_code
def yX7_allSayableWere : MethodName := ⟨RX7, "allSayableWere", "(II)I"⟩
abbrev cX7_fittingFirst : ByteArray := prog_1_method_68_code
def yX7_fittingFirst : MethodName := ⟨RX7, "fittingFirst", "(I)I"⟩
abbrev cX7_fitting : ByteArray := prog_1_method_69_code
def yX7_fitting : MethodName := ⟨RX7, "fitting", "()I"⟩
abbrev cX7_fittingWithout : ByteArray := prog_1_method_70_code
def yX7_fittingWithout : MethodName := ⟨RX7, "fittingWithout", "(I)I"⟩
abbrev cX7_fittingWereMad : ByteArray := prog_1_method_71_code
def yX7_fittingWereMad : MethodName := ⟨RX7, "fittingWereMad", "(I)I"⟩
abbrev cX7_misfits : ByteArray := prog_1_method_72_code
def yX7_misfits : MethodName := ⟨RX7, "misfits", "(I)I"⟩
abbrev cX7_isSure : ByteArray := prog_1_method_73_code
def yX7_isSure : MethodName := ⟨RX7, "isSure", "(II)Z"⟩
abbrev cX7_thingsSure : ByteArray := prog_1_method_74_code
def yX7_thingsSure : MethodName := ⟨RX7, "thingsSure", "(IZ)I"⟩
abbrev cX7_findBest : ByteArray := prog_1_method_75_code
def yX7_findBest : MethodName := ⟨RX7, "findBest", "(II)Z"⟩
abbrev cX7_worstOf : ByteArray := prog_1_method_76_code
def yX7_worstOf : MethodName := ⟨RX7, "worstOf", "(IIII)I"⟩
abbrev cX7_worstBehind : ByteArray := prog_1_method_77_code
def yX7_worstBehind : MethodName := ⟨RX7, "worstBehind", "(III)I"⟩
abbrev cX7_strangerAsks : ByteArray := prog_1_method_78_code
def yX7_strangerAsks : MethodName := ⟨RX7, "strangerAsks", "(II)I"⟩
abbrev cX7_answered : ByteArray := prog_1_method_79_code
def yX7_answered : MethodName := ⟨RX7, "answered", "(IIZ)I"⟩
abbrev cX7_lotBehind : ByteArray := prog_1_method_80_code
def yX7_lotBehind : MethodName := ⟨RX7, "lotBehind", "(J)J"⟩
abbrev cX7_settles : ByteArray := prog_1_method_81_code
def yX7_settles : MethodName := ⟨RX7, "settles", "(II)Z"⟩
abbrev cX7_markOf : ByteArray := prog_1_method_82_code
def yX7_markOf : MethodName := ⟨RX7, "markOf", "(II)I"⟩
abbrev cX7_rowFits : ByteArray := prog_1_method_83_code
def yX7_rowFits : MethodName := ⟨RX7, "rowFits", "(III)Z"⟩
abbrev cX7_sayingTaken : ByteArray := prog_1_method_84_code
def yX7_sayingTaken : MethodName := ⟨RX7, "sayingTaken", "(II)I"⟩
abbrev cX7_speakerTaken : ByteArray := prog_1_method_85_code
def yX7_speakerTaken : MethodName := ⟨RX7, "speakerTaken", "(II)I"⟩
abbrev cX7_isOneOf : ByteArray := prog_1_method_86_code
def yX7_isOneOf : MethodName := ⟨RX7, "isOneOf", "(II)Z"⟩
def RX8 : String := "SaidTwiceModel"
def TX8 : u_T := fun k => match k with
  | 0 => ("SaidTwiceModel", "speakers", "I", false)
  | 1 => ("SaidTwiceModel", "kind", "[I", true)
  | 2 => ("SaidTwiceModel", "more", "[I", true)
  | 3 => ("SaidTwiceModel", "sayings", "I", false)
  | 4 => ("SaidTwiceModel", "talk", "[I", true)
  | 5 => ("SaidTwiceModel", "tape", "[I", true)
  | 6 => ("SaidTwiceModel", "taped", "I", false)
  | 7 => ("SaidTwiceModel", "codes", "[I", true)
  | 8 => ("SaidTwiceModel", "starts", "[I", true)
  | 9 => ("SaidTwiceModel", "texts", "I", false)
  | 10 => ("SaidTwiceModel", "rule", "I", false)
  | 11 => ("SaidTwiceModel", "hasImage", "Z", false)
  | 12 => ("SaidTwiceModel", "imageSpeakers", "I", false)
  | 13 => ("SaidTwiceModel", "imageSayings", "I", false)
  | 14 => ("SaidTwiceModel", "imageRule", "I", false)
  | 15 => ("SaidTwiceModel", "imageKinds", "[I", true)
  | 16 => ("SaidTwiceModel", "imageTalk", "[I", true)
  | 17 => ("SaidTwiceModel", "sheetSort", "[I", true)
  | 18 => ("SaidTwiceModel", "sheetSize", "[I", true)
  | 19 => ("SaidTwiceModel", "cells", "[I", true)
  | 20 => ("SaidTwiceModel", "law", "[I", true)
  | 21 => ("SaidTwiceModel", "at", "I", false)
  | 22 => ("SaidTwiceModel", "begun", "I", false)
  | 23 => ("SaidTwiceModel", "token", "I", false)
  | 24 => ("SaidTwiceModel", "value", "I", false)
  | 25 => ("SaidTwiceModel", "words", "[I", true)
  | 26 => ("SaidTwiceModel", "held", "[I", true)
  | 27 => ("SaidTwiceModel", "heldMany", "I", false)
  | 28 => ("SaidTwiceModel", "opens", "I", false)
  | 29 => ("SaidTwiceModel", "out", "I", false)
  | 30 => ("SaidTwiceModel", "stack", "[I", true)
  | 31 => ("SaidTwiceModel", "named", "[I", true)
  | 32 => ("SaidTwiceModel", "meant", "[J", true)
  | 33 => ("SaidTwiceModel", "fitting", "[J", true)
  | 34 => ("SaidTwiceModel", "bestAsked", "I", false)
  | 35 => ("SaidTwiceModel", "bestWorst", "I", false)
  | _ => ("SaidTwiceModel", "bestCosts", "I", false)
def tyX8 : Nat → FieldType := fun k => match k with
  | 0 => .int
  | 1 => .array .int
  | 2 => .array .int
  | 3 => .int
  | 4 => .array .int
  | 5 => .array .int
  | 6 => .int
  | 7 => .array .int
  | 8 => .array .int
  | 9 => .int
  | 10 => .int
  | 11 => .boolean
  | 12 => .int
  | 13 => .int
  | 14 => .int
  | 15 => .array .int
  | 16 => .array .int
  | 17 => .array .int
  | 18 => .array .int
  | 19 => .array .int
  | 20 => .array .int
  | 21 => .int
  | 22 => .int
  | 23 => .int
  | 24 => .int
  | 25 => .array .int
  | 26 => .array .int
  | 27 => .int
  | 28 => .int
  | 29 => .int
  | 30 => .array .int
  | 31 => .array .int
  | 32 => .array .long
  | 33 => .array .long
  | 34 => .int
  | 35 => .int
  | _ => .int
abbrev wsX80 : List Cond := u_ws RX8 TX8 37
theorem nmX8 : ∀ a, a < 37 → ∀ b, b < 37 → a ≠ b → (TX8 a).2.1 ≠ (TX8 b).2.1 := by decide +kernel
theorem tyX8_ok : ∀ k, k < 37 → parseFieldDescriptor (TX8 k).2.2.1 = some (tyX8 k) := by decide +kernel
abbrev cX8_init : ByteArray := prog_10_method_1_code
def yX8_init : MethodName := ⟨RX8, "<init>", "()V"⟩
abbrev cX8_in : ByteArray := prog_10_method_3_code
def yX8_in : MethodName := ⟨RX8, "in", "(III)Z"⟩
abbrev cX8_within : ByteArray := prog_10_method_4_code
def yX8_within : MethodName := ⟨RX8, "within", "(III)I"⟩
abbrev cX8_isSpeaker : ByteArray := prog_10_method_5_code
def yX8_isSpeaker : MethodName := ⟨RX8, "isSpeaker", "(I)Z"⟩
abbrev cX8_isOfTexts : ByteArray := prog_10_method_6_code
def yX8_isOfTexts : MethodName := ⟨RX8, "isOfTexts", "(I)Z"⟩
abbrev cX8_isWorld : ByteArray := prog_10_method_7_code
def yX8_isWorld : MethodName := ⟨RX8, "isWorld", "(I)Z"⟩
abbrev cX8_has : ByteArray := prog_10_method_8_code
def yX8_has : MethodName := ⟨RX8, "has", "(JI)Z"⟩
abbrev cX8_bitsOf : ByteArray := prog_10_method_9_code
def yX8_bitsOf : MethodName := ⟨RX8, "bitsOf", "(J)I"⟩
abbrev cX8_count : ByteArray := prog_10_method_10_code
def yX8_count : MethodName := ⟨RX8, "count", "(I)I"⟩
abbrev cX8_isByte : ByteArray := prog_10_method_11_code
def yX8_isByte : MethodName := ⟨RX8, "isByte", "(I)Z"⟩
abbrev cX8_feed : ByteArray := prog_10_method_12_code
def yX8_feed : MethodName := ⟨RX8, "feed", "(IIIIII)I"⟩
abbrev cX8_wordFrom : ByteArray := prog_10_method_13_code
def yX8_wordFrom : MethodName := ⟨RX8, "wordFrom", "(II)I"⟩
abbrev cX8_next : ByteArray := prog_10_method_14_code
def yX8_next : MethodName := ⟨RX8, "next", "()V"⟩
abbrev cX8_rank : ByteArray := prog_10_method_15_code
def yX8_rank : MethodName := ⟨RX8, "rank", "(I)I"⟩
abbrev cX8_puts : ByteArray := prog_10_method_16_code
def yX8_puts : MethodName := ⟨RX8, "puts", "(I)V"⟩
abbrev cX8_unwinds : ByteArray := prog_10_method_17_code
def yX8_unwinds : MethodName := ⟨RX8, "unwinds", "(I)V"⟩
abbrev cX8_holds : ByteArray := prog_10_method_18_code
def yX8_holds : MethodName := ⟨RX8, "holds", "(I)V"⟩
abbrev cX8_opensOne : ByteArray := prog_10_method_19_code
def yX8_opensOne : MethodName := ⟨RX8, "opensOne", "(I)Z"⟩
abbrev cX8_between : ByteArray := prog_10_method_20_code
def yX8_between : MethodName := ⟨RX8, "between", "(I)Z"⟩
abbrev cX8_signOf : ByteArray := prog_10_method_21_code
def yX8_signOf : MethodName := ⟨RX8, "signOf", "()I"⟩
abbrev cX8_eRead : ByteArray := prog_10_method_22_code
def yX8_eRead : MethodName := ⟨RX8, "eRead", "()Z"⟩
abbrev cX8_text : ByteArray := prog_10_method_23_code
def yX8_text : MethodName := ⟨RX8, "text", "()I"⟩
abbrev cX8_two : ByteArray := prog_10_method_24_code
def yX8_two : MethodName := ⟨RX8, "two", "(III)I"⟩
abbrev cX8_says : ByteArray := prog_10_method_25_code
def yX8_says : MethodName := ⟨RX8, "says", "(I)I"⟩
abbrev cX8_force : ByteArray := prog_10_method_26_code
def yX8_force : MethodName := ⟨RX8, "force", "(I)I"⟩
abbrev cX8_saysOf : ByteArray := prog_10_method_27_code
def yX8_saysOf : MethodName := ⟨RX8, "saysOf", "(IIII)I"⟩
abbrev cX8_asks : ByteArray := prog_10_method_28_code
def yX8_asks : MethodName := ⟨RX8, "asks", "(IIII)I"⟩
abbrev cX8_soIn : ByteArray := prog_10_method_29_code
def yX8_soIn : MethodName := ⟨RX8, "soIn", "(III)J"⟩
abbrev cX8_means : ByteArray := prog_10_method_30_code
def yX8_means : MethodName := ⟨RX8, "means", "(II)J"⟩
abbrev cX8_pairs : ByteArray := prog_10_method_31_code
def yX8_pairs : MethodName := ⟨RX8, "pairs", "(I)I"⟩
abbrev cX8_reads : ByteArray := prog_10_method_32_code
def yX8_reads : MethodName := ⟨RX8, "reads", "()V"⟩
abbrev cX8_once : ByteArray := prog_10_method_33_code
def yX8_once : MethodName := ⟨RX8, "once", "(I)J"⟩
abbrev cX8_isSo : ByteArray := prog_10_method_34_code
def yX8_isSo : MethodName := ⟨RX8, "isSo", "(II)Z"⟩
abbrev cX8_speaker : ByteArray := prog_10_method_35_code
def yX8_speaker : MethodName := ⟨RX8, "speaker", "(II)I"⟩
abbrev cX8_turn : ByteArray := prog_10_method_36_code
def yX8_turn : MethodName := ⟨RX8, "turn", "(III)I"⟩
abbrev cX8_told : ByteArray := prog_10_method_37_code
def yX8_told : MethodName := ⟨RX8, "told", "(II)I"⟩
abbrev cX8_say : ByteArray := prog_10_method_38_code
def yX8_say : MethodName := ⟨RX8, "say", "(III)I"⟩
abbrev cX8_unsay : ByteArray := prog_10_method_39_code
def yX8_unsay : MethodName := ⟨RX8, "unsay", "()I"⟩
abbrev cX8_said : ByteArray := prog_10_method_40_code
def yX8_said : MethodName := ⟨RX8, "said", "(II)I"⟩
abbrev cX8_canSay : ByteArray := prog_10_method_41_code
def yX8_canSay : MethodName := ⟨RX8, "canSay", "(IIIIII)J"⟩
abbrev cX8_fits : ByteArray := prog_10_method_42_code
def yX8_fits : MethodName := ⟨RX8, "fits", "(IIII)J"⟩
abbrev cX8_fitsSaying : ByteArray := prog_10_method_43_code
def yX8_fitsSaying : MethodName := ⟨RX8, "fitsSaying", "(I)J"⟩
abbrev cX8_worldsOf : ByteArray := prog_10_method_44_code
def yX8_worldsOf : MethodName := ⟨RX8, "worldsOf", "(I)J"⟩
abbrev cX8_worldsNow : ByteArray := prog_10_method_45_code
def yX8_worldsNow : MethodName := ⟨RX8, "worldsNow", "()J"⟩
abbrev cX8_worlds : ByteArray := prog_10_method_46_code
def yX8_worlds : MethodName := ⟨RX8, "worlds", "()J"⟩
abbrev cX8_allIn : ByteArray := prog_10_method_47_code
def yX8_allIn : MethodName := ⟨RX8, "allIn", "(J)I"⟩
abbrev cX8_noneIn : ByteArray := prog_10_method_48_code
def yX8_noneIn : MethodName := ⟨RX8, "noneIn", "(J)I"⟩
abbrev cX8_leastOf : ByteArray := prog_10_method_49_code
def yX8_leastOf : MethodName := ⟨RX8, "leastOf", "(J)I"⟩
abbrev cX8_behind : ByteArray := prog_10_method_50_code
def yX8_behind : MethodName := ⟨RX8, "behind", "(II)I"⟩
abbrev cX8_cannot : ByteArray := prog_10_method_51_code
def yX8_cannot : MethodName := ⟨RX8, "cannot", "()I"⟩
abbrev cX8_findsFitting : ByteArray := prog_10_method_52_code
def yX8_findsFitting : MethodName := ⟨RX8, "findsFitting", "()V"⟩
abbrev cX8_without : ByteArray := prog_10_method_53_code
def yX8_without : MethodName := ⟨RX8, "without", "(I)J"⟩
abbrev cX8_lies : ByteArray := prog_10_method_54_code
def yX8_lies : MethodName := ⟨RX8, "lies", "()I"⟩
abbrev cX8_least : ByteArray := prog_10_method_55_code
def yX8_least : MethodName := ⟨RX8, "least", "(I)I"⟩
abbrev cX8_worldsMad : ByteArray := prog_10_method_56_code
def yX8_worldsMad : MethodName := ⟨RX8, "worldsMad", "(I)J"⟩
abbrev cX8_mad : ByteArray := prog_10_method_57_code
def yX8_mad : MethodName := ⟨RX8, "mad", "(I)I"⟩
abbrev cX8_lowest : ByteArray := prog_10_method_58_code
def yX8_lowest : MethodName := ⟨RX8, "lowest", "(JJI)J"⟩
abbrev cX8_habit : ByteArray := prog_10_method_59_code
def yX8_habit : MethodName := ⟨RX8, "habit", "(III)J"⟩
abbrev cX8_kinds : ByteArray := prog_10_method_60_code
def yX8_kinds : MethodName := ⟨RX8, "kinds", "(II)I"⟩
abbrev cX8_worstOf : ByteArray := prog_10_method_61_code
def yX8_worstOf : MethodName := ⟨RX8, "worstOf", "(JIII)I"⟩
abbrev cX8_findsQuestion : ByteArray := prog_10_method_62_code
def yX8_findsQuestion : MethodName := ⟨RX8, "findsQuestion", "(JI)V"⟩
abbrev cX8_ask : ByteArray := prog_10_method_63_code
def yX8_ask : MethodName := ⟨RX8, "ask", "(I)I"⟩
abbrev cX8_worstBehind : ByteArray := prog_10_method_64_code
def yX8_worstBehind : MethodName := ⟨RX8, "worstBehind", "(J)I"⟩
abbrev cX8_two_ : ByteArray := prog_10_method_65_code
def yX8_two_ : MethodName := ⟨RX8, "two", "(I)I"⟩
abbrev cX8_parts : ByteArray := prog_10_method_66_code
def yX8_parts : MethodName := ⟨RX8, "parts", "(III)J"⟩
abbrev cX8_isSure : ByteArray := prog_10_method_67_code
def yX8_isSure : MethodName := ⟨RX8, "isSure", "(JI)Z"⟩
abbrev cX8_hide : ByteArray := prog_10_method_68_code
def yX8_hide : MethodName := ⟨RX8, "hide", "(III)I"⟩
abbrev cX8_same : ByteArray := prog_10_method_69_code
def yX8_same : MethodName := ⟨RX8, "same", "(III)I"⟩
abbrev cX8_claims : ByteArray := prog_10_method_70_code
def yX8_claims : MethodName := ⟨RX8, "claims", "(I)I"⟩
abbrev cX8_settles : ByteArray := prog_10_method_71_code
def yX8_settles : MethodName := ⟨RX8, "settles", "(JI)Z"⟩
abbrev cX8_settle : ByteArray := prog_10_method_72_code
def yX8_settle : MethodName := ⟨RX8, "settle", "(I)I"⟩
abbrev cX8_thrice : ByteArray := prog_10_method_73_code
def yX8_thrice : MethodName := ⟨RX8, "thrice", "(III)J"⟩
abbrev cX8_many : ByteArray := prog_10_method_74_code
def yX8_many : MethodName := ⟨RX8, "many", "(I)I"⟩
abbrev cX8_isRow : ByteArray := prog_10_method_75_code
def yX8_isRow : MethodName := ⟨RX8, "isRow", "(III)Z"⟩
abbrev cX8_judge : ByteArray := prog_10_method_76_code
def yX8_judge : MethodName := ⟨RX8, "judge", "(II)I"⟩
abbrev cX8_film : ByteArray := prog_10_method_77_code
def yX8_film : MethodName := ⟨RX8, "film", "(I)I"⟩
abbrev cX8_worldAt : ByteArray := prog_10_method_78_code
def yX8_worldAt : MethodName := ⟨RX8, "worldAt", "(JI)I"⟩
abbrev cX8_asksBy : ByteArray := prog_10_method_79_code
def yX8_asksBy : MethodName := ⟨RX8, "asksBy", "(JI)I"⟩
abbrev cX8_drawn : ByteArray := prog_10_method_80_code
def yX8_drawn : MethodName := ⟨RX8, "drawn", "(I)I"⟩
abbrev cX8_mean : ByteArray := prog_10_method_81_code
def yX8_mean : MethodName := ⟨RX8, "mean", "(III)J"⟩
abbrev cX8_image : ByteArray := prog_10_method_82_code
def yX8_image : MethodName := ⟨RX8, "image", "()I"⟩
abbrev cX8_back : ByteArray := prog_10_method_83_code
def yX8_back : MethodName := ⟨RX8, "back", "()I"⟩
abbrev cX8_sheet : ByteArray := prog_10_method_84_code
def yX8_sheet : MethodName := ⟨RX8, "sheet", "(III)I"⟩
abbrev cX8_cell : ByteArray := prog_10_method_85_code
def yX8_cell : MethodName := ⟨RX8, "cell", "(III)I"⟩
abbrev cX8_copy : ByteArray := prog_10_method_86_code
def yX8_copy : MethodName := ⟨RX8, "copy", "(IIIII)I"⟩
abbrev cX8_sayingsBy : ByteArray := prog_10_method_87_code
def yX8_sayingsBy : MethodName := ⟨RX8, "sayingsBy", "(IIII)I"⟩
abbrev cX8_isUnder : ByteArray := prog_10_method_88_code
def yX8_isUnder : MethodName := ⟨RX8, "isUnder", "(II)Z"⟩
abbrev cX8_taken : ByteArray := prog_10_method_89_code
def yX8_taken : MethodName := ⟨RX8, "taken", "(II)I"⟩
def RJ6 : String := "java/lang/Integer"
def TJ6 : u_T := fun k => match k with
  | _ => ("", "", "", false)
def tyJ6 : Nat → FieldType := fun k => match k with
  | _ => .int
abbrev wsJ60 : List Cond := u_ws RJ6 TJ6 0
theorem nmJ6 : ∀ a, a < 0 → ∀ b, b < 0 → a ≠ b → (TJ6 a).2.1 ≠ (TJ6 b).2.1 := by decide +kernel
theorem tyJ6_ok : ∀ k, k < 0 → parseFieldDescriptor (TJ6 k).2.2.1 = some (tyJ6 k) := by decide +kernel
abbrev cJ6_bitCount_0f7a4 : ByteArray := prog_11_method_49_code
def yJ6_bitCount_0f7a4 : MethodName := ⟨RJ6, "bitCount", "(I)I"⟩
def RJ9 : String := "java/lang/Math"
def TJ9 : u_T := fun k => match k with
  | _ => ("", "", "", false)
def tyJ9 : Nat → FieldType := fun k => match k with
  | _ => .int
abbrev wsJ90 : List Cond := u_ws RJ9 TJ9 0
theorem nmJ9 : ∀ a, a < 0 → ∀ b, b < 0 → a ≠ b → (TJ9 a).2.1 ≠ (TJ9 b).2.1 := by decide +kernel
theorem tyJ9_ok : ∀ k, k < 0 → parseFieldDescriptor (TJ9 k).2.2.1 = some (tyJ9 k) := by decide +kernel
abbrev cJ9_max_7cf53 : ByteArray := prog_12_method_65_code
def yJ9_max_7cf53 : MethodName := ⟨RJ9, "max", "(II)I"⟩
abbrev cJ9_min_7cf53 : ByteArray := prog_12_method_69_code
def yJ9_min_7cf53 : MethodName := ⟨RJ9, "min", "(II)I"⟩
def RJ0 : String := "java/lang/String"
def TJ0 : u_T := fun k => match k with
  | _ => ("", "", "", false)
def tyJ0 : Nat → FieldType := fun k => match k with
  | _ => .int
abbrev wsJ00 : List Cond := u_ws RJ0 TJ0 0
theorem nmJ0 : ∀ a, a < 0 → ∀ b, b < 0 → a ≠ b → (TJ0 a).2.1 ≠ (TJ0 b).2.1 := by decide +kernel
theorem tyJ0_ok : ∀ k, k < 0 → parseFieldDescriptor (TJ0 k).2.2.1 = some (tyJ0 k) := by decide +kernel
abbrev cJ0_length_8abf5 : ByteArray := prog_13_method_54_code
def yJ0_length_8abf5 : MethodName := ⟨RJ0, "length", "()I"⟩
abbrev cJ0_charAt_5068e : ByteArray := prog_13_method_56_code
def yJ0_charAt_5068e : MethodName := ⟨RJ0, "charAt", "(I)C"⟩
abbrev cJ0_coder_7d493 : ByteArray := prog_13_method_152_code
def yJ0_coder_7d493 : MethodName := ⟨RJ0, "coder", "()B"⟩
abbrev cJ0_isLatin1_aae02 : ByteArray := prog_13_method_154_code
def yJ0_isLatin1_aae02 : MethodName := ⟨RJ0, "isLatin1", "()Z"⟩
abbrev cJ0_checkIndex_df160 : ByteArray := prog_13_method_155_code
def yJ0_checkIndex_df160 : MethodName := ⟨RJ0, "checkIndex", "(II)V"⟩
def RJ1 : String := "java/lang/StringLatin1"
def TJ1 : u_T := fun k => match k with
  | _ => ("", "", "", false)
def tyJ1 : Nat → FieldType := fun k => match k with
  | _ => .int
abbrev wsJ10 : List Cond := u_ws RJ1 TJ1 0
theorem nmJ1 : ∀ a, a < 0 → ∀ b, b < 0 → a ≠ b → (TJ1 a).2.1 ≠ (TJ1 b).2.1 := by decide +kernel
theorem tyJ1_ok : ∀ k, k < 0 → parseFieldDescriptor (TJ1 k).2.2.1 = some (tyJ1 k) := by decide +kernel
abbrev cJ1_charAt_3b067 : ByteArray := prog_14_method_2_code
def yJ1_charAt_3b067 : MethodName := ⟨RJ1, "charAt", "([BI)C"⟩
def RJ2 : String := "java/lang/StringUTF16"
def TJ2 : u_T := fun k => match k with
  | _ => ("", "", "", false)
def tyJ2 : Nat → FieldType := fun k => match k with
  | _ => .int
abbrev wsJ20 : List Cond := u_ws RJ2 TJ2 0
theorem nmJ2 : ∀ a, a < 0 → ∀ b, b < 0 → a ≠ b → (TJ2 a).2.1 ≠ (TJ2 b).2.1 := by decide +kernel
theorem tyJ2_ok : ∀ k, k < 0 → parseFieldDescriptor (TJ2 k).2.2.1 = some (tyJ2 k) := by decide +kernel
abbrev cJ2_getChar_3b067 : ByteArray := prog_15_method_5_code
def yJ2_getChar_3b067 : MethodName := ⟨RJ2, "getChar", "([BI)C"⟩
abbrev cJ2_length_9d52b : ByteArray := prog_15_method_6_code
def yJ2_length_9d52b : MethodName := ⟨RJ2, "length", "([B)I"⟩
abbrev cJ2_charAt_3b067 : ByteArray := prog_15_method_83_code
def yJ2_charAt_3b067 : MethodName := ⟨RJ2, "charAt", "([BI)C"⟩
abbrev cJ2_checkIndex_2214a : ByteArray := prog_15_method_91_code
def yJ2_checkIndex_2214a : MethodName := ⟨RJ2, "checkIndex", "(I[B)V"⟩
def RJ3 : String := "jdk/internal/util/Preconditions"
def TJ3 : u_T := fun k => match k with
  | _ => ("", "", "", false)
def tyJ3 : Nat → FieldType := fun k => match k with
  | _ => .int
abbrev wsJ30 : List Cond := u_ws RJ3 TJ3 0
theorem nmJ3 : ∀ a, a < 0 → ∀ b, b < 0 → a ≠ b → (TJ3 a).2.1 ≠ (TJ3 b).2.1 := by decide +kernel
theorem tyJ3_ok : ∀ k, k < 0 → parseFieldDescriptor (TJ3 k).2.2.1 = some (tyJ3 k) := by decide +kernel
abbrev cJ3_checkIndex_8e157 : ByteArray := prog_16_method_11_code
def yJ3_checkIndex_8e157 : MethodName := ⟨RJ3, "checkIndex", "(IILjava/util/function/BiFunction;)I"⟩
def RL : String := "SaidTwiceLaw"
abbrev cL_law : ByteArray := code
def yL_law : MethodName := ⟨RL, "law", "([I)Z"⟩
abbrev vwCl : List vw_C := [(RX0, TX0, 6), (RX1, TX1, 2), (RX2, TX2, 4), (RX3, TX3, 4), (RX4, TX4, 6), (RX5, TX5, 4), (RX6, TX6, 6), (RX7, TX7, 9), (RX8, TX8, 37)]

/-- the words of the tables that any method may be given -/
def TBL : List Cond := lw_tbl.filter goodWord
theorem tb_good : ∀ w ∈ TBL, goodWord w = true := fun w h => (List.mem_filter.mp h).2
theorem tb_at {w : Cond} (i : Nat) (h : lw_tbl[i]? = some w) (hg : goodWord w = true) : w ∈ TBL := List.mem_filter.mpr ⟨List.mem_of_getElem? h, hg⟩
theorem tb_list {ws : List Cond} (ps : List Nat) (hp : ws = ps.filterMap (fun i => lw_tbl[i]?)) (h : ws.all goodWord = true) : ∀ w ∈ ws, w ∈ TBL := by
  intro w hw
  have h1 := List.all_eq_true.mp h w hw
  rw [hp] at hw
  obtain ⟨i, -, hi⟩ := List.mem_filterMap.mp hw
  exact tb_at i hi h1
end
section
/-! THE ABSTRACT MACHINE: methods run over a list of cells whose references are places; what it reaches, the machine itself reaches (part 03). -/
abbrev AC : Type := (Nat × List Value) ⊕ (List Int32 ⊕ List Int64)
abbrev AO (ci : Nat) (fs : List Value) : AC := .inl (ci, fs)
abbrev AI (xs : List Int32) : AC := .inr (.inl xs)
abbrev AL (xs : List Int64) : AC := .inr (.inr xs)
abbrev AH : Type := List AC
abbrev LO : Type := List (Option Value)
/-- a method: its name, bytes, locals, return type, how many arguments (the receiver too), cells and slots that it makes -/
abbrev Sig : Type := MethodName × ByteArray × Nat × Option FieldType × Nat × Nat × Nat
abbrev sY (g : Sig) : MethodName := g.1
abbrev sB (g : Sig) : ByteArray := g.2.1
abbrev sL (g : Sig) : Nat := g.2.2.1
abbrev sR (g : Sig) : Option FieldType := g.2.2.2.1
abbrev sA (g : Sig) : Nat := g.2.2.2.2.1
abbrev sC (g : Sig) : Nat := g.2.2.2.2.2.1
abbrev sS (g : Sig) : Nat := g.2.2.2.2.2.2
/-- a row: the instruction, its place, the next row, two numbers and a whole number of its kind, targets of a switch, the method that it calls -/
abbrev Row : Type := Instr × Nat × Nat × Nat × Nat × Int × List Nat × Sig
/-- the classes, what their fields are -/
def clTy : List (Nat → FieldType) := [tyX0, tyX1, tyX2, tyX3, tyX4, tyX5, tyX6, tyX7, tyX8]
/-- the length of the instructions that have one -/
def ilen : Instr → Nat
  | .aload _ | .astore _ | .iload _ | .istore _ | .lload _ | .lstore _ | .bipush _ | .ldc _ | .newarray _ => 2
  | .sipush _ | .ldc_w _ | .ldc2_w _ | .getfield _ | .putfield _ | .getstatic _ | .invokevirtual _ | .invokestatic _ | .invokespecial _ | .new _ | .goto _ | .if_icmp _ _ | .ifCond _ _ | .ifnull _ | .ifnonnull _ | .iinc _ _ => 3
  | _ => 1
def isNest : Cond → Bool
  | .fieldLinkNest _ _ _ _ _ _ => true
  | .methodLinkNest _ _ _ _ => true
  | _ => false
def NWL : List Cond := lw_tbl.filter isNest
/-- the String constants: their entries, texts, lengths, bytes; their places are 1100 .. and, their rows', 1200 .. -/
def sIx : List Nat := [61, 67, 69, 71, 73, 75, 77]
def sTx : List String := ["who", "once", "twice", "costs", "or", "and", "not"]
def lenS : List Nat := [3, 4, 5, 5, 2, 3, 3]
def bytS : List (List Int32) := [[119, 104, 111], [111, 110, 99, 101], [116, 119, 105, 99, 101], [99, 111, 115, 116, 115], [111, 114], [97, 110, 100], [110, 111, 116]]
def strF (b : Nat) : String × String := match b with
  | 0 => ("coder", "B")
  | _ => ("value", "[B")
def strQ (q : Nat) : Option Nat := match Nat.ble 1100 q && Nat.blt q 1107 with
  | true => some (q - 1100)
  | false => none
def bytQ (q : Nat) : Option Nat := match Nat.ble 1200 q && Nat.blt q 1207 with
  | true => some (q - 1200)
  | false => none
theorem strQ_spec {q i : Nat} (h : strQ q = some i) : q = 1100 + i ∧ i < 7 := by
  unfold strQ at h
  split at h
  · rename_i e
    simp only [Bool.and_eq_true] at e
    have h1 := Nat.le_of_ble_eq_true e.1
    have h2 := Nat.blt_eq.mp e.2
    have h3 := Option.some.inj h
    omega
  · cases h
theorem bytQ_spec {q i : Nat} (h : bytQ q = some i) : q = 1200 + i ∧ i < 7 := by
  unfold bytQ at h
  split at h
  · rename_i e
    simp only [Bool.and_eq_true] at e
    have h1 := Nat.le_of_ble_eq_true e.1
    have h2 := Nat.blt_eq.mp e.2
    have h3 := Option.some.inj h
    omega
  · cases h
end
section
/-! WHAT THE ABSTRACT MACHINE REACHES, THE MACHINE REACHES. -/
def pcO (code : List Row) (i : Nat) : Nat := match code[i]? with
  | some r => r.2.1
  | none => 0
def clOk (a b : Nat) : Bool := match vwCl[a]? with
  | some q => Nat.blt b q.2.2
  | none => false
def sgOk (g : Sig) (n : Nat) : Bool := decide ((sY g).cls ≠ "java/lang/invoke/MethodHandle") && decide ((sY g).cls ≠ "java/lang/invoke/VarHandle") && decide ((parseMethodDescriptor (sY g).desc).map (fun d => d.parameters.length) = some n)
def clN (a : Nat) : String := (vwCl.getD a (RX0, TX0, 6)).1
def clF (a b : Nat) : String × String × String × Bool := ((vwCl.getD a (RX0, TX0, 6)).2.1) b
def clS (a : Nat) : Nat := (vwCl.getD a (RX0, TX0, 6)).2.2
/-- the words of a row, out of the tables -/
def needT (own : String) (r : Row) : List Cond := match r with
  | (ins, _, _, a, b, c, _, cs) => match ins with
    | .getfield ix => if a = 50 then [.fieldLink own ix "java/lang/String" (strF b).1 (strF b).2] else if c = 0 then [.fieldLink own ix (clN a) (clF a b).2.1 (clF a b).2.2.1] else []
    | .putfield ix => if c = 0 then [.fieldLink own ix (clN a) (clF a b).2.1 (clF a b).2.2.1] else []
    | .getstatic ix => if a = 51 then [.fieldLink own ix "java/lang/String" "COMPACT_STRINGS" "Z"] else if a = 52 then [.fieldLink own ix "jdk/internal/util/Preconditions" "SIOOBE_FORMATTER" "Ljava/util/function/BiFunction;"] else [.fieldLink own ix "SaidTwice" "SO_IN" "[I"]
    | .invokevirtual ix => if c = 0 then [.methodLink own ix (sY cs)] else []
    | .invokestatic ix => if b = 7 then [.methodLink own ix Lib.Math.max.name, .static Lib.Math.max.name, .initialized "java/lang/Math", .code Lib.Math.max.name Lib.Math.max.code 2 (some .int)] else if b = 8 then [.methodLink own ix Lib.Math.min.name, .static Lib.Math.min.name, .initialized "java/lang/Math", .code Lib.Math.min.name Lib.Math.min.code 2 (some .int)] else if c = 0 then [.methodLink own ix (sY cs)] else []
    | .invokespecial ix => if b = 9 then [.methodLink own ix Lib.objectInit, .instanceMethod Lib.objectInit, .code Lib.objectInit ⟨#[0xb1]⟩ 1 none] else if c = 0 then [.methodLink own ix (sY cs)] else []
    | .new ix => [.classLink own ix (clN a), .instantiable (clN a) (clS a), .initialized (clN a)]
    | .newarray t => [.arrayClass (newarray.typeOf t)]
    | .ldc ix => if a = 50 then [] else [.constant own ix (Int32.ofInt c)]
    | .ldc_w ix => [.constant own ix (Int32.ofInt c)]
    | .ldc2_w ix => [.constantLong own ix (Int64.ofInt c)]
    | _ => []
/-- the words of a row between nest mates -/
def needN (own : String) (r : Row) : List Cond := match r with
  | (ins, _, _, a, b, c, _, cs) => if c = 1 then (match ins with
    | .getfield ix => [.fieldLinkNest own ix (clN a) (clF a b).2.1 (clF a b).2.2.1 "SaidTwice"]
    | .putfield ix => [.fieldLinkNest own ix (clN a) (clF a b).2.1 (clF a b).2.2.1 "SaidTwice"]
    | .invokevirtual ix => [.methodLinkNest own ix (sY cs) "SaidTwice"]
    | .invokestatic ix => [.methodLinkNest own ix (sY cs) "SaidTwice"]
    | .invokespecial ix => if b = 9 then [] else [.methodLinkNest own ix (sY cs) "SaidTwice"]
    | _ => []) else []
/-- what is said of a method that is called: a static one, an object's, a constructor -/
def SgS (cs : Sig) : Prop := sgOk cs (sA cs) = true ∧ ∀ w ∈ [Cond.static (sY cs), .initialized (sY cs).cls, .code (sY cs) (sB cs) (sL cs) (sR cs)], w ∈ TBL
def SgV (cs : Sig) (a : Nat) : Prop := (sgOk cs (sA cs - 1) && (decide ((sY cs).cls = clN a) && (clOk a 0 && decide (1 ≤ sA cs)))) = true ∧ ∀ w ∈ [Cond.instanceMethod (sY cs), .selects (clN a) (sY cs) (sY cs), .initialized (sY cs).cls, .code (sY cs) (sB cs) (sL cs) (sR cs)], w ∈ TBL
/-- a String's -/
def SgX (cs : Sig) : Prop := (sgOk cs (sA cs - 1) && (decide ((sY cs).cls = "java/lang/String") && (decide (1 ≤ sA cs) && decide (sC cs = 0)))) = true ∧ ∀ w ∈ [Cond.instanceMethod (sY cs), .selects "java/lang/String" (sY cs) (sY cs), .initialized (sY cs).cls, .code (sY cs) (sB cs) (sL cs) (sR cs)], w ∈ TBL
def SgI (cs : Sig) : Prop := (sgOk cs (sA cs - 1) && (decide (1 ≤ sA cs) && (decide ((sY cs).name = "<init>") && decide (sR cs = none)))) = true ∧ ∀ w ∈ [Cond.instanceMethod (sY cs), .initialized (sY cs).cls, .code (sY cs) (sB cs) (sL cs) (sR cs)], w ∈ TBL
def callOk (r : Row) : Prop := match r with
  | (ins, _, _, a, b, _, _, cs) => match ins with
    | .invokestatic _ => match Nat.beq b 7 || Nat.beq b 8 with
      | true => True
      | false => SgS cs
    | .invokevirtual _ => match Nat.beq a 50 with
      | true => SgX cs
      | false => SgV cs a
    | .invokespecial _ => match Nat.beq b 9 with
      | true => True
      | false => SgI cs
    | _ => True
/-- the same of all rows -/
def allC : List Row → Prop
  | [] => True
  | (ins, _, _, a, b, _, _, cs) :: rs => match ins with
    | .invokestatic _ => match Nat.beq b 7 || Nat.beq b 8 with
      | true => allC rs
      | false => SgS cs ∧ allC rs
    | .invokevirtual _ => match Nat.beq a 50 with
      | true => SgX cs ∧ allC rs
      | false => SgV cs a ∧ allC rs
    | .invokespecial _ => match Nat.beq b 9 with
      | true => allC rs
      | false => SgI cs ∧ allC rs
    | _ => allC rs
theorem allC_mem : ∀ {rs : List Row}, allC rs → ∀ r ∈ rs, callOk r := by
  intro rs
  induction rs with
  | nil => intro _ r hr; cases hr
  | cons q rs ih =>
    intro h r hr
    obtain ⟨ins, pc, nx, a, b, c, ts, cs⟩ := q
    have both : callOk (ins, pc, nx, a, b, c, ts, cs) ∧ allC rs := by
      cases ins
      case invokevirtual ix =>
        cases hb : Nat.beq a 50 with
        | true =>
          simp only [allC, hb] at h
          exact ⟨by simp only [callOk, hb]; exact h.1, h.2⟩
        | false =>
          simp only [allC, hb] at h
          exact ⟨by simp only [callOk, hb]; exact h.1, h.2⟩
      case invokestatic ix =>
        cases hb : (Nat.beq b 7 || Nat.beq b 8) with
        | true =>
          simp only [allC, hb] at h
          exact ⟨by simp only [callOk, hb], h⟩
        | false =>
          simp only [allC, hb] at h
          exact ⟨by simp only [callOk, hb]; exact h.1, h.2⟩
      case invokespecial ix =>
        cases hb : Nat.beq b 9 with
        | true =>
          simp only [allC, hb] at h
          exact ⟨by simp only [callOk, hb], h⟩
        | false =>
          simp only [allC, hb] at h
          exact ⟨by simp only [callOk, hb]; exact h.1, h.2⟩
      all_goals exact ⟨trivial, h⟩
    rcases List.mem_cons.mp hr with rfl | hr
    · exact both.1
    · exact ih both.2 r hr
/-- what a program decides of a row: pn is where the next one stands -/
def rowP (g : Sig) (code : List Row) (pn : Nat) (r : Row) : Bool := match r with
  | (ins, pc, nx, a, b, c, ts, cs) => match ins with
    | .nop => true
    | .tableswitch d lo hi offs => decide (decode (sB g) pc = .ok (ins, pn - pc)) && (decide ((pc : Int) + d = (pcO code a : Int)) && (decide (offs.toList.map (fun o => (pc : Int) + o) = ts.map (fun t => (pcO code t : Int))) && decide (hi = lo + (ts.length : Int) - 1)))
    | .lookupswitch d ps => decide (decode (sB g) pc = .ok (ins, pn - pc)) && (decide ((pc : Int) + d = (pcO code a : Int)) && (decide (ps.toList.map (fun o => (pc : Int) + o.2) = ts.map (fun t => (pcO code t : Int))) && ((ps.toList.zip (ps.toList.drop 1)).all (fun (a, next) => a.1 < next.1) && ps.toList.all (fun o => decide ((Int32.ofInt o.1).toInt = o.1)))))
    | _ => decide (decode (sB g) pc = .ok (ins, ilen ins)) && (match ins with
      | .ireturn | .lreturn | .return_ => true
      | .goto o => decide ((pc : Int) + o = (pcO code a : Int))
      | .ifCond _ o | .if_icmp _ o | .ifnull o | .ifnonnull o => decide ((pc : Int) + o = (pcO code a : Int)) && decide (pn = pc + 3)
      | .iconst z => decide (Int32.ofInt z = Int32.ofInt c) && decide (pn = pc + 1)
      | .bipush z => decide ((Int8.ofInt z).toInt32 = Int32.ofInt c) && decide (pn = pc + 2)
      | .sipush z => decide ((Int16.ofInt z).toInt32 = Int32.ofInt c) && decide (pn = pc + 3)
      | .lconst z => decide (Int64.ofNat z.val = Int64.ofInt c) && decide (pn = pc + 1)
      | .iinc _ z => decide (Int32.ofInt z = Int32.ofInt c) && decide (pn = pc + 3)
      | .getfield _ => (match Nat.beq a 50 with | true => Nat.ble b 1 | false => clOk a b) && (decide (c = 0 ∨ c = 1) && decide (pn = pc + 3))
      | .ldc ix => (match Nat.beq a 50 with | true => decide (sIx[b]? = some ix) && decide ((sY g).cls = "SaidTwice$Tokens") | false => true) && decide (pn = pc + 2)
      | .putfield _ => clOk a b && (decide (c = 0 ∨ c = 1) && (decide ((clF a b).2.2.2 = false ∨ ((sY g).name = "<init>" ∧ (clF a b).1 = (sY g).cls ∧ c = 0)) && decide (pn = pc + 3)))
      | .invokevirtual _ | .invokestatic _ | .invokespecial _ => decide (c = 0 ∨ c = 1) && decide (pn = pc + 3)
      | .new _ => clOk a 0 && decide (pn = pc + 3)
      | i => decide (pn = pc + ilen i))
def rowB (g : Sig) (code : List Row) (r : Row) : Bool := rowP g code (pcO code r.2.2.1) r
def nxPc : List Row → Nat
  | [] => 0
  | q :: _ => q.2.1
/-- the rows from the i-th on, in one pass -/
def linB (g : Sig) (code : List Row) : Nat → List Row → Bool
  | _, [] => true
  | i, r :: rs => rowP g code (nxPc rs) r && (Nat.beq r.2.2.1 (i + 1) && linB g code (i + 1) rs)
theorem linB_spec {g : Sig} {code : List Row} : ∀ {rs pre : List Row}, code = pre ++ rs → linB g code pre.length rs = true → ∀ r ∈ rs, rowB g code r = true := by
  intro rs
  induction rs with
  | nil => intro pre _ _ r hr; cases hr
  | cons q rs ih =>
    intro pre hc h r hr
    simp only [linB, Bool.and_eq_true] at h
    obtain ⟨h1, h2, h3⟩ := h
    have hnx : q.2.2.1 = pre.length + 1 := Nat.eq_of_beq_eq_true h2
    rcases List.mem_cons.mp hr with rfl | hr
    · unfold rowB
      rw [hnx]
      have : pcO code (pre.length + 1) = (nxPc rs) := by
        unfold pcO
        rw [hc]
        cases rs with
        | nil => simp [nxPc]
        | cons a rs => simp [nxPc]
      rw [this]
      exact h1
    · exact ih (pre := pre ++ [q]) (by simp [hc]) (by simpa using h3) r hr
/-- a stretch of rows, the row behind which stands at pe -/
def linE (g : Sig) (code : List Row) (pe : Nat) : Nat → List Row → Bool
  | _, [] => true
  | i, r :: rs => rowP g code (match rs with | [] => pe | q :: _ => q.2.1) r && (Nat.beq r.2.2.1 (i + 1) && linE g code pe (i + 1) rs)
theorem linB_app {g : Sig} {code : List Row} : ∀ {a b : List Row} {i : Nat}, linE g code (nxPc b) i a = true → linB g code (i + a.length) b = true → linB g code i (a ++ b) = true := by
  intro a
  induction a with
  | nil => intro b i _ h; simpa using h
  | cons x a ih =>
    intro b i h1 h2
    simp only [linE, Bool.and_eq_true] at h1
    obtain ⟨g1, g2, g3⟩ := h1
    simp only [List.cons_append, linB, Bool.and_eq_true]
    refine ⟨?_, g2, ih g3 (by rw [show i + 1 + a.length = i + (x :: a).length by simp; omega]; exact h2)⟩
    cases a with
    | cons y a => exact g1
    | nil => exact g1
/-- what is checked of a method -/
def Chk (g : Sig) (code : List Row) : Prop := linB g code 0 code = true ∧ allC code ∧ (∀ w ∈ code.flatMap (needT (sY g).cls), w ∈ TBL) ∧ (∀ w ∈ code.flatMap (needN (sY g).cls), w ∈ NWL) ∧ plainName (sY g).cls = true
end
section
def sg0 : Sig := (⟨"", "", ""⟩, ⟨#[]⟩, 0, none, 0, 0, 0)
def sgX0_init : Sig := (yX0_init, cX0_init, 1, none, 1, 4, 484)
def sgX0_clear : Sig := (yX0_clear, cX0_clear, 1, none, 1, 0, 0)
def sgX0_add : Sig := (yX0_add, cX0_add, 3, none, 3, 0, 0)
def sgX0_endPart : Sig := (yX0_endPart, cX0_endPart, 2, none, 2, 0, 0)
def sgX0_truths : Sig := (yX0_truths, cX0_truths, 5, some .int, 3, 0, 0)
def sgX0_valueOf : Sig := (yX0_valueOf, cX0_valueOf, 6, some .int, 4, 0, 0)
def sgX0_step : Sig := (yX0_step, cX0_step, 6, none, 5, 0, 0)
def sgX0_joined : Sig := (yX0_joined, cX0_joined, 3, some .int, 3, 0, 0)
def sgX0_push : Sig := (yX0_push, cX0_push, 2, none, 2, 0, 0)
def sgX0_pop : Sig := (yX0_pop, cX0_pop, 1, some .int, 1, 0, 0)
def sgX1_init : Sig := (yX1_init, cX1_init, 3, none, 3, 0, 0)
def sgX1_readText : Sig := (yX1_readText, cX1_readText, 2, some .boolean, 1, 0, 0)
def sgX1_readToken : Sig := (yX1_readToken, cX1_readToken, 2, some .boolean, 2, 0, 0)
def sgX1_readOr : Sig := (yX1_readOr, cX1_readOr, 3, some .boolean, 2, 0, 0)
def sgX1_readAnd : Sig := (yX1_readAnd, cX1_readAnd, 3, some .boolean, 2, 0, 0)
def sgX1_readNot : Sig := (yX1_readNot, cX1_readNot, 2, some .boolean, 2, 0, 0)
def sgX1_readCompared : Sig := (yX1_readCompared, cX1_readCompared, 3, some .boolean, 2, 0, 0)
def sgX1_readSum : Sig := (yX1_readSum, cX1_readSum, 4, some .boolean, 2, 0, 0)
def sgX1_readTerm : Sig := (yX1_readTerm, cX1_readTerm, 3, some .boolean, 2, 0, 0)
def sgX1_readOne : Sig := (yX1_readOne, cX1_readOne, 3, some .boolean, 2, 0, 0)
def sgX1_readBracket : Sig := (yX1_readBracket, cX1_readBracket, 2, some .boolean, 2, 0, 0)
def sgX2_init : Sig := (yX2_init, cX2_init, 1, none, 1, 0, 0)
def sgX2_consider : Sig := (yX2_consider, cX2_consider, 6, none, 5, 0, 0)
def sgX3_init : Sig := (yX3_init, cX3_init, 2, none, 1, 4, 208)
def sgX3_isMissing : Sig := (yX3_isMissing, cX3_isMissing, 2, some .boolean, 2, 0, 0)
def sgX3_make : Sig := (yX3_make, cX3_make, 5, none, 4, 0, 0)
def sgX3_holds : Sig := (yX3_holds, cX3_holds, 3, some .boolean, 3, 0, 0)
def sgX3_holdsRun : Sig := (yX3_holdsRun, cX3_holdsRun, 4, some .boolean, 4, 0, 0)
def sgX3_read : Sig := (yX3_read, cX3_read, 3, some .int, 3, 0, 0)
def sgX3_write : Sig := (yX3_write, cX3_write, 6, none, 4, 0, 0)
def sgX3_move : Sig := (yX3_move, cX3_move, 7, none, 6, 0, 0)
def sgX4_init : Sig := (yX4_init, cX4_init, 1, none, 1, 3, 46)
def sgX4_become : Sig := (yX4_become, cX4_become, 4, none, 4, 0, 0)
def sgX4_append : Sig := (yX4_append, cX4_append, 4, none, 4, 0, 0)
def sgX4_sayingPart : Sig := (yX4_sayingPart, cX4_sayingPart, 3, some .int, 3, 0, 0)
def sgX4_becomeLike : Sig := (yX4_becomeLike, cX4_becomeLike, 3, none, 2, 0, 0)
def sgX5_init : Sig := (yX5_init, cX5_init, 2, none, 1, 3, 90)
def sgX5_add : Sig := (yX5_add, cX5_add, 4, none, 2, 0, 0)
def sgX5_side : Sig := (yX5_side, cX5_side, 4, some .int, 4, 0, 0)
def sgX5_costOf : Sig := (yX5_costOf, cX5_costOf, 3, some .int, 3, 0, 0)
def sgX6_init : Sig := (yX6_init, cX6_init, 1, none, 1, 1, 160)
def sgX6_append : Sig := (yX6_append, cX6_append, 2, none, 2, 0, 0)
def sgX6_start : Sig := (yX6_start, cX6_start, 1, none, 1, 0, 0)
def sgX6_advance : Sig := (yX6_advance, cX6_advance, 2, none, 1, 0, 0)
def sgX6_readWord : Sig := (yX6_readWord, cX6_readWord, 3, none, 1, 0, 0)
def sgX6_spells : Sig := (yX6_spells, cX6_spells, 3, some .boolean, 2, 0, 0)
def sgX6_readNumber : Sig := (yX6_readNumber, cX6_readNumber, 2, none, 1, 0, 0)
def sgX6_isBlank : Sig := (yX6_isBlank, cX6_isBlank, 1, some .boolean, 1, 0, 0)
def sgX6_isLetter : Sig := (yX6_isLetter, cX6_isLetter, 1, some .boolean, 1, 0, 0)
def sgX6_isDigit : Sig := (yX6_isDigit, cX6_isDigit, 1, some .boolean, 1, 0, 0)
def sgX6_isSign : Sig := (yX6_isSign, cX6_isSign, 1, some .boolean, 1, 0, 0)
def sgX7_init : Sig := (yX7_init, cX7_init, 1, none, 1, 26, 1072)
def sgX7_count : Sig := (yX7_count, cX7_count, 2, some .int, 2, 0, 0)
def sgX7_feed : Sig := (yX7_feed, cX7_feed, 8, some .int, 7, 0, 0)
def sgX7_text : Sig := (yX7_text, cX7_text, 3, some .int, 1, 0, 0)
def sgX7_force : Sig := (yX7_force, cX7_force, 3, some .int, 2, 0, 0)
def sgX7_asks : Sig := (yX7_asks, cX7_asks, 5, some .int, 5, 0, 0)
def sgX7_means : Sig := (yX7_means, cX7_means, 3, some .long, 3, 0, 0)
def sgX7_pairs : Sig := (yX7_pairs, cX7_pairs, 5, some .int, 2, 0, 0)
def sgX7_speaker : Sig := (yX7_speaker, cX7_speaker, 4, some .int, 3, 0, 0)
def sgX7_turn : Sig := (yX7_turn, cX7_turn, 5, some .int, 4, 0, 0)
def sgX7_told : Sig := (yX7_told, cX7_told, 3, some .int, 3, 0, 0)
def sgX7_say : Sig := (yX7_say, cX7_say, 4, some .int, 4, 0, 0)
def sgX7_unsay : Sig := (yX7_unsay, cX7_unsay, 1, some .int, 1, 0, 0)
def sgX7_said : Sig := (yX7_said, cX7_said, 3, some .int, 3, 0, 0)
def sgX7_worlds : Sig := (yX7_worlds, cX7_worlds, 1, some .long, 1, 0, 0)
def sgX7_behind : Sig := (yX7_behind, cX7_behind, 4, some .int, 3, 0, 0)
def sgX7_cannot : Sig := (yX7_cannot, cX7_cannot, 3, some .int, 1, 0, 0)
def sgX7_lies : Sig := (yX7_lies, cX7_lies, 3, some .int, 1, 0, 0)
def sgX7_least : Sig := (yX7_least, cX7_least, 5, some .int, 2, 0, 0)
def sgX7_mad : Sig := (yX7_mad, cX7_mad, 4, some .int, 2, 0, 0)
def sgX7_habit : Sig := (yX7_habit, cX7_habit, 9, some .long, 4, 0, 0)
def sgX7_kinds : Sig := (yX7_kinds, cX7_kinds, 5, some .int, 3, 0, 0)
def sgX7_ask : Sig := (yX7_ask, cX7_ask, 2, some .int, 2, 0, 0)
def sgX7_two : Sig := (yX7_two, cX7_two, 8, some .int, 2, 0, 0)
def sgX7_parts : Sig := (yX7_parts, cX7_parts, 7, some .long, 4, 0, 0)
def sgX7_hide : Sig := (yX7_hide, cX7_hide, 9, some .int, 4, 0, 0)
def sgX7_same : Sig := (yX7_same, cX7_same, 5, some .int, 4, 0, 0)
def sgX7_claims : Sig := (yX7_claims, cX7_claims, 5, some .int, 2, 0, 0)
def sgX7_settle : Sig := (yX7_settle, cX7_settle, 5, some .int, 2, 0, 0)
def sgX7_thrice : Sig := (yX7_thrice, cX7_thrice, 6, some .long, 4, 0, 0)
def sgX7_many : Sig := (yX7_many, cX7_many, 8, some .int, 2, 0, 0)
def sgX7_judge : Sig := (yX7_judge, cX7_judge, 5, some .int, 3, 0, 0)
def sgX7_film : Sig := (yX7_film, cX7_film, 4, some .int, 2, 0, 0)
def sgX7_drawn : Sig := (yX7_drawn, cX7_drawn, 3, some .int, 2, 0, 0)
def sgX7_mean : Sig := (yX7_mean, cX7_mean, 7, some .long, 4, 0, 0)
def sgX7_image : Sig := (yX7_image, cX7_image, 1, some .int, 1, 0, 0)
def sgX7_back : Sig := (yX7_back, cX7_back, 1, some .int, 1, 0, 0)
def sgX7_sheet : Sig := (yX7_sheet, cX7_sheet, 4, some .int, 4, 0, 0)
def sgX7_cell : Sig := (yX7_cell, cX7_cell, 4, some .int, 4, 0, 0)
def sgX7_copy : Sig := (yX7_copy, cX7_copy, 6, some .int, 6, 0, 0)
def sgX7_sayingsBy : Sig := (yX7_sayingsBy, cX7_sayingsBy, 8, some .int, 5, 0, 0)
def sgX7_taken : Sig := (yX7_taken, cX7_taken, 3, some .int, 3, 0, 0)
def sgX7_isBelow : Sig := (yX7_isBelow, cX7_isBelow, 2, some .boolean, 2, 0, 0)
def sgX7_isByte : Sig := (yX7_isByte, cX7_isByte, 1, some .boolean, 1, 0, 0)
def sgX7_isKind : Sig := (yX7_isKind, cX7_isKind, 1, some .boolean, 1, 0, 0)
def sgX7_isMore : Sig := (yX7_isMore, cX7_isMore, 1, some .boolean, 1, 0, 0)
def sgX7_isWorld : Sig := (yX7_isWorld, cX7_isWorld, 1, some .boolean, 1, 0, 0)
def sgX7_isText : Sig := (yX7_isText, cX7_isText, 2, some .boolean, 2, 0, 0)
def sgX7_isSpeaker : Sig := (yX7_isSpeaker, cX7_isSpeaker, 2, some .boolean, 2, 0, 0)
def sgX7_at : Sig := (yX7_at, cX7_at, 2, some .int, 2, 0, 0)
def sgX7_put : Sig := (yX7_put, cX7_put, 3, none, 3, 0, 0)
def sgX7_bit : Sig := (yX7_bit, cX7_bit, 2, some .int, 2, 0, 0)
def sgX7_bits : Sig := (yX7_bits, cX7_bits, 1, some .long, 1, 0, 0)
def sgX7_worldNumber : Sig := (yX7_worldNumber, cX7_worldNumber, 4, some .int, 2, 0, 0)
def sgX7_fewer : Sig := (yX7_fewer, cX7_fewer, 3, some .int, 2, 0, 0)
def sgX7_inLowestTerms : Sig := (yX7_inLowestTerms, cX7_inLowestTerms, 4, some .long, 3, 0, 0)
def sgX7_commonDivisor : Sig := (yX7_commonDivisor, cX7_commonDivisor, 6, some .int, 2, 0, 0)
def sgX7_canSay : Sig := (yX7_canSay, cX7_canSay, 5, some .int, 5, 0, 0)
def sgX7_turnsAt : Sig := (yX7_turnsAt, cX7_turnsAt, 3, some .boolean, 2, 0, 0)
def sgX7_onceOf : Sig := (yX7_onceOf, cX7_onceOf, 2, some .int, 2, 0, 0)
def sgX7_lawful : Sig := (yX7_lawful, cX7_lawful, 1, some .int, 1, 0, 0)
def sgX7_firstSaid : Sig := (yX7_firstSaid, cX7_firstSaid, 2, some .int, 2, 0, 0)
def sgX7_secondSaid : Sig := (yX7_secondSaid, cX7_secondSaid, 2, some .int, 2, 0, 0)
def sgX7_sayableNext : Sig := (yX7_sayableNext, cX7_sayableNext, 7, some .int, 5, 0, 0)
def sgX7_sayable : Sig := (yX7_sayable, cX7_sayable, 2, some .int, 2, 0, 0)
def sgX7_sayableAs : Sig := (yX7_sayableAs, cX7_sayableAs, 4, some .int, 3, 0, 0)
def sgX7_allSayableWere : Sig := (yX7_allSayableWere, cX7_allSayableWere, 5, some .int, 3, 0, 0)
def sgX7_fittingFirst : Sig := (yX7_fittingFirst, cX7_fittingFirst, 4, some .int, 2, 0, 0)
def sgX7_fitting : Sig := (yX7_fitting, cX7_fitting, 1, some .int, 1, 0, 0)
def sgX7_fittingWithout : Sig := (yX7_fittingWithout, cX7_fittingWithout, 4, some .int, 2, 0, 0)
def sgX7_fittingWereMad : Sig := (yX7_fittingWereMad, cX7_fittingWereMad, 5, some .int, 2, 0, 0)
def sgX7_misfits : Sig := (yX7_misfits, cX7_misfits, 4, some .int, 2, 0, 0)
def sgX7_isSure : Sig := (yX7_isSure, cX7_isSure, 3, some .boolean, 2, 0, 0)
def sgX7_thingsSure : Sig := (yX7_thingsSure, cX7_thingsSure, 5, some .int, 2, 0, 0)
def sgX7_findBest : Sig := (yX7_findBest, cX7_findBest, 5, some .boolean, 3, 0, 0)
def sgX7_worstOf : Sig := (yX7_worstOf, cX7_worstOf, 7, some .int, 5, 0, 0)
def sgX7_worstBehind : Sig := (yX7_worstBehind, cX7_worstBehind, 8, some .int, 4, 0, 0)
def sgX7_strangerAsks : Sig := (yX7_strangerAsks, cX7_strangerAsks, 11, some .int, 3, 0, 0)
def sgX7_answered : Sig := (yX7_answered, cX7_answered, 8, some .int, 4, 0, 0)
def sgX7_lotBehind : Sig := (yX7_lotBehind, cX7_lotBehind, 2, some .long, 1, 0, 0)
def sgX7_settles : Sig := (yX7_settles, cX7_settles, 8, some .boolean, 3, 0, 0)
def sgX7_markOf : Sig := (yX7_markOf, cX7_markOf, 5, some .int, 3, 0, 0)
def sgX7_rowFits : Sig := (yX7_rowFits, cX7_rowFits, 7, some .boolean, 4, 0, 0)
def sgX7_sayingTaken : Sig := (yX7_sayingTaken, cX7_sayingTaken, 3, some .int, 3, 0, 0)
def sgX7_speakerTaken : Sig := (yX7_speakerTaken, cX7_speakerTaken, 3, some .int, 3, 0, 0)
def sgX7_isOneOf : Sig := (yX7_isOneOf, cX7_isOneOf, 2, some .boolean, 2, 0, 0)
def sgX8_init : Sig := (yX8_init, cX8_init, 2, none, 1, 18, 2246)
def sgX8_in : Sig := (yX8_in, cX8_in, 3, some .boolean, 3, 0, 0)
def sgX8_within : Sig := (yX8_within, cX8_within, 3, some .int, 3, 0, 0)
def sgX8_isSpeaker : Sig := (yX8_isSpeaker, cX8_isSpeaker, 2, some .boolean, 2, 0, 0)
def sgX8_isOfTexts : Sig := (yX8_isOfTexts, cX8_isOfTexts, 2, some .boolean, 2, 0, 0)
def sgX8_isWorld : Sig := (yX8_isWorld, cX8_isWorld, 1, some .boolean, 1, 0, 0)
def sgX8_has : Sig := (yX8_has, cX8_has, 3, some .boolean, 2, 0, 0)
def sgX8_bitsOf : Sig := (yX8_bitsOf, cX8_bitsOf, 4, some .int, 1, 0, 0)
def sgX8_count : Sig := (yX8_count, cX8_count, 2, some .int, 2, 0, 0)
def sgX8_isByte : Sig := (yX8_isByte, cX8_isByte, 1, some .boolean, 1, 0, 0)
def sgX8_feed : Sig := (yX8_feed, cX8_feed, 8, some .int, 7, 0, 0)
def sgX8_wordFrom : Sig := (yX8_wordFrom, cX8_wordFrom, 6, some .int, 3, 0, 0)
def sgX8_next : Sig := (yX8_next, cX8_next, 3, none, 1, 0, 0)
def sgX8_rank : Sig := (yX8_rank, cX8_rank, 1, some .int, 1, 0, 0)
def sgX8_puts : Sig := (yX8_puts, cX8_puts, 2, none, 2, 0, 0)
def sgX8_unwinds : Sig := (yX8_unwinds, cX8_unwinds, 3, none, 2, 0, 0)
def sgX8_holds : Sig := (yX8_holds, cX8_holds, 2, none, 2, 0, 0)
def sgX8_opensOne : Sig := (yX8_opensOne, cX8_opensOne, 2, some .boolean, 2, 0, 0)
def sgX8_between : Sig := (yX8_between, cX8_between, 2, some .boolean, 2, 0, 0)
def sgX8_signOf : Sig := (yX8_signOf, cX8_signOf, 1, some .int, 1, 0, 0)
def sgX8_eRead : Sig := (yX8_eRead, cX8_eRead, 4, some .boolean, 1, 0, 0)
def sgX8_text : Sig := (yX8_text, cX8_text, 3, some .int, 1, 0, 0)
def sgX8_two : Sig := (yX8_two, cX8_two, 3, some .int, 3, 0, 0)
def sgX8_says : Sig := (yX8_says, cX8_says, 5, some .int, 2, 0, 0)
def sgX8_force : Sig := (yX8_force, cX8_force, 3, some .int, 2, 0, 0)
def sgX8_saysOf : Sig := (yX8_saysOf, cX8_saysOf, 7, some .int, 5, 0, 0)
def sgX8_asks : Sig := (yX8_asks, cX8_asks, 5, some .int, 5, 0, 0)
def sgX8_soIn : Sig := (yX8_soIn, cX8_soIn, 7, some .long, 4, 0, 0)
def sgX8_means : Sig := (yX8_means, cX8_means, 3, some .long, 3, 0, 0)
def sgX8_pairs : Sig := (yX8_pairs, cX8_pairs, 4, some .int, 2, 0, 0)
def sgX8_reads : Sig := (yX8_reads, cX8_reads, 2, none, 1, 0, 0)
def sgX8_once : Sig := (yX8_once, cX8_once, 2, some .long, 2, 0, 0)
def sgX8_isSo : Sig := (yX8_isSo, cX8_isSo, 2, some .boolean, 2, 0, 0)
def sgX8_speaker : Sig := (yX8_speaker, cX8_speaker, 3, some .int, 3, 0, 0)
def sgX8_turn : Sig := (yX8_turn, cX8_turn, 5, some .int, 4, 0, 0)
def sgX8_told : Sig := (yX8_told, cX8_told, 3, some .int, 3, 0, 0)
def sgX8_say : Sig := (yX8_say, cX8_say, 4, some .int, 4, 0, 0)
def sgX8_unsay : Sig := (yX8_unsay, cX8_unsay, 1, some .int, 1, 0, 0)
def sgX8_said : Sig := (yX8_said, cX8_said, 3, some .int, 3, 0, 0)
def sgX8_canSay : Sig := (yX8_canSay, cX8_canSay, 14, some .long, 7, 0, 0)
def sgX8_fits : Sig := (yX8_fits, cX8_fits, 5, some .long, 5, 0, 0)
def sgX8_fitsSaying : Sig := (yX8_fitsSaying, cX8_fitsSaying, 2, some .long, 2, 0, 0)
def sgX8_worldsOf : Sig := (yX8_worldsOf, cX8_worldsOf, 5, some .long, 2, 0, 0)
def sgX8_worldsNow : Sig := (yX8_worldsNow, cX8_worldsNow, 1, some .long, 1, 0, 0)
def sgX8_worlds : Sig := (yX8_worlds, cX8_worlds, 1, some .long, 1, 0, 0)
def sgX8_allIn : Sig := (yX8_allIn, cX8_allIn, 4, some .int, 1, 0, 0)
def sgX8_noneIn : Sig := (yX8_noneIn, cX8_noneIn, 4, some .int, 1, 0, 0)
def sgX8_leastOf : Sig := (yX8_leastOf, cX8_leastOf, 3, some .int, 1, 0, 0)
def sgX8_behind : Sig := (yX8_behind, cX8_behind, 5, some .int, 3, 0, 0)
def sgX8_cannot : Sig := (yX8_cannot, cX8_cannot, 2, some .int, 1, 0, 0)
def sgX8_findsFitting : Sig := (yX8_findsFitting, cX8_findsFitting, 2, none, 1, 0, 0)
def sgX8_without : Sig := (yX8_without, cX8_without, 5, some .long, 2, 0, 0)
def sgX8_lies : Sig := (yX8_lies, cX8_lies, 3, some .int, 1, 0, 0)
def sgX8_least : Sig := (yX8_least, cX8_least, 5, some .int, 2, 0, 0)
def sgX8_worldsMad : Sig := (yX8_worldsMad, cX8_worldsMad, 7, some .long, 2, 0, 0)
def sgX8_mad : Sig := (yX8_mad, cX8_mad, 5, some .int, 2, 0, 0)
def sgX8_lowest : Sig := (yX8_lowest, cX8_lowest, 11, some .long, 3, 0, 0)
def sgX8_habit : Sig := (yX8_habit, cX8_habit, 13, some .long, 4, 0, 0)
def sgX8_kinds : Sig := (yX8_kinds, cX8_kinds, 8, some .int, 3, 0, 0)
def sgX8_worstOf : Sig := (yX8_worstOf, cX8_worstOf, 8, some .int, 5, 0, 0)
def sgX8_findsQuestion : Sig := (yX8_findsQuestion, cX8_findsQuestion, 10, none, 3, 0, 0)
def sgX8_ask : Sig := (yX8_ask, cX8_ask, 2, some .int, 2, 0, 0)
def sgX8_worstBehind : Sig := (yX8_worstBehind, cX8_worstBehind, 3, some .int, 2, 0, 0)
def sgX8_two_ : Sig := (yX8_two_, cX8_two_, 12, some .int, 2, 0, 0)
def sgX8_parts : Sig := (yX8_parts, cX8_parts, 10, some .long, 4, 0, 0)
def sgX8_isSure : Sig := (yX8_isSure, cX8_isSure, 3, some .boolean, 2, 0, 0)
def sgX8_hide : Sig := (yX8_hide, cX8_hide, 10, some .int, 4, 0, 0)
def sgX8_same : Sig := (yX8_same, cX8_same, 8, some .int, 4, 0, 0)
def sgX8_claims : Sig := (yX8_claims, cX8_claims, 6, some .int, 2, 0, 0)
def sgX8_settles : Sig := (yX8_settles, cX8_settles, 9, some .boolean, 3, 0, 0)
def sgX8_settle : Sig := (yX8_settle, cX8_settle, 7, some .int, 2, 0, 0)
def sgX8_thrice : Sig := (yX8_thrice, cX8_thrice, 12, some .long, 4, 0, 0)
def sgX8_many : Sig := (yX8_many, cX8_many, 9, some .int, 2, 0, 0)
def sgX8_isRow : Sig := (yX8_isRow, cX8_isRow, 7, some .boolean, 4, 0, 0)
def sgX8_judge : Sig := (yX8_judge, cX8_judge, 4, some .int, 3, 0, 0)
def sgX8_film : Sig := (yX8_film, cX8_film, 3, some .int, 2, 0, 0)
def sgX8_worldAt : Sig := (yX8_worldAt, cX8_worldAt, 5, some .int, 2, 0, 0)
def sgX8_asksBy : Sig := (yX8_asksBy, cX8_asksBy, 15, some .int, 3, 0, 0)
def sgX8_drawn : Sig := (yX8_drawn, cX8_drawn, 4, some .int, 2, 0, 0)
def sgX8_mean : Sig := (yX8_mean, cX8_mean, 9, some .long, 4, 0, 0)
def sgX8_image : Sig := (yX8_image, cX8_image, 2, some .int, 1, 0, 0)
def sgX8_back : Sig := (yX8_back, cX8_back, 2, some .int, 1, 0, 0)
def sgX8_sheet : Sig := (yX8_sheet, cX8_sheet, 5, some .int, 4, 0, 0)
def sgX8_cell : Sig := (yX8_cell, cX8_cell, 4, some .int, 4, 0, 0)
def sgX8_copy : Sig := (yX8_copy, cX8_copy, 10, some .int, 6, 0, 0)
def sgX8_sayingsBy : Sig := (yX8_sayingsBy, cX8_sayingsBy, 9, some .int, 5, 0, 0)
def sgX8_isUnder : Sig := (yX8_isUnder, cX8_isUnder, 2, some .boolean, 2, 0, 0)
def sgX8_taken : Sig := (yX8_taken, cX8_taken, 3, some .int, 3, 0, 0)
def sgJ6_bitCount_0f7a4 : Sig := (yJ6_bitCount_0f7a4, cJ6_bitCount_0f7a4, 1, some .int, 1, 0, 0)
def sgJ9_max_7cf53 : Sig := (yJ9_max_7cf53, cJ9_max_7cf53, 2, some .int, 2, 0, 0)
def sgJ9_min_7cf53 : Sig := (yJ9_min_7cf53, cJ9_min_7cf53, 2, some .int, 2, 0, 0)
def sgJ0_length_8abf5 : Sig := (yJ0_length_8abf5, cJ0_length_8abf5, 1, some .int, 1, 0, 0)
def sgJ0_charAt_5068e : Sig := (yJ0_charAt_5068e, cJ0_charAt_5068e, 2, some .char, 2, 0, 0)
def sgJ0_coder_7d493 : Sig := (yJ0_coder_7d493, cJ0_coder_7d493, 1, some .byte, 1, 0, 0)
def sgJ0_isLatin1_aae02 : Sig := (yJ0_isLatin1_aae02, cJ0_isLatin1_aae02, 1, some .boolean, 1, 0, 0)
def sgJ0_checkIndex_df160 : Sig := (yJ0_checkIndex_df160, cJ0_checkIndex_df160, 2, none, 2, 0, 0)
def sgJ1_charAt_3b067 : Sig := (yJ1_charAt_3b067, cJ1_charAt_3b067, 2, some .char, 2, 0, 0)
def sgJ2_getChar_3b067 : Sig := (yJ2_getChar_3b067, cJ2_getChar_3b067, 2, some .char, 2, 0, 0)
def sgJ2_length_9d52b : Sig := (yJ2_length_9d52b, cJ2_length_9d52b, 1, some .int, 1, 0, 0)
def sgJ2_charAt_3b067 : Sig := (yJ2_charAt_3b067, cJ2_charAt_3b067, 2, some .char, 2, 0, 0)
def sgJ2_checkIndex_2214a : Sig := (yJ2_checkIndex_2214a, cJ2_checkIndex_2214a, 2, none, 2, 0, 0)
def sgJ3_checkIndex_8e157 : Sig := (yJ3_checkIndex_8e157, cJ3_checkIndex_8e157, 3, some .int, 3, 0, 0)
def sgL_law : Sig := (yL_law, cL_law, 4, some .boolean, 1, 0, 0)
def tch : Nat → List Cond
  | 0 => k2_sels lw_privs
  | 1 => tables_1_1
  | 2 => tables_1_2
  | 3 => tables_1_3
  | 4 => tables_1_4
  | 5 => tables_1_5
  | 6 => tables_1_6
  | _ => []
theorem tch_mem {w : Cond} : ∀ k, w ∈ tch k → w ∈ lw_tbl
  | 0, h => List.mem_append_left _ h
  | 1, h => List.mem_append_right _ (show w ∈ tables_1 from List.mem_append_left _ h)
  | 2, h => List.mem_append_right _ (show w ∈ tables_1 from List.mem_append_right _ (List.mem_append_left _ h))
  | 3, h => List.mem_append_right _ (show w ∈ tables_1 from List.mem_append_right _ (List.mem_append_right _ (List.mem_append_left _ h)))
  | 4, h => List.mem_append_right _ (show w ∈ tables_1 from List.mem_append_right _ (List.mem_append_right _ (List.mem_append_right _ (List.mem_append_left _ h))))
  | 5, h => List.mem_append_right _ (show w ∈ tables_1 from List.mem_append_right _ (List.mem_append_right _ (List.mem_append_right _ (List.mem_append_right _ (List.mem_append_left _ h)))))
  | 6, h => List.mem_append_right _ (show w ∈ tables_1 from List.mem_append_right _ (List.mem_append_right _ (List.mem_append_right _ (List.mem_append_right _ (List.mem_append_right _ (h))))))
  | (_ + 7), h => by cases h
theorem tb_l2 {ws : List Cond} (ps : List (Nat × Nat)) (hp : ws = ps.filterMap (fun q => (tch q.1)[q.2]?)) (h : ws.all goodWord = true) : ∀ w ∈ ws, w ∈ TBL := by
  intro w hw
  have h1 := List.all_eq_true.mp h w hw
  rw [hp] at hw
  obtain ⟨q, -, hi⟩ := List.mem_filterMap.mp hw
  exact List.mem_filter.mpr ⟨tch_mem _ (List.mem_of_getElem? hi), h1⟩
theorem nw_l2 {ws : List Cond} (ps : List (Nat × Nat)) (hp : ws = ps.filterMap (fun q => (tch q.1)[q.2]?)) (h : ws.all isNest = true) : ∀ w ∈ ws, w ∈ NWL := by
  intro w hw
  have h1 := List.all_eq_true.mp h w hw
  rw [hp] at hw
  obtain ⟨q, -, hi⟩ := List.mem_filterMap.mp hw
  exact List.mem_filter.mpr ⟨tch_mem _ (List.mem_of_getElem? hi), h1⟩
theorem tb_2 {w : Cond} (k j : Nat) (h : (tch k)[j]? = some w) (hg : goodWord w = true) : w ∈ TBL := List.mem_filter.mpr ⟨tch_mem k (List.mem_of_getElem? h), hg⟩
theorem tb_nil : ∀ w ∈ ([] : List Cond), w ∈ TBL := fun _ h => by cases h
theorem tb_cons {a : Cond} {ws : List Cond} (h : a ∈ TBL) (hl : ∀ w ∈ ws, w ∈ TBL) : ∀ w ∈ a :: ws, w ∈ TBL := fun w hw => by
  rcases List.mem_cons.mp hw with rfl | hw
  · exact h
  · exact hl w hw
theorem sgIX0_init : SgI sgX0_init := ⟨by decide +kernel, tb_cons (tb_2 1 57 rfl rfl) (tb_cons (tb_2 1 3 rfl rfl) (tb_cons (tb_2 1 58 rfl rfl) (tb_nil)))⟩
theorem sgVX0_clear : SgV sgX0_clear 0 := ⟨by decide +kernel, tb_cons (tb_2 2 94 rfl rfl) (tb_cons (tb_2 0 7 rfl rfl) (tb_cons (tb_2 1 3 rfl rfl) (tb_cons (tb_2 2 95 rfl rfl) (tb_nil))))⟩
theorem sgVX0_add : SgV sgX0_add 0 := ⟨by decide +kernel, tb_cons (tb_2 2 131 rfl rfl) (tb_cons (tb_2 0 16 rfl rfl) (tb_cons (tb_2 1 3 rfl rfl) (tb_cons (tb_2 2 132 rfl rfl) (tb_nil))))⟩
theorem sgVX0_endPart : SgV sgX0_endPart 0 := ⟨by decide +kernel, tb_cons (tb_2 2 140 rfl rfl) (tb_cons (tb_2 0 18 rfl rfl) (tb_cons (tb_2 1 3 rfl rfl) (tb_cons (tb_2 2 141 rfl rfl) (tb_nil))))⟩
theorem sgVX0_truths : SgV sgX0_truths 0 := ⟨by decide +kernel, tb_cons (tb_2 2 148 rfl rfl) (tb_cons (tb_2 0 20 rfl rfl) (tb_cons (tb_2 1 3 rfl rfl) (tb_cons (tb_2 2 149 rfl rfl) (tb_nil))))⟩
theorem sgVX0_valueOf : SgV sgX0_valueOf 0 := ⟨by decide +kernel, tb_cons (tb_2 2 152 rfl rfl) (tb_cons (tb_2 0 21 rfl rfl) (tb_cons (tb_2 1 3 rfl rfl) (tb_cons (tb_2 2 153 rfl rfl) (tb_nil))))⟩
theorem sgVX0_step : SgV sgX0_step 0 := ⟨by decide +kernel, tb_cons (tb_2 2 157 rfl rfl) (tb_cons (tb_2 0 22 rfl rfl) (tb_cons (tb_2 1 3 rfl rfl) (tb_cons (tb_2 2 158 rfl rfl) (tb_nil))))⟩
theorem sgSX0_joined : SgS sgX0_joined := ⟨by decide +kernel, tb_cons (tb_2 2 171 rfl rfl) (tb_cons (tb_2 1 3 rfl rfl) (tb_cons (tb_2 2 172 rfl rfl) (tb_nil)))⟩
theorem sgVX0_push : SgV sgX0_push 0 := ⟨by decide +kernel, tb_cons (tb_2 2 161 rfl rfl) (tb_cons (tb_2 0 23 rfl rfl) (tb_cons (tb_2 1 3 rfl rfl) (tb_cons (tb_2 2 162 rfl rfl) (tb_nil))))⟩
theorem sgVX0_pop : SgV sgX0_pop 0 := ⟨by decide +kernel, tb_cons (tb_2 2 168 rfl rfl) (tb_cons (tb_2 0 24 rfl rfl) (tb_cons (tb_2 1 3 rfl rfl) (tb_cons (tb_2 2 169 rfl rfl) (tb_nil))))⟩
theorem sgIX1_init : SgI sgX1_init := ⟨by decide +kernel, tb_cons (tb_2 1 82 rfl rfl) (tb_cons (tb_2 1 4 rfl rfl) (tb_cons (tb_2 1 83 rfl rfl) (tb_nil)))⟩
theorem sgVX1_readText : SgV sgX1_readText 1 := ⟨by decide +kernel, tb_cons (tb_2 2 0 rfl rfl) (tb_cons (tb_2 0 1 rfl rfl) (tb_cons (tb_2 1 4 rfl rfl) (tb_cons (tb_2 2 1 rfl rfl) (tb_nil))))⟩
theorem sgVX1_readToken : SgV sgX1_readToken 1 := ⟨by decide +kernel, tb_cons (tb_2 2 98 rfl rfl) (tb_cons (tb_2 0 8 rfl rfl) (tb_cons (tb_2 1 4 rfl rfl) (tb_cons (tb_2 2 99 rfl rfl) (tb_nil))))⟩
theorem sgVX1_readOr : SgV sgX1_readOr 1 := ⟨by decide +kernel, tb_cons (tb_2 2 103 rfl rfl) (tb_cons (tb_2 0 9 rfl rfl) (tb_cons (tb_2 1 4 rfl rfl) (tb_cons (tb_2 2 104 rfl rfl) (tb_nil))))⟩
theorem sgVX1_readAnd : SgV sgX1_readAnd 1 := ⟨by decide +kernel, tb_cons (tb_2 2 107 rfl rfl) (tb_cons (tb_2 0 10 rfl rfl) (tb_cons (tb_2 1 4 rfl rfl) (tb_cons (tb_2 2 108 rfl rfl) (tb_nil))))⟩
theorem sgVX1_readNot : SgV sgX1_readNot 1 := ⟨by decide +kernel, tb_cons (tb_2 2 111 rfl rfl) (tb_cons (tb_2 0 11 rfl rfl) (tb_cons (tb_2 1 4 rfl rfl) (tb_cons (tb_2 2 112 rfl rfl) (tb_nil))))⟩
theorem sgVX1_readCompared : SgV sgX1_readCompared 1 := ⟨by decide +kernel, tb_cons (tb_2 2 115 rfl rfl) (tb_cons (tb_2 0 12 rfl rfl) (tb_cons (tb_2 1 4 rfl rfl) (tb_cons (tb_2 2 116 rfl rfl) (tb_nil))))⟩
theorem sgVX1_readSum : SgV sgX1_readSum 1 := ⟨by decide +kernel, tb_cons (tb_2 2 119 rfl rfl) (tb_cons (tb_2 0 13 rfl rfl) (tb_cons (tb_2 1 4 rfl rfl) (tb_cons (tb_2 2 120 rfl rfl) (tb_nil))))⟩
theorem sgVX1_readTerm : SgV sgX1_readTerm 1 := ⟨by decide +kernel, tb_cons (tb_2 2 123 rfl rfl) (tb_cons (tb_2 0 14 rfl rfl) (tb_cons (tb_2 1 4 rfl rfl) (tb_cons (tb_2 2 124 rfl rfl) (tb_nil))))⟩
theorem sgVX1_readOne : SgV sgX1_readOne 1 := ⟨by decide +kernel, tb_cons (tb_2 2 127 rfl rfl) (tb_cons (tb_2 0 15 rfl rfl) (tb_cons (tb_2 1 4 rfl rfl) (tb_cons (tb_2 2 128 rfl rfl) (tb_nil))))⟩
theorem sgVX1_readBracket : SgV sgX1_readBracket 1 := ⟨by decide +kernel, tb_cons (tb_2 2 136 rfl rfl) (tb_cons (tb_2 0 17 rfl rfl) (tb_cons (tb_2 1 4 rfl rfl) (tb_cons (tb_2 2 137 rfl rfl) (tb_nil))))⟩
theorem sgIX2_init : SgI sgX2_init := ⟨by decide +kernel, tb_cons (tb_2 1 170 rfl rfl) (tb_cons (tb_2 1 8 rfl rfl) (tb_cons (tb_2 1 171 rfl rfl) (tb_nil)))⟩
theorem sgVX2_consider : SgV sgX2_consider 2 := ⟨by decide +kernel, tb_cons (tb_2 3 162 rfl rfl) (tb_cons (tb_2 0 47 rfl rfl) (tb_cons (tb_2 1 8 rfl rfl) (tb_cons (tb_2 3 163 rfl rfl) (tb_nil))))⟩
theorem sgIX3_init : SgI sgX3_init := ⟨by decide +kernel, tb_cons (tb_2 1 148 rfl rfl) (tb_cons (tb_2 1 7 rfl rfl) (tb_cons (tb_2 1 149 rfl rfl) (tb_nil)))⟩
theorem sgVX3_isMissing : SgV sgX3_isMissing 3 := ⟨by decide +kernel, tb_cons (tb_2 3 215 rfl rfl) (tb_cons (tb_2 0 51 rfl rfl) (tb_cons (tb_2 1 7 rfl rfl) (tb_cons (tb_2 3 216 rfl rfl) (tb_nil))))⟩
theorem sgVX3_make : SgV sgX3_make 3 := ⟨by decide +kernel, tb_cons (tb_2 3 232 rfl rfl) (tb_cons (tb_2 0 54 rfl rfl) (tb_cons (tb_2 1 7 rfl rfl) (tb_cons (tb_2 3 233 rfl rfl) (tb_nil))))⟩
theorem sgVX3_holds : SgV sgX3_holds 3 := ⟨by decide +kernel, tb_cons (tb_2 4 44 rfl rfl) (tb_cons (tb_2 0 59 rfl rfl) (tb_cons (tb_2 1 7 rfl rfl) (tb_cons (tb_2 4 45 rfl rfl) (tb_nil))))⟩
theorem sgVX3_holdsRun : SgV sgX3_holdsRun 3 := ⟨by decide +kernel, tb_cons (tb_2 4 53 rfl rfl) (tb_cons (tb_2 0 60 rfl rfl) (tb_cons (tb_2 1 7 rfl rfl) (tb_cons (tb_2 4 54 rfl rfl) (tb_nil))))⟩
theorem sgVX3_read : SgV sgX3_read 3 := ⟨by decide +kernel, tb_cons (tb_2 3 224 rfl rfl) (tb_cons (tb_2 0 53 rfl rfl) (tb_cons (tb_2 1 7 rfl rfl) (tb_cons (tb_2 3 225 rfl rfl) (tb_nil))))⟩
theorem sgVX3_write : SgV sgX3_write 3 := ⟨by decide +kernel, tb_cons (tb_2 3 236 rfl rfl) (tb_cons (tb_2 0 55 rfl rfl) (tb_cons (tb_2 1 7 rfl rfl) (tb_cons (tb_2 3 237 rfl rfl) (tb_nil))))⟩
theorem sgVX3_move : SgV sgX3_move 3 := ⟨by decide +kernel, tb_cons (tb_2 4 57 rfl rfl) (tb_cons (tb_2 0 61 rfl rfl) (tb_cons (tb_2 1 7 rfl rfl) (tb_cons (tb_2 4 58 rfl rfl) (tb_nil))))⟩
theorem sgIX4_init : SgI sgX4_init := ⟨by decide +kernel, tb_cons (tb_2 1 118 rfl rfl) (tb_cons (tb_2 1 6 rfl rfl) (tb_cons (tb_2 1 119 rfl rfl) (tb_nil)))⟩
theorem sgVX4_become : SgV sgX4_become 4 := ⟨by decide +kernel, tb_cons (tb_2 2 234 rfl rfl) (tb_cons (tb_2 0 28 rfl rfl) (tb_cons (tb_2 1 6 rfl rfl) (tb_cons (tb_2 2 235 rfl rfl) (tb_nil))))⟩
theorem sgVX4_append : SgV sgX4_append 4 := ⟨by decide +kernel, tb_cons (tb_2 3 16 rfl rfl) (tb_cons (tb_2 0 30 rfl rfl) (tb_cons (tb_2 1 6 rfl rfl) (tb_cons (tb_2 3 17 rfl rfl) (tb_nil))))⟩
theorem sgVX4_sayingPart : SgV sgX4_sayingPart 4 := ⟨by decide +kernel, tb_cons (tb_2 3 28 rfl rfl) (tb_cons (tb_2 0 31 rfl rfl) (tb_cons (tb_2 1 6 rfl rfl) (tb_cons (tb_2 3 29 rfl rfl) (tb_nil))))⟩
theorem sgVX4_becomeLike : SgV sgX4_becomeLike 4 := ⟨by decide +kernel, tb_cons (tb_2 4 27 rfl rfl) (tb_cons (tb_2 0 58 rfl rfl) (tb_cons (tb_2 1 6 rfl rfl) (tb_cons (tb_2 4 28 rfl rfl) (tb_nil))))⟩
theorem sgIX5_init : SgI sgX5_init := ⟨by decide +kernel, tb_cons (tb_2 1 95 rfl rfl) (tb_cons (tb_2 1 5 rfl rfl) (tb_cons (tb_2 1 96 rfl rfl) (tb_nil)))⟩
theorem sgVX5_add : SgV sgX5_add 5 := ⟨by decide +kernel, tb_cons (tb_2 2 144 rfl rfl) (tb_cons (tb_2 0 19 rfl rfl) (tb_cons (tb_2 1 5 rfl rfl) (tb_cons (tb_2 2 145 rfl rfl) (tb_nil))))⟩
theorem sgVX5_side : SgV sgX5_side 5 := ⟨by decide +kernel, tb_cons (tb_2 2 206 rfl rfl) (tb_cons (tb_2 0 27 rfl rfl) (tb_cons (tb_2 1 5 rfl rfl) (tb_cons (tb_2 2 207 rfl rfl) (tb_nil))))⟩
theorem sgVX5_costOf : SgV sgX5_costOf 5 := ⟨by decide +kernel, tb_cons (tb_2 2 201 rfl rfl) (tb_cons (tb_2 0 26 rfl rfl) (tb_cons (tb_2 1 5 rfl rfl) (tb_cons (tb_2 2 202 rfl rfl) (tb_nil))))⟩
theorem sgIX6_init : SgI sgX6_init := ⟨by decide +kernel, tb_cons (tb_2 1 27 rfl rfl) (tb_cons (tb_2 1 2 rfl rfl) (tb_cons (tb_2 1 28 rfl rfl) (tb_nil)))⟩
theorem sgVX6_append : SgV sgX6_append 6 := ⟨by decide +kernel, tb_cons (tb_2 1 231 rfl rfl) (tb_cons (tb_2 0 0 rfl rfl) (tb_cons (tb_2 1 2 rfl rfl) (tb_cons (tb_2 1 232 rfl rfl) (tb_nil))))⟩
theorem sgVX6_start : SgV sgX6_start 6 := ⟨by decide +kernel, tb_cons (tb_2 2 4 rfl rfl) (tb_cons (tb_2 0 2 rfl rfl) (tb_cons (tb_2 1 2 rfl rfl) (tb_cons (tb_2 2 5 rfl rfl) (tb_nil))))⟩
theorem sgVX6_advance : SgV sgX6_advance 6 := ⟨by decide +kernel, tb_cons (tb_2 2 8 rfl rfl) (tb_cons (tb_2 0 3 rfl rfl) (tb_cons (tb_2 1 2 rfl rfl) (tb_cons (tb_2 2 9 rfl rfl) (tb_nil))))⟩
theorem sgVX6_readWord : SgV sgX6_readWord 6 := ⟨by decide +kernel, tb_cons (tb_2 2 21 rfl rfl) (tb_cons (tb_2 0 4 rfl rfl) (tb_cons (tb_2 1 2 rfl rfl) (tb_cons (tb_2 2 22 rfl rfl) (tb_nil))))⟩
theorem sgVX6_spells : SgV sgX6_spells 6 := ⟨by decide +kernel, tb_cons (tb_2 2 26 rfl rfl) (tb_cons (tb_2 0 5 rfl rfl) (tb_cons (tb_2 1 2 rfl rfl) (tb_cons (tb_2 2 27 rfl rfl) (tb_nil))))⟩
theorem sgVX6_readNumber : SgV sgX6_readNumber 6 := ⟨by decide +kernel, tb_cons (tb_2 2 87 rfl rfl) (tb_cons (tb_2 0 6 rfl rfl) (tb_cons (tb_2 1 2 rfl rfl) (tb_cons (tb_2 2 88 rfl rfl) (tb_nil))))⟩
theorem sgSX6_isBlank : SgS sgX6_isBlank := ⟨by decide +kernel, tb_cons (tb_2 2 14 rfl rfl) (tb_cons (tb_2 1 2 rfl rfl) (tb_cons (tb_2 2 15 rfl rfl) (tb_nil)))⟩
theorem sgSX6_isLetter : SgS sgX6_isLetter := ⟨by decide +kernel, tb_cons (tb_2 2 17 rfl rfl) (tb_cons (tb_2 1 2 rfl rfl) (tb_cons (tb_2 2 18 rfl rfl) (tb_nil)))⟩
theorem sgSX6_isDigit : SgS sgX6_isDigit := ⟨by decide +kernel, tb_cons (tb_2 2 83 rfl rfl) (tb_cons (tb_2 1 2 rfl rfl) (tb_cons (tb_2 2 84 rfl rfl) (tb_nil)))⟩
theorem sgSX6_isSign : SgS sgX6_isSign := ⟨by decide +kernel, tb_cons (tb_2 2 90 rfl rfl) (tb_cons (tb_2 1 2 rfl rfl) (tb_cons (tb_2 2 91 rfl rfl) (tb_nil)))⟩
theorem sgIX7_init : SgI sgX7_init := ⟨by decide +kernel, tb_cons (tb_2 1 19 rfl rfl) (tb_cons (tb_2 1 1 rfl rfl) (tb_cons (tb_2 1 20 rfl rfl) (tb_nil)))⟩
theorem sgVX7_count : SgV sgX7_count 7 := ⟨by decide +kernel, tb_cons (tb_2 1 219 rfl rfl) (tb_cons (tb_2 1 220 rfl rfl) (tb_cons (tb_2 1 1 rfl rfl) (tb_cons (tb_2 1 221 rfl rfl) (tb_nil))))⟩
theorem sgVX7_feed : SgV sgX7_feed 7 := ⟨by decide +kernel, tb_cons (tb_2 1 223 rfl rfl) (tb_cons (tb_2 1 224 rfl rfl) (tb_cons (tb_2 1 1 rfl rfl) (tb_cons (tb_2 1 225 rfl rfl) (tb_nil))))⟩
theorem sgVX7_text : SgV sgX7_text 7 := ⟨by decide +kernel, tb_cons (tb_2 1 235 rfl rfl) (tb_cons (tb_2 1 236 rfl rfl) (tb_cons (tb_2 1 1 rfl rfl) (tb_cons (tb_2 1 237 rfl rfl) (tb_nil))))⟩
theorem sgVX7_force : SgV sgX7_force 7 := ⟨by decide +kernel, tb_cons (tb_2 2 182 rfl rfl) (tb_cons (tb_2 2 183 rfl rfl) (tb_cons (tb_2 1 1 rfl rfl) (tb_cons (tb_2 2 184 rfl rfl) (tb_nil))))⟩
theorem sgVX7_asks : SgV sgX7_asks 7 := ⟨by decide +kernel, tb_cons (tb_2 2 193 rfl rfl) (tb_cons (tb_2 2 194 rfl rfl) (tb_cons (tb_2 1 1 rfl rfl) (tb_cons (tb_2 2 195 rfl rfl) (tb_nil))))⟩
theorem sgVX7_means : SgV sgX7_means 7 := ⟨by decide +kernel, tb_cons (tb_2 2 210 rfl rfl) (tb_cons (tb_2 2 211 rfl rfl) (tb_cons (tb_2 1 1 rfl rfl) (tb_cons (tb_2 2 212 rfl rfl) (tb_nil))))⟩
theorem sgVX7_pairs : SgV sgX7_pairs 7 := ⟨by decide +kernel, tb_cons (tb_2 2 219 rfl rfl) (tb_cons (tb_2 2 220 rfl rfl) (tb_cons (tb_2 1 1 rfl rfl) (tb_cons (tb_2 2 221 rfl rfl) (tb_nil))))⟩
theorem sgVX7_speaker : SgV sgX7_speaker 7 := ⟨by decide +kernel, tb_cons (tb_2 2 223 rfl rfl) (tb_cons (tb_2 2 224 rfl rfl) (tb_cons (tb_2 1 1 rfl rfl) (tb_cons (tb_2 2 225 rfl rfl) (tb_nil))))⟩
theorem sgVX7_turn : SgV sgX7_turn 7 := ⟨by decide +kernel, tb_cons (tb_2 2 238 rfl rfl) (tb_cons (tb_2 2 239 rfl rfl) (tb_cons (tb_2 1 1 rfl rfl) (tb_cons (tb_2 3 0 rfl rfl) (tb_nil))))⟩
theorem sgVX7_told : SgV sgX7_told 7 := ⟨by decide +kernel, tb_cons (tb_2 3 7 rfl rfl) (tb_cons (tb_2 3 8 rfl rfl) (tb_cons (tb_2 1 1 rfl rfl) (tb_cons (tb_2 3 9 rfl rfl) (tb_nil))))⟩
theorem sgVX7_say : SgV sgX7_say 7 := ⟨by decide +kernel, tb_cons (tb_2 3 11 rfl rfl) (tb_cons (tb_2 3 12 rfl rfl) (tb_cons (tb_2 1 1 rfl rfl) (tb_cons (tb_2 3 13 rfl rfl) (tb_nil))))⟩
theorem sgVX7_unsay : SgV sgX7_unsay 7 := ⟨by decide +kernel, tb_cons (tb_2 3 19 rfl rfl) (tb_cons (tb_2 3 20 rfl rfl) (tb_cons (tb_2 1 1 rfl rfl) (tb_cons (tb_2 3 21 rfl rfl) (tb_nil))))⟩
theorem sgVX7_said : SgV sgX7_said 7 := ⟨by decide +kernel, tb_cons (tb_2 3 23 rfl rfl) (tb_cons (tb_2 3 24 rfl rfl) (tb_cons (tb_2 1 1 rfl rfl) (tb_cons (tb_2 3 25 rfl rfl) (tb_nil))))⟩
theorem sgVX7_worlds : SgV sgX7_worlds 7 := ⟨by decide +kernel, tb_cons (tb_2 3 32 rfl rfl) (tb_cons (tb_2 3 33 rfl rfl) (tb_cons (tb_2 1 1 rfl rfl) (tb_cons (tb_2 3 34 rfl rfl) (tb_nil))))⟩
theorem sgVX7_behind : SgV sgX7_behind 7 := ⟨by decide +kernel, tb_cons (tb_2 3 74 rfl rfl) (tb_cons (tb_2 3 75 rfl rfl) (tb_cons (tb_2 1 1 rfl rfl) (tb_cons (tb_2 3 76 rfl rfl) (tb_nil))))⟩
theorem sgVX7_cannot : SgV sgX7_cannot 7 := ⟨by decide +kernel, tb_cons (tb_2 3 95 rfl rfl) (tb_cons (tb_2 3 96 rfl rfl) (tb_cons (tb_2 1 1 rfl rfl) (tb_cons (tb_2 3 97 rfl rfl) (tb_nil))))⟩
theorem sgVX7_lies : SgV sgX7_lies 7 := ⟨by decide +kernel, tb_cons (tb_2 3 99 rfl rfl) (tb_cons (tb_2 3 100 rfl rfl) (tb_cons (tb_2 1 1 rfl rfl) (tb_cons (tb_2 3 101 rfl rfl) (tb_nil))))⟩
theorem sgVX7_least : SgV sgX7_least 7 := ⟨by decide +kernel, tb_cons (tb_2 3 107 rfl rfl) (tb_cons (tb_2 3 108 rfl rfl) (tb_cons (tb_2 1 1 rfl rfl) (tb_cons (tb_2 3 109 rfl rfl) (tb_nil))))⟩
theorem sgVX7_mad : SgV sgX7_mad 7 := ⟨by decide +kernel, tb_cons (tb_2 3 118 rfl rfl) (tb_cons (tb_2 3 119 rfl rfl) (tb_cons (tb_2 1 1 rfl rfl) (tb_cons (tb_2 3 120 rfl rfl) (tb_nil))))⟩
theorem sgVX7_habit : SgV sgX7_habit 7 := ⟨by decide +kernel, tb_cons (tb_2 3 126 rfl rfl) (tb_cons (tb_2 3 127 rfl rfl) (tb_cons (tb_2 1 1 rfl rfl) (tb_cons (tb_2 3 128 rfl rfl) (tb_nil))))⟩
theorem sgVX7_kinds : SgV sgX7_kinds 7 := ⟨by decide +kernel, tb_cons (tb_2 3 136 rfl rfl) (tb_cons (tb_2 3 137 rfl rfl) (tb_cons (tb_2 1 1 rfl rfl) (tb_cons (tb_2 3 138 rfl rfl) (tb_nil))))⟩
theorem sgVX7_ask : SgV sgX7_ask 7 := ⟨by decide +kernel, tb_cons (tb_2 3 144 rfl rfl) (tb_cons (tb_2 3 145 rfl rfl) (tb_cons (tb_2 1 1 rfl rfl) (tb_cons (tb_2 3 146 rfl rfl) (tb_nil))))⟩
theorem sgVX7_two : SgV sgX7_two 7 := ⟨by decide +kernel, tb_cons (tb_2 3 165 rfl rfl) (tb_cons (tb_2 3 166 rfl rfl) (tb_cons (tb_2 1 1 rfl rfl) (tb_cons (tb_2 3 167 rfl rfl) (tb_nil))))⟩
theorem sgVX7_parts : SgV sgX7_parts 7 := ⟨by decide +kernel, tb_cons (tb_2 3 173 rfl rfl) (tb_cons (tb_2 3 174 rfl rfl) (tb_cons (tb_2 1 1 rfl rfl) (tb_cons (tb_2 3 175 rfl rfl) (tb_nil))))⟩
theorem sgVX7_hide : SgV sgX7_hide 7 := ⟨by decide +kernel, tb_cons (tb_2 3 177 rfl rfl) (tb_cons (tb_2 3 178 rfl rfl) (tb_cons (tb_2 1 1 rfl rfl) (tb_cons (tb_2 3 179 rfl rfl) (tb_nil))))⟩
theorem sgVX7_same : SgV sgX7_same 7 := ⟨by decide +kernel, tb_cons (tb_2 3 181 rfl rfl) (tb_cons (tb_2 3 182 rfl rfl) (tb_cons (tb_2 1 1 rfl rfl) (tb_cons (tb_2 3 183 rfl rfl) (tb_nil))))⟩
theorem sgVX7_claims : SgV sgX7_claims 7 := ⟨by decide +kernel, tb_cons (tb_2 3 185 rfl rfl) (tb_cons (tb_2 3 186 rfl rfl) (tb_cons (tb_2 1 1 rfl rfl) (tb_cons (tb_2 3 187 rfl rfl) (tb_nil))))⟩
theorem sgVX7_settle : SgV sgX7_settle 7 := ⟨by decide +kernel, tb_cons (tb_2 3 189 rfl rfl) (tb_cons (tb_2 3 190 rfl rfl) (tb_cons (tb_2 1 1 rfl rfl) (tb_cons (tb_2 3 191 rfl rfl) (tb_nil))))⟩
theorem sgVX7_thrice : SgV sgX7_thrice 7 := ⟨by decide +kernel, tb_cons (tb_2 3 201 rfl rfl) (tb_cons (tb_2 3 202 rfl rfl) (tb_cons (tb_2 1 1 rfl rfl) (tb_cons (tb_2 3 203 rfl rfl) (tb_nil))))⟩
theorem sgVX7_many : SgV sgX7_many 7 := ⟨by decide +kernel, tb_cons (tb_2 3 205 rfl rfl) (tb_cons (tb_2 3 206 rfl rfl) (tb_cons (tb_2 1 1 rfl rfl) (tb_cons (tb_2 3 207 rfl rfl) (tb_nil))))⟩
theorem sgVX7_judge : SgV sgX7_judge 7 := ⟨by decide +kernel, tb_cons (tb_2 3 210 rfl rfl) (tb_cons (tb_2 3 211 rfl rfl) (tb_cons (tb_2 1 1 rfl rfl) (tb_cons (tb_2 3 212 rfl rfl) (tb_nil))))⟩
theorem sgVX7_film : SgV sgX7_film 7 := ⟨by decide +kernel, tb_cons (tb_2 3 227 rfl rfl) (tb_cons (tb_2 3 228 rfl rfl) (tb_cons (tb_2 1 1 rfl rfl) (tb_cons (tb_2 3 229 rfl rfl) (tb_nil))))⟩
theorem sgVX7_drawn : SgV sgX7_drawn 7 := ⟨by decide +kernel, tb_cons (tb_2 3 239 rfl rfl) (tb_cons (tb_2 4 0 rfl rfl) (tb_cons (tb_2 1 1 rfl rfl) (tb_cons (tb_2 4 1 rfl rfl) (tb_nil))))⟩
theorem sgVX7_mean : SgV sgX7_mean 7 := ⟨by decide +kernel, tb_cons (tb_2 4 18 rfl rfl) (tb_cons (tb_2 4 19 rfl rfl) (tb_cons (tb_2 1 1 rfl rfl) (tb_cons (tb_2 4 20 rfl rfl) (tb_nil))))⟩
theorem sgVX7_image : SgV sgX7_image 7 := ⟨by decide +kernel, tb_cons (tb_2 4 22 rfl rfl) (tb_cons (tb_2 4 23 rfl rfl) (tb_cons (tb_2 1 1 rfl rfl) (tb_cons (tb_2 4 24 rfl rfl) (tb_nil))))⟩
theorem sgVX7_back : SgV sgX7_back 7 := ⟨by decide +kernel, tb_cons (tb_2 4 31 rfl rfl) (tb_cons (tb_2 4 32 rfl rfl) (tb_cons (tb_2 1 1 rfl rfl) (tb_cons (tb_2 4 33 rfl rfl) (tb_nil))))⟩
theorem sgVX7_sheet : SgV sgX7_sheet 7 := ⟨by decide +kernel, tb_cons (tb_2 4 35 rfl rfl) (tb_cons (tb_2 4 36 rfl rfl) (tb_cons (tb_2 1 1 rfl rfl) (tb_cons (tb_2 4 37 rfl rfl) (tb_nil))))⟩
theorem sgVX7_cell : SgV sgX7_cell 7 := ⟨by decide +kernel, tb_cons (tb_2 4 39 rfl rfl) (tb_cons (tb_2 4 40 rfl rfl) (tb_cons (tb_2 1 1 rfl rfl) (tb_cons (tb_2 4 41 rfl rfl) (tb_nil))))⟩
theorem sgVX7_copy : SgV sgX7_copy 7 := ⟨by decide +kernel, tb_cons (tb_2 4 48 rfl rfl) (tb_cons (tb_2 4 49 rfl rfl) (tb_cons (tb_2 1 1 rfl rfl) (tb_cons (tb_2 4 50 rfl rfl) (tb_nil))))⟩
theorem sgVX7_sayingsBy : SgV sgX7_sayingsBy 7 := ⟨by decide +kernel, tb_cons (tb_2 4 62 rfl rfl) (tb_cons (tb_2 4 63 rfl rfl) (tb_cons (tb_2 1 1 rfl rfl) (tb_cons (tb_2 4 64 rfl rfl) (tb_nil))))⟩
theorem sgVX7_taken : SgV sgX7_taken 7 := ⟨by decide +kernel, tb_cons (tb_2 4 67 rfl rfl) (tb_cons (tb_2 4 68 rfl rfl) (tb_cons (tb_2 1 1 rfl rfl) (tb_cons (tb_2 4 69 rfl rfl) (tb_nil))))⟩
theorem sgSX7_isBelow : SgS sgX7_isBelow := ⟨by decide +kernel, tb_cons (tb_2 2 190 rfl rfl) (tb_cons (tb_2 1 1 rfl rfl) (tb_cons (tb_2 2 191 rfl rfl) (tb_nil)))⟩
theorem sgSX7_isByte : SgS sgX7_isByte := ⟨by decide +kernel, tb_cons (tb_2 1 227 rfl rfl) (tb_cons (tb_2 1 1 rfl rfl) (tb_cons (tb_2 1 228 rfl rfl) (tb_nil)))⟩
theorem sgSX7_isKind : SgS sgX7_isKind := ⟨by decide +kernel, tb_cons (tb_2 2 227 rfl rfl) (tb_cons (tb_2 1 1 rfl rfl) (tb_cons (tb_2 2 228 rfl rfl) (tb_nil)))⟩
theorem sgSX7_isMore : SgS sgX7_isMore := ⟨by decide +kernel, tb_cons (tb_2 2 230 rfl rfl) (tb_cons (tb_2 1 1 rfl rfl) (tb_cons (tb_2 2 231 rfl rfl) (tb_nil)))⟩
theorem sgSX7_isWorld : SgS sgX7_isWorld := ⟨by decide +kernel, tb_cons (tb_2 2 197 rfl rfl) (tb_cons (tb_2 1 1 rfl rfl) (tb_cons (tb_2 2 198 rfl rfl) (tb_nil)))⟩
theorem sgVX7_isText : SgV sgX7_isText 7 := ⟨by decide +kernel, tb_cons (tb_2 2 187 rfl rfl) (tb_cons (tb_2 0 25 rfl rfl) (tb_cons (tb_2 1 1 rfl rfl) (tb_cons (tb_2 2 188 rfl rfl) (tb_nil))))⟩
theorem sgVX7_isSpeaker : SgV sgX7_isSpeaker 7 := ⟨by decide +kernel, tb_cons (tb_2 3 3 rfl rfl) (tb_cons (tb_2 0 29 rfl rfl) (tb_cons (tb_2 1 1 rfl rfl) (tb_cons (tb_2 3 4 rfl rfl) (tb_nil))))⟩
theorem sgSX7_at : SgS sgX7_at := ⟨by decide +kernel, tb_cons (tb_2 2 11 rfl rfl) (tb_cons (tb_2 1 1 rfl rfl) (tb_cons (tb_2 2 12 rfl rfl) (tb_nil)))⟩
theorem sgSX7_put : SgS sgX7_put := ⟨by decide +kernel, tb_cons (tb_2 1 99 rfl rfl) (tb_cons (tb_2 1 1 rfl rfl) (tb_cons (tb_2 1 100 rfl rfl) (tb_nil)))⟩
theorem sgSX7_bit : SgS sgX7_bit := ⟨by decide +kernel, tb_cons (tb_2 2 164 rfl rfl) (tb_cons (tb_2 1 1 rfl rfl) (tb_cons (tb_2 2 165 rfl rfl) (tb_nil)))⟩
theorem sgSX7_bits : SgS sgX7_bits := ⟨by decide +kernel, tb_cons (tb_2 2 215 rfl rfl) (tb_cons (tb_2 1 1 rfl rfl) (tb_cons (tb_2 2 216 rfl rfl) (tb_nil)))⟩
theorem sgSX7_worldNumber : SgS sgX7_worldNumber := ⟨by decide +kernel, tb_cons (tb_2 3 92 rfl rfl) (tb_cons (tb_2 1 1 rfl rfl) (tb_cons (tb_2 3 93 rfl rfl) (tb_nil)))⟩
theorem sgSX7_fewer : SgS sgX7_fewer := ⟨by decide +kernel, tb_cons (tb_2 3 115 rfl rfl) (tb_cons (tb_2 1 1 rfl rfl) (tb_cons (tb_2 3 116 rfl rfl) (tb_nil)))⟩
theorem sgSX7_inLowestTerms : SgS sgX7_inLowestTerms := ⟨by decide +kernel, tb_cons (tb_2 3 130 rfl rfl) (tb_cons (tb_2 1 1 rfl rfl) (tb_cons (tb_2 3 131 rfl rfl) (tb_nil)))⟩
theorem sgSX7_commonDivisor : SgS sgX7_commonDivisor := ⟨by decide +kernel, tb_cons (tb_2 3 133 rfl rfl) (tb_cons (tb_2 1 1 rfl rfl) (tb_cons (tb_2 3 134 rfl rfl) (tb_nil)))⟩
theorem sgSX7_canSay : SgS sgX7_canSay := ⟨by decide +kernel, tb_cons (tb_2 3 68 rfl rfl) (tb_cons (tb_2 1 1 rfl rfl) (tb_cons (tb_2 3 69 rfl rfl) (tb_nil)))⟩
theorem sgSX7_turnsAt : SgS sgX7_turnsAt := ⟨by decide +kernel, tb_cons (tb_2 3 71 rfl rfl) (tb_cons (tb_2 1 1 rfl rfl) (tb_cons (tb_2 3 72 rfl rfl) (tb_nil)))⟩
theorem sgVX7_onceOf : SgV sgX7_onceOf 7 := ⟨by decide +kernel, tb_cons (tb_2 3 49 rfl rfl) (tb_cons (tb_2 0 35 rfl rfl) (tb_cons (tb_2 1 1 rfl rfl) (tb_cons (tb_2 3 50 rfl rfl) (tb_nil))))⟩
theorem sgVX7_lawful : SgV sgX7_lawful 7 := ⟨by decide +kernel, tb_cons (tb_2 3 45 rfl rfl) (tb_cons (tb_2 0 34 rfl rfl) (tb_cons (tb_2 1 1 rfl rfl) (tb_cons (tb_2 3 46 rfl rfl) (tb_nil))))⟩
theorem sgVX7_firstSaid : SgV sgX7_firstSaid 7 := ⟨by decide +kernel, tb_cons (tb_2 3 61 rfl rfl) (tb_cons (tb_2 0 38 rfl rfl) (tb_cons (tb_2 1 1 rfl rfl) (tb_cons (tb_2 3 62 rfl rfl) (tb_nil))))⟩
theorem sgVX7_secondSaid : SgV sgX7_secondSaid 7 := ⟨by decide +kernel, tb_cons (tb_2 3 65 rfl rfl) (tb_cons (tb_2 0 39 rfl rfl) (tb_cons (tb_2 1 1 rfl rfl) (tb_cons (tb_2 3 66 rfl rfl) (tb_nil))))⟩
theorem sgVX7_sayableNext : SgV sgX7_sayableNext 7 := ⟨by decide +kernel, tb_cons (tb_2 3 157 rfl rfl) (tb_cons (tb_2 0 46 rfl rfl) (tb_cons (tb_2 1 1 rfl rfl) (tb_cons (tb_2 3 158 rfl rfl) (tb_nil))))⟩
theorem sgVX7_sayable : SgV sgX7_sayable 7 := ⟨by decide +kernel, tb_cons (tb_2 3 53 rfl rfl) (tb_cons (tb_2 0 36 rfl rfl) (tb_cons (tb_2 1 1 rfl rfl) (tb_cons (tb_2 3 54 rfl rfl) (tb_nil))))⟩
theorem sgVX7_sayableAs : SgV sgX7_sayableAs 7 := ⟨by decide +kernel, tb_cons (tb_2 3 57 rfl rfl) (tb_cons (tb_2 0 37 rfl rfl) (tb_cons (tb_2 1 1 rfl rfl) (tb_cons (tb_2 3 58 rfl rfl) (tb_nil))))⟩
theorem sgVX7_allSayableWere : SgV sgX7_allSayableWere 7 := ⟨by decide +kernel, tb_cons (tb_2 3 141 rfl rfl) (tb_cons (tb_2 0 43 rfl rfl) (tb_cons (tb_2 1 1 rfl rfl) (tb_cons (tb_2 3 142 rfl rfl) (tb_nil))))⟩
theorem sgVX7_fittingFirst : SgV sgX7_fittingFirst 7 := ⟨by decide +kernel, tb_cons (tb_2 3 41 rfl rfl) (tb_cons (tb_2 0 33 rfl rfl) (tb_cons (tb_2 1 1 rfl rfl) (tb_cons (tb_2 3 42 rfl rfl) (tb_nil))))⟩
theorem sgVX7_fitting : SgV sgX7_fitting 7 := ⟨by decide +kernel, tb_cons (tb_2 3 37 rfl rfl) (tb_cons (tb_2 0 32 rfl rfl) (tb_cons (tb_2 1 1 rfl rfl) (tb_cons (tb_2 3 38 rfl rfl) (tb_nil))))⟩
theorem sgVX7_fittingWithout : SgV sgX7_fittingWithout 7 := ⟨by decide +kernel, tb_cons (tb_2 3 104 rfl rfl) (tb_cons (tb_2 0 40 rfl rfl) (tb_cons (tb_2 1 1 rfl rfl) (tb_cons (tb_2 3 105 rfl rfl) (tb_nil))))⟩
theorem sgVX7_fittingWereMad : SgV sgX7_fittingWereMad 7 := ⟨by decide +kernel, tb_cons (tb_2 3 123 rfl rfl) (tb_cons (tb_2 0 42 rfl rfl) (tb_cons (tb_2 1 1 rfl rfl) (tb_cons (tb_2 3 124 rfl rfl) (tb_nil))))⟩
theorem sgVX7_misfits : SgV sgX7_misfits 7 := ⟨by decide +kernel, tb_cons (tb_2 3 112 rfl rfl) (tb_cons (tb_2 0 41 rfl rfl) (tb_cons (tb_2 1 1 rfl rfl) (tb_cons (tb_2 3 113 rfl rfl) (tb_nil))))⟩
theorem sgSX7_isSure : SgS sgX7_isSure := ⟨by decide +kernel, tb_cons (tb_2 3 89 rfl rfl) (tb_cons (tb_2 1 1 rfl rfl) (tb_cons (tb_2 3 90 rfl rfl) (tb_nil)))⟩
theorem sgSX7_thingsSure : SgS sgX7_thingsSure := ⟨by decide +kernel, tb_cons (tb_2 3 84 rfl rfl) (tb_cons (tb_2 1 1 rfl rfl) (tb_cons (tb_2 3 85 rfl rfl) (tb_nil)))⟩
theorem sgVX7_findBest : SgV sgX7_findBest 7 := ⟨by decide +kernel, tb_cons (tb_2 3 149 rfl rfl) (tb_cons (tb_2 0 44 rfl rfl) (tb_cons (tb_2 1 1 rfl rfl) (tb_cons (tb_2 3 150 rfl rfl) (tb_nil))))⟩
theorem sgVX7_worstOf : SgV sgX7_worstOf 7 := ⟨by decide +kernel, tb_cons (tb_2 3 153 rfl rfl) (tb_cons (tb_2 0 45 rfl rfl) (tb_cons (tb_2 1 1 rfl rfl) (tb_cons (tb_2 3 154 rfl rfl) (tb_nil))))⟩
theorem sgVX7_worstBehind : SgV sgX7_worstBehind 7 := ⟨by decide +kernel, tb_cons (tb_2 3 170 rfl rfl) (tb_cons (tb_2 0 48 rfl rfl) (tb_cons (tb_2 1 1 rfl rfl) (tb_cons (tb_2 3 171 rfl rfl) (tb_nil))))⟩
theorem sgVX7_strangerAsks : SgV sgX7_strangerAsks 7 := ⟨by decide +kernel, tb_cons (tb_2 4 5 rfl rfl) (tb_cons (tb_2 0 56 rfl rfl) (tb_cons (tb_2 1 1 rfl rfl) (tb_cons (tb_2 4 6 rfl rfl) (tb_nil))))⟩
theorem sgVX7_answered : SgV sgX7_answered 7 := ⟨by decide +kernel, tb_cons (tb_2 4 15 rfl rfl) (tb_cons (tb_2 0 57 rfl rfl) (tb_cons (tb_2 1 1 rfl rfl) (tb_cons (tb_2 4 16 rfl rfl) (tb_nil))))⟩
theorem sgSX7_lotBehind : SgS sgX7_lotBehind := ⟨by decide +kernel, tb_cons (tb_2 4 8 rfl rfl) (tb_cons (tb_2 1 1 rfl rfl) (tb_cons (tb_2 4 9 rfl rfl) (tb_nil)))⟩
theorem sgVX7_settles : SgV sgX7_settles 7 := ⟨by decide +kernel, tb_cons (tb_2 3 194 rfl rfl) (tb_cons (tb_2 0 49 rfl rfl) (tb_cons (tb_2 1 1 rfl rfl) (tb_cons (tb_2 3 195 rfl rfl) (tb_nil))))⟩
theorem sgVX7_markOf : SgV sgX7_markOf 7 := ⟨by decide +kernel, tb_cons (tb_2 3 198 rfl rfl) (tb_cons (tb_2 0 50 rfl rfl) (tb_cons (tb_2 1 1 rfl rfl) (tb_cons (tb_2 3 199 rfl rfl) (tb_nil))))⟩
theorem sgVX7_rowFits : SgV sgX7_rowFits 7 := ⟨by decide +kernel, tb_cons (tb_2 3 220 rfl rfl) (tb_cons (tb_2 0 52 rfl rfl) (tb_cons (tb_2 1 1 rfl rfl) (tb_cons (tb_2 3 221 rfl rfl) (tb_nil))))⟩
theorem sgVX7_sayingTaken : SgV sgX7_sayingTaken 7 := ⟨by decide +kernel, tb_cons (tb_2 4 72 rfl rfl) (tb_cons (tb_2 0 62 rfl rfl) (tb_cons (tb_2 1 1 rfl rfl) (tb_cons (tb_2 4 73 rfl rfl) (tb_nil))))⟩
theorem sgVX7_speakerTaken : SgV sgX7_speakerTaken 7 := ⟨by decide +kernel, tb_cons (tb_2 4 76 rfl rfl) (tb_cons (tb_2 0 63 rfl rfl) (tb_cons (tb_2 1 1 rfl rfl) (tb_cons (tb_2 4 77 rfl rfl) (tb_nil))))⟩
theorem sgSX7_isOneOf : SgS sgX7_isOneOf := ⟨by decide +kernel, tb_cons (tb_2 4 79 rfl rfl) (tb_cons (tb_2 1 1 rfl rfl) (tb_cons (tb_2 4 80 rfl rfl) (tb_nil)))⟩
theorem sgIX8_init : SgI sgX8_init := ⟨by decide +kernel, tb_cons (tb_2 4 84 rfl rfl) (tb_cons (tb_2 1 9 rfl rfl) (tb_cons (tb_2 4 85 rfl rfl) (tb_nil)))⟩
theorem sgSX8_in : SgS sgX8_in := ⟨by decide +kernel, tb_cons (tb_2 4 96 rfl rfl) (tb_cons (tb_2 1 9 rfl rfl) (tb_cons (tb_2 4 97 rfl rfl) (tb_nil)))⟩
theorem sgSX8_within : SgS sgX8_within := ⟨by decide +kernel, tb_cons (tb_2 5 46 rfl rfl) (tb_cons (tb_2 1 9 rfl rfl) (tb_cons (tb_2 5 47 rfl rfl) (tb_nil)))⟩
theorem sgVX8_isSpeaker : SgV sgX8_isSpeaker 8 := ⟨by decide +kernel, tb_cons (tb_2 5 75 rfl rfl) (tb_cons (tb_2 0 77 rfl rfl) (tb_cons (tb_2 1 9 rfl rfl) (tb_cons (tb_2 5 76 rfl rfl) (tb_nil))))⟩
theorem sgVX8_isOfTexts : SgV sgX8_isOfTexts 8 := ⟨by decide +kernel, tb_cons (tb_2 5 29 rfl rfl) (tb_cons (tb_2 0 73 rfl rfl) (tb_cons (tb_2 1 9 rfl rfl) (tb_cons (tb_2 5 30 rfl rfl) (tb_nil))))⟩
theorem sgSX8_isWorld : SgS sgX8_isWorld := ⟨by decide +kernel, tb_cons (tb_2 5 32 rfl rfl) (tb_cons (tb_2 1 9 rfl rfl) (tb_cons (tb_2 5 33 rfl rfl) (tb_nil)))⟩
theorem sgSX8_has : SgS sgX8_has := ⟨by decide +kernel, tb_cons (tb_2 5 134 rfl rfl) (tb_cons (tb_2 1 9 rfl rfl) (tb_cons (tb_2 5 135 rfl rfl) (tb_nil)))⟩
theorem sgSX8_bitsOf : SgS sgX8_bitsOf := ⟨by decide +kernel, tb_cons (tb_2 5 131 rfl rfl) (tb_cons (tb_2 1 9 rfl rfl) (tb_cons (tb_2 5 132 rfl rfl) (tb_nil)))⟩
theorem sgVX8_count : SgV sgX8_count 8 := ⟨by decide +kernel, tb_cons (tb_2 5 8 rfl rfl) (tb_cons (tb_2 5 9 rfl rfl) (tb_cons (tb_2 1 9 rfl rfl) (tb_cons (tb_2 5 10 rfl rfl) (tb_nil))))⟩
theorem sgSX8_isByte : SgS sgX8_isByte := ⟨by decide +kernel, tb_cons (tb_2 5 16 rfl rfl) (tb_cons (tb_2 1 9 rfl rfl) (tb_cons (tb_2 5 17 rfl rfl) (tb_nil)))⟩
theorem sgVX8_feed : SgV sgX8_feed 8 := ⟨by decide +kernel, tb_cons (tb_2 5 12 rfl rfl) (tb_cons (tb_2 5 13 rfl rfl) (tb_cons (tb_2 1 9 rfl rfl) (tb_cons (tb_2 5 14 rfl rfl) (tb_nil))))⟩
theorem sgVX8_wordFrom : SgV sgX8_wordFrom 8 := ⟨by decide +kernel, tb_cons (tb_2 4 100 rfl rfl) (tb_cons (tb_2 0 65 rfl rfl) (tb_cons (tb_2 1 9 rfl rfl) (tb_cons (tb_2 4 101 rfl rfl) (tb_nil))))⟩
theorem sgVX8_next : SgV sgX8_next 8 := ⟨by decide +kernel, tb_cons (tb_2 4 93 rfl rfl) (tb_cons (tb_2 0 64 rfl rfl) (tb_cons (tb_2 1 9 rfl rfl) (tb_cons (tb_2 4 94 rfl rfl) (tb_nil))))⟩
theorem sgSX8_rank : SgS sgX8_rank := ⟨by decide +kernel, tb_cons (tb_2 4 116 rfl rfl) (tb_cons (tb_2 1 9 rfl rfl) (tb_cons (tb_2 4 117 rfl rfl) (tb_nil)))⟩
theorem sgVX8_puts : SgV sgX8_puts 8 := ⟨by decide +kernel, tb_cons (tb_2 4 109 rfl rfl) (tb_cons (tb_2 0 67 rfl rfl) (tb_cons (tb_2 1 9 rfl rfl) (tb_cons (tb_2 4 110 rfl rfl) (tb_nil))))⟩
theorem sgVX8_unwinds : SgV sgX8_unwinds 8 := ⟨by decide +kernel, tb_cons (tb_2 4 113 rfl rfl) (tb_cons (tb_2 0 68 rfl rfl) (tb_cons (tb_2 1 9 rfl rfl) (tb_cons (tb_2 4 114 rfl rfl) (tb_nil))))⟩
theorem sgVX8_holds : SgV sgX8_holds 8 := ⟨by decide +kernel, tb_cons (tb_2 4 124 rfl rfl) (tb_cons (tb_2 0 70 rfl rfl) (tb_cons (tb_2 1 9 rfl rfl) (tb_cons (tb_2 4 125 rfl rfl) (tb_nil))))⟩
theorem sgVX8_opensOne : SgV sgX8_opensOne 8 := ⟨by decide +kernel, tb_cons (tb_2 4 120 rfl rfl) (tb_cons (tb_2 0 69 rfl rfl) (tb_cons (tb_2 1 9 rfl rfl) (tb_cons (tb_2 4 121 rfl rfl) (tb_nil))))⟩
theorem sgVX8_between : SgV sgX8_between 8 := ⟨by decide +kernel, tb_cons (tb_2 4 132 rfl rfl) (tb_cons (tb_2 0 72 rfl rfl) (tb_cons (tb_2 1 9 rfl rfl) (tb_cons (tb_2 4 133 rfl rfl) (tb_nil))))⟩
theorem sgVX8_signOf : SgV sgX8_signOf 8 := ⟨by decide +kernel, tb_cons (tb_2 4 128 rfl rfl) (tb_cons (tb_2 0 71 rfl rfl) (tb_cons (tb_2 1 9 rfl rfl) (tb_cons (tb_2 4 129 rfl rfl) (tb_nil))))⟩
theorem sgVX8_eRead : SgV sgX8_eRead 8 := ⟨by decide +kernel, tb_cons (tb_2 4 104 rfl rfl) (tb_cons (tb_2 0 66 rfl rfl) (tb_cons (tb_2 1 9 rfl rfl) (tb_cons (tb_2 4 105 rfl rfl) (tb_nil))))⟩
theorem sgVX8_text : SgV sgX8_text 8 := ⟨by decide +kernel, tb_cons (tb_2 4 88 rfl rfl) (tb_cons (tb_2 4 89 rfl rfl) (tb_cons (tb_2 1 9 rfl rfl) (tb_cons (tb_2 4 90 rfl rfl) (tb_nil))))⟩
theorem sgSX8_two : SgS sgX8_two := ⟨by decide +kernel, tb_cons (tb_2 5 43 rfl rfl) (tb_cons (tb_2 1 9 rfl rfl) (tb_cons (tb_2 5 44 rfl rfl) (tb_nil)))⟩
theorem sgVX8_says : SgV sgX8_says 8 := ⟨by decide +kernel, tb_cons (tb_2 5 40 rfl rfl) (tb_cons (tb_2 0 75 rfl rfl) (tb_cons (tb_2 1 9 rfl rfl) (tb_cons (tb_2 5 41 rfl rfl) (tb_nil))))⟩
theorem sgVX8_force : SgV sgX8_force 8 := ⟨by decide +kernel, tb_cons (tb_2 5 20 rfl rfl) (tb_cons (tb_2 5 21 rfl rfl) (tb_cons (tb_2 1 9 rfl rfl) (tb_cons (tb_2 5 22 rfl rfl) (tb_nil))))⟩
theorem sgVX8_saysOf : SgV sgX8_saysOf 8 := ⟨by decide +kernel, tb_cons (tb_2 5 36 rfl rfl) (tb_cons (tb_2 0 74 rfl rfl) (tb_cons (tb_2 1 9 rfl rfl) (tb_cons (tb_2 5 37 rfl rfl) (tb_nil))))⟩
theorem sgVX8_asks : SgV sgX8_asks 8 := ⟨by decide +kernel, tb_cons (tb_2 5 24 rfl rfl) (tb_cons (tb_2 5 25 rfl rfl) (tb_cons (tb_2 1 9 rfl rfl) (tb_cons (tb_2 5 26 rfl rfl) (tb_nil))))⟩
theorem sgVX8_soIn : SgV sgX8_soIn 8 := ⟨by decide +kernel, tb_cons (tb_2 5 54 rfl rfl) (tb_cons (tb_2 0 76 rfl rfl) (tb_cons (tb_2 1 9 rfl rfl) (tb_cons (tb_2 5 55 rfl rfl) (tb_nil))))⟩
theorem sgVX8_means : SgV sgX8_means 8 := ⟨by decide +kernel, tb_cons (tb_2 5 49 rfl rfl) (tb_cons (tb_2 5 50 rfl rfl) (tb_cons (tb_2 1 9 rfl rfl) (tb_cons (tb_2 5 51 rfl rfl) (tb_nil))))⟩
theorem sgVX8_pairs : SgV sgX8_pairs 8 := ⟨by decide +kernel, tb_cons (tb_2 5 58 rfl rfl) (tb_cons (tb_2 5 59 rfl rfl) (tb_cons (tb_2 1 9 rfl rfl) (tb_cons (tb_2 5 60 rfl rfl) (tb_nil))))⟩
theorem sgVX8_reads : SgV sgX8_reads 8 := ⟨by decide +kernel, tb_cons (tb_2 5 103 rfl rfl) (tb_cons (tb_2 0 79 rfl rfl) (tb_cons (tb_2 1 9 rfl rfl) (tb_cons (tb_2 5 104 rfl rfl) (tb_nil))))⟩
theorem sgVX8_once : SgV sgX8_once 8 := ⟨by decide +kernel, tb_cons (tb_2 5 111 rfl rfl) (tb_cons (tb_2 0 81 rfl rfl) (tb_cons (tb_2 1 9 rfl rfl) (tb_cons (tb_2 5 112 rfl rfl) (tb_nil))))⟩
theorem sgSX8_isSo : SgS sgX8_isSo := ⟨by decide +kernel, tb_cons (tb_2 5 67 rfl rfl) (tb_cons (tb_2 1 9 rfl rfl) (tb_cons (tb_2 5 68 rfl rfl) (tb_nil)))⟩
theorem sgVX8_speaker : SgV sgX8_speaker 8 := ⟨by decide +kernel, tb_cons (tb_2 5 63 rfl rfl) (tb_cons (tb_2 5 64 rfl rfl) (tb_cons (tb_2 1 9 rfl rfl) (tb_cons (tb_2 5 65 rfl rfl) (tb_nil))))⟩
theorem sgVX8_turn : SgV sgX8_turn 8 := ⟨by decide +kernel, tb_cons (tb_2 5 70 rfl rfl) (tb_cons (tb_2 5 71 rfl rfl) (tb_cons (tb_2 1 9 rfl rfl) (tb_cons (tb_2 5 72 rfl rfl) (tb_nil))))⟩
theorem sgVX8_told : SgV sgX8_told 8 := ⟨by decide +kernel, tb_cons (tb_2 5 78 rfl rfl) (tb_cons (tb_2 5 79 rfl rfl) (tb_cons (tb_2 1 9 rfl rfl) (tb_cons (tb_2 5 80 rfl rfl) (tb_nil))))⟩
theorem sgVX8_say : SgV sgX8_say 8 := ⟨by decide +kernel, tb_cons (tb_2 5 82 rfl rfl) (tb_cons (tb_2 5 83 rfl rfl) (tb_cons (tb_2 1 9 rfl rfl) (tb_cons (tb_2 5 84 rfl rfl) (tb_nil))))⟩
theorem sgVX8_unsay : SgV sgX8_unsay 8 := ⟨by decide +kernel, tb_cons (tb_2 5 86 rfl rfl) (tb_cons (tb_2 5 87 rfl rfl) (tb_cons (tb_2 1 9 rfl rfl) (tb_cons (tb_2 5 88 rfl rfl) (tb_nil))))⟩
theorem sgVX8_said : SgV sgX8_said 8 := ⟨by decide +kernel, tb_cons (tb_2 5 90 rfl rfl) (tb_cons (tb_2 5 91 rfl rfl) (tb_cons (tb_2 1 9 rfl rfl) (tb_cons (tb_2 5 92 rfl rfl) (tb_nil))))⟩
theorem sgVX8_canSay : SgV sgX8_canSay 8 := ⟨by decide +kernel, tb_cons (tb_2 5 123 rfl rfl) (tb_cons (tb_2 0 84 rfl rfl) (tb_cons (tb_2 1 9 rfl rfl) (tb_cons (tb_2 5 124 rfl rfl) (tb_nil))))⟩
theorem sgVX8_fits : SgV sgX8_fits 8 := ⟨by decide +kernel, tb_cons (tb_2 5 119 rfl rfl) (tb_cons (tb_2 0 83 rfl rfl) (tb_cons (tb_2 1 9 rfl rfl) (tb_cons (tb_2 5 120 rfl rfl) (tb_nil))))⟩
theorem sgVX8_fitsSaying : SgV sgX8_fitsSaying 8 := ⟨by decide +kernel, tb_cons (tb_2 5 115 rfl rfl) (tb_cons (tb_2 0 82 rfl rfl) (tb_cons (tb_2 1 9 rfl rfl) (tb_cons (tb_2 5 116 rfl rfl) (tb_nil))))⟩
theorem sgVX8_worldsOf : SgV sgX8_worldsOf 8 := ⟨by decide +kernel, tb_cons (tb_2 5 107 rfl rfl) (tb_cons (tb_2 0 80 rfl rfl) (tb_cons (tb_2 1 9 rfl rfl) (tb_cons (tb_2 5 108 rfl rfl) (tb_nil))))⟩
theorem sgVX8_worldsNow : SgV sgX8_worldsNow 8 := ⟨by decide +kernel, tb_cons (tb_2 5 99 rfl rfl) (tb_cons (tb_2 0 78 rfl rfl) (tb_cons (tb_2 1 9 rfl rfl) (tb_cons (tb_2 5 100 rfl rfl) (tb_nil))))⟩
theorem sgVX8_worlds : SgV sgX8_worlds 8 := ⟨by decide +kernel, tb_cons (tb_2 5 94 rfl rfl) (tb_cons (tb_2 5 95 rfl rfl) (tb_cons (tb_2 1 9 rfl rfl) (tb_cons (tb_2 5 96 rfl rfl) (tb_nil))))⟩
theorem sgSX8_allIn : SgS sgX8_allIn := ⟨by decide +kernel, tb_cons (tb_2 5 137 rfl rfl) (tb_cons (tb_2 1 9 rfl rfl) (tb_cons (tb_2 5 138 rfl rfl) (tb_nil)))⟩
theorem sgSX8_noneIn : SgS sgX8_noneIn := ⟨by decide +kernel, tb_cons (tb_2 5 140 rfl rfl) (tb_cons (tb_2 1 9 rfl rfl) (tb_cons (tb_2 5 141 rfl rfl) (tb_nil)))⟩
theorem sgSX8_leastOf : SgS sgX8_leastOf := ⟨by decide +kernel, tb_cons (tb_2 5 143 rfl rfl) (tb_cons (tb_2 1 9 rfl rfl) (tb_cons (tb_2 5 144 rfl rfl) (tb_nil)))⟩
theorem sgVX8_behind : SgV sgX8_behind 8 := ⟨by decide +kernel, tb_cons (tb_2 5 127 rfl rfl) (tb_cons (tb_2 5 128 rfl rfl) (tb_cons (tb_2 1 9 rfl rfl) (tb_cons (tb_2 5 129 rfl rfl) (tb_nil))))⟩
theorem sgVX8_cannot : SgV sgX8_cannot 8 := ⟨by decide +kernel, tb_cons (tb_2 5 146 rfl rfl) (tb_cons (tb_2 5 147 rfl rfl) (tb_cons (tb_2 1 9 rfl rfl) (tb_cons (tb_2 5 148 rfl rfl) (tb_nil))))⟩
theorem sgVX8_findsFitting : SgV sgX8_findsFitting 8 := ⟨by decide +kernel, tb_cons (tb_2 5 155 rfl rfl) (tb_cons (tb_2 0 85 rfl rfl) (tb_cons (tb_2 1 9 rfl rfl) (tb_cons (tb_2 5 156 rfl rfl) (tb_nil))))⟩
theorem sgVX8_without : SgV sgX8_without 8 := ⟨by decide +kernel, tb_cons (tb_2 5 159 rfl rfl) (tb_cons (tb_2 0 86 rfl rfl) (tb_cons (tb_2 1 9 rfl rfl) (tb_cons (tb_2 5 160 rfl rfl) (tb_nil))))⟩
theorem sgVX8_lies : SgV sgX8_lies 8 := ⟨by decide +kernel, tb_cons (tb_2 5 150 rfl rfl) (tb_cons (tb_2 5 151 rfl rfl) (tb_cons (tb_2 1 9 rfl rfl) (tb_cons (tb_2 5 152 rfl rfl) (tb_nil))))⟩
theorem sgVX8_least : SgV sgX8_least 8 := ⟨by decide +kernel, tb_cons (tb_2 5 162 rfl rfl) (tb_cons (tb_2 5 163 rfl rfl) (tb_cons (tb_2 1 9 rfl rfl) (tb_cons (tb_2 5 164 rfl rfl) (tb_nil))))⟩
theorem sgVX8_worldsMad : SgV sgX8_worldsMad 8 := ⟨by decide +kernel, tb_cons (tb_2 5 171 rfl rfl) (tb_cons (tb_2 0 87 rfl rfl) (tb_cons (tb_2 1 9 rfl rfl) (tb_cons (tb_2 5 172 rfl rfl) (tb_nil))))⟩
theorem sgVX8_mad : SgV sgX8_mad 8 := ⟨by decide +kernel, tb_cons (tb_2 5 166 rfl rfl) (tb_cons (tb_2 5 167 rfl rfl) (tb_cons (tb_2 1 9 rfl rfl) (tb_cons (tb_2 5 168 rfl rfl) (tb_nil))))⟩
theorem sgSX8_lowest : SgS sgX8_lowest := ⟨by decide +kernel, tb_cons (tb_2 5 178 rfl rfl) (tb_cons (tb_2 1 9 rfl rfl) (tb_cons (tb_2 5 179 rfl rfl) (tb_nil)))⟩
theorem sgVX8_habit : SgV sgX8_habit 8 := ⟨by decide +kernel, tb_cons (tb_2 5 174 rfl rfl) (tb_cons (tb_2 5 175 rfl rfl) (tb_cons (tb_2 1 9 rfl rfl) (tb_cons (tb_2 5 176 rfl rfl) (tb_nil))))⟩
theorem sgVX8_kinds : SgV sgX8_kinds 8 := ⟨by decide +kernel, tb_cons (tb_2 5 181 rfl rfl) (tb_cons (tb_2 5 182 rfl rfl) (tb_cons (tb_2 1 9 rfl rfl) (tb_cons (tb_2 5 183 rfl rfl) (tb_nil))))⟩
theorem sgVX8_worstOf : SgV sgX8_worstOf 8 := ⟨by decide +kernel, tb_cons (tb_2 5 194 rfl rfl) (tb_cons (tb_2 0 89 rfl rfl) (tb_cons (tb_2 1 9 rfl rfl) (tb_cons (tb_2 5 195 rfl rfl) (tb_nil))))⟩
theorem sgVX8_findsQuestion : SgV sgX8_findsQuestion 8 := ⟨by decide +kernel, tb_cons (tb_2 5 190 rfl rfl) (tb_cons (tb_2 0 88 rfl rfl) (tb_cons (tb_2 1 9 rfl rfl) (tb_cons (tb_2 5 191 rfl rfl) (tb_nil))))⟩
theorem sgVX8_ask : SgV sgX8_ask 8 := ⟨by decide +kernel, tb_cons (tb_2 5 185 rfl rfl) (tb_cons (tb_2 5 186 rfl rfl) (tb_cons (tb_2 1 9 rfl rfl) (tb_cons (tb_2 5 187 rfl rfl) (tb_nil))))⟩
theorem sgVX8_worstBehind : SgV sgX8_worstBehind 8 := ⟨by decide +kernel, tb_cons (tb_2 5 202 rfl rfl) (tb_cons (tb_2 0 90 rfl rfl) (tb_cons (tb_2 1 9 rfl rfl) (tb_cons (tb_2 5 203 rfl rfl) (tb_nil))))⟩
theorem sgVX8_two_ : SgV sgX8_two_ 8 := ⟨by decide +kernel, tb_cons (tb_2 5 197 rfl rfl) (tb_cons (tb_2 5 198 rfl rfl) (tb_cons (tb_2 1 9 rfl rfl) (tb_cons (tb_2 5 199 rfl rfl) (tb_nil))))⟩
theorem sgVX8_parts : SgV sgX8_parts 8 := ⟨by decide +kernel, tb_cons (tb_2 5 205 rfl rfl) (tb_cons (tb_2 5 206 rfl rfl) (tb_cons (tb_2 1 9 rfl rfl) (tb_cons (tb_2 5 207 rfl rfl) (tb_nil))))⟩
theorem sgSX8_isSure : SgS sgX8_isSure := ⟨by decide +kernel, tb_cons (tb_2 5 213 rfl rfl) (tb_cons (tb_2 1 9 rfl rfl) (tb_cons (tb_2 5 214 rfl rfl) (tb_nil)))⟩
theorem sgVX8_hide : SgV sgX8_hide 8 := ⟨by decide +kernel, tb_cons (tb_2 5 209 rfl rfl) (tb_cons (tb_2 5 210 rfl rfl) (tb_cons (tb_2 1 9 rfl rfl) (tb_cons (tb_2 5 211 rfl rfl) (tb_nil))))⟩
theorem sgVX8_same : SgV sgX8_same 8 := ⟨by decide +kernel, tb_cons (tb_2 5 216 rfl rfl) (tb_cons (tb_2 5 217 rfl rfl) (tb_cons (tb_2 1 9 rfl rfl) (tb_cons (tb_2 5 218 rfl rfl) (tb_nil))))⟩
theorem sgVX8_claims : SgV sgX8_claims 8 := ⟨by decide +kernel, tb_cons (tb_2 5 220 rfl rfl) (tb_cons (tb_2 5 221 rfl rfl) (tb_cons (tb_2 1 9 rfl rfl) (tb_cons (tb_2 5 222 rfl rfl) (tb_nil))))⟩
theorem sgVX8_settles : SgV sgX8_settles 8 := ⟨by decide +kernel, tb_cons (tb_2 5 229 rfl rfl) (tb_cons (tb_2 0 91 rfl rfl) (tb_cons (tb_2 1 9 rfl rfl) (tb_cons (tb_2 5 230 rfl rfl) (tb_nil))))⟩
theorem sgVX8_settle : SgV sgX8_settle 8 := ⟨by decide +kernel, tb_cons (tb_2 5 224 rfl rfl) (tb_cons (tb_2 5 225 rfl rfl) (tb_cons (tb_2 1 9 rfl rfl) (tb_cons (tb_2 5 226 rfl rfl) (tb_nil))))⟩
theorem sgVX8_thrice : SgV sgX8_thrice 8 := ⟨by decide +kernel, tb_cons (tb_2 5 232 rfl rfl) (tb_cons (tb_2 5 233 rfl rfl) (tb_cons (tb_2 1 9 rfl rfl) (tb_cons (tb_2 5 234 rfl rfl) (tb_nil))))⟩
theorem sgVX8_many : SgV sgX8_many 8 := ⟨by decide +kernel, tb_cons (tb_2 5 236 rfl rfl) (tb_cons (tb_2 5 237 rfl rfl) (tb_cons (tb_2 1 9 rfl rfl) (tb_cons (tb_2 5 238 rfl rfl) (tb_nil))))⟩
theorem sgVX8_isRow : SgV sgX8_isRow 8 := ⟨by decide +kernel, tb_cons (tb_2 6 5 rfl rfl) (tb_cons (tb_2 0 92 rfl rfl) (tb_cons (tb_2 1 9 rfl rfl) (tb_cons (tb_2 6 6 rfl rfl) (tb_nil))))⟩
theorem sgVX8_judge : SgV sgX8_judge 8 := ⟨by decide +kernel, tb_cons (tb_2 6 0 rfl rfl) (tb_cons (tb_2 6 1 rfl rfl) (tb_cons (tb_2 1 9 rfl rfl) (tb_cons (tb_2 6 2 rfl rfl) (tb_nil))))⟩
theorem sgVX8_film : SgV sgX8_film 8 := ⟨by decide +kernel, tb_cons (tb_2 6 8 rfl rfl) (tb_cons (tb_2 6 9 rfl rfl) (tb_cons (tb_2 1 9 rfl rfl) (tb_cons (tb_2 6 10 rfl rfl) (tb_nil))))⟩
theorem sgSX8_worldAt : SgS sgX8_worldAt := ⟨by decide +kernel, tb_cons (tb_2 6 23 rfl rfl) (tb_cons (tb_2 1 9 rfl rfl) (tb_cons (tb_2 6 24 rfl rfl) (tb_nil)))⟩
theorem sgVX8_asksBy : SgV sgX8_asksBy 8 := ⟨by decide +kernel, tb_cons (tb_2 6 18 rfl rfl) (tb_cons (tb_2 0 93 rfl rfl) (tb_cons (tb_2 1 9 rfl rfl) (tb_cons (tb_2 6 19 rfl rfl) (tb_nil))))⟩
theorem sgVX8_drawn : SgV sgX8_drawn 8 := ⟨by decide +kernel, tb_cons (tb_2 6 12 rfl rfl) (tb_cons (tb_2 6 13 rfl rfl) (tb_cons (tb_2 1 9 rfl rfl) (tb_cons (tb_2 6 14 rfl rfl) (tb_nil))))⟩
theorem sgVX8_mean : SgV sgX8_mean 8 := ⟨by decide +kernel, tb_cons (tb_2 6 27 rfl rfl) (tb_cons (tb_2 6 28 rfl rfl) (tb_cons (tb_2 1 9 rfl rfl) (tb_cons (tb_2 6 29 rfl rfl) (tb_nil))))⟩
theorem sgVX8_image : SgV sgX8_image 8 := ⟨by decide +kernel, tb_cons (tb_2 6 31 rfl rfl) (tb_cons (tb_2 6 32 rfl rfl) (tb_cons (tb_2 1 9 rfl rfl) (tb_cons (tb_2 6 33 rfl rfl) (tb_nil))))⟩
theorem sgVX8_back : SgV sgX8_back 8 := ⟨by decide +kernel, tb_cons (tb_2 6 35 rfl rfl) (tb_cons (tb_2 6 36 rfl rfl) (tb_cons (tb_2 1 9 rfl rfl) (tb_cons (tb_2 6 37 rfl rfl) (tb_nil))))⟩
theorem sgVX8_sheet : SgV sgX8_sheet 8 := ⟨by decide +kernel, tb_cons (tb_2 6 39 rfl rfl) (tb_cons (tb_2 6 40 rfl rfl) (tb_cons (tb_2 1 9 rfl rfl) (tb_cons (tb_2 6 41 rfl rfl) (tb_nil))))⟩
theorem sgVX8_cell : SgV sgX8_cell 8 := ⟨by decide +kernel, tb_cons (tb_2 6 43 rfl rfl) (tb_cons (tb_2 6 44 rfl rfl) (tb_cons (tb_2 1 9 rfl rfl) (tb_cons (tb_2 6 45 rfl rfl) (tb_nil))))⟩
theorem sgVX8_copy : SgV sgX8_copy 8 := ⟨by decide +kernel, tb_cons (tb_2 6 47 rfl rfl) (tb_cons (tb_2 6 48 rfl rfl) (tb_cons (tb_2 1 9 rfl rfl) (tb_cons (tb_2 6 49 rfl rfl) (tb_nil))))⟩
theorem sgVX8_sayingsBy : SgV sgX8_sayingsBy 8 := ⟨by decide +kernel, tb_cons (tb_2 6 51 rfl rfl) (tb_cons (tb_2 6 52 rfl rfl) (tb_cons (tb_2 1 9 rfl rfl) (tb_cons (tb_2 6 53 rfl rfl) (tb_nil))))⟩
theorem sgSX8_isUnder : SgS sgX8_isUnder := ⟨by decide +kernel, tb_cons (tb_2 6 60 rfl rfl) (tb_cons (tb_2 1 9 rfl rfl) (tb_cons (tb_2 6 61 rfl rfl) (tb_nil)))⟩
theorem sgVX8_taken : SgV sgX8_taken 8 := ⟨by decide +kernel, tb_cons (tb_2 6 56 rfl rfl) (tb_cons (tb_2 6 57 rfl rfl) (tb_cons (tb_2 1 9 rfl rfl) (tb_cons (tb_2 6 58 rfl rfl) (tb_nil))))⟩
theorem sgSJ6_bitCount_0f7a4 : SgS sgJ6_bitCount_0f7a4 := ⟨by decide +kernel, tb_cons (tb_2 3 78 rfl rfl) (tb_cons (tb_2 1 15 rfl rfl) (tb_cons (tb_2 3 79 rfl rfl) (tb_nil)))⟩
theorem sgSJ9_max_7cf53 : SgS sgJ9_max_7cf53 := ⟨by decide +kernel, tb_cons (tb_2 2 178 rfl rfl) (tb_cons (tb_2 1 14 rfl rfl) (tb_cons (tb_2 2 179 rfl rfl) (tb_nil)))⟩
theorem sgSJ9_min_7cf53 : SgS sgJ9_min_7cf53 := ⟨by decide +kernel, tb_cons (tb_2 2 175 rfl rfl) (tb_cons (tb_2 1 14 rfl rfl) (tb_cons (tb_2 2 176 rfl rfl) (tb_nil)))⟩
theorem sgQJ0_length_8abf5 : SgX sgJ0_length_8abf5 := ⟨by decide +kernel, tb_cons (tb_2 2 29 rfl rfl) (tb_cons (tb_2 2 30 rfl rfl) (tb_cons (tb_2 1 10 rfl rfl) (tb_cons (tb_2 2 31 rfl rfl) (tb_nil))))⟩
theorem sgQJ0_charAt_5068e : SgX sgJ0_charAt_5068e := ⟨by decide +kernel, tb_cons (tb_2 2 39 rfl rfl) (tb_cons (tb_2 2 40 rfl rfl) (tb_cons (tb_2 1 10 rfl rfl) (tb_cons (tb_2 2 41 rfl rfl) (tb_nil))))⟩
theorem sgQJ0_coder_7d493 : SgX sgJ0_coder_7d493 := ⟨by decide +kernel, tb_cons (tb_2 2 33 rfl rfl) (tb_cons (tb_2 2 34 rfl rfl) (tb_cons (tb_2 1 10 rfl rfl) (tb_cons (tb_2 2 35 rfl rfl) (tb_nil))))⟩
theorem sgQJ0_isLatin1_aae02 : SgX sgJ0_isLatin1_aae02 := ⟨by decide +kernel, tb_cons (tb_2 2 43 rfl rfl) (tb_cons (tb_2 2 44 rfl rfl) (tb_cons (tb_2 1 10 rfl rfl) (tb_cons (tb_2 2 45 rfl rfl) (tb_nil))))⟩
theorem sgSJ0_checkIndex_df160 : SgS sgJ0_checkIndex_df160 := ⟨by decide +kernel, tb_cons (tb_2 2 50 rfl rfl) (tb_cons (tb_2 1 10 rfl rfl) (tb_cons (tb_2 2 51 rfl rfl) (tb_nil)))⟩
theorem sgSJ1_charAt_3b067 : SgS sgJ1_charAt_3b067 := ⟨by decide +kernel, tb_cons (tb_2 2 47 rfl rfl) (tb_cons (tb_2 1 11 rfl rfl) (tb_cons (tb_2 2 48 rfl rfl) (tb_nil)))⟩
theorem sgSJ2_getChar_3b067 : SgS sgJ2_getChar_3b067 := ⟨by decide +kernel, tb_cons (tb_2 2 68 rfl rfl) (tb_cons (tb_2 1 13 rfl rfl) (tb_cons (tb_2 2 69 rfl rfl) (tb_nil)))⟩
theorem sgSJ2_length_9d52b : SgS sgJ2_length_9d52b := ⟨by decide +kernel, tb_cons (tb_2 2 64 rfl rfl) (tb_cons (tb_2 1 13 rfl rfl) (tb_cons (tb_2 2 65 rfl rfl) (tb_nil)))⟩
theorem sgSJ2_charAt_3b067 : SgS sgJ2_charAt_3b067 := ⟨by decide +kernel, tb_cons (tb_2 2 58 rfl rfl) (tb_cons (tb_2 1 13 rfl rfl) (tb_cons (tb_2 2 59 rfl rfl) (tb_nil)))⟩
theorem sgSJ2_checkIndex_2214a : SgS sgJ2_checkIndex_2214a := ⟨by decide +kernel, tb_cons (tb_2 2 61 rfl rfl) (tb_cons (tb_2 1 13 rfl rfl) (tb_cons (tb_2 2 62 rfl rfl) (tb_nil)))⟩
theorem sgSJ3_checkIndex_8e157 : SgS sgJ3_checkIndex_8e157 := ⟨by decide +kernel, tb_cons (tb_2 2 55 rfl rfl) (tb_cons (tb_2 1 12 rfl rfl) (tb_cons (tb_2 2 56 rfl rfl) (tb_nil)))⟩
set_option maxRecDepth 100000 in
def kX0_init : List Row := [(.aload_n 0, 0, 1, 0, 0, 0, [], sg0),
  (.invokespecial 3, 1, 2, 0, 9, 0, [], sg0),
  (.aload_n 0, 4, 3, 0, 0, 0, [], sg0),
  (.sipush 160, 5, 4, 0, 0, 160, [], sg0),
  (.newarray .int, 8, 5, 0, 0, 0, [], sg0),
  (.putfield 9, 10, 6, 0, 0, 0, [], sg0),
  (.aload_n 0, 13, 7, 0, 0, 0, [], sg0),
  (.sipush 160, 14, 8, 0, 0, 160, [], sg0),
  (.newarray .int, 17, 9, 0, 0, 0, [], sg0),
  (.putfield 15, 19, 10, 0, 1, 0, [], sg0),
  (.aload_n 0, 22, 11, 0, 0, 0, [], sg0),
  (.iconst 4, 23, 12, 0, 0, 4, [], sg0),
  (.newarray .int, 24, 13, 0, 0, 0, [], sg0),
  (.putfield 18, 26, 14, 0, 2, 0, [], sg0),
  (.aload_n 0, 29, 15, 0, 0, 0, [], sg0),
  (.sipush 160, 30, 16, 0, 0, 160, [], sg0),
  (.newarray .int, 33, 17, 0, 0, 0, [], sg0),
  (.putfield 21, 35, 18, 0, 3, 0, [], sg0),
  (.return_, 38, 19, 0, 0, 0, [], sg0),
  (.nop, 39, 20, 0, 0, 0, [], sg0)]
set_option maxRecDepth 100000 in
theorem okX0_init : Chk sgX0_init kX0_init := ⟨by decide +kernel, trivial, tb_l2 [(1, 59), (1, 22), (1, 23), (1, 53), (1, 60), (1, 53), (1, 61), (1, 53), (1, 62), (1, 53), (1, 63)] (by decide +kernel) (by decide +kernel), nw_l2 [] (by decide +kernel) (by decide +kernel), by decide +kernel⟩
set_option maxRecDepth 100000 in
def kX0_clear : List Row := [(.aload_n 0, 0, 1, 0, 0, 0, [], sg0),
  (.iconst 0, 1, 2, 0, 0, 0, [], sg0),
  (.putfield 24, 2, 3, 0, 4, 0, [], sg0),
  (.return_, 5, 4, 0, 0, 0, [], sg0),
  (.nop, 6, 5, 0, 0, 0, [], sg0)]
set_option maxRecDepth 100000 in
theorem okX0_clear : Chk sgX0_clear kX0_clear := ⟨by decide +kernel, trivial, tb_l2 [(1, 64)] (by decide +kernel) (by decide +kernel), nw_l2 [] (by decide +kernel) (by decide +kernel), by decide +kernel⟩
set_option maxRecDepth 100000 in
def kX0_add : List Row := [(.aload_n 0, 0, 1, 0, 0, 0, [], sg0),
  (.getfield 24, 1, 2, 0, 4, 0, [], sg0),
  (.sipush 160, 4, 3, 0, 0, 160, [], sg0),
  (.if_icmp .lt 4, 7, 4, 5, 0, 0, [], sg0),
  (.return_, 10, 5, 0, 0, 0, [], sg0),
  (.aload_n 0, 11, 6, 0, 0, 0, [], sg0),
  (.getfield 9, 12, 7, 0, 0, 0, [], sg0),
  (.aload_n 0, 15, 8, 0, 0, 0, [], sg0),
  (.getfield 24, 16, 9, 0, 4, 0, [], sg0),
  (.iload_n 1, 19, 10, 0, 0, 0, [], sg0),
  (.invokestatic 28, 20, 11, 0, 0, 1, [], sgX7_put),
  (.aload_n 0, 23, 12, 0, 0, 0, [], sg0),
  (.getfield 15, 24, 13, 0, 1, 0, [], sg0),
  (.aload_n 0, 27, 14, 0, 0, 0, [], sg0),
  (.getfield 24, 28, 15, 0, 4, 0, [], sg0),
  (.iload_n 2, 31, 16, 0, 0, 0, [], sg0),
  (.invokestatic 28, 32, 17, 0, 0, 1, [], sgX7_put),
  (.aload_n 0, 35, 18, 0, 0, 0, [], sg0),
  (.dup, 36, 19, 0, 0, 0, [], sg0),
  (.getfield 24, 37, 20, 0, 4, 0, [], sg0),
  (.iconst 1, 40, 21, 0, 0, 1, [], sg0),
  (.iadd, 41, 22, 0, 0, 0, [], sg0),
  (.putfield 24, 42, 23, 0, 4, 0, [], sg0),
  (.return_, 45, 24, 0, 0, 0, [], sg0),
  (.nop, 46, 25, 0, 0, 0, [], sg0)]
set_option maxRecDepth 100000 in
theorem okX0_add : Chk sgX0_add kX0_add := ⟨by decide +kernel, And.intro sgSX7_put (And.intro sgSX7_put trivial), tb_l2 [(1, 64), (1, 60), (1, 64), (1, 61), (1, 64), (1, 64), (1, 64)] (by decide +kernel) (by decide +kernel), nw_l2 [(2, 133), (2, 133)] (by decide +kernel) (by decide +kernel), by decide +kernel⟩
set_option maxRecDepth 100000 in
def kX0_endPart : List Row := [(.aload_n 0, 0, 1, 0, 0, 0, [], sg0),
  (.getfield 18, 1, 2, 0, 2, 0, [], sg0),
  (.iload_n 1, 4, 3, 0, 0, 0, [], sg0),
  (.iconst 1, 5, 4, 0, 0, 1, [], sg0),
  (.iadd, 6, 5, 0, 0, 0, [], sg0),
  (.aload_n 0, 7, 6, 0, 0, 0, [], sg0),
  (.getfield 24, 8, 7, 0, 4, 0, [], sg0),
  (.invokestatic 28, 11, 8, 0, 0, 1, [], sgX7_put),
  (.return_, 14, 9, 0, 0, 0, [], sg0),
  (.nop, 15, 10, 0, 0, 0, [], sg0)]
set_option maxRecDepth 100000 in
theorem okX0_endPart : Chk sgX0_endPart kX0_endPart := ⟨by decide +kernel, And.intro sgSX7_put trivial, tb_l2 [(1, 62), (1, 64)] (by decide +kernel) (by decide +kernel), nw_l2 [(2, 133)] (by decide +kernel) (by decide +kernel), by decide +kernel⟩
set_option maxRecDepth 100000 in
def kX0_truths : List Row := [(.iconst 0, 0, 1, 0, 0, 0, [], sg0),
  (.istore_n 3, 1, 2, 0, 0, 0, [], sg0),
  (.iconst 0, 2, 3, 0, 0, 0, [], sg0),
  (.istore 4, 3, 4, 0, 0, 0, [], sg0),
  (.iload 4, 5, 5, 0, 0, 0, [], sg0),
  (.bipush 32, 7, 6, 0, 0, 32, [], sg0),
  (.if_icmp .ge 27, 9, 7, 21, 0, 0, [], sg0),
  (.aload_n 0, 12, 8, 0, 0, 0, [], sg0),
  (.iload_n 1, 13, 9, 0, 0, 0, [], sg0),
  (.iload 4, 14, 10, 0, 0, 0, [], sg0),
  (.iload_n 2, 16, 11, 0, 0, 0, [], sg0),
  (.invokevirtual 32, 17, 12, 0, 0, 0, [], sgX0_valueOf),
  (.ifCond .eq 10, 20, 13, 19, 0, 0, [], sg0),
  (.iload_n 3, 23, 14, 0, 0, 0, [], sg0),
  (.iconst 1, 24, 15, 0, 0, 1, [], sg0),
  (.iload 4, 25, 16, 0, 0, 0, [], sg0),
  (.ishl, 27, 17, 0, 0, 0, [], sg0),
  (.ior, 28, 18, 0, 0, 0, [], sg0),
  (.istore_n 3, 29, 19, 0, 0, 0, [], sg0),
  (.iinc 4 1, 30, 20, 0, 0, 1, [], sg0),
  (.goto (-28), 33, 21, 4, 0, 0, [], sg0),
  (.iload_n 3, 36, 22, 0, 0, 0, [], sg0),
  (.ireturn, 37, 23, 0, 0, 0, [], sg0),
  (.nop, 38, 24, 0, 0, 0, [], sg0)]
set_option maxRecDepth 100000 in
theorem okX0_truths : Chk sgX0_truths kX0_truths := ⟨by decide +kernel, And.intro sgVX0_valueOf trivial, tb_l2 [(2, 150)] (by decide +kernel) (by decide +kernel), nw_l2 [] (by decide +kernel) (by decide +kernel), by decide +kernel⟩
set_option maxRecDepth 100000 in
def kX0_valueOf : List Row := [(.aload_n 0, 0, 1, 0, 0, 0, [], sg0),
  (.iconst 0, 1, 2, 0, 0, 0, [], sg0),
  (.putfield 36, 2, 3, 0, 5, 0, [], sg0),
  (.aload_n 0, 5, 4, 0, 0, 0, [], sg0),
  (.getfield 18, 6, 5, 0, 2, 0, [], sg0),
  (.iload_n 1, 9, 6, 0, 0, 0, [], sg0),
  (.iconst 1, 10, 7, 0, 0, 1, [], sg0),
  (.iadd, 11, 8, 0, 0, 0, [], sg0),
  (.invokestatic 39, 12, 9, 0, 0, 1, [], sgX7_at),
  (.istore 4, 15, 10, 0, 0, 0, [], sg0),
  (.aload_n 0, 17, 11, 0, 0, 0, [], sg0),
  (.getfield 18, 18, 12, 0, 2, 0, [], sg0),
  (.iload_n 1, 21, 13, 0, 0, 0, [], sg0),
  (.invokestatic 39, 22, 14, 0, 0, 1, [], sgX7_at),
  (.istore 5, 25, 15, 0, 0, 0, [], sg0),
  (.iload 5, 27, 16, 0, 0, 0, [], sg0),
  (.iload 4, 29, 17, 0, 0, 0, [], sg0),
  (.if_icmp .ge 33, 31, 18, 32, 0, 0, [], sg0),
  (.aload_n 0, 34, 19, 0, 0, 0, [], sg0),
  (.aload_n 0, 35, 20, 0, 0, 0, [], sg0),
  (.getfield 9, 36, 21, 0, 0, 0, [], sg0),
  (.iload 5, 39, 22, 0, 0, 0, [], sg0),
  (.invokestatic 39, 41, 23, 0, 0, 1, [], sgX7_at),
  (.aload_n 0, 44, 24, 0, 0, 0, [], sg0),
  (.getfield 15, 45, 25, 0, 1, 0, [], sg0),
  (.iload 5, 48, 26, 0, 0, 0, [], sg0),
  (.invokestatic 39, 50, 27, 0, 0, 1, [], sgX7_at),
  (.iload_n 2, 53, 28, 0, 0, 0, [], sg0),
  (.iload_n 3, 54, 29, 0, 0, 0, [], sg0),
  (.invokevirtual 43, 55, 30, 0, 0, 0, [], sgX0_step),
  (.iinc 5 1, 58, 31, 0, 0, 1, [], sg0),
  (.goto (-34), 61, 32, 15, 0, 0, [], sg0),
  (.aload_n 0, 64, 33, 0, 0, 0, [], sg0),
  (.invokevirtual 47, 65, 34, 0, 0, 0, [], sgX0_pop),
  (.ireturn, 68, 35, 0, 0, 0, [], sg0),
  (.nop, 69, 36, 0, 0, 0, [], sg0)]
set_option maxRecDepth 100000 in
theorem okX0_valueOf : Chk sgX0_valueOf kX0_valueOf := ⟨by decide +kernel, And.intro sgSX7_at (And.intro sgSX7_at (And.intro sgSX7_at (And.intro sgSX7_at (And.intro sgVX0_step (And.intro sgVX0_pop trivial))))), tb_l2 [(1, 65), (1, 62), (1, 62), (1, 60), (1, 61), (2, 155), (2, 166)] (by decide +kernel) (by decide +kernel), nw_l2 [(2, 154), (2, 154), (2, 154), (2, 154)] (by decide +kernel) (by decide +kernel), by decide +kernel⟩
set_option maxRecDepth 100000 in
def kX0_step : List Row := [(.iload_n 1, 0, 1, 0, 0, 0, [], sg0),
  (.tableswitch 112 2 10 #[51, 59, 112, 112, 112, 112, 112, 93, 81], 1, 2, 32, 0, 0, [2, 6, 32, 32, 32, 32, 32, 23, 17], sg0),
  (.aload_n 0, 52, 3, 0, 0, 0, [], sg0),
  (.iload_n 2, 53, 4, 0, 0, 0, [], sg0),
  (.invokevirtual 51, 54, 5, 0, 0, 0, [], sgX0_push),
  (.goto 76, 57, 6, 42, 0, 0, [], sg0),
  (.aload_n 0, 60, 7, 0, 0, 0, [], sg0),
  (.iload_n 2, 61, 8, 0, 0, 0, [], sg0),
  (.iconst 5, 62, 9, 0, 0, 5, [], sg0),
  (.if_icmp .ne 8, 63, 10, 12, 0, 0, [], sg0),
  (.iload 4, 66, 11, 0, 0, 0, [], sg0),
  (.goto 8, 68, 12, 15, 0, 0, [], sg0),
  (.iload_n 3, 71, 13, 0, 0, 0, [], sg0),
  (.iload_n 2, 72, 14, 0, 0, 0, [], sg0),
  (.invokestatic 55, 73, 15, 0, 0, 1, [], sgX7_bit),
  (.invokevirtual 51, 76, 16, 0, 0, 0, [], sgX0_push),
  (.goto 54, 79, 17, 42, 0, 0, [], sg0),
  (.aload_n 0, 82, 18, 0, 0, 0, [], sg0),
  (.aload_n 0, 83, 19, 0, 0, 0, [], sg0),
  (.invokevirtual 47, 84, 20, 0, 0, 0, [], sgX0_pop),
  (.ineg, 87, 21, 0, 0, 0, [], sg0),
  (.invokevirtual 51, 88, 22, 0, 0, 0, [], sgX0_push),
  (.goto 42, 91, 23, 42, 0, 0, [], sg0),
  (.aload_n 0, 94, 24, 0, 0, 0, [], sg0),
  (.aload_n 0, 95, 25, 0, 0, 0, [], sg0),
  (.invokevirtual 47, 96, 26, 0, 0, 0, [], sgX0_pop),
  (.ifCond .ne 7, 99, 27, 29, 0, 0, [], sg0),
  (.iconst 1, 102, 28, 0, 0, 1, [], sg0),
  (.goto 4, 103, 29, 30, 0, 0, [], sg0),
  (.iconst 0, 106, 30, 0, 0, 0, [], sg0),
  (.invokevirtual 51, 107, 31, 0, 0, 0, [], sgX0_push),
  (.goto 23, 110, 32, 42, 0, 0, [], sg0),
  (.aload_n 0, 113, 33, 0, 0, 0, [], sg0),
  (.invokevirtual 47, 114, 34, 0, 0, 0, [], sgX0_pop),
  (.istore 5, 117, 35, 0, 0, 0, [], sg0),
  (.aload_n 0, 119, 36, 0, 0, 0, [], sg0),
  (.iload_n 1, 120, 37, 0, 0, 0, [], sg0),
  (.aload_n 0, 121, 38, 0, 0, 0, [], sg0),
  (.invokevirtual 47, 122, 39, 0, 0, 0, [], sgX0_pop),
  (.iload 5, 125, 40, 0, 0, 0, [], sg0),
  (.invokestatic 59, 127, 41, 0, 0, 0, [], sgX0_joined),
  (.invokevirtual 51, 130, 42, 0, 0, 0, [], sgX0_push),
  (.return_, 133, 43, 0, 0, 0, [], sg0),
  (.nop, 134, 44, 0, 0, 0, [], sg0)]
set_option maxRecDepth 100000 in
theorem okX0_step : Chk sgX0_step kX0_step := ⟨by decide +kernel, And.intro sgVX0_push (And.intro sgSX7_bit (And.intro sgVX0_push (And.intro sgVX0_pop (And.intro sgVX0_push (And.intro sgVX0_pop (And.intro sgVX0_push (And.intro sgVX0_pop (And.intro sgVX0_pop (And.intro sgSX0_joined (And.intro sgVX0_push trivial)))))))))), tb_l2 [(2, 159), (2, 159), (2, 166), (2, 159), (2, 166), (2, 159), (2, 166), (2, 166), (2, 170), (2, 159)] (by decide +kernel) (by decide +kernel), nw_l2 [(2, 163)] (by decide +kernel) (by decide +kernel), by decide +kernel⟩
set_option maxRecDepth 100000 in
def kX0_joined : List Row := [(.iload_n 0, 0, 1, 0, 0, 0, [], sg0),
  (.lookupswitch 107 #[(8, 93), (42, 67), (43, 59), (45, 63), (60, 71), (61, 82)], 1, 2, 36, 0, 0, [28, 10, 2, 6, 14, 21], sg0),
  (.iload_n 1, 60, 3, 0, 0, 0, [], sg0),
  (.iload_n 2, 61, 4, 0, 0, 0, [], sg0),
  (.iadd, 62, 5, 0, 0, 0, [], sg0),
  (.ireturn, 63, 6, 0, 0, 0, [], sg0),
  (.iload_n 1, 64, 7, 0, 0, 0, [], sg0),
  (.iload_n 2, 65, 8, 0, 0, 0, [], sg0),
  (.isub, 66, 9, 0, 0, 0, [], sg0),
  (.ireturn, 67, 10, 0, 0, 0, [], sg0),
  (.iload_n 1, 68, 11, 0, 0, 0, [], sg0),
  (.iload_n 2, 69, 12, 0, 0, 0, [], sg0),
  (.imul, 70, 13, 0, 0, 0, [], sg0),
  (.ireturn, 71, 14, 0, 0, 0, [], sg0),
  (.iload_n 1, 72, 15, 0, 0, 0, [], sg0),
  (.iload_n 2, 73, 16, 0, 0, 0, [], sg0),
  (.if_icmp .ge 7, 74, 17, 19, 0, 0, [], sg0),
  (.iconst 1, 77, 18, 0, 0, 1, [], sg0),
  (.goto 4, 78, 19, 20, 0, 0, [], sg0),
  (.iconst 0, 81, 20, 0, 0, 0, [], sg0),
  (.ireturn, 82, 21, 0, 0, 0, [], sg0),
  (.iload_n 1, 83, 22, 0, 0, 0, [], sg0),
  (.iload_n 2, 84, 23, 0, 0, 0, [], sg0),
  (.if_icmp .ne 7, 85, 24, 26, 0, 0, [], sg0),
  (.iconst 1, 88, 25, 0, 0, 1, [], sg0),
  (.goto 4, 89, 26, 27, 0, 0, [], sg0),
  (.iconst 0, 92, 27, 0, 0, 0, [], sg0),
  (.ireturn, 93, 28, 0, 0, 0, [], sg0),
  (.iload_n 1, 94, 29, 0, 0, 0, [], sg0),
  (.ifCond .eq 11, 95, 30, 34, 0, 0, [], sg0),
  (.iload_n 2, 98, 31, 0, 0, 0, [], sg0),
  (.ifCond .eq 7, 99, 32, 34, 0, 0, [], sg0),
  (.iconst 1, 102, 33, 0, 0, 1, [], sg0),
  (.goto 4, 103, 34, 35, 0, 0, [], sg0),
  (.iconst 0, 106, 35, 0, 0, 0, [], sg0),
  (.ireturn, 107, 36, 0, 0, 0, [], sg0),
  (.iload_n 1, 108, 37, 0, 0, 0, [], sg0),
  (.ifCond .ne 7, 109, 38, 40, 0, 0, [], sg0),
  (.iload_n 2, 112, 39, 0, 0, 0, [], sg0),
  (.ifCond .eq 7, 113, 40, 42, 0, 0, [], sg0),
  (.iconst 1, 116, 41, 0, 0, 1, [], sg0),
  (.goto 4, 117, 42, 43, 0, 0, [], sg0),
  (.iconst 0, 120, 43, 0, 0, 0, [], sg0),
  (.ireturn, 121, 44, 0, 0, 0, [], sg0),
  (.nop, 122, 45, 0, 0, 0, [], sg0)]
set_option maxRecDepth 100000 in
theorem okX0_joined : Chk sgX0_joined kX0_joined := ⟨by decide +kernel, trivial, tb_l2 [] (by decide +kernel) (by decide +kernel), nw_l2 [] (by decide +kernel) (by decide +kernel), by decide +kernel⟩
set_option maxRecDepth 100000 in
def kX0_push : List Row := [(.aload_n 0, 0, 1, 0, 0, 0, [], sg0),
  (.getfield 36, 1, 2, 0, 5, 0, [], sg0),
  (.sipush 160, 4, 3, 0, 0, 160, [], sg0),
  (.if_icmp .lt 4, 7, 4, 5, 0, 0, [], sg0),
  (.return_, 10, 5, 0, 0, 0, [], sg0),
  (.aload_n 0, 11, 6, 0, 0, 0, [], sg0),
  (.getfield 21, 12, 7, 0, 3, 0, [], sg0),
  (.aload_n 0, 15, 8, 0, 0, 0, [], sg0),
  (.getfield 36, 16, 9, 0, 5, 0, [], sg0),
  (.iload_n 1, 19, 10, 0, 0, 0, [], sg0),
  (.invokestatic 28, 20, 11, 0, 0, 1, [], sgX7_put),
  (.aload_n 0, 23, 12, 0, 0, 0, [], sg0),
  (.dup, 24, 13, 0, 0, 0, [], sg0),
  (.getfield 36, 25, 14, 0, 5, 0, [], sg0),
  (.iconst 1, 28, 15, 0, 0, 1, [], sg0),
  (.iadd, 29, 16, 0, 0, 0, [], sg0),
  (.putfield 36, 30, 17, 0, 5, 0, [], sg0),
  (.return_, 33, 18, 0, 0, 0, [], sg0),
  (.nop, 34, 19, 0, 0, 0, [], sg0)]
set_option maxRecDepth 100000 in
theorem okX0_push : Chk sgX0_push kX0_push := ⟨by decide +kernel, And.intro sgSX7_put trivial, tb_l2 [(1, 65), (1, 63), (1, 65), (1, 65), (1, 65)] (by decide +kernel) (by decide +kernel), nw_l2 [(2, 133)] (by decide +kernel) (by decide +kernel), by decide +kernel⟩
set_option maxRecDepth 100000 in
def kX0_pop : List Row := [(.aload_n 0, 0, 1, 0, 0, 0, [], sg0),
  (.getfield 36, 1, 2, 0, 5, 0, [], sg0),
  (.ifCond .gt 5, 4, 3, 5, 0, 0, [], sg0),
  (.iconst 0, 7, 4, 0, 0, 0, [], sg0),
  (.ireturn, 8, 5, 0, 0, 0, [], sg0),
  (.aload_n 0, 9, 6, 0, 0, 0, [], sg0),
  (.dup, 10, 7, 0, 0, 0, [], sg0),
  (.getfield 36, 11, 8, 0, 5, 0, [], sg0),
  (.iconst 1, 14, 9, 0, 0, 1, [], sg0),
  (.isub, 15, 10, 0, 0, 0, [], sg0),
  (.putfield 36, 16, 11, 0, 5, 0, [], sg0),
  (.aload_n 0, 19, 12, 0, 0, 0, [], sg0),
  (.getfield 21, 20, 13, 0, 3, 0, [], sg0),
  (.aload_n 0, 23, 14, 0, 0, 0, [], sg0),
  (.getfield 36, 24, 15, 0, 5, 0, [], sg0),
  (.invokestatic 39, 27, 16, 0, 0, 1, [], sgX7_at),
  (.ireturn, 30, 17, 0, 0, 0, [], sg0),
  (.nop, 31, 18, 0, 0, 0, [], sg0)]
set_option maxRecDepth 100000 in
theorem okX0_pop : Chk sgX0_pop kX0_pop := ⟨by decide +kernel, And.intro sgSX7_at trivial, tb_l2 [(1, 65), (1, 65), (1, 65), (1, 63), (1, 65)] (by decide +kernel) (by decide +kernel), nw_l2 [(2, 154)] (by decide +kernel) (by decide +kernel), by decide +kernel⟩
set_option maxRecDepth 100000 in
def kX1_init : List Row := [(.aload_n 0, 0, 1, 0, 0, 0, [], sg0),
  (.invokespecial 3, 1, 2, 0, 9, 0, [], sg0),
  (.aload_n 0, 4, 3, 0, 0, 0, [], sg0),
  (.aload_n 1, 5, 4, 0, 0, 0, [], sg0),
  (.putfield 9, 6, 5, 1, 0, 0, [], sg0),
  (.aload_n 0, 9, 6, 0, 0, 0, [], sg0),
  (.aload_n 2, 10, 7, 0, 0, 0, [], sg0),
  (.putfield 15, 11, 8, 1, 1, 0, [], sg0),
  (.return_, 14, 9, 0, 0, 0, [], sg0),
  (.nop, 15, 10, 0, 0, 0, [], sg0)]
set_option maxRecDepth 100000 in
theorem okX1_init : Chk sgX1_init kX1_init := ⟨by decide +kernel, trivial, tb_l2 [(1, 84), (1, 22), (1, 23), (1, 85), (1, 86)] (by decide +kernel) (by decide +kernel), nw_l2 [] (by decide +kernel) (by decide +kernel), by decide +kernel⟩
set_option maxRecDepth 100000 in
def kX1_readText : List Row := [(.aload_n 0, 0, 1, 0, 0, 0, [], sg0),
  (.getfield 9, 1, 2, 1, 0, 0, [], sg0),
  (.invokevirtual 19, 4, 3, 6, 0, 1, [], sgX6_start),
  (.aload_n 0, 7, 4, 0, 0, 0, [], sg0),
  (.getfield 15, 8, 5, 1, 1, 0, [], sg0),
  (.invokevirtual 24, 11, 6, 0, 0, 1, [], sgX0_clear),
  (.iconst 0, 14, 7, 0, 0, 0, [], sg0),
  (.istore_n 1, 15, 8, 0, 0, 0, [], sg0),
  (.iload_n 1, 16, 9, 0, 0, 0, [], sg0),
  (.iconst 3, 17, 10, 0, 0, 3, [], sg0),
  (.if_icmp .ge 48, 18, 11, 35, 0, 0, [], sg0),
  (.aload_n 0, 21, 12, 0, 0, 0, [], sg0),
  (.iconst 4, 22, 13, 0, 0, 4, [], sg0),
  (.iload_n 1, 23, 14, 0, 0, 0, [], sg0),
  (.iadd, 24, 15, 0, 0, 0, [], sg0),
  (.invokevirtual 29, 25, 16, 1, 0, 0, [], sgX1_readToken),
  (.ifCond .eq 11, 28, 17, 21, 0, 0, [], sg0),
  (.aload_n 0, 31, 18, 0, 0, 0, [], sg0),
  (.iconst 0, 32, 19, 0, 0, 0, [], sg0),
  (.invokevirtual 33, 33, 20, 1, 0, 0, [], sgX1_readOr),
  (.ifCond .ne 5, 36, 21, 23, 0, 0, [], sg0),
  (.iconst 0, 39, 22, 0, 0, 0, [], sg0),
  (.ireturn, 40, 23, 0, 0, 0, [], sg0),
  (.aload_n 0, 41, 24, 0, 0, 0, [], sg0),
  (.getfield 15, 42, 25, 1, 1, 0, [], sg0),
  (.iload_n 1, 45, 26, 0, 0, 0, [], sg0),
  (.invokevirtual 36, 46, 27, 0, 0, 1, [], sgX0_endPart),
  (.aload_n 0, 49, 28, 0, 0, 0, [], sg0),
  (.bipush 59, 50, 29, 0, 0, 59, [], sg0),
  (.invokevirtual 29, 52, 30, 1, 0, 0, [], sgX1_readToken),
  (.ifCond .ne 5, 55, 31, 33, 0, 0, [], sg0),
  (.iconst 0, 58, 32, 0, 0, 0, [], sg0),
  (.ireturn, 59, 33, 0, 0, 0, [], sg0),
  (.iinc 1 1, 60, 34, 0, 0, 1, [], sg0),
  (.goto (-47), 63, 35, 8, 0, 0, [], sg0),
  (.aload_n 0, 66, 36, 0, 0, 0, [], sg0),
  (.getfield 9, 67, 37, 1, 0, 0, [], sg0),
  (.getfield 40, 70, 38, 6, 2, 1, [], sg0),
  (.ifCond .ne 7, 73, 39, 41, 0, 0, [], sg0),
  (.iconst 1, 76, 40, 0, 0, 1, [], sg0),
  (.goto 4, 77, 41, 42, 0, 0, [], sg0),
  (.iconst 0, 80, 42, 0, 0, 0, [], sg0),
  (.ireturn, 81, 43, 0, 0, 0, [], sg0),
  (.nop, 82, 44, 0, 0, 0, [], sg0)]
set_option maxRecDepth 100000 in
theorem okX1_readText : Chk sgX1_readText kX1_readText := ⟨by decide +kernel, And.intro sgVX6_start (And.intro sgVX0_clear (And.intro sgVX1_readToken (And.intro sgVX1_readOr (And.intro sgVX0_endPart (And.intro sgVX1_readToken trivial))))), tb_l2 [(1, 85), (1, 86), (2, 96), (2, 101), (1, 86), (2, 96), (1, 85)] (by decide +kernel) (by decide +kernel), nw_l2 [(2, 2), (2, 92), (2, 138), (1, 33)] (by decide +kernel) (by decide +kernel), by decide +kernel⟩
set_option maxRecDepth 100000 in
def kX1_readToken : List Row := [(.aload_n 0, 0, 1, 0, 0, 0, [], sg0),
  (.getfield 9, 1, 2, 1, 0, 0, [], sg0),
  (.getfield 40, 4, 3, 6, 2, 1, [], sg0),
  (.iload_n 1, 7, 4, 0, 0, 0, [], sg0),
  (.if_icmp .eq 5, 8, 5, 7, 0, 0, [], sg0),
  (.iconst 0, 11, 6, 0, 0, 0, [], sg0),
  (.ireturn, 12, 7, 0, 0, 0, [], sg0),
  (.aload_n 0, 13, 8, 0, 0, 0, [], sg0),
  (.getfield 9, 14, 9, 1, 0, 0, [], sg0),
  (.invokevirtual 44, 17, 10, 6, 0, 1, [], sgX6_advance),
  (.iconst 1, 20, 11, 0, 0, 1, [], sg0),
  (.ireturn, 21, 12, 0, 0, 0, [], sg0),
  (.nop, 22, 13, 0, 0, 0, [], sg0)]
set_option maxRecDepth 100000 in
theorem okX1_readToken : Chk sgX1_readToken kX1_readToken := ⟨by decide +kernel, And.intro sgVX6_advance trivial, tb_l2 [(1, 85), (1, 85)] (by decide +kernel) (by decide +kernel), nw_l2 [(1, 33), (2, 100)] (by decide +kernel) (by decide +kernel), by decide +kernel⟩
set_option maxRecDepth 100000 in
def kX1_readOr : List Row := [(.aload_n 0, 0, 1, 0, 0, 0, [], sg0),
  (.iload_n 1, 1, 2, 0, 0, 0, [], sg0),
  (.invokevirtual 47, 2, 3, 1, 0, 0, [], sgX1_readAnd),
  (.ifCond .ne 5, 5, 4, 6, 0, 0, [], sg0),
  (.iconst 0, 8, 5, 0, 0, 0, [], sg0),
  (.ireturn, 9, 6, 0, 0, 0, [], sg0),
  (.iconst 0, 10, 7, 0, 0, 0, [], sg0),
  (.istore_n 2, 11, 8, 0, 0, 0, [], sg0),
  (.iload_n 2, 12, 9, 0, 0, 0, [], sg0),
  (.sipush 160, 13, 10, 0, 0, 160, [], sg0),
  (.if_icmp .ge 48, 16, 11, 32, 0, 0, [], sg0),
  (.aload_n 0, 19, 12, 0, 0, 0, [], sg0),
  (.getfield 9, 20, 13, 1, 0, 0, [], sg0),
  (.getfield 40, 23, 14, 6, 2, 1, [], sg0),
  (.bipush 7, 26, 15, 0, 0, 7, [], sg0),
  (.if_icmp .ne 36, 28, 16, 32, 0, 0, [], sg0),
  (.aload_n 0, 31, 17, 0, 0, 0, [], sg0),
  (.getfield 9, 32, 18, 1, 0, 0, [], sg0),
  (.invokevirtual 44, 35, 19, 6, 0, 1, [], sgX6_advance),
  (.aload_n 0, 38, 20, 0, 0, 0, [], sg0),
  (.iload_n 1, 39, 21, 0, 0, 0, [], sg0),
  (.invokevirtual 47, 40, 22, 1, 0, 0, [], sgX1_readAnd),
  (.ifCond .ne 5, 43, 23, 25, 0, 0, [], sg0),
  (.iconst 0, 46, 24, 0, 0, 0, [], sg0),
  (.ireturn, 47, 25, 0, 0, 0, [], sg0),
  (.aload_n 0, 48, 26, 0, 0, 0, [], sg0),
  (.getfield 15, 49, 27, 1, 1, 0, [], sg0),
  (.bipush 7, 52, 28, 0, 0, 7, [], sg0),
  (.iconst 0, 54, 29, 0, 0, 0, [], sg0),
  (.invokevirtual 50, 55, 30, 0, 0, 1, [], sgX0_add),
  (.iinc 2 1, 58, 31, 0, 0, 1, [], sg0),
  (.goto (-49), 61, 32, 8, 0, 0, [], sg0),
  (.iconst 1, 64, 33, 0, 0, 1, [], sg0),
  (.ireturn, 65, 34, 0, 0, 0, [], sg0),
  (.nop, 66, 35, 0, 0, 0, [], sg0)]
set_option maxRecDepth 100000 in
theorem okX1_readOr : Chk sgX1_readOr kX1_readOr := ⟨by decide +kernel, And.intro sgVX1_readAnd (And.intro sgVX6_advance (And.intro sgVX1_readAnd (And.intro sgVX0_add trivial))), tb_l2 [(2, 105), (1, 85), (1, 85), (2, 105), (1, 86)] (by decide +kernel) (by decide +kernel), nw_l2 [(1, 33), (2, 100), (2, 129)] (by decide +kernel) (by decide +kernel), by decide +kernel⟩
set_option maxRecDepth 100000 in
def kX1_readAnd : List Row := [(.aload_n 0, 0, 1, 0, 0, 0, [], sg0),
  (.iload_n 1, 1, 2, 0, 0, 0, [], sg0),
  (.invokevirtual 54, 2, 3, 1, 0, 0, [], sgX1_readNot),
  (.ifCond .ne 5, 5, 4, 6, 0, 0, [], sg0),
  (.iconst 0, 8, 5, 0, 0, 0, [], sg0),
  (.ireturn, 9, 6, 0, 0, 0, [], sg0),
  (.iconst 0, 10, 7, 0, 0, 0, [], sg0),
  (.istore_n 2, 11, 8, 0, 0, 0, [], sg0),
  (.iload_n 2, 12, 9, 0, 0, 0, [], sg0),
  (.sipush 160, 13, 10, 0, 0, 160, [], sg0),
  (.if_icmp .ge 48, 16, 11, 32, 0, 0, [], sg0),
  (.aload_n 0, 19, 12, 0, 0, 0, [], sg0),
  (.getfield 9, 20, 13, 1, 0, 0, [], sg0),
  (.getfield 40, 23, 14, 6, 2, 1, [], sg0),
  (.bipush 8, 26, 15, 0, 0, 8, [], sg0),
  (.if_icmp .ne 36, 28, 16, 32, 0, 0, [], sg0),
  (.aload_n 0, 31, 17, 0, 0, 0, [], sg0),
  (.getfield 9, 32, 18, 1, 0, 0, [], sg0),
  (.invokevirtual 44, 35, 19, 6, 0, 1, [], sgX6_advance),
  (.aload_n 0, 38, 20, 0, 0, 0, [], sg0),
  (.iload_n 1, 39, 21, 0, 0, 0, [], sg0),
  (.invokevirtual 54, 40, 22, 1, 0, 0, [], sgX1_readNot),
  (.ifCond .ne 5, 43, 23, 25, 0, 0, [], sg0),
  (.iconst 0, 46, 24, 0, 0, 0, [], sg0),
  (.ireturn, 47, 25, 0, 0, 0, [], sg0),
  (.aload_n 0, 48, 26, 0, 0, 0, [], sg0),
  (.getfield 15, 49, 27, 1, 1, 0, [], sg0),
  (.bipush 8, 52, 28, 0, 0, 8, [], sg0),
  (.iconst 0, 54, 29, 0, 0, 0, [], sg0),
  (.invokevirtual 50, 55, 30, 0, 0, 1, [], sgX0_add),
  (.iinc 2 1, 58, 31, 0, 0, 1, [], sg0),
  (.goto (-49), 61, 32, 8, 0, 0, [], sg0),
  (.iconst 1, 64, 33, 0, 0, 1, [], sg0),
  (.ireturn, 65, 34, 0, 0, 0, [], sg0),
  (.nop, 66, 35, 0, 0, 0, [], sg0)]
set_option maxRecDepth 100000 in
theorem okX1_readAnd : Chk sgX1_readAnd kX1_readAnd := ⟨by decide +kernel, And.intro sgVX1_readNot (And.intro sgVX6_advance (And.intro sgVX1_readNot (And.intro sgVX0_add trivial))), tb_l2 [(2, 109), (1, 85), (1, 85), (2, 109), (1, 86)] (by decide +kernel) (by decide +kernel), nw_l2 [(1, 33), (2, 100), (2, 129)] (by decide +kernel) (by decide +kernel), by decide +kernel⟩
set_option maxRecDepth 100000 in
def kX1_readNot : List Row := [(.aload_n 0, 0, 1, 0, 0, 0, [], sg0),
  (.getfield 9, 1, 2, 1, 0, 0, [], sg0),
  (.getfield 40, 4, 3, 6, 2, 1, [], sg0),
  (.bipush 9, 7, 4, 0, 0, 9, [], sg0),
  (.if_icmp .eq 9, 9, 5, 9, 0, 0, [], sg0),
  (.aload_n 0, 12, 6, 0, 0, 0, [], sg0),
  (.iload_n 1, 13, 7, 0, 0, 0, [], sg0),
  (.invokevirtual 57, 14, 8, 1, 0, 0, [], sgX1_readCompared),
  (.ireturn, 17, 9, 0, 0, 0, [], sg0),
  (.iload_n 1, 18, 10, 0, 0, 0, [], sg0),
  (.iconst 5, 19, 11, 0, 0, 5, [], sg0),
  (.if_icmp .lt 5, 20, 12, 14, 0, 0, [], sg0),
  (.iconst 0, 23, 13, 0, 0, 0, [], sg0),
  (.ireturn, 24, 14, 0, 0, 0, [], sg0),
  (.aload_n 0, 25, 15, 0, 0, 0, [], sg0),
  (.getfield 9, 26, 16, 1, 0, 0, [], sg0),
  (.invokevirtual 44, 29, 17, 6, 0, 1, [], sgX6_advance),
  (.aload_n 0, 32, 18, 0, 0, 0, [], sg0),
  (.iload_n 1, 33, 19, 0, 0, 0, [], sg0),
  (.iconst 1, 34, 20, 0, 0, 1, [], sg0),
  (.iadd, 35, 21, 0, 0, 0, [], sg0),
  (.invokevirtual 54, 36, 22, 1, 0, 0, [], sgX1_readNot),
  (.ifCond .ne 5, 39, 23, 25, 0, 0, [], sg0),
  (.iconst 0, 42, 24, 0, 0, 0, [], sg0),
  (.ireturn, 43, 25, 0, 0, 0, [], sg0),
  (.aload_n 0, 44, 26, 0, 0, 0, [], sg0),
  (.getfield 15, 45, 27, 1, 1, 0, [], sg0),
  (.bipush 9, 48, 28, 0, 0, 9, [], sg0),
  (.iconst 0, 50, 29, 0, 0, 0, [], sg0),
  (.invokevirtual 50, 51, 30, 0, 0, 1, [], sgX0_add),
  (.iconst 1, 54, 31, 0, 0, 1, [], sg0),
  (.ireturn, 55, 32, 0, 0, 0, [], sg0),
  (.nop, 56, 33, 0, 0, 0, [], sg0)]
set_option maxRecDepth 100000 in
theorem okX1_readNot : Chk sgX1_readNot kX1_readNot := ⟨by decide +kernel, And.intro sgVX1_readCompared (And.intro sgVX6_advance (And.intro sgVX1_readNot (And.intro sgVX0_add trivial))), tb_l2 [(1, 85), (2, 113), (1, 85), (2, 109), (1, 86)] (by decide +kernel) (by decide +kernel), nw_l2 [(1, 33), (2, 100), (2, 129)] (by decide +kernel) (by decide +kernel), by decide +kernel⟩
set_option maxRecDepth 100000 in
def kX1_readCompared : List Row := [(.aload_n 0, 0, 1, 0, 0, 0, [], sg0),
  (.iload_n 1, 1, 2, 0, 0, 0, [], sg0),
  (.invokevirtual 60, 2, 3, 1, 0, 0, [], sgX1_readSum),
  (.ifCond .ne 5, 5, 4, 6, 0, 0, [], sg0),
  (.iconst 0, 8, 5, 0, 0, 0, [], sg0),
  (.ireturn, 9, 6, 0, 0, 0, [], sg0),
  (.aload_n 0, 10, 7, 0, 0, 0, [], sg0),
  (.getfield 9, 11, 8, 1, 0, 0, [], sg0),
  (.getfield 40, 14, 9, 6, 2, 1, [], sg0),
  (.istore_n 2, 17, 10, 0, 0, 0, [], sg0),
  (.iload_n 2, 18, 11, 0, 0, 0, [], sg0),
  (.bipush 60, 19, 12, 0, 0, 60, [], sg0),
  (.if_icmp .eq 11, 21, 13, 18, 0, 0, [], sg0),
  (.iload_n 2, 24, 14, 0, 0, 0, [], sg0),
  (.bipush 61, 25, 15, 0, 0, 61, [], sg0),
  (.if_icmp .eq 5, 27, 16, 18, 0, 0, [], sg0),
  (.iconst 1, 30, 17, 0, 0, 1, [], sg0),
  (.ireturn, 31, 18, 0, 0, 0, [], sg0),
  (.aload_n 0, 32, 19, 0, 0, 0, [], sg0),
  (.getfield 9, 33, 20, 1, 0, 0, [], sg0),
  (.invokevirtual 44, 36, 21, 6, 0, 1, [], sgX6_advance),
  (.aload_n 0, 39, 22, 0, 0, 0, [], sg0),
  (.iload_n 1, 40, 23, 0, 0, 0, [], sg0),
  (.invokevirtual 60, 41, 24, 1, 0, 0, [], sgX1_readSum),
  (.ifCond .ne 5, 44, 25, 27, 0, 0, [], sg0),
  (.iconst 0, 47, 26, 0, 0, 0, [], sg0),
  (.ireturn, 48, 27, 0, 0, 0, [], sg0),
  (.aload_n 0, 49, 28, 0, 0, 0, [], sg0),
  (.getfield 15, 50, 29, 1, 1, 0, [], sg0),
  (.iload_n 2, 53, 30, 0, 0, 0, [], sg0),
  (.iconst 0, 54, 31, 0, 0, 0, [], sg0),
  (.invokevirtual 50, 55, 32, 0, 0, 1, [], sgX0_add),
  (.iconst 1, 58, 33, 0, 0, 1, [], sg0),
  (.ireturn, 59, 34, 0, 0, 0, [], sg0),
  (.nop, 60, 35, 0, 0, 0, [], sg0)]
set_option maxRecDepth 100000 in
theorem okX1_readCompared : Chk sgX1_readCompared kX1_readCompared := ⟨by decide +kernel, And.intro sgVX1_readSum (And.intro sgVX6_advance (And.intro sgVX1_readSum (And.intro sgVX0_add trivial))), tb_l2 [(2, 117), (1, 85), (1, 85), (2, 117), (1, 86)] (by decide +kernel) (by decide +kernel), nw_l2 [(1, 33), (2, 100), (2, 129)] (by decide +kernel) (by decide +kernel), by decide +kernel⟩
set_option maxRecDepth 100000 in
def kX1_readSum : List Row := [(.aload_n 0, 0, 1, 0, 0, 0, [], sg0),
  (.iload_n 1, 1, 2, 0, 0, 0, [], sg0),
  (.invokevirtual 63, 2, 3, 1, 0, 0, [], sgX1_readTerm),
  (.ifCond .ne 5, 5, 4, 6, 0, 0, [], sg0),
  (.iconst 0, 8, 5, 0, 0, 0, [], sg0),
  (.ireturn, 9, 6, 0, 0, 0, [], sg0),
  (.iconst 0, 10, 7, 0, 0, 0, [], sg0),
  (.istore_n 2, 11, 8, 0, 0, 0, [], sg0),
  (.iload_n 2, 12, 9, 0, 0, 0, [], sg0),
  (.sipush 160, 13, 10, 0, 0, 160, [], sg0),
  (.if_icmp .ge 67, 16, 11, 41, 0, 0, [], sg0),
  (.aload_n 0, 19, 12, 0, 0, 0, [], sg0),
  (.getfield 9, 20, 13, 1, 0, 0, [], sg0),
  (.getfield 40, 23, 14, 6, 2, 1, [], sg0),
  (.bipush 43, 26, 15, 0, 0, 43, [], sg0),
  (.if_icmp .eq 15, 28, 16, 21, 0, 0, [], sg0),
  (.aload_n 0, 31, 17, 0, 0, 0, [], sg0),
  (.getfield 9, 32, 18, 1, 0, 0, [], sg0),
  (.getfield 40, 35, 19, 6, 2, 1, [], sg0),
  (.bipush 45, 38, 20, 0, 0, 45, [], sg0),
  (.if_icmp .ne 43, 40, 21, 41, 0, 0, [], sg0),
  (.aload_n 0, 43, 22, 0, 0, 0, [], sg0),
  (.getfield 9, 44, 23, 1, 0, 0, [], sg0),
  (.getfield 40, 47, 24, 6, 2, 1, [], sg0),
  (.istore_n 3, 50, 25, 0, 0, 0, [], sg0),
  (.aload_n 0, 51, 26, 0, 0, 0, [], sg0),
  (.getfield 9, 52, 27, 1, 0, 0, [], sg0),
  (.invokevirtual 44, 55, 28, 6, 0, 1, [], sgX6_advance),
  (.aload_n 0, 58, 29, 0, 0, 0, [], sg0),
  (.iload_n 1, 59, 30, 0, 0, 0, [], sg0),
  (.invokevirtual 63, 60, 31, 1, 0, 0, [], sgX1_readTerm),
  (.ifCond .ne 5, 63, 32, 34, 0, 0, [], sg0),
  (.iconst 0, 66, 33, 0, 0, 0, [], sg0),
  (.ireturn, 67, 34, 0, 0, 0, [], sg0),
  (.aload_n 0, 68, 35, 0, 0, 0, [], sg0),
  (.getfield 15, 69, 36, 1, 1, 0, [], sg0),
  (.iload_n 3, 72, 37, 0, 0, 0, [], sg0),
  (.iconst 0, 73, 38, 0, 0, 0, [], sg0),
  (.invokevirtual 50, 74, 39, 0, 0, 1, [], sgX0_add),
  (.iinc 2 1, 77, 40, 0, 0, 1, [], sg0),
  (.goto (-68), 80, 41, 8, 0, 0, [], sg0),
  (.iconst 1, 83, 42, 0, 0, 1, [], sg0),
  (.ireturn, 84, 43, 0, 0, 0, [], sg0),
  (.nop, 85, 44, 0, 0, 0, [], sg0)]
set_option maxRecDepth 100000 in
theorem okX1_readSum : Chk sgX1_readSum kX1_readSum := ⟨by decide +kernel, And.intro sgVX1_readTerm (And.intro sgVX6_advance (And.intro sgVX1_readTerm (And.intro sgVX0_add trivial))), tb_l2 [(2, 121), (1, 85), (1, 85), (1, 85), (1, 85), (2, 121), (1, 86)] (by decide +kernel) (by decide +kernel), nw_l2 [(1, 33), (1, 33), (1, 33), (2, 100), (2, 129)] (by decide +kernel) (by decide +kernel), by decide +kernel⟩
set_option maxRecDepth 100000 in
def kX1_readTerm : List Row := [(.aload_n 0, 0, 1, 0, 0, 0, [], sg0),
  (.iload_n 1, 1, 2, 0, 0, 0, [], sg0),
  (.invokevirtual 66, 2, 3, 1, 0, 0, [], sgX1_readOne),
  (.ifCond .ne 5, 5, 4, 6, 0, 0, [], sg0),
  (.iconst 0, 8, 5, 0, 0, 0, [], sg0),
  (.ireturn, 9, 6, 0, 0, 0, [], sg0),
  (.iconst 0, 10, 7, 0, 0, 0, [], sg0),
  (.istore_n 2, 11, 8, 0, 0, 0, [], sg0),
  (.iload_n 2, 12, 9, 0, 0, 0, [], sg0),
  (.sipush 160, 13, 10, 0, 0, 160, [], sg0),
  (.if_icmp .ge 48, 16, 11, 32, 0, 0, [], sg0),
  (.aload_n 0, 19, 12, 0, 0, 0, [], sg0),
  (.getfield 9, 20, 13, 1, 0, 0, [], sg0),
  (.getfield 40, 23, 14, 6, 2, 1, [], sg0),
  (.bipush 42, 26, 15, 0, 0, 42, [], sg0),
  (.if_icmp .ne 36, 28, 16, 32, 0, 0, [], sg0),
  (.aload_n 0, 31, 17, 0, 0, 0, [], sg0),
  (.getfield 9, 32, 18, 1, 0, 0, [], sg0),
  (.invokevirtual 44, 35, 19, 6, 0, 1, [], sgX6_advance),
  (.aload_n 0, 38, 20, 0, 0, 0, [], sg0),
  (.iload_n 1, 39, 21, 0, 0, 0, [], sg0),
  (.invokevirtual 66, 40, 22, 1, 0, 0, [], sgX1_readOne),
  (.ifCond .ne 5, 43, 23, 25, 0, 0, [], sg0),
  (.iconst 0, 46, 24, 0, 0, 0, [], sg0),
  (.ireturn, 47, 25, 0, 0, 0, [], sg0),
  (.aload_n 0, 48, 26, 0, 0, 0, [], sg0),
  (.getfield 15, 49, 27, 1, 1, 0, [], sg0),
  (.bipush 42, 52, 28, 0, 0, 42, [], sg0),
  (.iconst 0, 54, 29, 0, 0, 0, [], sg0),
  (.invokevirtual 50, 55, 30, 0, 0, 1, [], sgX0_add),
  (.iinc 2 1, 58, 31, 0, 0, 1, [], sg0),
  (.goto (-49), 61, 32, 8, 0, 0, [], sg0),
  (.iconst 1, 64, 33, 0, 0, 1, [], sg0),
  (.ireturn, 65, 34, 0, 0, 0, [], sg0),
  (.nop, 66, 35, 0, 0, 0, [], sg0)]
set_option maxRecDepth 100000 in
theorem okX1_readTerm : Chk sgX1_readTerm kX1_readTerm := ⟨by decide +kernel, And.intro sgVX1_readOne (And.intro sgVX6_advance (And.intro sgVX1_readOne (And.intro sgVX0_add trivial))), tb_l2 [(2, 125), (1, 85), (1, 85), (2, 125), (1, 86)] (by decide +kernel) (by decide +kernel), nw_l2 [(1, 33), (2, 100), (2, 129)] (by decide +kernel) (by decide +kernel), by decide +kernel⟩
set_option maxRecDepth 100000 in
def kX1_readOne : List Row := [(.aload_n 0, 0, 1, 0, 0, 0, [], sg0),
  (.getfield 9, 1, 2, 1, 0, 0, [], sg0),
  (.getfield 40, 4, 3, 6, 2, 1, [], sg0),
  (.iconst 2, 7, 4, 0, 0, 2, [], sg0),
  (.if_icmp .eq 14, 8, 5, 10, 0, 0, [], sg0),
  (.aload_n 0, 11, 6, 0, 0, 0, [], sg0),
  (.getfield 9, 12, 7, 1, 0, 0, [], sg0),
  (.getfield 40, 15, 8, 6, 2, 1, [], sg0),
  (.iconst 3, 18, 9, 0, 0, 3, [], sg0),
  (.if_icmp .ne 33, 19, 10, 24, 0, 0, [], sg0),
  (.aload_n 0, 22, 11, 0, 0, 0, [], sg0),
  (.getfield 15, 23, 12, 1, 1, 0, [], sg0),
  (.aload_n 0, 26, 13, 0, 0, 0, [], sg0),
  (.getfield 9, 27, 14, 1, 0, 0, [], sg0),
  (.getfield 40, 30, 15, 6, 2, 1, [], sg0),
  (.aload_n 0, 33, 16, 0, 0, 0, [], sg0),
  (.getfield 9, 34, 17, 1, 0, 0, [], sg0),
  (.getfield 69, 37, 18, 6, 3, 1, [], sg0),
  (.invokevirtual 50, 40, 19, 0, 0, 1, [], sgX0_add),
  (.aload_n 0, 43, 20, 0, 0, 0, [], sg0),
  (.getfield 9, 44, 21, 1, 0, 0, [], sg0),
  (.invokevirtual 44, 47, 22, 6, 0, 1, [], sgX6_advance),
  (.iconst 1, 50, 23, 0, 0, 1, [], sg0),
  (.ireturn, 51, 24, 0, 0, 0, [], sg0),
  (.aload_n 0, 52, 25, 0, 0, 0, [], sg0),
  (.getfield 9, 53, 26, 1, 0, 0, [], sg0),
  (.getfield 40, 56, 27, 6, 2, 1, [], sg0),
  (.bipush 45, 59, 28, 0, 0, 45, [], sg0),
  (.if_icmp .eq 17, 61, 29, 36, 0, 0, [], sg0),
  (.aload_n 0, 64, 30, 0, 0, 0, [], sg0),
  (.getfield 9, 65, 31, 1, 0, 0, [], sg0),
  (.getfield 40, 68, 32, 6, 2, 1, [], sg0),
  (.bipush 40, 71, 33, 0, 0, 40, [], sg0),
  (.if_icmp .eq 5, 73, 34, 36, 0, 0, [], sg0),
  (.iconst 0, 76, 35, 0, 0, 0, [], sg0),
  (.ireturn, 77, 36, 0, 0, 0, [], sg0),
  (.iload_n 1, 78, 37, 0, 0, 0, [], sg0),
  (.iconst 5, 79, 38, 0, 0, 5, [], sg0),
  (.if_icmp .lt 5, 80, 39, 41, 0, 0, [], sg0),
  (.iconst 0, 83, 40, 0, 0, 0, [], sg0),
  (.ireturn, 84, 41, 0, 0, 0, [], sg0),
  (.aload_n 0, 85, 42, 0, 0, 0, [], sg0),
  (.getfield 9, 86, 43, 1, 0, 0, [], sg0),
  (.getfield 40, 89, 44, 6, 2, 1, [], sg0),
  (.bipush 40, 92, 45, 0, 0, 40, [], sg0),
  (.if_icmp .ne 7, 94, 46, 48, 0, 0, [], sg0),
  (.iconst 1, 97, 47, 0, 0, 1, [], sg0),
  (.goto 4, 98, 48, 49, 0, 0, [], sg0),
  (.iconst 0, 101, 49, 0, 0, 0, [], sg0),
  (.istore_n 2, 102, 50, 0, 0, 0, [], sg0),
  (.aload_n 0, 103, 51, 0, 0, 0, [], sg0),
  (.getfield 9, 104, 52, 1, 0, 0, [], sg0),
  (.invokevirtual 44, 107, 53, 6, 0, 1, [], sgX6_advance),
  (.iload_n 2, 110, 54, 0, 0, 0, [], sg0),
  (.ifCond .eq 11, 111, 55, 61, 0, 0, [], sg0),
  (.aload_n 0, 114, 56, 0, 0, 0, [], sg0),
  (.iload_n 1, 115, 57, 0, 0, 0, [], sg0),
  (.iconst 1, 116, 58, 0, 0, 1, [], sg0),
  (.iadd, 117, 59, 0, 0, 0, [], sg0),
  (.invokevirtual 72, 118, 60, 1, 0, 0, [], sgX1_readBracket),
  (.ireturn, 121, 61, 0, 0, 0, [], sg0),
  (.aload_n 0, 122, 62, 0, 0, 0, [], sg0),
  (.iload_n 1, 123, 63, 0, 0, 0, [], sg0),
  (.iconst 1, 124, 64, 0, 0, 1, [], sg0),
  (.iadd, 125, 65, 0, 0, 0, [], sg0),
  (.invokevirtual 66, 126, 66, 1, 0, 0, [], sgX1_readOne),
  (.ifCond .ne 5, 129, 67, 69, 0, 0, [], sg0),
  (.iconst 0, 132, 68, 0, 0, 0, [], sg0),
  (.ireturn, 133, 69, 0, 0, 0, [], sg0),
  (.aload_n 0, 134, 70, 0, 0, 0, [], sg0),
  (.getfield 15, 135, 71, 1, 1, 0, [], sg0),
  (.bipush 10, 138, 72, 0, 0, 10, [], sg0),
  (.iconst 0, 140, 73, 0, 0, 0, [], sg0),
  (.invokevirtual 50, 141, 74, 0, 0, 1, [], sgX0_add),
  (.iconst 1, 144, 75, 0, 0, 1, [], sg0),
  (.ireturn, 145, 76, 0, 0, 0, [], sg0),
  (.nop, 146, 77, 0, 0, 0, [], sg0)]
set_option maxRecDepth 100000 in
theorem okX1_readOne : Chk sgX1_readOne kX1_readOne := ⟨by decide +kernel, And.intro sgVX0_add (And.intro sgVX6_advance (And.intro sgVX6_advance (And.intro sgVX1_readBracket (And.intro sgVX1_readOne (And.intro sgVX0_add trivial))))), tb_l2 [(1, 85), (1, 85), (1, 86), (1, 85), (1, 85), (1, 85), (1, 85), (1, 85), (1, 85), (1, 85), (2, 134), (2, 125), (1, 86)] (by decide +kernel) (by decide +kernel), nw_l2 [(1, 33), (1, 33), (1, 33), (1, 36), (2, 129), (2, 100), (1, 33), (1, 33), (1, 33), (2, 100), (2, 129)] (by decide +kernel) (by decide +kernel), by decide +kernel⟩
set_option maxRecDepth 100000 in
def kX1_readBracket : List Row := [(.aload_n 0, 0, 1, 0, 0, 0, [], sg0),
  (.iload_n 1, 1, 2, 0, 0, 0, [], sg0),
  (.invokevirtual 33, 2, 3, 1, 0, 0, [], sgX1_readOr),
  (.ifCond .eq 15, 5, 4, 9, 0, 0, [], sg0),
  (.aload_n 0, 8, 5, 0, 0, 0, [], sg0),
  (.getfield 9, 9, 6, 1, 0, 0, [], sg0),
  (.getfield 40, 12, 7, 6, 2, 1, [], sg0),
  (.bipush 41, 15, 8, 0, 0, 41, [], sg0),
  (.if_icmp .eq 5, 17, 9, 11, 0, 0, [], sg0),
  (.iconst 0, 20, 10, 0, 0, 0, [], sg0),
  (.ireturn, 21, 11, 0, 0, 0, [], sg0),
  (.aload_n 0, 22, 12, 0, 0, 0, [], sg0),
  (.getfield 9, 23, 13, 1, 0, 0, [], sg0),
  (.invokevirtual 44, 26, 14, 6, 0, 1, [], sgX6_advance),
  (.iconst 1, 29, 15, 0, 0, 1, [], sg0),
  (.ireturn, 30, 16, 0, 0, 0, [], sg0),
  (.nop, 31, 17, 0, 0, 0, [], sg0)]
set_option maxRecDepth 100000 in
theorem okX1_readBracket : Chk sgX1_readBracket kX1_readBracket := ⟨by decide +kernel, And.intro sgVX1_readOr (And.intro sgVX6_advance trivial), tb_l2 [(2, 101), (1, 85), (1, 85)] (by decide +kernel) (by decide +kernel), nw_l2 [(1, 33), (2, 100)] (by decide +kernel) (by decide +kernel), by decide +kernel⟩
set_option maxRecDepth 100000 in
def kX2_init : List Row := [(.aload_n 0, 0, 1, 0, 0, 0, [], sg0),
  (.invokespecial 1, 1, 2, 0, 9, 0, [], sg0),
  (.return_, 4, 3, 0, 0, 0, [], sg0),
  (.nop, 5, 4, 0, 0, 0, [], sg0)]
set_option maxRecDepth 100000 in
theorem okX2_init : Chk sgX2_init kX2_init := ⟨by decide +kernel, trivial, tb_l2 [(1, 172), (1, 22), (1, 23)] (by decide +kernel) (by decide +kernel), nw_l2 [] (by decide +kernel) (by decide +kernel), by decide +kernel⟩
set_option maxRecDepth 100000 in
def kX2_consider : List Row := [(.iload_n 3, 0, 1, 0, 0, 0, [], sg0),
  (.aload_n 0, 1, 2, 0, 0, 0, [], sg0),
  (.getfield 7, 2, 3, 2, 2, 0, [], sg0),
  (.if_icmp .lt 20, 5, 4, 12, 0, 0, [], sg0),
  (.iload_n 3, 8, 5, 0, 0, 0, [], sg0),
  (.aload_n 0, 9, 6, 0, 0, 0, [], sg0),
  (.getfield 7, 10, 7, 2, 2, 0, [], sg0),
  (.if_icmp .ne 16, 13, 8, 14, 0, 0, [], sg0),
  (.iload 4, 16, 9, 0, 0, 0, [], sg0),
  (.aload_n 0, 18, 10, 0, 0, 0, [], sg0),
  (.getfield 13, 19, 11, 2, 3, 0, [], sg0),
  (.if_icmp .ge 7, 22, 12, 14, 0, 0, [], sg0),
  (.iconst 1, 25, 13, 0, 0, 1, [], sg0),
  (.goto 4, 26, 14, 15, 0, 0, [], sg0),
  (.iconst 0, 29, 15, 0, 0, 0, [], sg0),
  (.istore 5, 30, 16, 0, 0, 0, [], sg0),
  (.iload 5, 32, 17, 0, 0, 0, [], sg0),
  (.ifCond .ne 4, 34, 18, 19, 0, 0, [], sg0),
  (.return_, 37, 19, 0, 0, 0, [], sg0),
  (.aload_n 0, 38, 20, 0, 0, 0, [], sg0),
  (.iload_n 1, 39, 21, 0, 0, 0, [], sg0),
  (.putfield 16, 40, 22, 2, 0, 0, [], sg0),
  (.aload_n 0, 43, 23, 0, 0, 0, [], sg0),
  (.iload_n 2, 44, 24, 0, 0, 0, [], sg0),
  (.putfield 19, 45, 25, 2, 1, 0, [], sg0),
  (.aload_n 0, 48, 26, 0, 0, 0, [], sg0),
  (.iload_n 3, 49, 27, 0, 0, 0, [], sg0),
  (.putfield 7, 50, 28, 2, 2, 0, [], sg0),
  (.aload_n 0, 53, 29, 0, 0, 0, [], sg0),
  (.iload 4, 54, 30, 0, 0, 0, [], sg0),
  (.putfield 13, 56, 31, 2, 3, 0, [], sg0),
  (.return_, 59, 32, 0, 0, 0, [], sg0),
  (.nop, 60, 33, 0, 0, 0, [], sg0)]
set_option maxRecDepth 100000 in
theorem okX2_consider : Chk sgX2_consider kX2_consider := ⟨by decide +kernel, trivial, tb_l2 [(1, 177), (1, 177), (1, 179), (1, 173), (1, 175), (1, 177), (1, 179)] (by decide +kernel) (by decide +kernel), nw_l2 [] (by decide +kernel) (by decide +kernel), by decide +kernel⟩
set_option maxRecDepth 100000 in
def kX3_init : List Row := [(.aload_n 0, 0, 1, 0, 0, 0, [], sg0),
  (.invokespecial 3, 1, 2, 0, 9, 0, [], sg0),
  (.aload_n 0, 4, 3, 0, 0, 0, [], sg0),
  (.iconst 4, 5, 4, 0, 0, 4, [], sg0),
  (.newarray .int, 6, 5, 0, 0, 0, [], sg0),
  (.putfield 9, 8, 6, 3, 0, 0, [], sg0),
  (.aload_n 0, 11, 7, 0, 0, 0, [], sg0),
  (.iconst 4, 12, 8, 0, 0, 4, [], sg0),
  (.newarray .int, 13, 9, 0, 0, 0, [], sg0),
  (.putfield 15, 15, 10, 3, 1, 0, [], sg0),
  (.aload_n 0, 18, 11, 0, 0, 0, [], sg0),
  (.sipush 160, 19, 12, 0, 0, 160, [], sg0),
  (.newarray .int, 22, 13, 0, 0, 0, [], sg0),
  (.putfield 18, 24, 14, 3, 2, 0, [], sg0),
  (.aload_n 0, 27, 15, 0, 0, 0, [], sg0),
  (.bipush 40, 28, 16, 0, 0, 40, [], sg0),
  (.newarray .int, 30, 17, 0, 0, 0, [], sg0),
  (.putfield 21, 32, 18, 3, 3, 0, [], sg0),
  (.iconst 0, 35, 19, 0, 0, 0, [], sg0),
  (.istore_n 1, 36, 20, 0, 0, 0, [], sg0),
  (.iload_n 1, 37, 21, 0, 0, 0, [], sg0),
  (.iconst 4, 38, 22, 0, 0, 4, [], sg0),
  (.if_icmp .ge 18, 39, 23, 30, 0, 0, [], sg0),
  (.aload_n 0, 42, 24, 0, 0, 0, [], sg0),
  (.getfield 9, 43, 25, 3, 0, 0, [], sg0),
  (.iload_n 1, 46, 26, 0, 0, 0, [], sg0),
  (.iconst (-1), 47, 27, 0, 0, (-1), [], sg0),
  (.invokestatic 24, 48, 28, 0, 0, 1, [], sgX7_put),
  (.iinc 1 1, 51, 29, 0, 0, 1, [], sg0),
  (.goto (-17), 54, 30, 20, 0, 0, [], sg0),
  (.return_, 57, 31, 0, 0, 0, [], sg0),
  (.nop, 58, 32, 0, 0, 0, [], sg0)]
set_option maxRecDepth 100000 in
theorem okX3_init : Chk sgX3_init kX3_init := ⟨by decide +kernel, And.intro sgSX7_put trivial, tb_l2 [(1, 150), (1, 22), (1, 23), (1, 53), (1, 152), (1, 53), (1, 154), (1, 53), (1, 156), (1, 53), (1, 157), (1, 152)] (by decide +kernel) (by decide +kernel), nw_l2 [(1, 151)] (by decide +kernel) (by decide +kernel), by decide +kernel⟩
set_option maxRecDepth 100000 in
def kX3_isMissing : List Row := [(.aload_n 0, 0, 1, 0, 0, 0, [], sg0),
  (.getfield 9, 1, 2, 3, 0, 0, [], sg0),
  (.iload_n 1, 4, 3, 0, 0, 0, [], sg0),
  (.invokestatic 28, 5, 4, 0, 0, 1, [], sgX7_at),
  (.iconst (-1), 8, 5, 0, 0, (-1), [], sg0),
  (.if_icmp .ne 7, 9, 6, 8, 0, 0, [], sg0),
  (.iconst 1, 12, 7, 0, 0, 1, [], sg0),
  (.goto 4, 13, 8, 9, 0, 0, [], sg0),
  (.iconst 0, 16, 9, 0, 0, 0, [], sg0),
  (.ireturn, 17, 10, 0, 0, 0, [], sg0),
  (.nop, 18, 11, 0, 0, 0, [], sg0)]
set_option maxRecDepth 100000 in
theorem okX3_isMissing : Chk sgX3_isMissing kX3_isMissing := ⟨by decide +kernel, And.intro sgSX7_at trivial, tb_l2 [(1, 152)] (by decide +kernel) (by decide +kernel), nw_l2 [(3, 217)] (by decide +kernel) (by decide +kernel), by decide +kernel⟩
set_option maxRecDepth 100000 in
def kX3_make : List Row := [(.aload_n 0, 0, 1, 0, 0, 0, [], sg0),
  (.getfield 9, 1, 2, 3, 0, 0, [], sg0),
  (.iload_n 1, 4, 3, 0, 0, 0, [], sg0),
  (.iload_n 2, 5, 4, 0, 0, 0, [], sg0),
  (.invokestatic 24, 6, 5, 0, 0, 1, [], sgX7_put),
  (.aload_n 0, 9, 6, 0, 0, 0, [], sg0),
  (.getfield 15, 10, 7, 3, 1, 0, [], sg0),
  (.iload_n 1, 13, 8, 0, 0, 0, [], sg0),
  (.iload_n 3, 14, 9, 0, 0, 0, [], sg0),
  (.invokestatic 24, 15, 10, 0, 0, 1, [], sgX7_put),
  (.iconst 0, 18, 11, 0, 0, 0, [], sg0),
  (.istore 4, 19, 12, 0, 0, 0, [], sg0),
  (.iload 4, 21, 13, 0, 0, 0, [], sg0),
  (.bipush 40, 23, 14, 0, 0, 40, [], sg0),
  (.if_icmp .ge 24, 25, 15, 26, 0, 0, [], sg0),
  (.aload_n 0, 28, 16, 0, 0, 0, [], sg0),
  (.getfield 18, 29, 17, 3, 2, 0, [], sg0),
  (.iload_n 1, 32, 18, 0, 0, 0, [], sg0),
  (.bipush 40, 33, 19, 0, 0, 40, [], sg0),
  (.imul, 35, 20, 0, 0, 0, [], sg0),
  (.iload 4, 36, 21, 0, 0, 0, [], sg0),
  (.iadd, 38, 22, 0, 0, 0, [], sg0),
  (.iconst 0, 39, 23, 0, 0, 0, [], sg0),
  (.invokestatic 24, 40, 24, 0, 0, 1, [], sgX7_put),
  (.iinc 4 1, 43, 25, 0, 0, 1, [], sg0),
  (.goto (-25), 46, 26, 12, 0, 0, [], sg0),
  (.return_, 49, 27, 0, 0, 0, [], sg0),
  (.nop, 50, 28, 0, 0, 0, [], sg0)]
set_option maxRecDepth 100000 in
theorem okX3_make : Chk sgX3_make kX3_make := ⟨by decide +kernel, And.intro sgSX7_put (And.intro sgSX7_put (And.intro sgSX7_put trivial)), tb_l2 [(1, 152), (1, 154), (1, 156)] (by decide +kernel) (by decide +kernel), nw_l2 [(1, 151), (1, 151), (1, 151)] (by decide +kernel) (by decide +kernel), by decide +kernel⟩
set_option maxRecDepth 100000 in
def kX3_holds : List Row := [(.iload_n 2, 0, 1, 0, 0, 0, [], sg0),
  (.aload_n 0, 1, 2, 0, 0, 0, [], sg0),
  (.getfield 15, 2, 3, 3, 1, 0, [], sg0),
  (.iload_n 1, 5, 4, 0, 0, 0, [], sg0),
  (.invokestatic 28, 6, 5, 0, 0, 1, [], sgX7_at),
  (.invokestatic 32, 9, 6, 0, 0, 1, [], sgX7_isBelow),
  (.ireturn, 12, 7, 0, 0, 0, [], sg0),
  (.nop, 13, 8, 0, 0, 0, [], sg0)]
set_option maxRecDepth 100000 in
theorem okX3_holds : Chk sgX3_holds kX3_holds := ⟨by decide +kernel, And.intro sgSX7_at (And.intro sgSX7_isBelow trivial), tb_l2 [(1, 154)] (by decide +kernel) (by decide +kernel), nw_l2 [(3, 217), (4, 46)] (by decide +kernel) (by decide +kernel), by decide +kernel⟩
set_option maxRecDepth 100000 in
def kX3_holdsRun : List Row := [(.iload_n 3, 0, 1, 0, 0, 0, [], sg0),
  (.ifCond .lt 37, 1, 2, 20, 0, 0, [], sg0),
  (.iload_n 2, 4, 3, 0, 0, 0, [], sg0),
  (.ifCond .lt 33, 5, 4, 20, 0, 0, [], sg0),
  (.iload_n 3, 8, 5, 0, 0, 0, [], sg0),
  (.aload_n 0, 9, 6, 0, 0, 0, [], sg0),
  (.getfield 15, 10, 7, 3, 1, 0, [], sg0),
  (.iload_n 1, 13, 8, 0, 0, 0, [], sg0),
  (.invokestatic 28, 14, 9, 0, 0, 1, [], sgX7_at),
  (.if_icmp .gt 21, 17, 10, 20, 0, 0, [], sg0),
  (.iload_n 2, 20, 11, 0, 0, 0, [], sg0),
  (.aload_n 0, 21, 12, 0, 0, 0, [], sg0),
  (.getfield 15, 22, 13, 3, 1, 0, [], sg0),
  (.iload_n 1, 25, 14, 0, 0, 0, [], sg0),
  (.invokestatic 28, 26, 15, 0, 0, 1, [], sgX7_at),
  (.iload_n 3, 29, 16, 0, 0, 0, [], sg0),
  (.isub, 30, 17, 0, 0, 0, [], sg0),
  (.if_icmp .gt 7, 31, 18, 20, 0, 0, [], sg0),
  (.iconst 1, 34, 19, 0, 0, 1, [], sg0),
  (.goto 4, 35, 20, 21, 0, 0, [], sg0),
  (.iconst 0, 38, 21, 0, 0, 0, [], sg0),
  (.ireturn, 39, 22, 0, 0, 0, [], sg0),
  (.nop, 40, 23, 0, 0, 0, [], sg0)]
set_option maxRecDepth 100000 in
theorem okX3_holdsRun : Chk sgX3_holdsRun kX3_holdsRun := ⟨by decide +kernel, And.intro sgSX7_at (And.intro sgSX7_at trivial), tb_l2 [(1, 154), (1, 154)] (by decide +kernel) (by decide +kernel), nw_l2 [(3, 217), (3, 217)] (by decide +kernel) (by decide +kernel), by decide +kernel⟩
set_option maxRecDepth 100000 in
def kX3_read : List Row := [(.aload_n 0, 0, 1, 0, 0, 0, [], sg0),
  (.getfield 18, 1, 2, 3, 2, 0, [], sg0),
  (.iload_n 1, 4, 3, 0, 0, 0, [], sg0),
  (.bipush 40, 5, 4, 0, 0, 40, [], sg0),
  (.imul, 7, 5, 0, 0, 0, [], sg0),
  (.iload_n 2, 8, 6, 0, 0, 0, [], sg0),
  (.iadd, 9, 7, 0, 0, 0, [], sg0),
  (.invokestatic 28, 10, 8, 0, 0, 1, [], sgX7_at),
  (.ireturn, 13, 9, 0, 0, 0, [], sg0),
  (.nop, 14, 10, 0, 0, 0, [], sg0)]
set_option maxRecDepth 100000 in
theorem okX3_read : Chk sgX3_read kX3_read := ⟨by decide +kernel, And.intro sgSX7_at trivial, tb_l2 [(1, 156)] (by decide +kernel) (by decide +kernel), nw_l2 [(3, 217)] (by decide +kernel) (by decide +kernel), by decide +kernel⟩
set_option maxRecDepth 100000 in
def kX3_write : List Row := [(.aload_n 0, 0, 1, 0, 0, 0, [], sg0),
  (.getfield 9, 1, 2, 3, 0, 0, [], sg0),
  (.iload_n 1, 4, 3, 0, 0, 0, [], sg0),
  (.invokestatic 28, 5, 4, 0, 0, 1, [], sgX7_at),
  (.istore 4, 8, 5, 0, 0, 0, [], sg0),
  (.iload 4, 10, 6, 0, 0, 0, [], sg0),
  (.ifCond .ne 8, 12, 7, 10, 0, 0, [], sg0),
  (.iload_n 3, 15, 8, 0, 0, 0, [], sg0),
  (.i2b, 16, 9, 0, 0, 0, [], sg0),
  (.goto 15, 17, 10, 17, 0, 0, [], sg0),
  (.iload 4, 20, 11, 0, 0, 0, [], sg0),
  (.iconst 1, 22, 12, 0, 0, 1, [], sg0),
  (.if_icmp .ne 8, 23, 13, 16, 0, 0, [], sg0),
  (.iload_n 3, 26, 14, 0, 0, 0, [], sg0),
  (.i2s, 27, 15, 0, 0, 0, [], sg0),
  (.goto 4, 28, 16, 17, 0, 0, [], sg0),
  (.iload_n 3, 31, 17, 0, 0, 0, [], sg0),
  (.istore 5, 32, 18, 0, 0, 0, [], sg0),
  (.aload_n 0, 34, 19, 0, 0, 0, [], sg0),
  (.getfield 18, 35, 20, 3, 2, 0, [], sg0),
  (.iload_n 1, 38, 21, 0, 0, 0, [], sg0),
  (.bipush 40, 39, 22, 0, 0, 40, [], sg0),
  (.imul, 41, 23, 0, 0, 0, [], sg0),
  (.iload_n 2, 42, 24, 0, 0, 0, [], sg0),
  (.iadd, 43, 25, 0, 0, 0, [], sg0),
  (.iload 5, 44, 26, 0, 0, 0, [], sg0),
  (.invokestatic 24, 46, 27, 0, 0, 1, [], sgX7_put),
  (.return_, 49, 28, 0, 0, 0, [], sg0),
  (.nop, 50, 29, 0, 0, 0, [], sg0)]
set_option maxRecDepth 100000 in
theorem okX3_write : Chk sgX3_write kX3_write := ⟨by decide +kernel, And.intro sgSX7_at (And.intro sgSX7_put trivial), tb_l2 [(1, 152), (1, 156)] (by decide +kernel) (by decide +kernel), nw_l2 [(3, 217), (1, 151)] (by decide +kernel) (by decide +kernel), by decide +kernel⟩
set_option maxRecDepth 100000 in
def kX3_move : List Row := [(.iconst 0, 0, 1, 0, 0, 0, [], sg0),
  (.istore 6, 1, 2, 0, 0, 0, [], sg0),
  (.iload 6, 3, 3, 0, 0, 0, [], sg0),
  (.iload 5, 5, 4, 0, 0, 0, [], sg0),
  (.if_icmp .ge 27, 7, 5, 17, 0, 0, [], sg0),
  (.aload_n 0, 10, 6, 0, 0, 0, [], sg0),
  (.getfield 21, 11, 7, 3, 3, 0, [], sg0),
  (.iload 6, 14, 8, 0, 0, 0, [], sg0),
  (.aload_n 0, 16, 9, 0, 0, 0, [], sg0),
  (.iload_n 1, 17, 10, 0, 0, 0, [], sg0),
  (.iload_n 2, 18, 11, 0, 0, 0, [], sg0),
  (.iload 6, 19, 12, 0, 0, 0, [], sg0),
  (.iadd, 21, 13, 0, 0, 0, [], sg0),
  (.invokevirtual 36, 22, 14, 3, 0, 0, [], sgX3_read),
  (.invokestatic 24, 25, 15, 0, 0, 1, [], sgX7_put),
  (.iinc 6 1, 28, 16, 0, 0, 1, [], sg0),
  (.goto (-28), 31, 17, 2, 0, 0, [], sg0),
  (.iconst 0, 34, 18, 0, 0, 0, [], sg0),
  (.istore 6, 35, 19, 0, 0, 0, [], sg0),
  (.iload 6, 37, 20, 0, 0, 0, [], sg0),
  (.iload 5, 39, 21, 0, 0, 0, [], sg0),
  (.if_icmp .ge 28, 41, 22, 34, 0, 0, [], sg0),
  (.aload_n 0, 44, 23, 0, 0, 0, [], sg0),
  (.iload_n 3, 45, 24, 0, 0, 0, [], sg0),
  (.iload 4, 46, 25, 0, 0, 0, [], sg0),
  (.iload 6, 48, 26, 0, 0, 0, [], sg0),
  (.iadd, 50, 27, 0, 0, 0, [], sg0),
  (.aload_n 0, 51, 28, 0, 0, 0, [], sg0),
  (.getfield 21, 52, 29, 3, 3, 0, [], sg0),
  (.iload 6, 55, 30, 0, 0, 0, [], sg0),
  (.invokestatic 28, 57, 31, 0, 0, 1, [], sgX7_at),
  (.invokevirtual 40, 60, 32, 3, 0, 0, [], sgX3_write),
  (.iinc 6 1, 63, 33, 0, 0, 1, [], sg0),
  (.goto (-29), 66, 34, 19, 0, 0, [], sg0),
  (.return_, 69, 35, 0, 0, 0, [], sg0),
  (.nop, 70, 36, 0, 0, 0, [], sg0)]
set_option maxRecDepth 100000 in
theorem okX3_move : Chk sgX3_move kX3_move := ⟨by decide +kernel, And.intro sgVX3_read (And.intro sgSX7_put (And.intro sgSX7_at (And.intro sgVX3_write trivial))), tb_l2 [(1, 157), (4, 59), (1, 157), (4, 60)] (by decide +kernel) (by decide +kernel), nw_l2 [(1, 151), (3, 217)] (by decide +kernel) (by decide +kernel), by decide +kernel⟩
set_option maxRecDepth 100000 in
def kX4_init : List Row := [(.aload_n 0, 0, 1, 0, 0, 0, [], sg0),
  (.invokespecial 3, 1, 2, 0, 9, 0, [], sg0),
  (.aload_n 0, 4, 3, 0, 0, 0, [], sg0),
  (.iconst 5, 5, 4, 0, 0, 5, [], sg0),
  (.newarray .int, 6, 5, 0, 0, 0, [], sg0),
  (.putfield 9, 8, 6, 4, 0, 0, [], sg0),
  (.aload_n 0, 11, 7, 0, 0, 0, [], sg0),
  (.iconst 5, 12, 8, 0, 0, 5, [], sg0),
  (.newarray .int, 13, 9, 0, 0, 0, [], sg0),
  (.putfield 15, 15, 10, 4, 1, 0, [], sg0),
  (.aload_n 0, 18, 11, 0, 0, 0, [], sg0),
  (.bipush 36, 19, 12, 0, 0, 36, [], sg0),
  (.newarray .int, 21, 13, 0, 0, 0, [], sg0),
  (.putfield 18, 23, 14, 4, 2, 0, [], sg0),
  (.return_, 26, 15, 0, 0, 0, [], sg0),
  (.nop, 27, 16, 0, 0, 0, [], sg0)]
set_option maxRecDepth 100000 in
theorem okX4_init : Chk sgX4_init kX4_init := ⟨by decide +kernel, trivial, tb_l2 [(1, 120), (1, 22), (1, 23), (1, 53), (1, 121), (1, 53), (1, 123), (1, 53), (1, 125)] (by decide +kernel) (by decide +kernel), nw_l2 [] (by decide +kernel) (by decide +kernel), by decide +kernel⟩
set_option maxRecDepth 100000 in
def kX4_become : List Row := [(.aload_n 0, 0, 1, 0, 0, 0, [], sg0),
  (.getfield 9, 1, 2, 4, 0, 0, [], sg0),
  (.iload_n 1, 4, 3, 0, 0, 0, [], sg0),
  (.iload_n 2, 5, 4, 0, 0, 0, [], sg0),
  (.invokestatic 21, 6, 5, 0, 0, 1, [], sgX7_put),
  (.aload_n 0, 9, 6, 0, 0, 0, [], sg0),
  (.getfield 15, 10, 7, 4, 1, 0, [], sg0),
  (.iload_n 1, 13, 8, 0, 0, 0, [], sg0),
  (.iload_n 3, 14, 9, 0, 0, 0, [], sg0),
  (.invokestatic 21, 15, 10, 0, 0, 1, [], sgX7_put),
  (.return_, 18, 11, 0, 0, 0, [], sg0),
  (.nop, 19, 12, 0, 0, 0, [], sg0)]
set_option maxRecDepth 100000 in
theorem okX4_become : Chk sgX4_become kX4_become := ⟨by decide +kernel, And.intro sgSX7_put (And.intro sgSX7_put trivial), tb_l2 [(1, 121), (1, 123)] (by decide +kernel) (by decide +kernel), nw_l2 [(2, 236), (2, 236)] (by decide +kernel) (by decide +kernel), by decide +kernel⟩
set_option maxRecDepth 100000 in
def kX4_append : List Row := [(.aload_n 0, 0, 1, 0, 0, 0, [], sg0),
  (.getfield 25, 1, 2, 4, 4, 0, [], sg0),
  (.bipush 12, 4, 3, 0, 0, 12, [], sg0),
  (.if_icmp .lt 4, 6, 4, 5, 0, 0, [], sg0),
  (.return_, 9, 5, 0, 0, 0, [], sg0),
  (.aload_n 0, 10, 6, 0, 0, 0, [], sg0),
  (.getfield 18, 11, 7, 4, 2, 0, [], sg0),
  (.iconst 3, 14, 8, 0, 0, 3, [], sg0),
  (.aload_n 0, 15, 9, 0, 0, 0, [], sg0),
  (.getfield 25, 16, 10, 4, 4, 0, [], sg0),
  (.imul, 19, 11, 0, 0, 0, [], sg0),
  (.iload_n 1, 20, 12, 0, 0, 0, [], sg0),
  (.invokestatic 21, 21, 13, 0, 0, 1, [], sgX7_put),
  (.aload_n 0, 24, 14, 0, 0, 0, [], sg0),
  (.getfield 18, 25, 15, 4, 2, 0, [], sg0),
  (.iconst 3, 28, 16, 0, 0, 3, [], sg0),
  (.aload_n 0, 29, 17, 0, 0, 0, [], sg0),
  (.getfield 25, 30, 18, 4, 4, 0, [], sg0),
  (.imul, 33, 19, 0, 0, 0, [], sg0),
  (.iconst 1, 34, 20, 0, 0, 1, [], sg0),
  (.iadd, 35, 21, 0, 0, 0, [], sg0),
  (.iload_n 2, 36, 22, 0, 0, 0, [], sg0),
  (.invokestatic 21, 37, 23, 0, 0, 1, [], sgX7_put),
  (.aload_n 0, 40, 24, 0, 0, 0, [], sg0),
  (.getfield 18, 41, 25, 4, 2, 0, [], sg0),
  (.iconst 3, 44, 26, 0, 0, 3, [], sg0),
  (.aload_n 0, 45, 27, 0, 0, 0, [], sg0),
  (.getfield 25, 46, 28, 4, 4, 0, [], sg0),
  (.imul, 49, 29, 0, 0, 0, [], sg0),
  (.iconst 2, 50, 30, 0, 0, 2, [], sg0),
  (.iadd, 51, 31, 0, 0, 0, [], sg0),
  (.iload_n 3, 52, 32, 0, 0, 0, [], sg0),
  (.invokestatic 21, 53, 33, 0, 0, 1, [], sgX7_put),
  (.aload_n 0, 56, 34, 0, 0, 0, [], sg0),
  (.dup, 57, 35, 0, 0, 0, [], sg0),
  (.getfield 25, 58, 36, 4, 4, 0, [], sg0),
  (.iconst 1, 61, 37, 0, 0, 1, [], sg0),
  (.iadd, 62, 38, 0, 0, 0, [], sg0),
  (.putfield 25, 63, 39, 4, 4, 0, [], sg0),
  (.return_, 66, 40, 0, 0, 0, [], sg0),
  (.nop, 67, 41, 0, 0, 0, [], sg0)]
set_option maxRecDepth 100000 in
theorem okX4_append : Chk sgX4_append kX4_append := ⟨by decide +kernel, And.intro sgSX7_put (And.intro sgSX7_put (And.intro sgSX7_put trivial)), tb_l2 [(1, 129), (1, 125), (1, 129), (1, 125), (1, 129), (1, 125), (1, 129), (1, 129), (1, 129)] (by decide +kernel) (by decide +kernel), nw_l2 [(2, 236), (2, 236), (2, 236)] (by decide +kernel) (by decide +kernel), by decide +kernel⟩
set_option maxRecDepth 100000 in
def kX4_sayingPart : List Row := [(.aload_n 0, 0, 1, 0, 0, 0, [], sg0),
  (.getfield 18, 1, 2, 4, 2, 0, [], sg0),
  (.iconst 3, 4, 3, 0, 0, 3, [], sg0),
  (.iload_n 1, 5, 4, 0, 0, 0, [], sg0),
  (.imul, 6, 5, 0, 0, 0, [], sg0),
  (.iload_n 2, 7, 6, 0, 0, 0, [], sg0),
  (.iadd, 8, 7, 0, 0, 0, [], sg0),
  (.invokestatic 29, 9, 8, 0, 0, 1, [], sgX7_at),
  (.ireturn, 12, 9, 0, 0, 0, [], sg0),
  (.nop, 13, 10, 0, 0, 0, [], sg0)]
set_option maxRecDepth 100000 in
theorem okX4_sayingPart : Chk sgX4_sayingPart kX4_sayingPart := ⟨by decide +kernel, And.intro sgSX7_at trivial, tb_l2 [(1, 125)] (by decide +kernel) (by decide +kernel), nw_l2 [(3, 30)] (by decide +kernel) (by decide +kernel), by decide +kernel⟩
set_option maxRecDepth 100000 in
def kX4_becomeLike : List Row := [(.aload_n 1, 0, 1, 0, 0, 0, [], sg0),
  (.ifnonnull 4, 1, 2, 3, 0, 0, [], sg0),
  (.return_, 4, 3, 0, 0, 0, [], sg0),
  (.iconst 0, 5, 4, 0, 0, 0, [], sg0),
  (.istore_n 2, 6, 5, 0, 0, 0, [], sg0),
  (.iload_n 2, 7, 6, 0, 0, 0, [], sg0),
  (.iconst 5, 8, 7, 0, 0, 5, [], sg0),
  (.if_icmp .ge 30, 9, 8, 21, 0, 0, [], sg0),
  (.aload_n 0, 12, 9, 0, 0, 0, [], sg0),
  (.iload_n 2, 13, 10, 0, 0, 0, [], sg0),
  (.aload_n 1, 14, 11, 0, 0, 0, [], sg0),
  (.getfield 9, 15, 12, 4, 0, 0, [], sg0),
  (.iload_n 2, 18, 13, 0, 0, 0, [], sg0),
  (.invokestatic 29, 19, 14, 0, 0, 1, [], sgX7_at),
  (.aload_n 1, 22, 15, 0, 0, 0, [], sg0),
  (.getfield 15, 23, 16, 4, 1, 0, [], sg0),
  (.iload_n 2, 26, 17, 0, 0, 0, [], sg0),
  (.invokestatic 29, 27, 18, 0, 0, 1, [], sgX7_at),
  (.invokevirtual 33, 30, 19, 4, 0, 0, [], sgX4_become),
  (.iinc 2 1, 33, 20, 0, 0, 1, [], sg0),
  (.goto (-29), 36, 21, 5, 0, 0, [], sg0),
  (.iconst 0, 39, 22, 0, 0, 0, [], sg0),
  (.istore_n 2, 40, 23, 0, 0, 0, [], sg0),
  (.iload_n 2, 41, 24, 0, 0, 0, [], sg0),
  (.bipush 36, 42, 25, 0, 0, 36, [], sg0),
  (.if_icmp .ge 25, 44, 26, 36, 0, 0, [], sg0),
  (.aload_n 0, 47, 27, 0, 0, 0, [], sg0),
  (.getfield 18, 48, 28, 4, 2, 0, [], sg0),
  (.iload_n 2, 51, 29, 0, 0, 0, [], sg0),
  (.aload_n 1, 52, 30, 0, 0, 0, [], sg0),
  (.getfield 18, 53, 31, 4, 2, 0, [], sg0),
  (.iload_n 2, 56, 32, 0, 0, 0, [], sg0),
  (.invokestatic 29, 57, 33, 0, 0, 1, [], sgX7_at),
  (.invokestatic 21, 60, 34, 0, 0, 1, [], sgX7_put),
  (.iinc 2 1, 63, 35, 0, 0, 1, [], sg0),
  (.goto (-25), 66, 36, 23, 0, 0, [], sg0),
  (.aload_n 0, 69, 37, 0, 0, 0, [], sg0),
  (.aload_n 1, 70, 38, 0, 0, 0, [], sg0),
  (.getfield 37, 71, 39, 4, 3, 0, [], sg0),
  (.putfield 37, 74, 40, 4, 3, 0, [], sg0),
  (.aload_n 0, 77, 41, 0, 0, 0, [], sg0),
  (.aload_n 1, 78, 42, 0, 0, 0, [], sg0),
  (.getfield 25, 79, 43, 4, 4, 0, [], sg0),
  (.putfield 25, 82, 44, 4, 4, 0, [], sg0),
  (.aload_n 0, 85, 45, 0, 0, 0, [], sg0),
  (.aload_n 1, 86, 46, 0, 0, 0, [], sg0),
  (.getfield 40, 87, 47, 4, 5, 0, [], sg0),
  (.putfield 40, 90, 48, 4, 5, 0, [], sg0),
  (.return_, 93, 49, 0, 0, 0, [], sg0),
  (.nop, 94, 50, 0, 0, 0, [], sg0)]
set_option maxRecDepth 100000 in
theorem okX4_becomeLike : Chk sgX4_becomeLike kX4_becomeLike := ⟨by decide +kernel, And.intro sgSX7_at (And.intro sgSX7_at (And.intro sgVX4_become (And.intro sgSX7_at (And.intro sgSX7_put trivial)))), tb_l2 [(1, 121), (1, 123), (4, 29), (1, 125), (1, 125), (1, 127), (1, 127), (1, 129), (1, 129), (1, 131), (1, 131)] (by decide +kernel) (by decide +kernel), nw_l2 [(3, 30), (3, 30), (3, 30), (2, 236)] (by decide +kernel) (by decide +kernel), by decide +kernel⟩
set_option maxRecDepth 100000 in
def kX5_init : List Row := [(.aload_n 0, 0, 1, 0, 0, 0, [], sg0),
  (.invokespecial 3, 1, 2, 0, 9, 0, [], sg0),
  (.aload_n 0, 4, 3, 0, 0, 0, [], sg0),
  (.bipush 30, 5, 4, 0, 0, 30, [], sg0),
  (.newarray .int, 7, 5, 0, 0, 0, [], sg0),
  (.putfield 9, 9, 6, 5, 0, 0, [], sg0),
  (.aload_n 0, 12, 7, 0, 0, 0, [], sg0),
  (.bipush 30, 13, 8, 0, 0, 30, [], sg0),
  (.newarray .int, 15, 9, 0, 0, 0, [], sg0),
  (.putfield 15, 17, 10, 5, 1, 0, [], sg0),
  (.aload_n 0, 20, 11, 0, 0, 0, [], sg0),
  (.bipush 30, 21, 12, 0, 0, 30, [], sg0),
  (.newarray .int, 23, 13, 0, 0, 0, [], sg0),
  (.putfield 18, 25, 14, 5, 2, 0, [], sg0),
  (.iconst 0, 28, 15, 0, 0, 0, [], sg0),
  (.istore_n 1, 29, 16, 0, 0, 0, [], sg0),
  (.iload_n 1, 30, 17, 0, 0, 0, [], sg0),
  (.iconst 5, 31, 18, 0, 0, 5, [], sg0),
  (.if_icmp .ge 27, 32, 19, 31, 0, 0, [], sg0),
  (.aload_n 0, 35, 20, 0, 0, 0, [], sg0),
  (.getfield 9, 36, 21, 5, 0, 0, [], sg0),
  (.iload_n 1, 39, 22, 0, 0, 0, [], sg0),
  (.iconst (-1), 40, 23, 0, 0, (-1), [], sg0),
  (.invokestatic 21, 41, 24, 0, 0, 1, [], sgX7_put),
  (.aload_n 0, 44, 25, 0, 0, 0, [], sg0),
  (.getfield 18, 45, 26, 5, 2, 0, [], sg0),
  (.iload_n 1, 48, 27, 0, 0, 0, [], sg0),
  (.iconst 1, 49, 28, 0, 0, 1, [], sg0),
  (.invokestatic 21, 50, 29, 0, 0, 1, [], sgX7_put),
  (.iinc 1 1, 53, 30, 0, 0, 1, [], sg0),
  (.goto (-26), 56, 31, 16, 0, 0, [], sg0),
  (.aload_n 0, 59, 32, 0, 0, 0, [], sg0),
  (.iconst 1, 60, 33, 0, 0, 1, [], sg0),
  (.putfield 25, 61, 34, 5, 3, 0, [], sg0),
  (.return_, 64, 35, 0, 0, 0, [], sg0),
  (.nop, 65, 36, 0, 0, 0, [], sg0)]
set_option maxRecDepth 100000 in
theorem okX5_init : Chk sgX5_init kX5_init := ⟨by decide +kernel, And.intro sgSX7_put (And.intro sgSX7_put trivial), tb_l2 [(1, 97), (1, 22), (1, 23), (1, 53), (1, 101), (1, 53), (1, 102), (1, 53), (1, 103), (1, 101), (1, 103), (1, 104)] (by decide +kernel) (by decide +kernel), nw_l2 [(1, 98), (1, 98)] (by decide +kernel) (by decide +kernel), by decide +kernel⟩
set_option maxRecDepth 100000 in
def kX5_add : List Row := [(.aload_n 0, 0, 1, 0, 0, 0, [], sg0),
  (.getfield 25, 1, 2, 5, 3, 0, [], sg0),
  (.bipush 6, 4, 3, 0, 0, 6, [], sg0),
  (.if_icmp .lt 4, 6, 4, 5, 0, 0, [], sg0),
  (.return_, 9, 5, 0, 0, 0, [], sg0),
  (.iconst 0, 10, 6, 0, 0, 0, [], sg0),
  (.istore_n 2, 11, 7, 0, 0, 0, [], sg0),
  (.iload_n 2, 12, 8, 0, 0, 0, [], sg0),
  (.iconst 5, 13, 9, 0, 0, 5, [], sg0),
  (.if_icmp .ge 70, 14, 10, 48, 0, 0, [], sg0),
  (.aload_n 0, 17, 11, 0, 0, 0, [], sg0),
  (.getfield 25, 18, 12, 5, 3, 0, [], sg0),
  (.iconst 5, 21, 13, 0, 0, 5, [], sg0),
  (.imul, 22, 14, 0, 0, 0, [], sg0),
  (.iload_n 2, 23, 15, 0, 0, 0, [], sg0),
  (.iadd, 24, 16, 0, 0, 0, [], sg0),
  (.istore_n 3, 25, 17, 0, 0, 0, [], sg0),
  (.aload_n 0, 26, 18, 0, 0, 0, [], sg0),
  (.getfield 9, 27, 19, 5, 0, 0, [], sg0),
  (.iload_n 3, 30, 20, 0, 0, 0, [], sg0),
  (.aload_n 1, 31, 21, 0, 0, 0, [], sg0),
  (.iconst 0, 32, 22, 0, 0, 0, [], sg0),
  (.iload_n 2, 33, 23, 0, 0, 0, [], sg0),
  (.invokevirtual 29, 34, 24, 0, 0, 1, [], sgX0_truths),
  (.invokestatic 21, 37, 25, 0, 0, 1, [], sgX7_put),
  (.aload_n 0, 40, 26, 0, 0, 0, [], sg0),
  (.getfield 15, 41, 27, 5, 1, 0, [], sg0),
  (.iload_n 3, 44, 28, 0, 0, 0, [], sg0),
  (.aload_n 1, 45, 29, 0, 0, 0, [], sg0),
  (.iconst 1, 46, 30, 0, 0, 1, [], sg0),
  (.iload_n 2, 47, 31, 0, 0, 0, [], sg0),
  (.invokevirtual 29, 48, 32, 0, 0, 1, [], sgX0_truths),
  (.invokestatic 21, 51, 33, 0, 0, 1, [], sgX7_put),
  (.aload_n 0, 54, 34, 0, 0, 0, [], sg0),
  (.getfield 18, 55, 35, 5, 2, 0, [], sg0),
  (.iload_n 3, 58, 36, 0, 0, 0, [], sg0),
  (.iconst 0, 59, 37, 0, 0, 0, [], sg0),
  (.bipush 99, 60, 38, 0, 0, 99, [], sg0),
  (.aload_n 1, 62, 39, 0, 0, 0, [], sg0),
  (.iconst 2, 63, 40, 0, 0, 2, [], sg0),
  (.iconst 0, 64, 41, 0, 0, 0, [], sg0),
  (.iload_n 2, 65, 42, 0, 0, 0, [], sg0),
  (.invokevirtual 35, 66, 43, 0, 0, 1, [], sgX0_valueOf),
  (.invokestatic 39, 69, 44, 0, 8, 0, [], sg0),
  (.invokestatic 44, 72, 45, 0, 7, 0, [], sg0),
  (.invokestatic 21, 75, 46, 0, 0, 1, [], sgX7_put),
  (.iinc 2 1, 78, 47, 0, 0, 1, [], sg0),
  (.goto (-69), 81, 48, 7, 0, 0, [], sg0),
  (.aload_n 0, 84, 49, 0, 0, 0, [], sg0),
  (.dup, 85, 50, 0, 0, 0, [], sg0),
  (.getfield 25, 86, 51, 5, 3, 0, [], sg0),
  (.iconst 1, 89, 52, 0, 0, 1, [], sg0),
  (.iadd, 90, 53, 0, 0, 0, [], sg0),
  (.putfield 25, 91, 54, 5, 3, 0, [], sg0),
  (.return_, 94, 55, 0, 0, 0, [], sg0),
  (.nop, 95, 56, 0, 0, 0, [], sg0)]
set_option maxRecDepth 100000 in
theorem okX5_add : Chk sgX5_add kX5_add := ⟨by decide +kernel, And.intro sgVX0_truths (And.intro sgSX7_put (And.intro sgVX0_truths (And.intro sgSX7_put (And.intro sgVX0_valueOf (And.intro sgSX7_put trivial))))), tb_l2 [(1, 104), (1, 104), (1, 101), (1, 102), (1, 103), (2, 174), (2, 175), (1, 14), (2, 176), (2, 177), (2, 178), (1, 14), (2, 179), (1, 104), (1, 104)] (by decide +kernel) (by decide +kernel), nw_l2 [(2, 146), (1, 98), (2, 146), (1, 98), (2, 173), (1, 98)] (by decide +kernel) (by decide +kernel), by decide +kernel⟩
set_option maxRecDepth 100000 in
def kX5_side : List Row := [(.iload_n 3, 0, 1, 0, 0, 0, [], sg0),
  (.ifCond .ne 10, 1, 2, 5, 0, 0, [], sg0),
  (.aload_n 0, 4, 3, 0, 0, 0, [], sg0),
  (.getfield 9, 5, 4, 5, 0, 0, [], sg0),
  (.goto 7, 8, 5, 7, 0, 0, [], sg0),
  (.aload_n 0, 11, 6, 0, 0, 0, [], sg0),
  (.getfield 15, 12, 7, 5, 1, 0, [], sg0),
  (.iload_n 1, 15, 8, 0, 0, 0, [], sg0),
  (.iconst 5, 16, 9, 0, 0, 5, [], sg0),
  (.imul, 17, 10, 0, 0, 0, [], sg0),
  (.iload_n 2, 18, 11, 0, 0, 0, [], sg0),
  (.iadd, 19, 12, 0, 0, 0, [], sg0),
  (.invokestatic 47, 20, 13, 0, 0, 1, [], sgX7_at),
  (.ireturn, 23, 14, 0, 0, 0, [], sg0),
  (.nop, 24, 15, 0, 0, 0, [], sg0)]
set_option maxRecDepth 100000 in
theorem okX5_side : Chk sgX5_side kX5_side := ⟨by decide +kernel, And.intro sgSX7_at trivial, tb_l2 [(1, 101), (1, 102)] (by decide +kernel) (by decide +kernel), nw_l2 [(2, 203)] (by decide +kernel) (by decide +kernel), by decide +kernel⟩
set_option maxRecDepth 100000 in
def kX5_costOf : List Row := [(.aload_n 0, 0, 1, 0, 0, 0, [], sg0),
  (.getfield 18, 1, 2, 5, 2, 0, [], sg0),
  (.iload_n 1, 4, 3, 0, 0, 0, [], sg0),
  (.iconst 5, 5, 4, 0, 0, 5, [], sg0),
  (.imul, 6, 5, 0, 0, 0, [], sg0),
  (.iload_n 2, 7, 6, 0, 0, 0, [], sg0),
  (.iadd, 8, 7, 0, 0, 0, [], sg0),
  (.invokestatic 47, 9, 8, 0, 0, 1, [], sgX7_at),
  (.ireturn, 12, 9, 0, 0, 0, [], sg0),
  (.nop, 13, 10, 0, 0, 0, [], sg0)]
set_option maxRecDepth 100000 in
theorem okX5_costOf : Chk sgX5_costOf kX5_costOf := ⟨by decide +kernel, And.intro sgSX7_at trivial, tb_l2 [(1, 103)] (by decide +kernel) (by decide +kernel), nw_l2 [(2, 203)] (by decide +kernel) (by decide +kernel), by decide +kernel⟩
set_option maxRecDepth 100000 in
def kX6_init : List Row := [(.aload_n 0, 0, 1, 0, 0, 0, [], sg0),
  (.invokespecial 3, 1, 2, 0, 9, 0, [], sg0),
  (.aload_n 0, 4, 3, 0, 0, 0, [], sg0),
  (.sipush 160, 5, 4, 0, 0, 160, [], sg0),
  (.newarray .int, 8, 5, 0, 0, 0, [], sg0),
  (.putfield 9, 10, 6, 6, 0, 0, [], sg0),
  (.return_, 13, 7, 0, 0, 0, [], sg0),
  (.nop, 14, 8, 0, 0, 0, [], sg0)]
set_option maxRecDepth 100000 in
theorem okX6_init : Chk sgX6_init kX6_init := ⟨by decide +kernel, trivial, tb_l2 [(1, 29), (1, 22), (1, 23), (1, 53), (1, 30)] (by decide +kernel) (by decide +kernel), nw_l2 [] (by decide +kernel) (by decide +kernel), by decide +kernel⟩
set_option maxRecDepth 100000 in
def kX6_append : List Row := [(.aload_n 0, 0, 1, 0, 0, 0, [], sg0),
  (.getfield 15, 1, 2, 6, 1, 0, [], sg0),
  (.sipush 160, 4, 3, 0, 0, 160, [], sg0),
  (.if_icmp .lt 4, 7, 4, 5, 0, 0, [], sg0),
  (.return_, 10, 5, 0, 0, 0, [], sg0),
  (.aload_n 0, 11, 6, 0, 0, 0, [], sg0),
  (.getfield 9, 12, 7, 6, 0, 0, [], sg0),
  (.aload_n 0, 15, 8, 0, 0, 0, [], sg0),
  (.getfield 15, 16, 9, 6, 1, 0, [], sg0),
  (.iload_n 1, 19, 10, 0, 0, 0, [], sg0),
  (.invokestatic 19, 20, 11, 0, 0, 1, [], sgX7_put),
  (.aload_n 0, 23, 12, 0, 0, 0, [], sg0),
  (.dup, 24, 13, 0, 0, 0, [], sg0),
  (.getfield 15, 25, 14, 6, 1, 0, [], sg0),
  (.iconst 1, 28, 15, 0, 0, 1, [], sg0),
  (.iadd, 29, 16, 0, 0, 0, [], sg0),
  (.putfield 15, 30, 17, 6, 1, 0, [], sg0),
  (.return_, 33, 18, 0, 0, 0, [], sg0),
  (.nop, 34, 19, 0, 0, 0, [], sg0)]
set_option maxRecDepth 100000 in
theorem okX6_append : Chk sgX6_append kX6_append := ⟨by decide +kernel, And.intro sgSX7_put trivial, tb_l2 [(1, 31), (1, 30), (1, 31), (1, 31), (1, 31)] (by decide +kernel) (by decide +kernel), nw_l2 [(1, 233)] (by decide +kernel) (by decide +kernel), by decide +kernel⟩
set_option maxRecDepth 100000 in
def kX6_start : List Row := [(.aload_n 0, 0, 1, 0, 0, 0, [], sg0),
  (.iconst 0, 1, 2, 0, 0, 0, [], sg0),
  (.putfield 23, 2, 3, 6, 5, 0, [], sg0),
  (.aload_n 0, 5, 4, 0, 0, 0, [], sg0),
  (.invokevirtual 26, 6, 5, 6, 0, 0, [], sgX6_advance),
  (.return_, 9, 6, 0, 0, 0, [], sg0),
  (.nop, 10, 7, 0, 0, 0, [], sg0)]
set_option maxRecDepth 100000 in
theorem okX6_start : Chk sgX6_start kX6_start := ⟨by decide +kernel, And.intro sgVX6_advance trivial, tb_l2 [(1, 39), (2, 6)] (by decide +kernel) (by decide +kernel), nw_l2 [] (by decide +kernel) (by decide +kernel), by decide +kernel⟩
set_option maxRecDepth 100000 in
def kX6_advance : List Row := [(.aload_n 0, 0, 1, 0, 0, 0, [], sg0),
  (.aload_n 0, 1, 2, 0, 0, 0, [], sg0),
  (.getfield 23, 2, 3, 6, 5, 0, [], sg0),
  (.putfield 29, 5, 4, 6, 4, 0, [], sg0),
  (.iconst 0, 8, 5, 0, 0, 0, [], sg0),
  (.istore_n 1, 9, 6, 0, 0, 0, [], sg0),
  (.iload_n 1, 10, 7, 0, 0, 0, [], sg0),
  (.sipush 160, 11, 8, 0, 0, 160, [], sg0),
  (.if_icmp .ge 47, 14, 9, 29, 0, 0, [], sg0),
  (.aload_n 0, 17, 10, 0, 0, 0, [], sg0),
  (.getfield 29, 18, 11, 6, 4, 0, [], sg0),
  (.aload_n 0, 21, 12, 0, 0, 0, [], sg0),
  (.getfield 15, 22, 13, 6, 1, 0, [], sg0),
  (.if_icmp .ge 36, 25, 14, 29, 0, 0, [], sg0),
  (.aload_n 0, 28, 15, 0, 0, 0, [], sg0),
  (.getfield 9, 29, 16, 6, 0, 0, [], sg0),
  (.aload_n 0, 32, 17, 0, 0, 0, [], sg0),
  (.getfield 29, 33, 18, 6, 4, 0, [], sg0),
  (.invokestatic 32, 36, 19, 0, 0, 1, [], sgX7_at),
  (.invokestatic 36, 39, 20, 0, 0, 0, [], sgX6_isBlank),
  (.ifCond .eq 19, 42, 21, 29, 0, 0, [], sg0),
  (.aload_n 0, 45, 22, 0, 0, 0, [], sg0),
  (.dup, 46, 23, 0, 0, 0, [], sg0),
  (.getfield 29, 47, 24, 6, 4, 0, [], sg0),
  (.iconst 1, 50, 25, 0, 0, 1, [], sg0),
  (.iadd, 51, 26, 0, 0, 0, [], sg0),
  (.putfield 29, 52, 27, 6, 4, 0, [], sg0),
  (.iinc 1 1, 55, 28, 0, 0, 1, [], sg0),
  (.goto (-48), 58, 29, 6, 0, 0, [], sg0),
  (.aload_n 0, 61, 30, 0, 0, 0, [], sg0),
  (.iconst 0, 62, 31, 0, 0, 0, [], sg0),
  (.putfield 40, 63, 32, 6, 3, 0, [], sg0),
  (.aload_n 0, 66, 33, 0, 0, 0, [], sg0),
  (.getfield 29, 67, 34, 6, 4, 0, [], sg0),
  (.aload_n 0, 70, 35, 0, 0, 0, [], sg0),
  (.getfield 15, 71, 36, 6, 1, 0, [], sg0),
  (.if_icmp .lt 19, 74, 37, 45, 0, 0, [], sg0),
  (.aload_n 0, 77, 38, 0, 0, 0, [], sg0),
  (.aload_n 0, 78, 39, 0, 0, 0, [], sg0),
  (.getfield 29, 79, 40, 6, 4, 0, [], sg0),
  (.putfield 23, 82, 41, 6, 5, 0, [], sg0),
  (.aload_n 0, 85, 42, 0, 0, 0, [], sg0),
  (.iconst 0, 86, 43, 0, 0, 0, [], sg0),
  (.putfield 43, 87, 44, 6, 2, 0, [], sg0),
  (.goto 97, 90, 45, 87, 0, 0, [], sg0),
  (.aload_n 0, 93, 46, 0, 0, 0, [], sg0),
  (.getfield 9, 94, 47, 6, 0, 0, [], sg0),
  (.aload_n 0, 97, 48, 0, 0, 0, [], sg0),
  (.getfield 29, 98, 49, 6, 4, 0, [], sg0),
  (.invokestatic 32, 101, 50, 0, 0, 1, [], sgX7_at),
  (.invokestatic 46, 104, 51, 0, 0, 0, [], sgX6_isLetter),
  (.ifCond .eq 10, 107, 52, 55, 0, 0, [], sg0),
  (.aload_n 0, 110, 53, 0, 0, 0, [], sg0),
  (.invokevirtual 49, 111, 54, 6, 0, 0, [], sgX6_readWord),
  (.goto 73, 114, 55, 87, 0, 0, [], sg0),
  (.aload_n 0, 117, 56, 0, 0, 0, [], sg0),
  (.getfield 9, 118, 57, 6, 0, 0, [], sg0),
  (.aload_n 0, 121, 58, 0, 0, 0, [], sg0),
  (.getfield 29, 122, 59, 6, 4, 0, [], sg0),
  (.invokestatic 32, 125, 60, 0, 0, 1, [], sgX7_at),
  (.invokestatic 52, 128, 61, 0, 0, 0, [], sgX6_isDigit),
  (.ifCond .eq 10, 131, 62, 65, 0, 0, [], sg0),
  (.aload_n 0, 134, 63, 0, 0, 0, [], sg0),
  (.invokevirtual 55, 135, 64, 6, 0, 0, [], sgX6_readNumber),
  (.goto 49, 138, 65, 87, 0, 0, [], sg0),
  (.aload_n 0, 141, 66, 0, 0, 0, [], sg0),
  (.aload_n 0, 142, 67, 0, 0, 0, [], sg0),
  (.getfield 29, 143, 68, 6, 4, 0, [], sg0),
  (.iconst 1, 146, 69, 0, 0, 1, [], sg0),
  (.iadd, 147, 70, 0, 0, 0, [], sg0),
  (.putfield 23, 148, 71, 6, 5, 0, [], sg0),
  (.aload_n 0, 151, 72, 0, 0, 0, [], sg0),
  (.aload_n 0, 152, 73, 0, 0, 0, [], sg0),
  (.getfield 9, 153, 74, 6, 0, 0, [], sg0),
  (.aload_n 0, 156, 75, 0, 0, 0, [], sg0),
  (.getfield 29, 157, 76, 6, 4, 0, [], sg0),
  (.invokestatic 32, 160, 77, 0, 0, 1, [], sgX7_at),
  (.invokestatic 58, 163, 78, 0, 0, 0, [], sgX6_isSign),
  (.ifCond .eq 17, 166, 79, 85, 0, 0, [], sg0),
  (.aload_n 0, 169, 80, 0, 0, 0, [], sg0),
  (.getfield 9, 170, 81, 6, 0, 0, [], sg0),
  (.aload_n 0, 173, 82, 0, 0, 0, [], sg0),
  (.getfield 29, 174, 83, 6, 4, 0, [], sg0),
  (.invokestatic 32, 177, 84, 0, 0, 1, [], sgX7_at),
  (.goto 4, 180, 85, 86, 0, 0, [], sg0),
  (.iconst 1, 183, 86, 0, 0, 1, [], sg0),
  (.putfield 43, 184, 87, 6, 2, 0, [], sg0),
  (.return_, 187, 88, 0, 0, 0, [], sg0),
  (.nop, 188, 89, 0, 0, 0, [], sg0)]
set_option maxRecDepth 100000 in
theorem okX6_advance : Chk sgX6_advance kX6_advance := ⟨by decide +kernel, And.intro sgSX7_at (And.intro sgSX6_isBlank (And.intro sgSX7_at (And.intro sgSX6_isLetter (And.intro sgVX6_readWord (And.intro sgSX7_at (And.intro sgSX6_isDigit (And.intro sgVX6_readNumber (And.intro sgSX7_at (And.intro sgSX6_isSign (And.intro sgSX7_at trivial)))))))))), tb_l2 [(1, 39), (1, 37), (1, 37), (1, 31), (1, 30), (1, 37), (2, 13), (1, 37), (1, 37), (1, 35), (1, 37), (1, 31), (1, 37), (1, 39), (1, 34), (1, 30), (1, 37), (2, 16), (2, 19), (1, 30), (1, 37), (2, 82), (2, 85), (1, 37), (1, 39), (1, 30), (1, 37), (2, 89), (1, 30), (1, 37), (1, 34)] (by decide +kernel) (by decide +kernel), nw_l2 [(2, 10), (2, 10), (2, 10), (2, 10), (2, 10)] (by decide +kernel) (by decide +kernel), by decide +kernel⟩
set_option maxRecDepth 100000 in
def kX6_readWord : List Row := [(.aload_n 0, 0, 1, 0, 0, 0, [], sg0),
  (.aload_n 0, 1, 2, 0, 0, 0, [], sg0),
  (.getfield 29, 2, 3, 6, 4, 0, [], sg0),
  (.putfield 23, 5, 4, 6, 5, 0, [], sg0),
  (.iconst 0, 8, 5, 0, 0, 0, [], sg0),
  (.istore_n 1, 9, 6, 0, 0, 0, [], sg0),
  (.iload_n 1, 10, 7, 0, 0, 0, [], sg0),
  (.sipush 160, 11, 8, 0, 0, 160, [], sg0),
  (.if_icmp .ge 47, 14, 9, 29, 0, 0, [], sg0),
  (.aload_n 0, 17, 10, 0, 0, 0, [], sg0),
  (.getfield 23, 18, 11, 6, 5, 0, [], sg0),
  (.aload_n 0, 21, 12, 0, 0, 0, [], sg0),
  (.getfield 15, 22, 13, 6, 1, 0, [], sg0),
  (.if_icmp .ge 36, 25, 14, 29, 0, 0, [], sg0),
  (.aload_n 0, 28, 15, 0, 0, 0, [], sg0),
  (.getfield 9, 29, 16, 6, 0, 0, [], sg0),
  (.aload_n 0, 32, 17, 0, 0, 0, [], sg0),
  (.getfield 23, 33, 18, 6, 5, 0, [], sg0),
  (.invokestatic 32, 36, 19, 0, 0, 1, [], sgX7_at),
  (.invokestatic 46, 39, 20, 0, 0, 0, [], sgX6_isLetter),
  (.ifCond .eq 19, 42, 21, 29, 0, 0, [], sg0),
  (.aload_n 0, 45, 22, 0, 0, 0, [], sg0),
  (.dup, 46, 23, 0, 0, 0, [], sg0),
  (.getfield 23, 47, 24, 6, 5, 0, [], sg0),
  (.iconst 1, 50, 25, 0, 0, 1, [], sg0),
  (.iadd, 51, 26, 0, 0, 0, [], sg0),
  (.putfield 23, 52, 27, 6, 5, 0, [], sg0),
  (.iinc 1 1, 55, 28, 0, 0, 1, [], sg0),
  (.goto (-48), 58, 29, 6, 0, 0, [], sg0),
  (.aload_n 0, 61, 30, 0, 0, 0, [], sg0),
  (.getfield 9, 62, 31, 6, 0, 0, [], sg0),
  (.aload_n 0, 65, 32, 0, 0, 0, [], sg0),
  (.getfield 29, 66, 33, 6, 4, 0, [], sg0),
  (.invokestatic 32, 69, 34, 0, 0, 1, [], sgX7_at),
  (.bipush 97, 72, 35, 0, 0, 97, [], sg0),
  (.isub, 74, 36, 0, 0, 0, [], sg0),
  (.istore_n 1, 75, 37, 0, 0, 0, [], sg0),
  (.aload_n 0, 76, 38, 0, 0, 0, [], sg0),
  (.getfield 23, 77, 39, 6, 5, 0, [], sg0),
  (.aload_n 0, 80, 40, 0, 0, 0, [], sg0),
  (.getfield 29, 81, 41, 6, 4, 0, [], sg0),
  (.isub, 84, 42, 0, 0, 0, [], sg0),
  (.iconst 1, 85, 43, 0, 0, 1, [], sg0),
  (.if_icmp .ne 12, 86, 44, 49, 0, 0, [], sg0),
  (.iload_n 1, 89, 45, 0, 0, 0, [], sg0),
  (.iconst 5, 90, 46, 0, 0, 5, [], sg0),
  (.if_icmp .ge 7, 91, 47, 49, 0, 0, [], sg0),
  (.iconst 1, 94, 48, 0, 0, 1, [], sg0),
  (.goto 4, 95, 49, 50, 0, 0, [], sg0),
  (.iconst 0, 98, 50, 0, 0, 0, [], sg0),
  (.istore_n 2, 99, 51, 0, 0, 0, [], sg0),
  (.aload_n 0, 100, 52, 0, 0, 0, [], sg0),
  (.iload_n 2, 101, 53, 0, 0, 0, [], sg0),
  (.ifCond .eq 7, 102, 54, 56, 0, 0, [], sg0),
  (.iload_n 1, 105, 55, 0, 0, 0, [], sg0),
  (.goto 4, 106, 56, 57, 0, 0, [], sg0),
  (.iconst 5, 109, 57, 0, 0, 5, [], sg0),
  (.putfield 40, 110, 58, 6, 3, 0, [], sg0),
  (.iload_n 2, 113, 59, 0, 0, 0, [], sg0),
  (.ifCond .ne 12, 114, 60, 64, 0, 0, [], sg0),
  (.aload_n 0, 117, 61, 0, 0, 0, [], sg0),
  (.ldc 61, 118, 62, 50, 0, 0, [], sg0),
  (.invokevirtual 63, 120, 63, 6, 0, 0, [], sgX6_spells),
  (.ifCond .eq 11, 123, 64, 68, 0, 0, [], sg0),
  (.aload_n 0, 126, 65, 0, 0, 0, [], sg0),
  (.iconst 3, 127, 66, 0, 0, 3, [], sg0),
  (.putfield 43, 128, 67, 6, 2, 0, [], sg0),
  (.goto 110, 131, 68, 117, 0, 0, [], sg0),
  (.aload_n 0, 134, 69, 0, 0, 0, [], sg0),
  (.ldc 67, 135, 70, 50, 1, 0, [], sg0),
  (.invokevirtual 63, 137, 71, 6, 0, 0, [], sgX6_spells),
  (.ifCond .eq 11, 140, 72, 76, 0, 0, [], sg0),
  (.aload_n 0, 143, 73, 0, 0, 0, [], sg0),
  (.iconst 4, 144, 74, 0, 0, 4, [], sg0),
  (.putfield 43, 145, 75, 6, 2, 0, [], sg0),
  (.goto 93, 148, 76, 117, 0, 0, [], sg0),
  (.aload_n 0, 151, 77, 0, 0, 0, [], sg0),
  (.ldc 69, 152, 78, 50, 2, 0, [], sg0),
  (.invokevirtual 63, 154, 79, 6, 0, 0, [], sgX6_spells),
  (.ifCond .eq 11, 157, 80, 84, 0, 0, [], sg0),
  (.aload_n 0, 160, 81, 0, 0, 0, [], sg0),
  (.iconst 5, 161, 82, 0, 0, 5, [], sg0),
  (.putfield 43, 162, 83, 6, 2, 0, [], sg0),
  (.goto 76, 165, 84, 117, 0, 0, [], sg0),
  (.aload_n 0, 168, 85, 0, 0, 0, [], sg0),
  (.ldc 71, 169, 86, 50, 3, 0, [], sg0),
  (.invokevirtual 63, 171, 87, 6, 0, 0, [], sgX6_spells),
  (.ifCond .eq 12, 174, 88, 92, 0, 0, [], sg0),
  (.aload_n 0, 177, 89, 0, 0, 0, [], sg0),
  (.bipush 6, 178, 90, 0, 0, 6, [], sg0),
  (.putfield 43, 180, 91, 6, 2, 0, [], sg0),
  (.goto 58, 183, 92, 117, 0, 0, [], sg0),
  (.aload_n 0, 186, 93, 0, 0, 0, [], sg0),
  (.ldc 73, 187, 94, 50, 4, 0, [], sg0),
  (.invokevirtual 63, 189, 95, 6, 0, 0, [], sgX6_spells),
  (.ifCond .eq 12, 192, 96, 100, 0, 0, [], sg0),
  (.aload_n 0, 195, 97, 0, 0, 0, [], sg0),
  (.bipush 7, 196, 98, 0, 0, 7, [], sg0),
  (.putfield 43, 198, 99, 6, 2, 0, [], sg0),
  (.goto 40, 201, 100, 117, 0, 0, [], sg0),
  (.aload_n 0, 204, 101, 0, 0, 0, [], sg0),
  (.ldc 75, 205, 102, 50, 5, 0, [], sg0),
  (.invokevirtual 63, 207, 103, 6, 0, 0, [], sgX6_spells),
  (.ifCond .eq 12, 210, 104, 108, 0, 0, [], sg0),
  (.aload_n 0, 213, 105, 0, 0, 0, [], sg0),
  (.bipush 8, 214, 106, 0, 0, 8, [], sg0),
  (.putfield 43, 216, 107, 6, 2, 0, [], sg0),
  (.goto 22, 219, 108, 117, 0, 0, [], sg0),
  (.aload_n 0, 222, 109, 0, 0, 0, [], sg0),
  (.aload_n 0, 223, 110, 0, 0, 0, [], sg0),
  (.ldc 77, 224, 111, 50, 6, 0, [], sg0),
  (.invokevirtual 63, 226, 112, 6, 0, 0, [], sgX6_spells),
  (.ifCond .eq 8, 229, 113, 115, 0, 0, [], sg0),
  (.bipush 9, 232, 114, 0, 0, 9, [], sg0),
  (.goto 4, 234, 115, 116, 0, 0, [], sg0),
  (.iconst 1, 237, 116, 0, 0, 1, [], sg0),
  (.putfield 43, 238, 117, 6, 2, 0, [], sg0),
  (.return_, 241, 118, 0, 0, 0, [], sg0),
  (.nop, 242, 119, 0, 0, 0, [], sg0)]
set_option maxRecDepth 100000 in
theorem okX6_readWord : Chk sgX6_readWord kX6_readWord := ⟨by decide +kernel, And.intro sgSX7_at (And.intro sgSX6_isLetter (And.intro sgSX7_at (And.intro sgVX6_spells (And.intro sgVX6_spells (And.intro sgVX6_spells (And.intro sgVX6_spells (And.intro sgVX6_spells (And.intro sgVX6_spells (And.intro sgVX6_spells trivial))))))))), tb_l2 [(1, 37), (1, 39), (1, 39), (1, 31), (1, 30), (1, 39), (2, 16), (1, 39), (1, 39), (1, 30), (1, 37), (1, 39), (1, 37), (1, 35), (2, 24), (1, 34), (2, 24), (1, 34), (2, 24), (1, 34), (2, 24), (1, 34), (2, 24), (1, 34), (2, 24), (1, 34), (2, 24), (1, 34)] (by decide +kernel) (by decide +kernel), nw_l2 [(2, 10), (2, 10)] (by decide +kernel) (by decide +kernel), by decide +kernel⟩
set_option maxRecDepth 100000 in
def kX6_spells : List Row := [(.aload_n 1, 0, 1, 0, 0, 0, [], sg0),
  (.ifnull 19, 1, 2, 10, 0, 0, [], sg0),
  (.aload_n 1, 4, 3, 0, 0, 0, [], sg0),
  (.invokevirtual 79, 5, 4, 50, 0, 0, [], sgJ0_length_8abf5),
  (.aload_n 0, 8, 5, 0, 0, 0, [], sg0),
  (.getfield 23, 9, 6, 6, 5, 0, [], sg0),
  (.aload_n 0, 12, 7, 0, 0, 0, [], sg0),
  (.getfield 29, 13, 8, 6, 4, 0, [], sg0),
  (.isub, 16, 9, 0, 0, 0, [], sg0),
  (.if_icmp .eq 5, 17, 10, 12, 0, 0, [], sg0),
  (.iconst 0, 20, 11, 0, 0, 0, [], sg0),
  (.ireturn, 21, 12, 0, 0, 0, [], sg0),
  (.iconst 0, 22, 13, 0, 0, 0, [], sg0),
  (.istore_n 2, 23, 14, 0, 0, 0, [], sg0),
  (.iload_n 2, 24, 15, 0, 0, 0, [], sg0),
  (.aload_n 1, 25, 16, 0, 0, 0, [], sg0),
  (.invokevirtual 79, 26, 17, 50, 0, 0, [], sgJ0_length_8abf5),
  (.if_icmp .ge 32, 29, 18, 33, 0, 0, [], sg0),
  (.aload_n 1, 32, 19, 0, 0, 0, [], sg0),
  (.iload_n 2, 33, 20, 0, 0, 0, [], sg0),
  (.invokevirtual 85, 34, 21, 50, 0, 0, [], sgJ0_charAt_5068e),
  (.aload_n 0, 37, 22, 0, 0, 0, [], sg0),
  (.getfield 9, 38, 23, 6, 0, 0, [], sg0),
  (.aload_n 0, 41, 24, 0, 0, 0, [], sg0),
  (.getfield 29, 42, 25, 6, 4, 0, [], sg0),
  (.iload_n 2, 45, 26, 0, 0, 0, [], sg0),
  (.iadd, 46, 27, 0, 0, 0, [], sg0),
  (.invokestatic 32, 47, 28, 0, 0, 1, [], sgX7_at),
  (.if_icmp .eq 5, 50, 29, 31, 0, 0, [], sg0),
  (.iconst 0, 53, 30, 0, 0, 0, [], sg0),
  (.ireturn, 54, 31, 0, 0, 0, [], sg0),
  (.iinc 2 1, 55, 32, 0, 0, 1, [], sg0),
  (.goto (-34), 58, 33, 14, 0, 0, [], sg0),
  (.iconst 1, 61, 34, 0, 0, 1, [], sg0),
  (.ireturn, 62, 35, 0, 0, 0, [], sg0),
  (.nop, 63, 36, 0, 0, 0, [], sg0)]
set_option maxRecDepth 100000 in
theorem okX6_spells : Chk sgX6_spells kX6_spells := ⟨by decide +kernel, And.intro sgQJ0_length_8abf5 (And.intro sgQJ0_length_8abf5 (And.intro sgQJ0_charAt_5068e (And.intro sgSX7_at trivial))), tb_l2 [(2, 28), (1, 39), (1, 37), (2, 28), (2, 38), (1, 30), (1, 37)] (by decide +kernel) (by decide +kernel), nw_l2 [(2, 10)] (by decide +kernel) (by decide +kernel), by decide +kernel⟩
set_option maxRecDepth 100000 in
def kX6_readNumber : List Row := [(.aload_n 0, 0, 1, 0, 0, 0, [], sg0),
  (.aload_n 0, 1, 2, 0, 0, 0, [], sg0),
  (.getfield 29, 2, 3, 6, 4, 0, [], sg0),
  (.putfield 23, 5, 4, 6, 5, 0, [], sg0),
  (.iconst 0, 8, 5, 0, 0, 0, [], sg0),
  (.istore_n 1, 9, 6, 0, 0, 0, [], sg0),
  (.iload_n 1, 10, 7, 0, 0, 0, [], sg0),
  (.sipush 160, 11, 8, 0, 0, 160, [], sg0),
  (.if_icmp .ge 73, 14, 9, 43, 0, 0, [], sg0),
  (.aload_n 0, 17, 10, 0, 0, 0, [], sg0),
  (.getfield 23, 18, 11, 6, 5, 0, [], sg0),
  (.aload_n 0, 21, 12, 0, 0, 0, [], sg0),
  (.getfield 15, 22, 13, 6, 1, 0, [], sg0),
  (.if_icmp .ge 62, 25, 14, 43, 0, 0, [], sg0),
  (.aload_n 0, 28, 15, 0, 0, 0, [], sg0),
  (.getfield 9, 29, 16, 6, 0, 0, [], sg0),
  (.aload_n 0, 32, 17, 0, 0, 0, [], sg0),
  (.getfield 23, 33, 18, 6, 5, 0, [], sg0),
  (.invokestatic 32, 36, 19, 0, 0, 1, [], sgX7_at),
  (.invokestatic 52, 39, 20, 0, 0, 0, [], sgX6_isDigit),
  (.ifCond .eq 45, 42, 21, 43, 0, 0, [], sg0),
  (.aload_n 0, 45, 22, 0, 0, 0, [], sg0),
  (.aload_n 0, 46, 23, 0, 0, 0, [], sg0),
  (.getfield 40, 47, 24, 6, 3, 0, [], sg0),
  (.bipush 10, 50, 25, 0, 0, 10, [], sg0),
  (.imul, 52, 26, 0, 0, 0, [], sg0),
  (.aload_n 0, 53, 27, 0, 0, 0, [], sg0),
  (.getfield 9, 54, 28, 6, 0, 0, [], sg0),
  (.aload_n 0, 57, 29, 0, 0, 0, [], sg0),
  (.getfield 23, 58, 30, 6, 5, 0, [], sg0),
  (.invokestatic 32, 61, 31, 0, 0, 1, [], sgX7_at),
  (.iadd, 64, 32, 0, 0, 0, [], sg0),
  (.bipush 48, 65, 33, 0, 0, 48, [], sg0),
  (.isub, 67, 34, 0, 0, 0, [], sg0),
  (.putfield 40, 68, 35, 6, 3, 0, [], sg0),
  (.aload_n 0, 71, 36, 0, 0, 0, [], sg0),
  (.dup, 72, 37, 0, 0, 0, [], sg0),
  (.getfield 23, 73, 38, 6, 5, 0, [], sg0),
  (.iconst 1, 76, 39, 0, 0, 1, [], sg0),
  (.iadd, 77, 40, 0, 0, 0, [], sg0),
  (.putfield 23, 78, 41, 6, 5, 0, [], sg0),
  (.iinc 1 1, 81, 42, 0, 0, 1, [], sg0),
  (.goto (-74), 84, 43, 6, 0, 0, [], sg0),
  (.aload_n 0, 87, 44, 0, 0, 0, [], sg0),
  (.aload_n 0, 88, 45, 0, 0, 0, [], sg0),
  (.getfield 23, 89, 46, 6, 5, 0, [], sg0),
  (.aload_n 0, 92, 47, 0, 0, 0, [], sg0),
  (.getfield 29, 93, 48, 6, 4, 0, [], sg0),
  (.isub, 96, 49, 0, 0, 0, [], sg0),
  (.iconst 4, 97, 50, 0, 0, 4, [], sg0),
  (.if_icmp .le 7, 98, 51, 53, 0, 0, [], sg0),
  (.iconst 1, 101, 52, 0, 0, 1, [], sg0),
  (.goto 4, 102, 53, 54, 0, 0, [], sg0),
  (.iconst 2, 105, 54, 0, 0, 2, [], sg0),
  (.putfield 43, 106, 55, 6, 2, 0, [], sg0),
  (.return_, 109, 56, 0, 0, 0, [], sg0),
  (.nop, 110, 57, 0, 0, 0, [], sg0)]
set_option maxRecDepth 100000 in
theorem okX6_readNumber : Chk sgX6_readNumber kX6_readNumber := ⟨by decide +kernel, And.intro sgSX7_at (And.intro sgSX6_isDigit (And.intro sgSX7_at trivial)), tb_l2 [(1, 37), (1, 39), (1, 39), (1, 31), (1, 30), (1, 39), (2, 82), (1, 35), (1, 30), (1, 39), (1, 35), (1, 39), (1, 39), (1, 39), (1, 37), (1, 34)] (by decide +kernel) (by decide +kernel), nw_l2 [(2, 10), (2, 10)] (by decide +kernel) (by decide +kernel), by decide +kernel⟩
set_option maxRecDepth 100000 in
def kX6_isBlank : List Row := [(.iload_n 0, 0, 1, 0, 0, 0, [], sg0),
  (.bipush 32, 1, 2, 0, 0, 32, [], sg0),
  (.if_icmp .eq 9, 3, 3, 6, 0, 0, [], sg0),
  (.iload_n 0, 6, 4, 0, 0, 0, [], sg0),
  (.bipush 10, 7, 5, 0, 0, 10, [], sg0),
  (.if_icmp .ne 7, 9, 6, 8, 0, 0, [], sg0),
  (.iconst 1, 12, 7, 0, 0, 1, [], sg0),
  (.goto 4, 13, 8, 9, 0, 0, [], sg0),
  (.iconst 0, 16, 9, 0, 0, 0, [], sg0),
  (.ireturn, 17, 10, 0, 0, 0, [], sg0),
  (.nop, 18, 11, 0, 0, 0, [], sg0)]
set_option maxRecDepth 100000 in
theorem okX6_isBlank : Chk sgX6_isBlank kX6_isBlank := ⟨by decide +kernel, trivial, tb_l2 [] (by decide +kernel) (by decide +kernel), nw_l2 [] (by decide +kernel) (by decide +kernel), by decide +kernel⟩
set_option maxRecDepth 100000 in
def kX6_isLetter : List Row := [(.iload_n 0, 0, 1, 0, 0, 0, [], sg0),
  (.bipush 97, 1, 2, 0, 0, 97, [], sg0),
  (.if_icmp .lt 13, 3, 3, 8, 0, 0, [], sg0),
  (.iload_n 0, 6, 4, 0, 0, 0, [], sg0),
  (.bipush 122, 7, 5, 0, 0, 122, [], sg0),
  (.if_icmp .gt 7, 9, 6, 8, 0, 0, [], sg0),
  (.iconst 1, 12, 7, 0, 0, 1, [], sg0),
  (.goto 4, 13, 8, 9, 0, 0, [], sg0),
  (.iconst 0, 16, 9, 0, 0, 0, [], sg0),
  (.ireturn, 17, 10, 0, 0, 0, [], sg0),
  (.nop, 18, 11, 0, 0, 0, [], sg0)]
set_option maxRecDepth 100000 in
theorem okX6_isLetter : Chk sgX6_isLetter kX6_isLetter := ⟨by decide +kernel, trivial, tb_l2 [] (by decide +kernel) (by decide +kernel), nw_l2 [] (by decide +kernel) (by decide +kernel), by decide +kernel⟩
set_option maxRecDepth 100000 in
def kX6_isDigit : List Row := [(.iload_n 0, 0, 1, 0, 0, 0, [], sg0),
  (.bipush 48, 1, 2, 0, 0, 48, [], sg0),
  (.if_icmp .lt 13, 3, 3, 8, 0, 0, [], sg0),
  (.iload_n 0, 6, 4, 0, 0, 0, [], sg0),
  (.bipush 57, 7, 5, 0, 0, 57, [], sg0),
  (.if_icmp .gt 7, 9, 6, 8, 0, 0, [], sg0),
  (.iconst 1, 12, 7, 0, 0, 1, [], sg0),
  (.goto 4, 13, 8, 9, 0, 0, [], sg0),
  (.iconst 0, 16, 9, 0, 0, 0, [], sg0),
  (.ireturn, 17, 10, 0, 0, 0, [], sg0),
  (.nop, 18, 11, 0, 0, 0, [], sg0)]
set_option maxRecDepth 100000 in
theorem okX6_isDigit : Chk sgX6_isDigit kX6_isDigit := ⟨by decide +kernel, trivial, tb_l2 [] (by decide +kernel) (by decide +kernel), nw_l2 [] (by decide +kernel) (by decide +kernel), by decide +kernel⟩
set_option maxRecDepth 100000 in
def kX6_isSign : List Row := [(.iload_n 0, 0, 1, 0, 0, 0, [], sg0),
  (.tableswitch 105 40 61 #[103, 103, 103, 103, 105, 103, 105, 105, 105, 105, 105, 105, 105, 105, 105, 105, 105, 105, 105, 103, 103, 103], 1, 2, 4, 0, 0, [2, 2, 2, 2, 4, 2, 4, 4, 4, 4, 4, 4, 4, 4, 4, 4, 4, 4, 4, 2, 2, 2], sg0),
  (.iconst 1, 104, 3, 0, 0, 1, [], sg0),
  (.ireturn, 105, 4, 0, 0, 0, [], sg0),
  (.iconst 0, 106, 5, 0, 0, 0, [], sg0),
  (.ireturn, 107, 6, 0, 0, 0, [], sg0),
  (.nop, 108, 7, 0, 0, 0, [], sg0)]
set_option maxRecDepth 100000 in
theorem okX6_isSign : Chk sgX6_isSign kX6_isSign := ⟨by decide +kernel, trivial, tb_l2 [] (by decide +kernel) (by decide +kernel), nw_l2 [] (by decide +kernel) (by decide +kernel), by decide +kernel⟩
set_option maxRecDepth 100000 in
def kJ0_length_8abf5 : List Row := [(.aload_n 0, 0, 1, 0, 0, 0, [], sg0),
  (.getfield 9, 1, 2, 50, 1, 0, [], sg0),
  (.arraylength, 4, 3, 0, 0, 0, [], sg0),
  (.aload_n 0, 5, 4, 0, 0, 0, [], sg0),
  (.invokevirtual 335, 6, 5, 50, 0, 0, [], sgJ0_coder_7d493),
  (.ishr, 9, 6, 0, 0, 0, [], sg0),
  (.ireturn, 10, 7, 0, 0, 0, [], sg0),
  (.nop, 11, 8, 0, 0, 0, [], sg0)]
set_option maxRecDepth 100000 in
theorem okJ0_length_8abf5 : Chk sgJ0_length_8abf5 kJ0_length_8abf5 := ⟨by decide +kernel, And.intro sgQJ0_coder_7d493 trivial, tb_l2 [(6, 62), (2, 32)] (by decide +kernel) (by decide +kernel), nw_l2 [] (by decide +kernel) (by decide +kernel), by decide +kernel⟩
set_option maxRecDepth 100000 in
def kJ0_charAt_5068e : List Row := [(.aload_n 0, 0, 1, 0, 0, 0, [], sg0),
  (.invokevirtual 492, 1, 2, 50, 0, 0, [], sgJ0_isLatin1_aae02),
  (.ifCond .eq 12, 4, 3, 8, 0, 0, [], sg0),
  (.aload_n 0, 7, 4, 0, 0, 0, [], sg0),
  (.getfield 9, 8, 5, 50, 1, 0, [], sg0),
  (.iload_n 1, 11, 6, 0, 0, 0, [], sg0),
  (.invokestatic 495, 12, 7, 0, 0, 0, [], sgJ1_charAt_3b067),
  (.ireturn, 15, 8, 0, 0, 0, [], sg0),
  (.aload_n 0, 16, 9, 0, 0, 0, [], sg0),
  (.getfield 9, 17, 10, 50, 1, 0, [], sg0),
  (.iload_n 1, 20, 11, 0, 0, 0, [], sg0),
  (.invokestatic 498, 21, 12, 0, 0, 0, [], sgJ2_charAt_3b067),
  (.ireturn, 24, 13, 0, 0, 0, [], sg0),
  (.nop, 25, 14, 0, 0, 0, [], sg0)]
set_option maxRecDepth 100000 in
theorem okJ0_charAt_5068e : Chk sgJ0_charAt_5068e kJ0_charAt_5068e := ⟨by decide +kernel, And.intro sgQJ0_isLatin1_aae02 (And.intro sgSJ1_charAt_3b067 (And.intro sgSJ2_charAt_3b067 trivial)), tb_l2 [(2, 42), (6, 62), (2, 46), (6, 62), (2, 57)] (by decide +kernel) (by decide +kernel), nw_l2 [] (by decide +kernel) (by decide +kernel), by decide +kernel⟩
set_option maxRecDepth 100000 in
def kJ0_coder_7d493 : List Row := [(.getstatic 38, 0, 1, 51, 0, 0, [], sg0),
  (.ifCond .eq 10, 3, 2, 5, 0, 0, [], sg0),
  (.aload_n 0, 6, 3, 0, 0, 0, [], sg0),
  (.getfield 15, 7, 4, 50, 0, 0, [], sg0),
  (.goto 4, 10, 5, 6, 0, 0, [], sg0),
  (.iconst 1, 13, 6, 0, 0, 1, [], sg0),
  (.ireturn, 14, 7, 0, 0, 0, [], sg0),
  (.nop, 15, 8, 0, 0, 0, [], sg0)]
set_option maxRecDepth 100000 in
theorem okJ0_coder_7d493 : Chk sgJ0_coder_7d493 kJ0_coder_7d493 := ⟨by decide +kernel, trivial, tb_l2 [(2, 36), (6, 63)] (by decide +kernel) (by decide +kernel), nw_l2 [] (by decide +kernel) (by decide +kernel), by decide +kernel⟩
set_option maxRecDepth 100000 in
def kJ0_isLatin1_aae02 : List Row := [(.getstatic 38, 0, 1, 51, 0, 0, [], sg0),
  (.ifCond .eq 14, 3, 2, 7, 0, 0, [], sg0),
  (.aload_n 0, 6, 3, 0, 0, 0, [], sg0),
  (.getfield 15, 7, 4, 50, 0, 0, [], sg0),
  (.ifCond .ne 7, 10, 5, 7, 0, 0, [], sg0),
  (.iconst 1, 13, 6, 0, 0, 1, [], sg0),
  (.goto 4, 14, 7, 8, 0, 0, [], sg0),
  (.iconst 0, 17, 8, 0, 0, 0, [], sg0),
  (.ireturn, 18, 9, 0, 0, 0, [], sg0),
  (.nop, 19, 10, 0, 0, 0, [], sg0)]
set_option maxRecDepth 100000 in
theorem okJ0_isLatin1_aae02 : Chk sgJ0_isLatin1_aae02 kJ0_isLatin1_aae02 := ⟨by decide +kernel, trivial, tb_l2 [(2, 36), (6, 63)] (by decide +kernel) (by decide +kernel), nw_l2 [] (by decide +kernel) (by decide +kernel), by decide +kernel⟩
set_option maxRecDepth 100000 in
def kJ0_checkIndex_df160 : List Row := [(.iload_n 0, 0, 1, 0, 0, 0, [], sg0),
  (.iload_n 1, 1, 2, 0, 0, 0, [], sg0),
  (.getstatic 1053, 2, 3, 52, 0, 0, [], sg0),
  (.invokestatic 1059, 5, 4, 0, 0, 0, [], sgJ3_checkIndex_8e157),
  (.pop, 8, 5, 0, 0, 0, [], sg0),
  (.return_, 9, 6, 0, 0, 0, [], sg0),
  (.nop, 10, 7, 0, 0, 0, [], sg0)]
set_option maxRecDepth 100000 in
theorem okJ0_checkIndex_df160 : Chk sgJ0_checkIndex_df160 kJ0_checkIndex_df160 := ⟨by decide +kernel, And.intro sgSJ3_checkIndex_8e157 trivial, tb_l2 [(2, 52), (2, 54)] (by decide +kernel) (by decide +kernel), nw_l2 [] (by decide +kernel) (by decide +kernel), by decide +kernel⟩
set_option maxRecDepth 100000 in
def kJ1_charAt_3b067 : List Row := [(.iload_n 1, 0, 1, 0, 0, 0, [], sg0),
  (.aload_n 0, 1, 2, 0, 0, 0, [], sg0),
  (.arraylength, 2, 3, 0, 0, 0, [], sg0),
  (.invokestatic 9, 3, 4, 0, 0, 0, [], sgJ0_checkIndex_df160),
  (.aload_n 0, 6, 5, 0, 0, 0, [], sg0),
  (.iload_n 1, 7, 6, 0, 0, 0, [], sg0),
  (.baload, 8, 7, 0, 0, 0, [], sg0),
  (.sipush 255, 9, 8, 0, 0, 255, [], sg0),
  (.iand, 12, 9, 0, 0, 0, [], sg0),
  (.i2c, 13, 10, 0, 0, 0, [], sg0),
  (.ireturn, 14, 11, 0, 0, 0, [], sg0),
  (.nop, 15, 12, 0, 0, 0, [], sg0)]
set_option maxRecDepth 100000 in
theorem okJ1_charAt_3b067 : Chk sgJ1_charAt_3b067 kJ1_charAt_3b067 := ⟨by decide +kernel, And.intro sgSJ0_checkIndex_df160 trivial, tb_l2 [(2, 49)] (by decide +kernel) (by decide +kernel), nw_l2 [] (by decide +kernel) (by decide +kernel), by decide +kernel⟩
set_option maxRecDepth 100000 in
def kJ3_checkIndex_8e157 : List Row := [(.iload_n 0, 0, 1, 0, 0, 0, [], sg0),
  (.ifCond .lt 8, 1, 2, 5, 0, 0, [], sg0),
  (.iload_n 0, 4, 3, 0, 0, 0, [], sg0),
  (.iload_n 1, 5, 4, 0, 0, 0, [], sg0),
  (.if_icmp .lt 10, 6, 5, 10, 0, 0, [], sg0),
  (.aload_n 2, 9, 6, 0, 0, 0, [], sg0),
  (.iload_n 0, 10, 7, 0, 0, 0, [], sg0),
  (.iload_n 1, 11, 8, 0, 0, 0, [], sg0),
  (.nop, 12, 9, 0, 0, 0, [], sg0),
  (.nop, 15, 10, 0, 0, 0, [], sg0),
  (.iload_n 0, 16, 11, 0, 0, 0, [], sg0),
  (.ireturn, 17, 12, 0, 0, 0, [], sg0),
  (.nop, 18, 13, 0, 0, 0, [], sg0)]
set_option maxRecDepth 100000 in
theorem okJ3_checkIndex_8e157 : Chk sgJ3_checkIndex_8e157 kJ3_checkIndex_8e157 := ⟨by decide +kernel, trivial, tb_l2 [] (by decide +kernel) (by decide +kernel), nw_l2 [] (by decide +kernel) (by decide +kernel), by decide +kernel⟩
end
section
set_option maxRecDepth 100000 in
def kX7_init : List Row := [(.aload_n 0, 0, 1, 0, 0, 0, [], sg0),
  (.invokespecial 1, 1, 2, 0, 9, 0, [], sg0),
  (.aload_n 0, 4, 3, 0, 0, 0, [], sg0),
  (.new 7, 5, 4, 6, 0, 0, [], sg0),
  (.dup, 8, 5, 0, 0, 0, [], sg0),
  (.invokespecial 9, 9, 6, 0, 0, 1, [], sgX6_init),
  (.putfield 10, 12, 7, 7, 0, 0, [], sg0),
  (.aload_n 0, 15, 8, 0, 0, 0, [], sg0),
  (.new 16, 16, 9, 0, 0, 0, [], sg0),
  (.dup, 19, 10, 0, 0, 0, [], sg0),
  (.invokespecial 18, 20, 11, 0, 0, 1, [], sgX0_init),
  (.putfield 19, 23, 12, 7, 1, 0, [], sg0),
  (.aload_n 0, 26, 13, 0, 0, 0, [], sg0),
  (.new 23, 27, 14, 1, 0, 0, [], sg0),
  (.dup, 30, 15, 0, 0, 0, [], sg0),
  (.aload_n 0, 31, 16, 0, 0, 0, [], sg0),
  (.getfield 10, 32, 17, 7, 0, 0, [], sg0),
  (.aload_n 0, 35, 18, 0, 0, 0, [], sg0),
  (.getfield 19, 36, 19, 7, 1, 0, [], sg0),
  (.invokespecial 25, 39, 20, 0, 0, 1, [], sgX1_init),
  (.putfield 28, 42, 21, 7, 2, 0, [], sg0),
  (.aload_n 0, 45, 22, 0, 0, 0, [], sg0),
  (.new 32, 46, 23, 5, 0, 0, [], sg0),
  (.dup, 49, 24, 0, 0, 0, [], sg0),
  (.invokespecial 34, 50, 25, 0, 0, 1, [], sgX5_init),
  (.putfield 35, 53, 26, 7, 3, 0, [], sg0),
  (.aload_n 0, 56, 27, 0, 0, 0, [], sg0),
  (.new 39, 57, 28, 4, 0, 0, [], sg0),
  (.dup, 60, 29, 0, 0, 0, [], sg0),
  (.invokespecial 41, 61, 30, 0, 0, 1, [], sgX4_init),
  (.putfield 42, 64, 31, 7, 4, 0, [], sg0),
  (.aload_n 0, 67, 32, 0, 0, 0, [], sg0),
  (.new 39, 68, 33, 4, 0, 0, [], sg0),
  (.dup, 71, 34, 0, 0, 0, [], sg0),
  (.invokespecial 41, 72, 35, 0, 0, 1, [], sgX4_init),
  (.putfield 46, 75, 36, 7, 5, 0, [], sg0),
  (.aload_n 0, 78, 37, 0, 0, 0, [], sg0),
  (.new 49, 79, 38, 3, 0, 0, [], sg0),
  (.dup, 82, 39, 0, 0, 0, [], sg0),
  (.invokespecial 51, 83, 40, 0, 0, 1, [], sgX3_init),
  (.putfield 52, 86, 41, 7, 6, 0, [], sg0),
  (.aload_n 0, 89, 42, 0, 0, 0, [], sg0),
  (.new 56, 90, 43, 2, 0, 0, [], sg0),
  (.dup, 93, 44, 0, 0, 0, [], sg0),
  (.invokespecial 58, 94, 45, 0, 0, 1, [], sgX2_init),
  (.putfield 59, 97, 46, 7, 7, 0, [], sg0),
  (.aload_n 0, 100, 47, 0, 0, 0, [], sg0),
  (.iconst 0, 101, 48, 0, 0, 0, [], sg0),
  (.putfield 63, 102, 49, 7, 8, 0, [], sg0),
  (.return_, 105, 50, 0, 0, 0, [], sg0),
  (.nop, 106, 51, 0, 0, 0, [], sg0)]
set_option maxRecDepth 100000 in
theorem okX7_init : Chk sgX7_init kX7_init := ⟨by decide +kernel, And.intro sgIX6_init (And.intro sgIX0_init (And.intro sgIX1_init (And.intro sgIX5_init (And.intro sgIX4_init (And.intro sgIX4_init (And.intro sgIX3_init (And.intro sgIX2_init trivial))))))), tb_l2 [(1, 21), (1, 22), (1, 23), (1, 24), (1, 25), (1, 2), (1, 190), (1, 54), (1, 55), (1, 3), (1, 191), (1, 79), (1, 80), (1, 4), (1, 190), (1, 191), (1, 192), (1, 92), (1, 93), (1, 5), (1, 193), (1, 115), (1, 116), (1, 6), (1, 194), (1, 115), (1, 116), (1, 6), (1, 195), (1, 145), (1, 146), (1, 7), (1, 196), (1, 167), (1, 168), (1, 8), (1, 197), (1, 198)] (by decide +kernel) (by decide +kernel), nw_l2 [(1, 26), (1, 56), (1, 81), (1, 94), (1, 117), (1, 117), (1, 147), (1, 169)] (by decide +kernel) (by decide +kernel), by decide +kernel⟩
set_option maxRecDepth 100000 in
def kX7_count : List Row := [(.iload_n 1, 0, 1, 0, 0, 0, [], sg0),
  (.tableswitch 75 0 4 #[35, 43, 51, 59, 67], 1, 2, 22, 0, 0, [2, 6, 10, 14, 18], sg0),
  (.aload_n 0, 36, 3, 0, 0, 0, [], sg0),
  (.getfield 42, 37, 4, 7, 4, 0, [], sg0),
  (.getfield 67, 40, 5, 4, 3, 1, [], sg0),
  (.ireturn, 43, 6, 0, 0, 0, [], sg0),
  (.aload_n 0, 44, 7, 0, 0, 0, [], sg0),
  (.getfield 42, 45, 8, 7, 4, 0, [], sg0),
  (.getfield 71, 48, 9, 4, 4, 1, [], sg0),
  (.ireturn, 51, 10, 0, 0, 0, [], sg0),
  (.aload_n 0, 52, 11, 0, 0, 0, [], sg0),
  (.getfield 35, 53, 12, 7, 3, 0, [], sg0),
  (.getfield 74, 56, 13, 5, 3, 1, [], sg0),
  (.ireturn, 59, 14, 0, 0, 0, [], sg0),
  (.aload_n 0, 60, 15, 0, 0, 0, [], sg0),
  (.getfield 42, 61, 16, 7, 4, 0, [], sg0),
  (.getfield 77, 64, 17, 4, 5, 1, [], sg0),
  (.ireturn, 67, 18, 0, 0, 0, [], sg0),
  (.aload_n 0, 68, 19, 0, 0, 0, [], sg0),
  (.getfield 10, 69, 20, 7, 0, 0, [], sg0),
  (.getfield 80, 72, 21, 6, 1, 1, [], sg0),
  (.ireturn, 75, 22, 0, 0, 0, [], sg0),
  (.bipush (-2), 76, 23, 0, 0, (-2), [], sg0),
  (.ireturn, 78, 24, 0, 0, 0, [], sg0),
  (.nop, 79, 25, 0, 0, 0, [], sg0)]
set_option maxRecDepth 100000 in
theorem okX7_count : Chk sgX7_count kX7_count := ⟨by decide +kernel, trivial, tb_l2 [(1, 194), (1, 194), (1, 193), (1, 194), (1, 190)] (by decide +kernel) (by decide +kernel), nw_l2 [(1, 126), (1, 128), (1, 105), (1, 130), (1, 32)] (by decide +kernel) (by decide +kernel), by decide +kernel⟩
set_option maxRecDepth 100000 in
def kX7_feed : List Row := [(.iload_n 1, 0, 1, 0, 0, 0, [], sg0),
  (.iconst 1, 1, 2, 0, 0, 1, [], sg0),
  (.if_icmp .lt 8, 2, 3, 6, 0, 0, [], sg0),
  (.iload_n 1, 5, 4, 0, 0, 0, [], sg0),
  (.iconst 5, 6, 5, 0, 0, 5, [], sg0),
  (.if_icmp .le 6, 7, 6, 8, 0, 0, [], sg0),
  (.bipush (-2), 10, 7, 0, 0, (-2), [], sg0),
  (.ireturn, 12, 8, 0, 0, 0, [], sg0),
  (.iload_n 2, 13, 9, 0, 0, 0, [], sg0),
  (.invokestatic 81, 14, 10, 0, 0, 0, [], sgX7_isByte),
  (.ifCond .eq 34, 17, 11, 23, 0, 0, [], sg0),
  (.iload_n 3, 20, 12, 0, 0, 0, [], sg0),
  (.invokestatic 81, 21, 13, 0, 0, 0, [], sgX7_isByte),
  (.ifCond .eq 27, 24, 14, 23, 0, 0, [], sg0),
  (.iload 4, 27, 15, 0, 0, 0, [], sg0),
  (.invokestatic 81, 29, 16, 0, 0, 0, [], sgX7_isByte),
  (.ifCond .eq 19, 32, 17, 23, 0, 0, [], sg0),
  (.iload 5, 35, 18, 0, 0, 0, [], sg0),
  (.invokestatic 81, 37, 19, 0, 0, 0, [], sgX7_isByte),
  (.ifCond .eq 11, 40, 20, 23, 0, 0, [], sg0),
  (.iload 6, 43, 21, 0, 0, 0, [], sg0),
  (.invokestatic 81, 45, 22, 0, 0, 0, [], sgX7_isByte),
  (.ifCond .ne 6, 48, 23, 25, 0, 0, [], sg0),
  (.bipush (-2), 51, 24, 0, 0, (-2), [], sg0),
  (.ireturn, 53, 25, 0, 0, 0, [], sg0),
  (.aload_n 0, 54, 26, 0, 0, 0, [], sg0),
  (.getfield 10, 55, 27, 7, 0, 0, [], sg0),
  (.getfield 80, 58, 28, 6, 1, 1, [], sg0),
  (.iload_n 1, 61, 29, 0, 0, 0, [], sg0),
  (.iadd, 62, 30, 0, 0, 0, [], sg0),
  (.sipush 160, 63, 31, 0, 0, 160, [], sg0),
  (.if_icmp .le 6, 66, 32, 34, 0, 0, [], sg0),
  (.bipush (-4), 69, 33, 0, 0, (-4), [], sg0),
  (.ireturn, 71, 34, 0, 0, 0, [], sg0),
  (.iconst 0, 72, 35, 0, 0, 0, [], sg0),
  (.istore 7, 73, 36, 0, 0, 0, [], sg0),
  (.iload 7, 75, 37, 0, 0, 0, [], sg0),
  (.iload_n 1, 77, 38, 0, 0, 0, [], sg0),
  (.if_icmp .ge 59, 78, 39, 64, 0, 0, [], sg0),
  (.aload_n 0, 81, 40, 0, 0, 0, [], sg0),
  (.getfield 10, 82, 41, 7, 0, 0, [], sg0),
  (.iload 7, 85, 42, 0, 0, 0, [], sg0),
  (.ifCond .ne 7, 87, 43, 45, 0, 0, [], sg0),
  (.iload_n 2, 90, 44, 0, 0, 0, [], sg0),
  (.goto 37, 91, 45, 61, 0, 0, [], sg0),
  (.iload 7, 94, 46, 0, 0, 0, [], sg0),
  (.iconst 1, 96, 47, 0, 0, 1, [], sg0),
  (.if_icmp .ne 7, 97, 48, 50, 0, 0, [], sg0),
  (.iload_n 3, 100, 49, 0, 0, 0, [], sg0),
  (.goto 27, 101, 50, 61, 0, 0, [], sg0),
  (.iload 7, 104, 51, 0, 0, 0, [], sg0),
  (.iconst 2, 106, 52, 0, 0, 2, [], sg0),
  (.if_icmp .ne 8, 107, 53, 55, 0, 0, [], sg0),
  (.iload 4, 110, 54, 0, 0, 0, [], sg0),
  (.goto 16, 112, 55, 61, 0, 0, [], sg0),
  (.iload 7, 115, 56, 0, 0, 0, [], sg0),
  (.iconst 3, 117, 57, 0, 0, 3, [], sg0),
  (.if_icmp .ne 8, 118, 58, 60, 0, 0, [], sg0),
  (.iload 5, 121, 59, 0, 0, 0, [], sg0),
  (.goto 5, 123, 60, 61, 0, 0, [], sg0),
  (.iload 6, 126, 61, 0, 0, 0, [], sg0),
  (.invokevirtual 85, 128, 62, 6, 0, 1, [], sgX6_append),
  (.iinc 7 1, 131, 63, 0, 0, 1, [], sg0),
  (.goto (-59), 134, 64, 36, 0, 0, [], sg0),
  (.aload_n 0, 137, 65, 0, 0, 0, [], sg0),
  (.getfield 10, 138, 66, 7, 0, 0, [], sg0),
  (.getfield 80, 141, 67, 6, 1, 1, [], sg0),
  (.ireturn, 144, 68, 0, 0, 0, [], sg0),
  (.nop, 145, 69, 0, 0, 0, [], sg0)]
set_option maxRecDepth 100000 in
theorem okX7_feed : Chk sgX7_feed kX7_feed := ⟨by decide +kernel, And.intro sgSX7_isByte (And.intro sgSX7_isByte (And.intro sgSX7_isByte (And.intro sgSX7_isByte (And.intro sgSX7_isByte (And.intro sgVX6_append trivial))))), tb_l2 [(1, 226), (1, 226), (1, 226), (1, 226), (1, 226), (1, 190), (1, 190), (1, 190)] (by decide +kernel) (by decide +kernel), nw_l2 [(1, 32), (1, 229), (1, 32)] (by decide +kernel) (by decide +kernel), by decide +kernel⟩
set_option maxRecDepth 100000 in
def kX7_text : List Row := [(.aload_n 0, 0, 1, 0, 0, 0, [], sg0),
  (.getfield 35, 1, 2, 7, 3, 0, [], sg0),
  (.getfield 74, 4, 3, 5, 3, 1, [], sg0),
  (.bipush 6, 7, 4, 0, 0, 6, [], sg0),
  (.if_icmp .lt 6, 9, 5, 7, 0, 0, [], sg0),
  (.bipush (-4), 12, 6, 0, 0, (-4), [], sg0),
  (.ireturn, 14, 7, 0, 0, 0, [], sg0),
  (.aload_n 0, 15, 8, 0, 0, 0, [], sg0),
  (.getfield 28, 16, 9, 7, 2, 0, [], sg0),
  (.invokevirtual 89, 19, 10, 1, 0, 1, [], sgX1_readText),
  (.istore_n 1, 22, 11, 0, 0, 0, [], sg0),
  (.aload_n 0, 23, 12, 0, 0, 0, [], sg0),
  (.getfield 10, 24, 13, 7, 0, 0, [], sg0),
  (.getfield 93, 27, 14, 6, 4, 1, [], sg0),
  (.istore_n 2, 30, 15, 0, 0, 0, [], sg0),
  (.aload_n 0, 31, 16, 0, 0, 0, [], sg0),
  (.getfield 10, 32, 17, 7, 0, 0, [], sg0),
  (.iconst 0, 35, 18, 0, 0, 0, [], sg0),
  (.putfield 80, 36, 19, 6, 1, 1, [], sg0),
  (.iload_n 1, 39, 20, 0, 0, 0, [], sg0),
  (.ifCond .ne 8, 40, 21, 25, 0, 0, [], sg0),
  (.bipush (-100), 43, 22, 0, 0, (-100), [], sg0),
  (.iload_n 2, 45, 23, 0, 0, 0, [], sg0),
  (.isub, 46, 24, 0, 0, 0, [], sg0),
  (.ireturn, 47, 25, 0, 0, 0, [], sg0),
  (.aload_n 0, 48, 26, 0, 0, 0, [], sg0),
  (.getfield 35, 49, 27, 7, 3, 0, [], sg0),
  (.aload_n 0, 52, 28, 0, 0, 0, [], sg0),
  (.getfield 19, 53, 29, 7, 1, 0, [], sg0),
  (.invokevirtual 96, 56, 30, 5, 0, 1, [], sgX5_add),
  (.aload_n 0, 59, 31, 0, 0, 0, [], sg0),
  (.getfield 35, 60, 32, 7, 3, 0, [], sg0),
  (.getfield 74, 63, 33, 5, 3, 1, [], sg0),
  (.iconst 1, 66, 34, 0, 0, 1, [], sg0),
  (.isub, 67, 35, 0, 0, 0, [], sg0),
  (.ireturn, 68, 36, 0, 0, 0, [], sg0),
  (.nop, 69, 37, 0, 0, 0, [], sg0)]
set_option maxRecDepth 100000 in
theorem okX7_text : Chk sgX7_text kX7_text := ⟨by decide +kernel, And.intro sgVX1_readText (And.intro sgVX5_add trivial), tb_l2 [(1, 193), (1, 192), (1, 190), (1, 190), (1, 193), (1, 191), (1, 193)] (by decide +kernel) (by decide +kernel), nw_l2 [(1, 105), (1, 238), (1, 38), (1, 32), (2, 142), (1, 105)] (by decide +kernel) (by decide +kernel), by decide +kernel⟩
set_option maxRecDepth 100000 in
def kX7_force : List Row := [(.aload_n 0, 0, 1, 0, 0, 0, [], sg0),
  (.iload_n 1, 1, 2, 0, 0, 0, [], sg0),
  (.invokevirtual 100, 2, 3, 7, 0, 0, [], sgX7_isText),
  (.ifCond .ne 6, 5, 4, 6, 0, 0, [], sg0),
  (.bipush (-2), 8, 5, 0, 0, (-2), [], sg0),
  (.ireturn, 10, 6, 0, 0, 0, [], sg0),
  (.aload_n 0, 11, 7, 0, 0, 0, [], sg0),
  (.getfield 42, 12, 8, 7, 4, 0, [], sg0),
  (.getfield 77, 15, 9, 4, 5, 1, [], sg0),
  (.istore_n 2, 18, 10, 0, 0, 0, [], sg0),
  (.aload_n 0, 19, 11, 0, 0, 0, [], sg0),
  (.getfield 42, 20, 12, 7, 4, 0, [], sg0),
  (.iload_n 1, 23, 13, 0, 0, 0, [], sg0),
  (.putfield 77, 24, 14, 4, 5, 1, [], sg0),
  (.iload_n 2, 27, 15, 0, 0, 0, [], sg0),
  (.ireturn, 28, 16, 0, 0, 0, [], sg0),
  (.nop, 29, 17, 0, 0, 0, [], sg0)]
set_option maxRecDepth 100000 in
theorem okX7_force : Chk sgX7_force kX7_force := ⟨by decide +kernel, And.intro sgVX7_isText trivial, tb_l2 [(2, 185), (1, 194), (1, 194)] (by decide +kernel) (by decide +kernel), nw_l2 [(1, 130), (1, 130)] (by decide +kernel) (by decide +kernel), by decide +kernel⟩
set_option maxRecDepth 100000 in
def kX7_asks : List Row := [(.aload_n 0, 0, 1, 0, 0, 0, [], sg0),
  (.iload_n 1, 1, 2, 0, 0, 0, [], sg0),
  (.invokevirtual 100, 2, 3, 7, 0, 0, [], sgX7_isText),
  (.ifCond .eq 10, 5, 4, 7, 0, 0, [], sg0),
  (.iload_n 2, 8, 5, 0, 0, 0, [], sg0),
  (.invokestatic 103, 9, 6, 0, 0, 0, [], sgX7_isWorld),
  (.ifCond .ne 6, 12, 7, 9, 0, 0, [], sg0),
  (.bipush (-5), 15, 8, 0, 0, (-5), [], sg0),
  (.ireturn, 17, 9, 0, 0, 0, [], sg0),
  (.iload_n 3, 18, 10, 0, 0, 0, [], sg0),
  (.iconst 5, 19, 11, 0, 0, 5, [], sg0),
  (.invokestatic 106, 20, 12, 0, 0, 0, [], sgX7_isBelow),
  (.ifCond .eq 12, 23, 13, 17, 0, 0, [], sg0),
  (.iload 4, 26, 14, 0, 0, 0, [], sg0),
  (.iconst 3, 28, 15, 0, 0, 3, [], sg0),
  (.invokestatic 106, 29, 16, 0, 0, 0, [], sgX7_isBelow),
  (.ifCond .ne 6, 32, 17, 19, 0, 0, [], sg0),
  (.bipush (-7), 35, 18, 0, 0, (-7), [], sg0),
  (.ireturn, 37, 19, 0, 0, 0, [], sg0),
  (.iload 4, 38, 20, 0, 0, 0, [], sg0),
  (.iconst 2, 40, 21, 0, 0, 2, [], sg0),
  (.if_icmp .ne 13, 41, 22, 28, 0, 0, [], sg0),
  (.aload_n 0, 44, 23, 0, 0, 0, [], sg0),
  (.getfield 35, 45, 24, 7, 3, 0, [], sg0),
  (.iload_n 1, 48, 25, 0, 0, 0, [], sg0),
  (.iload_n 3, 49, 26, 0, 0, 0, [], sg0),
  (.invokevirtual 110, 50, 27, 5, 0, 1, [], sgX5_costOf),
  (.ireturn, 53, 28, 0, 0, 0, [], sg0),
  (.aload_n 0, 54, 29, 0, 0, 0, [], sg0),
  (.getfield 35, 55, 30, 7, 3, 0, [], sg0),
  (.iload_n 1, 58, 31, 0, 0, 0, [], sg0),
  (.iload_n 3, 59, 32, 0, 0, 0, [], sg0),
  (.iload 4, 60, 33, 0, 0, 0, [], sg0),
  (.invokevirtual 114, 62, 34, 5, 0, 1, [], sgX5_side),
  (.iload_n 2, 65, 35, 0, 0, 0, [], sg0),
  (.invokestatic 118, 66, 36, 0, 0, 0, [], sgX7_bit),
  (.ireturn, 69, 37, 0, 0, 0, [], sg0),
  (.nop, 70, 38, 0, 0, 0, [], sg0)]
set_option maxRecDepth 100000 in
theorem okX7_asks : Chk sgX7_asks kX7_asks := ⟨by decide +kernel, And.intro sgVX7_isText (And.intro sgSX7_isWorld (And.intro sgSX7_isBelow (And.intro sgSX7_isBelow (And.intro sgVX5_costOf (And.intro sgVX5_side (And.intro sgSX7_bit trivial)))))), tb_l2 [(2, 185), (2, 196), (2, 189), (2, 189), (1, 193), (1, 193), (2, 208)] (by decide +kernel) (by decide +kernel), nw_l2 [(2, 199), (2, 204)] (by decide +kernel) (by decide +kernel), by decide +kernel⟩
set_option maxRecDepth 100000 in
def kX7_means : List Row := [(.aload_n 0, 0, 1, 0, 0, 0, [], sg0),
  (.iload_n 1, 1, 2, 0, 0, 0, [], sg0),
  (.invokevirtual 100, 2, 3, 7, 0, 0, [], sgX7_isText),
  (.ifCond .eq 11, 5, 4, 8, 0, 0, [], sg0),
  (.iload_n 2, 8, 5, 0, 0, 0, [], sg0),
  (.iconst 2, 9, 6, 0, 0, 2, [], sg0),
  (.invokestatic 106, 10, 7, 0, 0, 0, [], sgX7_isBelow),
  (.ifCond .ne 7, 13, 8, 10, 0, 0, [], sg0),
  (.ldc2_w 121, 16, 9, 0, 0, (-4611686018427387904), [], sg0),
  (.lreturn, 19, 10, 0, 0, 0, [], sg0),
  (.aload_n 0, 20, 11, 0, 0, 0, [], sg0),
  (.getfield 35, 21, 12, 7, 3, 0, [], sg0),
  (.iload_n 1, 24, 13, 0, 0, 0, [], sg0),
  (.iconst 0, 25, 14, 0, 0, 0, [], sg0),
  (.iload_n 2, 26, 15, 0, 0, 0, [], sg0),
  (.invokevirtual 114, 27, 16, 5, 0, 1, [], sgX5_side),
  (.invokestatic 123, 30, 17, 0, 0, 0, [], sgX7_bits),
  (.lreturn, 33, 18, 0, 0, 0, [], sg0),
  (.nop, 34, 19, 0, 0, 0, [], sg0)]
set_option maxRecDepth 100000 in
theorem okX7_means : Chk sgX7_means kX7_means := ⟨by decide +kernel, And.intro sgVX7_isText (And.intro sgSX7_isBelow (And.intro sgVX5_side (And.intro sgSX7_bits trivial))), tb_l2 [(2, 185), (2, 189), (2, 213), (1, 193), (2, 214)] (by decide +kernel) (by decide +kernel), nw_l2 [(2, 204)] (by decide +kernel) (by decide +kernel), by decide +kernel⟩
set_option maxRecDepth 100000 in
def kX7_pairs : List Row := [(.iload_n 1, 0, 1, 0, 0, 0, [], sg0),
  (.iconst 5, 1, 2, 0, 0, 5, [], sg0),
  (.invokestatic 106, 2, 3, 0, 0, 0, [], sgX7_isBelow),
  (.ifCond .ne 6, 5, 4, 6, 0, 0, [], sg0),
  (.bipush (-2), 8, 5, 0, 0, (-2), [], sg0),
  (.ireturn, 10, 6, 0, 0, 0, [], sg0),
  (.iconst 0, 11, 7, 0, 0, 0, [], sg0),
  (.istore_n 2, 12, 8, 0, 0, 0, [], sg0),
  (.iconst 0, 13, 9, 0, 0, 0, [], sg0),
  (.istore_n 3, 14, 10, 0, 0, 0, [], sg0),
  (.iload_n 3, 15, 11, 0, 0, 0, [], sg0),
  (.aload_n 0, 16, 12, 0, 0, 0, [], sg0),
  (.getfield 35, 17, 13, 7, 3, 0, [], sg0),
  (.getfield 74, 20, 14, 5, 3, 1, [], sg0),
  (.if_icmp .ge 52, 23, 15, 44, 0, 0, [], sg0),
  (.aload_n 0, 26, 16, 0, 0, 0, [], sg0),
  (.getfield 35, 27, 17, 7, 3, 0, [], sg0),
  (.iload_n 3, 30, 18, 0, 0, 0, [], sg0),
  (.iload_n 1, 31, 19, 0, 0, 0, [], sg0),
  (.iconst 0, 32, 20, 0, 0, 0, [], sg0),
  (.invokevirtual 114, 33, 21, 5, 0, 1, [], sgX5_side),
  (.aload_n 0, 36, 22, 0, 0, 0, [], sg0),
  (.getfield 35, 37, 23, 7, 3, 0, [], sg0),
  (.iload_n 3, 40, 24, 0, 0, 0, [], sg0),
  (.iload_n 1, 41, 25, 0, 0, 0, [], sg0),
  (.iconst 1, 42, 26, 0, 0, 1, [], sg0),
  (.invokevirtual 114, 43, 27, 5, 0, 1, [], sgX5_side),
  (.ixor, 46, 28, 0, 0, 0, [], sg0),
  (.iconst (-1), 47, 29, 0, 0, (-1), [], sg0),
  (.if_icmp .ne 7, 48, 30, 32, 0, 0, [], sg0),
  (.iconst 1, 51, 31, 0, 0, 1, [], sg0),
  (.goto 4, 52, 32, 33, 0, 0, [], sg0),
  (.iconst 0, 55, 33, 0, 0, 0, [], sg0),
  (.istore 4, 56, 34, 0, 0, 0, [], sg0),
  (.iload 4, 58, 35, 0, 0, 0, [], sg0),
  (.ifCond .eq 9, 60, 36, 42, 0, 0, [], sg0),
  (.iload_n 2, 63, 37, 0, 0, 0, [], sg0),
  (.iconst 1, 64, 38, 0, 0, 1, [], sg0),
  (.iload_n 3, 65, 39, 0, 0, 0, [], sg0),
  (.ishl, 66, 40, 0, 0, 0, [], sg0),
  (.ior, 67, 41, 0, 0, 0, [], sg0),
  (.istore_n 2, 68, 42, 0, 0, 0, [], sg0),
  (.iinc 3 1, 69, 43, 0, 0, 1, [], sg0),
  (.goto (-57), 72, 44, 10, 0, 0, [], sg0),
  (.iload_n 2, 75, 45, 0, 0, 0, [], sg0),
  (.ireturn, 76, 46, 0, 0, 0, [], sg0),
  (.nop, 77, 47, 0, 0, 0, [], sg0)]
set_option maxRecDepth 100000 in
theorem okX7_pairs : Chk sgX7_pairs kX7_pairs := ⟨by decide +kernel, And.intro sgSX7_isBelow (And.intro sgVX5_side (And.intro sgVX5_side trivial)), tb_l2 [(2, 189), (1, 193), (1, 193), (1, 193)] (by decide +kernel) (by decide +kernel), nw_l2 [(1, 105), (2, 204), (2, 204)] (by decide +kernel) (by decide +kernel), by decide +kernel⟩
set_option maxRecDepth 100000 in
def kX7_speaker : List Row := [(.iload_n 1, 0, 1, 0, 0, 0, [], sg0),
  (.invokestatic 127, 1, 2, 0, 0, 0, [], sgX7_isKind),
  (.ifCond .eq 10, 4, 3, 6, 0, 0, [], sg0),
  (.iload_n 2, 7, 4, 0, 0, 0, [], sg0),
  (.invokestatic 130, 8, 5, 0, 0, 0, [], sgX7_isMore),
  (.ifCond .ne 6, 11, 6, 8, 0, 0, [], sg0),
  (.bipush (-2), 14, 7, 0, 0, (-2), [], sg0),
  (.ireturn, 16, 8, 0, 0, 0, [], sg0),
  (.aload_n 0, 17, 9, 0, 0, 0, [], sg0),
  (.getfield 42, 18, 10, 7, 4, 0, [], sg0),
  (.getfield 67, 21, 11, 4, 3, 1, [], sg0),
  (.iconst 5, 24, 12, 0, 0, 5, [], sg0),
  (.if_icmp .lt 6, 25, 13, 15, 0, 0, [], sg0),
  (.bipush (-4), 28, 14, 0, 0, (-4), [], sg0),
  (.ireturn, 30, 15, 0, 0, 0, [], sg0),
  (.aload_n 0, 31, 16, 0, 0, 0, [], sg0),
  (.getfield 42, 32, 17, 7, 4, 0, [], sg0),
  (.getfield 67, 35, 18, 4, 3, 1, [], sg0),
  (.istore_n 3, 38, 19, 0, 0, 0, [], sg0),
  (.aload_n 0, 39, 20, 0, 0, 0, [], sg0),
  (.getfield 42, 40, 21, 7, 4, 0, [], sg0),
  (.iload_n 3, 43, 22, 0, 0, 0, [], sg0),
  (.iload_n 1, 44, 23, 0, 0, 0, [], sg0),
  (.iload_n 2, 45, 24, 0, 0, 0, [], sg0),
  (.invokevirtual 133, 46, 25, 4, 0, 1, [], sgX4_become),
  (.aload_n 0, 49, 26, 0, 0, 0, [], sg0),
  (.getfield 42, 50, 27, 7, 4, 0, [], sg0),
  (.dup, 53, 28, 0, 0, 0, [], sg0),
  (.getfield 67, 54, 29, 4, 3, 1, [], sg0),
  (.iconst 1, 57, 30, 0, 0, 1, [], sg0),
  (.iadd, 58, 31, 0, 0, 0, [], sg0),
  (.putfield 67, 59, 32, 4, 3, 1, [], sg0),
  (.iload_n 3, 62, 33, 0, 0, 0, [], sg0),
  (.ireturn, 63, 34, 0, 0, 0, [], sg0),
  (.nop, 64, 35, 0, 0, 0, [], sg0)]
set_option maxRecDepth 100000 in
theorem okX7_speaker : Chk sgX7_speaker kX7_speaker := ⟨by decide +kernel, And.intro sgSX7_isKind (And.intro sgSX7_isMore (And.intro sgVX4_become trivial)), tb_l2 [(2, 226), (2, 229), (1, 194), (1, 194), (1, 194), (1, 194)] (by decide +kernel) (by decide +kernel), nw_l2 [(1, 126), (1, 126), (2, 232), (1, 126), (1, 126)] (by decide +kernel) (by decide +kernel), by decide +kernel⟩
set_option maxRecDepth 100000 in
def kX7_turn : List Row := [(.aload_n 0, 0, 1, 0, 0, 0, [], sg0),
  (.iload_n 1, 1, 2, 0, 0, 0, [], sg0),
  (.invokevirtual 137, 2, 3, 7, 0, 0, [], sgX7_isSpeaker),
  (.ifCond .ne 6, 5, 4, 6, 0, 0, [], sg0),
  (.bipush (-5), 8, 5, 0, 0, (-5), [], sg0),
  (.ireturn, 10, 6, 0, 0, 0, [], sg0),
  (.iload_n 2, 11, 7, 0, 0, 0, [], sg0),
  (.invokestatic 127, 12, 8, 0, 0, 0, [], sgX7_isKind),
  (.ifCond .eq 10, 15, 9, 12, 0, 0, [], sg0),
  (.iload_n 3, 18, 10, 0, 0, 0, [], sg0),
  (.invokestatic 130, 19, 11, 0, 0, 0, [], sgX7_isMore),
  (.ifCond .ne 6, 22, 12, 14, 0, 0, [], sg0),
  (.bipush (-7), 25, 13, 0, 0, (-7), [], sg0),
  (.ireturn, 27, 14, 0, 0, 0, [], sg0),
  (.aload_n 0, 28, 15, 0, 0, 0, [], sg0),
  (.getfield 42, 29, 16, 7, 4, 0, [], sg0),
  (.getfield 140, 32, 17, 4, 0, 1, [], sg0),
  (.iload_n 1, 35, 18, 0, 0, 0, [], sg0),
  (.invokestatic 144, 36, 19, 0, 0, 0, [], sgX7_at),
  (.istore 4, 39, 20, 0, 0, 0, [], sg0),
  (.aload_n 0, 41, 21, 0, 0, 0, [], sg0),
  (.getfield 42, 42, 22, 7, 4, 0, [], sg0),
  (.iload_n 1, 45, 23, 0, 0, 0, [], sg0),
  (.iload_n 2, 46, 24, 0, 0, 0, [], sg0),
  (.iload_n 3, 47, 25, 0, 0, 0, [], sg0),
  (.invokevirtual 133, 48, 26, 4, 0, 1, [], sgX4_become),
  (.iload 4, 51, 27, 0, 0, 0, [], sg0),
  (.ireturn, 53, 28, 0, 0, 0, [], sg0),
  (.nop, 54, 29, 0, 0, 0, [], sg0)]
set_option maxRecDepth 100000 in
theorem okX7_turn : Chk sgX7_turn kX7_turn := ⟨by decide +kernel, And.intro sgVX7_isSpeaker (And.intro sgSX7_isKind (And.intro sgSX7_isMore (And.intro sgSX7_at (And.intro sgVX4_become trivial)))), tb_l2 [(3, 1), (2, 226), (2, 229), (1, 194), (3, 5), (1, 194)] (by decide +kernel) (by decide +kernel), nw_l2 [(1, 122), (2, 232)] (by decide +kernel) (by decide +kernel), by decide +kernel⟩
set_option maxRecDepth 100000 in
def kX7_told : List Row := [(.aload_n 0, 0, 1, 0, 0, 0, [], sg0),
  (.iload_n 1, 1, 2, 0, 0, 0, [], sg0),
  (.invokevirtual 137, 2, 3, 7, 0, 0, [], sgX7_isSpeaker),
  (.ifCond .ne 6, 5, 4, 6, 0, 0, [], sg0),
  (.bipush (-5), 8, 5, 0, 0, (-5), [], sg0),
  (.ireturn, 10, 6, 0, 0, 0, [], sg0),
  (.iload_n 2, 11, 7, 0, 0, 0, [], sg0),
  (.tableswitch 73 0 2 #[28, 40, 52], 12, 8, 31, 0, 0, [8, 14, 20], sg0),
  (.aload_n 0, 40, 9, 0, 0, 0, [], sg0),
  (.getfield 42, 41, 10, 7, 4, 0, [], sg0),
  (.getfield 140, 44, 11, 4, 0, 1, [], sg0),
  (.iload_n 1, 47, 12, 0, 0, 0, [], sg0),
  (.invokestatic 144, 48, 13, 0, 0, 0, [], sgX7_at),
  (.ireturn, 51, 14, 0, 0, 0, [], sg0),
  (.aload_n 0, 52, 15, 0, 0, 0, [], sg0),
  (.getfield 42, 53, 16, 7, 4, 0, [], sg0),
  (.getfield 148, 56, 17, 4, 1, 1, [], sg0),
  (.iload_n 1, 59, 18, 0, 0, 0, [], sg0),
  (.invokestatic 144, 60, 19, 0, 0, 0, [], sgX7_at),
  (.ireturn, 63, 20, 0, 0, 0, [], sg0),
  (.aload_n 0, 64, 21, 0, 0, 0, [], sg0),
  (.getfield 42, 65, 22, 7, 4, 0, [], sg0),
  (.getfield 140, 68, 23, 4, 0, 1, [], sg0),
  (.iload_n 1, 71, 24, 0, 0, 0, [], sg0),
  (.invokestatic 144, 72, 25, 0, 0, 0, [], sgX7_at),
  (.iconst 5, 75, 26, 0, 0, 5, [], sg0),
  (.if_icmp .ne 7, 76, 27, 29, 0, 0, [], sg0),
  (.iconst 1, 79, 28, 0, 0, 1, [], sg0),
  (.goto 4, 80, 29, 30, 0, 0, [], sg0),
  (.iconst 0, 83, 30, 0, 0, 0, [], sg0),
  (.ireturn, 84, 31, 0, 0, 0, [], sg0),
  (.bipush (-7), 85, 32, 0, 0, (-7), [], sg0),
  (.ireturn, 87, 33, 0, 0, 0, [], sg0),
  (.nop, 88, 34, 0, 0, 0, [], sg0)]
set_option maxRecDepth 100000 in
theorem okX7_told : Chk sgX7_told kX7_told := ⟨by decide +kernel, And.intro sgVX7_isSpeaker (And.intro sgSX7_at (And.intro sgSX7_at (And.intro sgSX7_at trivial))), tb_l2 [(3, 1), (1, 194), (3, 5), (1, 194), (3, 5), (1, 194), (3, 5)] (by decide +kernel) (by decide +kernel), nw_l2 [(1, 122), (1, 124), (1, 122)] (by decide +kernel) (by decide +kernel), by decide +kernel⟩
set_option maxRecDepth 100000 in
def kX7_say : List Row := [(.aload_n 0, 0, 1, 0, 0, 0, [], sg0),
  (.iload_n 1, 1, 2, 0, 0, 0, [], sg0),
  (.invokevirtual 137, 2, 3, 7, 0, 0, [], sgX7_isSpeaker),
  (.ifCond .eq 11, 5, 4, 8, 0, 0, [], sg0),
  (.aload_n 0, 8, 5, 0, 0, 0, [], sg0),
  (.iload_n 2, 9, 6, 0, 0, 0, [], sg0),
  (.invokevirtual 100, 10, 7, 7, 0, 0, [], sgX7_isText),
  (.ifCond .ne 6, 13, 8, 10, 0, 0, [], sg0),
  (.bipush (-5), 16, 9, 0, 0, (-5), [], sg0),
  (.ireturn, 18, 10, 0, 0, 0, [], sg0),
  (.iload_n 3, 19, 11, 0, 0, 0, [], sg0),
  (.iconst 2, 20, 12, 0, 0, 2, [], sg0),
  (.invokestatic 106, 21, 13, 0, 0, 0, [], sgX7_isBelow),
  (.ifCond .ne 6, 24, 14, 16, 0, 0, [], sg0),
  (.bipush (-7), 27, 15, 0, 0, (-7), [], sg0),
  (.ireturn, 29, 16, 0, 0, 0, [], sg0),
  (.aload_n 0, 30, 17, 0, 0, 0, [], sg0),
  (.getfield 42, 31, 18, 7, 4, 0, [], sg0),
  (.getfield 71, 34, 19, 4, 4, 1, [], sg0),
  (.bipush 12, 37, 20, 0, 0, 12, [], sg0),
  (.if_icmp .lt 6, 39, 21, 23, 0, 0, [], sg0),
  (.bipush (-4), 42, 22, 0, 0, (-4), [], sg0),
  (.ireturn, 44, 23, 0, 0, 0, [], sg0),
  (.aload_n 0, 45, 24, 0, 0, 0, [], sg0),
  (.getfield 42, 46, 25, 7, 4, 0, [], sg0),
  (.iload_n 1, 49, 26, 0, 0, 0, [], sg0),
  (.iload_n 2, 50, 27, 0, 0, 0, [], sg0),
  (.iload_n 3, 51, 28, 0, 0, 0, [], sg0),
  (.invokevirtual 151, 52, 29, 4, 0, 1, [], sgX4_append),
  (.aload_n 0, 55, 30, 0, 0, 0, [], sg0),
  (.getfield 42, 56, 31, 7, 4, 0, [], sg0),
  (.getfield 71, 59, 32, 4, 4, 1, [], sg0),
  (.iconst 1, 62, 33, 0, 0, 1, [], sg0),
  (.isub, 63, 34, 0, 0, 0, [], sg0),
  (.ireturn, 64, 35, 0, 0, 0, [], sg0),
  (.nop, 65, 36, 0, 0, 0, [], sg0)]
set_option maxRecDepth 100000 in
theorem okX7_say : Chk sgX7_say kX7_say := ⟨by decide +kernel, And.intro sgVX7_isSpeaker (And.intro sgVX7_isText (And.intro sgSX7_isBelow (And.intro sgVX4_append trivial))), tb_l2 [(3, 1), (2, 185), (2, 189), (1, 194), (1, 194), (1, 194)] (by decide +kernel) (by decide +kernel), nw_l2 [(1, 128), (3, 14), (1, 128)] (by decide +kernel) (by decide +kernel), by decide +kernel⟩
set_option maxRecDepth 100000 in
def kX7_unsay : List Row := [(.aload_n 0, 0, 1, 0, 0, 0, [], sg0),
  (.getfield 42, 1, 2, 7, 4, 0, [], sg0),
  (.getfield 71, 4, 3, 4, 4, 1, [], sg0),
  (.ifCond .gt 6, 7, 4, 6, 0, 0, [], sg0),
  (.bipush (-3), 10, 5, 0, 0, (-3), [], sg0),
  (.ireturn, 12, 6, 0, 0, 0, [], sg0),
  (.aload_n 0, 13, 7, 0, 0, 0, [], sg0),
  (.getfield 42, 14, 8, 7, 4, 0, [], sg0),
  (.dup, 17, 9, 0, 0, 0, [], sg0),
  (.getfield 71, 18, 10, 4, 4, 1, [], sg0),
  (.iconst 1, 21, 11, 0, 0, 1, [], sg0),
  (.isub, 22, 12, 0, 0, 0, [], sg0),
  (.putfield 71, 23, 13, 4, 4, 1, [], sg0),
  (.aload_n 0, 26, 14, 0, 0, 0, [], sg0),
  (.getfield 42, 27, 15, 7, 4, 0, [], sg0),
  (.getfield 71, 30, 16, 4, 4, 1, [], sg0),
  (.ireturn, 33, 17, 0, 0, 0, [], sg0),
  (.nop, 34, 18, 0, 0, 0, [], sg0)]
set_option maxRecDepth 100000 in
theorem okX7_unsay : Chk sgX7_unsay kX7_unsay := ⟨by decide +kernel, trivial, tb_l2 [(1, 194), (1, 194), (1, 194)] (by decide +kernel) (by decide +kernel), nw_l2 [(1, 128), (1, 128), (1, 128), (1, 128)] (by decide +kernel) (by decide +kernel), by decide +kernel⟩
set_option maxRecDepth 100000 in
def kX7_said : List Row := [(.iload_n 1, 0, 1, 0, 0, 0, [], sg0),
  (.aload_n 0, 1, 2, 0, 0, 0, [], sg0),
  (.getfield 42, 2, 3, 7, 4, 0, [], sg0),
  (.getfield 71, 5, 4, 4, 4, 1, [], sg0),
  (.invokestatic 106, 8, 5, 0, 0, 0, [], sgX7_isBelow),
  (.ifCond .ne 6, 11, 6, 8, 0, 0, [], sg0),
  (.bipush (-5), 14, 7, 0, 0, (-5), [], sg0),
  (.ireturn, 16, 8, 0, 0, 0, [], sg0),
  (.iload_n 2, 17, 9, 0, 0, 0, [], sg0),
  (.iconst 3, 18, 10, 0, 0, 3, [], sg0),
  (.invokestatic 106, 19, 11, 0, 0, 0, [], sgX7_isBelow),
  (.ifCond .ne 6, 22, 12, 14, 0, 0, [], sg0),
  (.bipush (-7), 25, 13, 0, 0, (-7), [], sg0),
  (.ireturn, 27, 14, 0, 0, 0, [], sg0),
  (.aload_n 0, 28, 15, 0, 0, 0, [], sg0),
  (.getfield 42, 29, 16, 7, 4, 0, [], sg0),
  (.iload_n 1, 32, 17, 0, 0, 0, [], sg0),
  (.iload_n 2, 33, 18, 0, 0, 0, [], sg0),
  (.invokevirtual 153, 34, 19, 4, 0, 1, [], sgX4_sayingPart),
  (.ireturn, 37, 20, 0, 0, 0, [], sg0),
  (.nop, 38, 21, 0, 0, 0, [], sg0)]
set_option maxRecDepth 100000 in
theorem okX7_said : Chk sgX7_said kX7_said := ⟨by decide +kernel, And.intro sgSX7_isBelow (And.intro sgSX7_isBelow (And.intro sgVX4_sayingPart trivial)), tb_l2 [(1, 194), (2, 189), (2, 189), (1, 194)] (by decide +kernel) (by decide +kernel), nw_l2 [(1, 128), (3, 26)] (by decide +kernel) (by decide +kernel), by decide +kernel⟩
set_option maxRecDepth 100000 in
def kX7_worlds : List Row := [(.aload_n 0, 0, 1, 0, 0, 0, [], sg0),
  (.invokevirtual 156, 1, 2, 7, 0, 0, [], sgX7_fitting),
  (.invokestatic 123, 4, 3, 0, 0, 0, [], sgX7_bits),
  (.lreturn, 7, 4, 0, 0, 0, [], sg0),
  (.nop, 8, 5, 0, 0, 0, [], sg0)]
set_option maxRecDepth 100000 in
theorem okX7_worlds : Chk sgX7_worlds kX7_worlds := ⟨by decide +kernel, And.intro sgVX7_fitting (And.intro sgSX7_bits trivial), tb_l2 [(3, 35), (2, 214)] (by decide +kernel) (by decide +kernel), nw_l2 [] (by decide +kernel) (by decide +kernel), by decide +kernel⟩
set_option maxRecDepth 100000 in
def kX7_behind : List Row := [(.iload_n 1, 0, 1, 0, 0, 0, [], sg0),
  (.ifCond .lt 14, 1, 2, 7, 0, 0, [], sg0),
  (.iload_n 1, 4, 3, 0, 0, 0, [], sg0),
  (.aload_n 0, 5, 4, 0, 0, 0, [], sg0),
  (.getfield 42, 6, 5, 7, 4, 0, [], sg0),
  (.getfield 71, 9, 6, 4, 4, 1, [], sg0),
  (.if_icmp .le 6, 12, 7, 9, 0, 0, [], sg0),
  (.bipush (-5), 15, 8, 0, 0, (-5), [], sg0),
  (.ireturn, 17, 9, 0, 0, 0, [], sg0),
  (.aload_n 0, 18, 10, 0, 0, 0, [], sg0),
  (.iload_n 1, 19, 11, 0, 0, 0, [], sg0),
  (.invokevirtual 160, 20, 12, 7, 0, 0, [], sgX7_fittingFirst),
  (.istore_n 3, 23, 13, 0, 0, 0, [], sg0),
  (.iload_n 2, 24, 14, 0, 0, 0, [], sg0),
  (.tableswitch 54 0 3 #[31, 36, 42, 48], 25, 15, 30, 0, 0, [15, 18, 22, 26], sg0),
  (.iload_n 3, 56, 16, 0, 0, 0, [], sg0),
  (.invokestatic 164, 57, 17, 0, 0, 0, [], sgJ6_bitCount_0f7a4),
  (.ireturn, 60, 18, 0, 0, 0, [], sg0),
  (.iload_n 3, 61, 19, 0, 0, 0, [], sg0),
  (.iconst 1, 62, 20, 0, 0, 1, [], sg0),
  (.invokestatic 169, 63, 21, 0, 0, 0, [], sgX7_thingsSure),
  (.ireturn, 66, 22, 0, 0, 0, [], sg0),
  (.iload_n 3, 67, 23, 0, 0, 0, [], sg0),
  (.iconst 0, 68, 24, 0, 0, 0, [], sg0),
  (.invokestatic 169, 69, 25, 0, 0, 0, [], sgX7_thingsSure),
  (.ireturn, 72, 26, 0, 0, 0, [], sg0),
  (.iload_n 3, 73, 27, 0, 0, 0, [], sg0),
  (.iconst 0, 74, 28, 0, 0, 0, [], sg0),
  (.invokestatic 173, 75, 29, 0, 0, 0, [], sgX7_worldNumber),
  (.ireturn, 78, 30, 0, 0, 0, [], sg0),
  (.bipush (-7), 79, 31, 0, 0, (-7), [], sg0),
  (.ireturn, 81, 32, 0, 0, 0, [], sg0),
  (.nop, 82, 33, 0, 0, 0, [], sg0)]
set_option maxRecDepth 100000 in
theorem okX7_behind : Chk sgX7_behind kX7_behind := ⟨by decide +kernel, And.intro sgVX7_fittingFirst (And.intro sgSJ6_bitCount_0f7a4 (And.intro sgSX7_thingsSure (And.intro sgSX7_thingsSure (And.intro sgSX7_worldNumber trivial)))), tb_l2 [(1, 194), (3, 39), (3, 77), (3, 83), (3, 83), (3, 91)] (by decide +kernel) (by decide +kernel), nw_l2 [(1, 128)] (by decide +kernel) (by decide +kernel), by decide +kernel⟩
set_option maxRecDepth 100000 in
def kX7_cannot : List Row := [(.aload_n 0, 0, 1, 0, 0, 0, [], sg0),
  (.invokevirtual 176, 1, 2, 7, 0, 0, [], sgX7_lawful),
  (.istore_n 1, 4, 3, 0, 0, 0, [], sg0),
  (.iconst 0, 5, 4, 0, 0, 0, [], sg0),
  (.istore_n 2, 6, 5, 0, 0, 0, [], sg0),
  (.iload_n 2, 7, 6, 0, 0, 0, [], sg0),
  (.aload_n 0, 8, 7, 0, 0, 0, [], sg0),
  (.getfield 42, 9, 8, 7, 4, 0, [], sg0),
  (.getfield 71, 12, 9, 4, 4, 1, [], sg0),
  (.if_icmp .ge 23, 15, 10, 22, 0, 0, [], sg0),
  (.iload_n 1, 18, 11, 0, 0, 0, [], sg0),
  (.aload_n 0, 19, 12, 0, 0, 0, [], sg0),
  (.iload_n 2, 20, 13, 0, 0, 0, [], sg0),
  (.invokevirtual 179, 21, 14, 7, 0, 0, [], sgX7_sayable),
  (.iand, 24, 15, 0, 0, 0, [], sg0),
  (.istore_n 1, 25, 16, 0, 0, 0, [], sg0),
  (.iload_n 1, 26, 17, 0, 0, 0, [], sg0),
  (.ifCond .ne 5, 27, 18, 20, 0, 0, [], sg0),
  (.iload_n 2, 30, 19, 0, 0, 0, [], sg0),
  (.ireturn, 31, 20, 0, 0, 0, [], sg0),
  (.iinc 2 1, 32, 21, 0, 0, 1, [], sg0),
  (.goto (-28), 35, 22, 5, 0, 0, [], sg0),
  (.iconst (-1), 38, 23, 0, 0, (-1), [], sg0),
  (.ireturn, 39, 24, 0, 0, 0, [], sg0),
  (.nop, 40, 25, 0, 0, 0, [], sg0)]
set_option maxRecDepth 100000 in
theorem okX7_cannot : Chk sgX7_cannot kX7_cannot := ⟨by decide +kernel, And.intro sgVX7_lawful (And.intro sgVX7_sayable trivial), tb_l2 [(3, 43), (1, 194), (3, 51)] (by decide +kernel) (by decide +kernel), nw_l2 [(1, 128)] (by decide +kernel) (by decide +kernel), by decide +kernel⟩
set_option maxRecDepth 100000 in
def kX7_lies : List Row := [(.aload_n 0, 0, 1, 0, 0, 0, [], sg0),
  (.invokevirtual 156, 1, 2, 7, 0, 0, [], sgX7_fitting),
  (.ifCond .eq 5, 4, 3, 5, 0, 0, [], sg0),
  (.iconst 0, 7, 4, 0, 0, 0, [], sg0),
  (.ireturn, 8, 5, 0, 0, 0, [], sg0),
  (.iconst 0, 9, 6, 0, 0, 0, [], sg0),
  (.istore_n 1, 10, 7, 0, 0, 0, [], sg0),
  (.iconst 0, 11, 8, 0, 0, 0, [], sg0),
  (.istore_n 2, 12, 9, 0, 0, 0, [], sg0),
  (.iload_n 2, 13, 10, 0, 0, 0, [], sg0),
  (.aload_n 0, 14, 11, 0, 0, 0, [], sg0),
  (.getfield 42, 15, 12, 7, 4, 0, [], sg0),
  (.getfield 71, 18, 13, 4, 4, 1, [], sg0),
  (.if_icmp .ge 23, 21, 14, 26, 0, 0, [], sg0),
  (.aload_n 0, 24, 15, 0, 0, 0, [], sg0),
  (.iload_n 2, 25, 16, 0, 0, 0, [], sg0),
  (.invokevirtual 182, 26, 17, 7, 0, 0, [], sgX7_fittingWithout),
  (.ifCond .eq 9, 29, 18, 24, 0, 0, [], sg0),
  (.iload_n 1, 32, 19, 0, 0, 0, [], sg0),
  (.iconst 1, 33, 20, 0, 0, 1, [], sg0),
  (.iload_n 2, 34, 21, 0, 0, 0, [], sg0),
  (.ishl, 35, 22, 0, 0, 0, [], sg0),
  (.ior, 36, 23, 0, 0, 0, [], sg0),
  (.istore_n 1, 37, 24, 0, 0, 0, [], sg0),
  (.iinc 2 1, 38, 25, 0, 0, 1, [], sg0),
  (.goto (-28), 41, 26, 9, 0, 0, [], sg0),
  (.iload_n 1, 44, 27, 0, 0, 0, [], sg0),
  (.ireturn, 45, 28, 0, 0, 0, [], sg0),
  (.nop, 46, 29, 0, 0, 0, [], sg0)]
set_option maxRecDepth 100000 in
theorem okX7_lies : Chk sgX7_lies kX7_lies := ⟨by decide +kernel, And.intro sgVX7_fitting (And.intro sgVX7_fittingWithout trivial), tb_l2 [(3, 35), (1, 194), (3, 102)] (by decide +kernel) (by decide +kernel), nw_l2 [(1, 128)] (by decide +kernel) (by decide +kernel), by decide +kernel⟩
set_option maxRecDepth 100000 in
def kX7_least : List Row := [(.iload_n 1, 0, 1, 0, 0, 0, [], sg0),
  (.iconst 2, 1, 2, 0, 0, 2, [], sg0),
  (.invokestatic 106, 2, 3, 0, 0, 0, [], sgX7_isBelow),
  (.ifCond .ne 6, 5, 4, 6, 0, 0, [], sg0),
  (.bipush (-2), 8, 5, 0, 0, (-2), [], sg0),
  (.ireturn, 10, 6, 0, 0, 0, [], sg0),
  (.aload_n 0, 11, 7, 0, 0, 0, [], sg0),
  (.invokevirtual 176, 12, 8, 7, 0, 0, [], sgX7_lawful),
  (.istore_n 2, 15, 9, 0, 0, 0, [], sg0),
  (.iload_n 2, 16, 10, 0, 0, 0, [], sg0),
  (.ifCond .ne 5, 17, 11, 13, 0, 0, [], sg0),
  (.iconst (-1), 20, 12, 0, 0, (-1), [], sg0),
  (.ireturn, 21, 13, 0, 0, 0, [], sg0),
  (.sipush 4095, 22, 14, 0, 0, 4095, [], sg0),
  (.istore_n 3, 25, 15, 0, 0, 0, [], sg0),
  (.iconst 0, 26, 16, 0, 0, 0, [], sg0),
  (.istore 4, 27, 17, 0, 0, 0, [], sg0),
  (.iload 4, 29, 18, 0, 0, 0, [], sg0),
  (.bipush 32, 31, 19, 0, 0, 32, [], sg0),
  (.if_icmp .ge 30, 33, 20, 33, 0, 0, [], sg0),
  (.iload_n 2, 36, 21, 0, 0, 0, [], sg0),
  (.iload 4, 37, 22, 0, 0, 0, [], sg0),
  (.invokestatic 118, 39, 23, 0, 0, 0, [], sgX7_bit),
  (.iconst 1, 42, 24, 0, 0, 1, [], sg0),
  (.if_icmp .ne 14, 43, 25, 31, 0, 0, [], sg0),
  (.aload_n 0, 46, 26, 0, 0, 0, [], sg0),
  (.iload 4, 47, 27, 0, 0, 0, [], sg0),
  (.invokevirtual 185, 49, 28, 7, 0, 0, [], sgX7_misfits),
  (.iload_n 3, 52, 29, 0, 0, 0, [], sg0),
  (.invokestatic 188, 53, 30, 0, 0, 0, [], sgX7_fewer),
  (.istore_n 3, 56, 31, 0, 0, 0, [], sg0),
  (.iinc 4 1, 57, 32, 0, 0, 1, [], sg0),
  (.goto (-31), 60, 33, 17, 0, 0, [], sg0),
  (.iload_n 1, 63, 34, 0, 0, 0, [], sg0),
  (.ifCond .ne 10, 64, 35, 38, 0, 0, [], sg0),
  (.iload_n 3, 67, 36, 0, 0, 0, [], sg0),
  (.invokestatic 164, 68, 37, 0, 0, 0, [], sgJ6_bitCount_0f7a4),
  (.goto 4, 71, 38, 39, 0, 0, [], sg0),
  (.iload_n 3, 74, 39, 0, 0, 0, [], sg0),
  (.ireturn, 75, 40, 0, 0, 0, [], sg0),
  (.nop, 76, 41, 0, 0, 0, [], sg0)]
set_option maxRecDepth 100000 in
theorem okX7_least : Chk sgX7_least kX7_least := ⟨by decide +kernel, And.intro sgSX7_isBelow (And.intro sgVX7_lawful (And.intro sgSX7_bit (And.intro sgVX7_misfits (And.intro sgSX7_fewer (And.intro sgSJ6_bitCount_0f7a4 trivial))))), tb_l2 [(2, 189), (3, 43), (2, 208), (3, 110), (3, 114), (3, 77)] (by decide +kernel) (by decide +kernel), nw_l2 [] (by decide +kernel) (by decide +kernel), by decide +kernel⟩
set_option maxRecDepth 100000 in
def kX7_mad : List Row := [(.iload_n 1, 0, 1, 0, 0, 0, [], sg0),
  (.iconst 2, 1, 2, 0, 0, 2, [], sg0),
  (.invokestatic 106, 2, 3, 0, 0, 0, [], sgX7_isBelow),
  (.ifCond .ne 6, 5, 4, 6, 0, 0, [], sg0),
  (.bipush (-2), 8, 5, 0, 0, (-2), [], sg0),
  (.ireturn, 10, 6, 0, 0, 0, [], sg0),
  (.iconst (-1), 11, 7, 0, 0, (-1), [], sg0),
  (.istore_n 2, 12, 8, 0, 0, 0, [], sg0),
  (.iconst 0, 13, 9, 0, 0, 0, [], sg0),
  (.istore_n 3, 14, 10, 0, 0, 0, [], sg0),
  (.iload_n 3, 15, 11, 0, 0, 0, [], sg0),
  (.iconst 1, 16, 12, 0, 0, 1, [], sg0),
  (.aload_n 0, 17, 13, 0, 0, 0, [], sg0),
  (.getfield 42, 18, 14, 7, 4, 0, [], sg0),
  (.getfield 67, 21, 15, 4, 3, 1, [], sg0),
  (.ishl, 24, 16, 0, 0, 0, [], sg0),
  (.if_icmp .ge 32, 25, 17, 32, 0, 0, [], sg0),
  (.aload_n 0, 28, 18, 0, 0, 0, [], sg0),
  (.iload_n 3, 29, 19, 0, 0, 0, [], sg0),
  (.invokevirtual 191, 30, 20, 7, 0, 0, [], sgX7_fittingWereMad),
  (.ifCond .eq 18, 33, 21, 30, 0, 0, [], sg0),
  (.iload_n 2, 36, 22, 0, 0, 0, [], sg0),
  (.iconst (-1), 37, 23, 0, 0, (-1), [], sg0),
  (.if_icmp .ne 7, 38, 24, 26, 0, 0, [], sg0),
  (.iload_n 3, 41, 25, 0, 0, 0, [], sg0),
  (.goto 8, 42, 26, 29, 0, 0, [], sg0),
  (.iload_n 3, 45, 27, 0, 0, 0, [], sg0),
  (.iload_n 2, 46, 28, 0, 0, 0, [], sg0),
  (.invokestatic 188, 47, 29, 0, 0, 0, [], sgX7_fewer),
  (.istore_n 2, 50, 30, 0, 0, 0, [], sg0),
  (.iinc 3 1, 51, 31, 0, 0, 1, [], sg0),
  (.goto (-39), 54, 32, 10, 0, 0, [], sg0),
  (.iload_n 1, 57, 33, 0, 0, 0, [], sg0),
  (.iconst 1, 58, 34, 0, 0, 1, [], sg0),
  (.if_icmp .eq 8, 59, 35, 38, 0, 0, [], sg0),
  (.iload_n 2, 62, 36, 0, 0, 0, [], sg0),
  (.iconst (-1), 63, 37, 0, 0, (-1), [], sg0),
  (.if_icmp .ne 7, 64, 38, 40, 0, 0, [], sg0),
  (.iload_n 2, 67, 39, 0, 0, 0, [], sg0),
  (.goto 7, 68, 40, 42, 0, 0, [], sg0),
  (.iload_n 2, 71, 41, 0, 0, 0, [], sg0),
  (.invokestatic 164, 72, 42, 0, 0, 0, [], sgJ6_bitCount_0f7a4),
  (.ireturn, 75, 43, 0, 0, 0, [], sg0),
  (.nop, 76, 44, 0, 0, 0, [], sg0)]
set_option maxRecDepth 100000 in
theorem okX7_mad : Chk sgX7_mad kX7_mad := ⟨by decide +kernel, And.intro sgSX7_isBelow (And.intro sgVX7_fittingWereMad (And.intro sgSX7_fewer (And.intro sgSJ6_bitCount_0f7a4 trivial))), tb_l2 [(2, 189), (1, 194), (3, 121), (3, 114), (3, 77)] (by decide +kernel) (by decide +kernel), nw_l2 [(1, 126)] (by decide +kernel) (by decide +kernel), by decide +kernel⟩
set_option maxRecDepth 100000 in
def kX7_habit : List Row := [(.aload_n 0, 0, 1, 0, 0, 0, [], sg0),
  (.iload_n 1, 1, 2, 0, 0, 0, [], sg0),
  (.invokevirtual 137, 2, 3, 7, 0, 0, [], sgX7_isSpeaker),
  (.ifCond .eq 18, 5, 4, 11, 0, 0, [], sg0),
  (.iload_n 2, 8, 5, 0, 0, 0, [], sg0),
  (.invokestatic 103, 9, 6, 0, 0, 0, [], sgX7_isWorld),
  (.ifCond .eq 11, 12, 7, 11, 0, 0, [], sg0),
  (.iload_n 3, 15, 8, 0, 0, 0, [], sg0),
  (.iconst 2, 16, 9, 0, 0, 2, [], sg0),
  (.invokestatic 106, 17, 10, 0, 0, 0, [], sgX7_isBelow),
  (.ifCond .ne 7, 20, 11, 13, 0, 0, [], sg0),
  (.ldc2_w 121, 23, 12, 0, 0, (-4611686018427387904), [], sg0),
  (.lreturn, 26, 13, 0, 0, 0, [], sg0),
  (.iconst 0, 27, 14, 0, 0, 0, [], sg0),
  (.istore 4, 28, 15, 0, 0, 0, [], sg0),
  (.iconst 0, 30, 16, 0, 0, 0, [], sg0),
  (.istore 5, 31, 17, 0, 0, 0, [], sg0),
  (.iconst 0, 33, 18, 0, 0, 0, [], sg0),
  (.istore 6, 34, 19, 0, 0, 0, [], sg0),
  (.iload 6, 36, 20, 0, 0, 0, [], sg0),
  (.aload_n 0, 38, 21, 0, 0, 0, [], sg0),
  (.getfield 42, 39, 22, 7, 4, 0, [], sg0),
  (.getfield 71, 42, 23, 4, 4, 1, [], sg0),
  (.if_icmp .ge 71, 45, 24, 55, 0, 0, [], sg0),
  (.aload_n 0, 48, 25, 0, 0, 0, [], sg0),
  (.getfield 42, 49, 26, 7, 4, 0, [], sg0),
  (.iload 6, 52, 27, 0, 0, 0, [], sg0),
  (.iconst 0, 54, 28, 0, 0, 0, [], sg0),
  (.invokevirtual 153, 55, 29, 4, 0, 1, [], sgX4_sayingPart),
  (.iload_n 1, 58, 30, 0, 0, 0, [], sg0),
  (.if_icmp .ne 51, 59, 31, 53, 0, 0, [], sg0),
  (.aload_n 0, 62, 32, 0, 0, 0, [], sg0),
  (.iload 6, 63, 33, 0, 0, 0, [], sg0),
  (.invokevirtual 194, 65, 34, 7, 0, 0, [], sgX7_firstSaid),
  (.iload_n 2, 68, 35, 0, 0, 0, [], sg0),
  (.invokestatic 118, 69, 36, 0, 0, 0, [], sgX7_bit),
  (.istore 7, 72, 37, 0, 0, 0, [], sg0),
  (.aload_n 0, 74, 38, 0, 0, 0, [], sg0),
  (.iload 6, 75, 39, 0, 0, 0, [], sg0),
  (.invokevirtual 197, 77, 40, 7, 0, 0, [], sgX7_secondSaid),
  (.iload_n 2, 80, 41, 0, 0, 0, [], sg0),
  (.invokestatic 118, 81, 42, 0, 0, 0, [], sgX7_bit),
  (.istore 8, 84, 43, 0, 0, 0, [], sg0),
  (.iload 7, 86, 44, 0, 0, 0, [], sg0),
  (.iload 8, 88, 45, 0, 0, 0, [], sg0),
  (.if_icmp .eq 6, 90, 46, 47, 0, 0, [], sg0),
  (.iinc 4 1, 93, 47, 0, 0, 1, [], sg0),
  (.iload 7, 96, 48, 0, 0, 0, [], sg0),
  (.iconst 1, 98, 49, 0, 0, 1, [], sg0),
  (.if_icmp .ne 11, 99, 50, 53, 0, 0, [], sg0),
  (.iload 8, 102, 51, 0, 0, 0, [], sg0),
  (.ifCond .ne 6, 104, 52, 53, 0, 0, [], sg0),
  (.iinc 5 1, 107, 53, 0, 0, 1, [], sg0),
  (.iinc 6 1, 110, 54, 0, 0, 1, [], sg0),
  (.goto (-77), 113, 55, 19, 0, 0, [], sg0),
  (.iload 5, 116, 56, 0, 0, 0, [], sg0),
  (.iload 4, 118, 57, 0, 0, 0, [], sg0),
  (.iload_n 3, 120, 58, 0, 0, 0, [], sg0),
  (.invokestatic 200, 121, 59, 0, 0, 0, [], sgX7_inLowestTerms),
  (.lreturn, 124, 60, 0, 0, 0, [], sg0),
  (.nop, 125, 61, 0, 0, 0, [], sg0)]
set_option maxRecDepth 100000 in
theorem okX7_habit : Chk sgX7_habit kX7_habit := ⟨by decide +kernel, And.intro sgVX7_isSpeaker (And.intro sgSX7_isWorld (And.intro sgSX7_isBelow (And.intro sgVX4_sayingPart (And.intro sgVX7_firstSaid (And.intro sgSX7_bit (And.intro sgVX7_secondSaid (And.intro sgSX7_bit (And.intro sgSX7_inLowestTerms trivial)))))))), tb_l2 [(3, 1), (2, 196), (2, 189), (2, 213), (1, 194), (1, 194), (3, 59), (2, 208), (3, 63), (2, 208), (3, 129)] (by decide +kernel) (by decide +kernel), nw_l2 [(1, 128), (3, 26)] (by decide +kernel) (by decide +kernel), by decide +kernel⟩
set_option maxRecDepth 100000 in
def kX7_kinds : List Row := [(.aload_n 0, 0, 1, 0, 0, 0, [], sg0),
  (.iload_n 1, 1, 2, 0, 0, 0, [], sg0),
  (.invokevirtual 137, 2, 3, 7, 0, 0, [], sgX7_isSpeaker),
  (.ifCond .eq 10, 5, 4, 7, 0, 0, [], sg0),
  (.iload_n 2, 8, 5, 0, 0, 0, [], sg0),
  (.invokestatic 103, 9, 6, 0, 0, 0, [], sgX7_isWorld),
  (.ifCond .ne 6, 12, 7, 9, 0, 0, [], sg0),
  (.bipush (-5), 15, 8, 0, 0, (-5), [], sg0),
  (.ireturn, 17, 9, 0, 0, 0, [], sg0),
  (.iconst 0, 18, 10, 0, 0, 0, [], sg0),
  (.istore_n 3, 19, 11, 0, 0, 0, [], sg0),
  (.iconst 0, 20, 12, 0, 0, 0, [], sg0),
  (.istore 4, 21, 13, 0, 0, 0, [], sg0),
  (.iload 4, 23, 14, 0, 0, 0, [], sg0),
  (.bipush 6, 25, 15, 0, 0, 6, [], sg0),
  (.if_icmp .ge 31, 27, 16, 32, 0, 0, [], sg0),
  (.aload_n 0, 30, 17, 0, 0, 0, [], sg0),
  (.iload_n 1, 31, 18, 0, 0, 0, [], sg0),
  (.iload 4, 32, 19, 0, 0, 0, [], sg0),
  (.invokevirtual 204, 34, 20, 7, 0, 0, [], sgX7_allSayableWere),
  (.iload_n 2, 37, 21, 0, 0, 0, [], sg0),
  (.invokestatic 118, 38, 22, 0, 0, 0, [], sgX7_bit),
  (.iconst 1, 41, 23, 0, 0, 1, [], sg0),
  (.if_icmp .ne 10, 42, 24, 30, 0, 0, [], sg0),
  (.iload_n 3, 45, 25, 0, 0, 0, [], sg0),
  (.iconst 1, 46, 26, 0, 0, 1, [], sg0),
  (.iload 4, 47, 27, 0, 0, 0, [], sg0),
  (.ishl, 49, 28, 0, 0, 0, [], sg0),
  (.ior, 50, 29, 0, 0, 0, [], sg0),
  (.istore_n 3, 51, 30, 0, 0, 0, [], sg0),
  (.iinc 4 1, 52, 31, 0, 0, 1, [], sg0),
  (.goto (-32), 55, 32, 13, 0, 0, [], sg0),
  (.iload_n 3, 58, 33, 0, 0, 0, [], sg0),
  (.ireturn, 59, 34, 0, 0, 0, [], sg0),
  (.nop, 60, 35, 0, 0, 0, [], sg0)]
set_option maxRecDepth 100000 in
theorem okX7_kinds : Chk sgX7_kinds kX7_kinds := ⟨by decide +kernel, And.intro sgVX7_isSpeaker (And.intro sgSX7_isWorld (And.intro sgVX7_allSayableWere (And.intro sgSX7_bit trivial))), tb_l2 [(3, 1), (2, 196), (3, 139), (2, 208)] (by decide +kernel) (by decide +kernel), nw_l2 [] (by decide +kernel) (by decide +kernel), by decide +kernel⟩
set_option maxRecDepth 100000 in
def kX7_ask : List Row := [(.iload_n 1, 0, 1, 0, 0, 0, [], sg0),
  (.iconst 3, 1, 2, 0, 0, 3, [], sg0),
  (.invokestatic 106, 2, 3, 0, 0, 0, [], sgX7_isBelow),
  (.ifCond .ne 6, 5, 4, 6, 0, 0, [], sg0),
  (.bipush (-2), 8, 5, 0, 0, (-2), [], sg0),
  (.ireturn, 10, 6, 0, 0, 0, [], sg0),
  (.aload_n 0, 11, 7, 0, 0, 0, [], sg0),
  (.aload_n 0, 12, 8, 0, 0, 0, [], sg0),
  (.invokevirtual 156, 13, 9, 7, 0, 0, [], sgX7_fitting),
  (.aload_n 0, 16, 10, 0, 0, 0, [], sg0),
  (.getfield 42, 17, 11, 7, 4, 0, [], sg0),
  (.getfield 71, 20, 12, 4, 4, 1, [], sg0),
  (.invokevirtual 207, 23, 13, 7, 0, 0, [], sgX7_findBest),
  (.ifCond .ne 5, 26, 14, 16, 0, 0, [], sg0),
  (.iconst (-1), 29, 15, 0, 0, (-1), [], sg0),
  (.ireturn, 30, 16, 0, 0, 0, [], sg0),
  (.iload_n 1, 31, 17, 0, 0, 0, [], sg0),
  (.iconst 1, 32, 18, 0, 0, 1, [], sg0),
  (.if_icmp .ne 11, 33, 19, 23, 0, 0, [], sg0),
  (.aload_n 0, 36, 20, 0, 0, 0, [], sg0),
  (.getfield 59, 37, 21, 7, 7, 0, [], sg0),
  (.getfield 210, 40, 22, 2, 2, 1, [], sg0),
  (.ireturn, 43, 23, 0, 0, 0, [], sg0),
  (.iload_n 1, 44, 24, 0, 0, 0, [], sg0),
  (.iconst 2, 45, 25, 0, 0, 2, [], sg0),
  (.if_icmp .ne 13, 46, 26, 30, 0, 0, [], sg0),
  (.aload_n 0, 49, 27, 0, 0, 0, [], sg0),
  (.getfield 59, 50, 28, 7, 7, 0, [], sg0),
  (.getfield 213, 53, 29, 2, 3, 1, [], sg0),
  (.goto 21, 56, 30, 39, 0, 0, [], sg0),
  (.bipush 10, 59, 31, 0, 0, 10, [], sg0),
  (.aload_n 0, 61, 32, 0, 0, 0, [], sg0),
  (.getfield 59, 62, 33, 7, 7, 0, [], sg0),
  (.getfield 216, 65, 34, 2, 0, 1, [], sg0),
  (.imul, 68, 35, 0, 0, 0, [], sg0),
  (.aload_n 0, 69, 36, 0, 0, 0, [], sg0),
  (.getfield 59, 70, 37, 7, 7, 0, [], sg0),
  (.getfield 219, 73, 38, 2, 1, 1, [], sg0),
  (.iadd, 76, 39, 0, 0, 0, [], sg0),
  (.ireturn, 77, 40, 0, 0, 0, [], sg0),
  (.nop, 78, 41, 0, 0, 0, [], sg0)]
set_option maxRecDepth 100000 in
theorem okX7_ask : Chk sgX7_ask kX7_ask := ⟨by decide +kernel, And.intro sgSX7_isBelow (And.intro sgVX7_fitting (And.intro sgVX7_findBest trivial)), tb_l2 [(2, 189), (3, 35), (1, 194), (3, 147), (1, 197), (1, 197), (1, 197), (1, 197)] (by decide +kernel) (by decide +kernel), nw_l2 [(1, 128), (1, 178), (1, 180), (1, 174), (1, 176)] (by decide +kernel) (by decide +kernel), by decide +kernel⟩
set_option maxRecDepth 100000 in
def kX7_two : List Row := [(.iload_n 1, 0, 1, 0, 0, 0, [], sg0),
  (.iconst 2, 1, 2, 0, 0, 2, [], sg0),
  (.invokestatic 106, 2, 3, 0, 0, 0, [], sgX7_isBelow),
  (.ifCond .ne 6, 5, 4, 6, 0, 0, [], sg0),
  (.bipush (-2), 8, 5, 0, 0, (-2), [], sg0),
  (.ireturn, 10, 6, 0, 0, 0, [], sg0),
  (.aload_n 0, 11, 7, 0, 0, 0, [], sg0),
  (.getfield 42, 12, 8, 7, 4, 0, [], sg0),
  (.getfield 67, 15, 9, 4, 3, 1, [], sg0),
  (.ifCond .ne 5, 18, 10, 12, 0, 0, [], sg0),
  (.iconst (-1), 21, 11, 0, 0, (-1), [], sg0),
  (.ireturn, 22, 12, 0, 0, 0, [], sg0),
  (.aload_n 0, 23, 13, 0, 0, 0, [], sg0),
  (.invokevirtual 156, 24, 14, 7, 0, 0, [], sgX7_fitting),
  (.istore_n 2, 27, 15, 0, 0, 0, [], sg0),
  (.iconst 0, 28, 16, 0, 0, 0, [], sg0),
  (.istore_n 3, 29, 17, 0, 0, 0, [], sg0),
  (.bipush 33, 30, 18, 0, 0, 33, [], sg0),
  (.istore 4, 32, 19, 0, 0, 0, [], sg0),
  (.iconst 0, 34, 20, 0, 0, 0, [], sg0),
  (.istore 5, 35, 21, 0, 0, 0, [], sg0),
  (.iload 5, 37, 22, 0, 0, 0, [], sg0),
  (.aload_n 0, 39, 23, 0, 0, 0, [], sg0),
  (.getfield 42, 40, 24, 7, 4, 0, [], sg0),
  (.getfield 67, 43, 25, 4, 3, 1, [], sg0),
  (.if_icmp .ge 61, 46, 26, 54, 0, 0, [], sg0),
  (.iconst 0, 49, 27, 0, 0, 0, [], sg0),
  (.istore 6, 50, 28, 0, 0, 0, [], sg0),
  (.iload 6, 52, 29, 0, 0, 0, [], sg0),
  (.aload_n 0, 54, 30, 0, 0, 0, [], sg0),
  (.getfield 35, 55, 31, 7, 3, 0, [], sg0),
  (.getfield 74, 58, 32, 5, 3, 1, [], sg0),
  (.if_icmp .ge 40, 61, 33, 52, 0, 0, [], sg0),
  (.aload_n 0, 64, 34, 0, 0, 0, [], sg0),
  (.iload_n 2, 65, 35, 0, 0, 0, [], sg0),
  (.iload 5, 66, 36, 0, 0, 0, [], sg0),
  (.iload 6, 68, 37, 0, 0, 0, [], sg0),
  (.invokevirtual 222, 70, 38, 7, 0, 0, [], sgX7_worstBehind),
  (.istore 7, 73, 39, 0, 0, 0, [], sg0),
  (.iload 7, 75, 40, 0, 0, 0, [], sg0),
  (.iload 4, 77, 41, 0, 0, 0, [], sg0),
  (.if_icmp .ge 16, 79, 42, 50, 0, 0, [], sg0),
  (.iload 7, 82, 43, 0, 0, 0, [], sg0),
  (.istore 4, 84, 44, 0, 0, 0, [], sg0),
  (.bipush 10, 86, 45, 0, 0, 10, [], sg0),
  (.iload 5, 88, 46, 0, 0, 0, [], sg0),
  (.imul, 90, 47, 0, 0, 0, [], sg0),
  (.iload 6, 91, 48, 0, 0, 0, [], sg0),
  (.iadd, 93, 49, 0, 0, 0, [], sg0),
  (.istore_n 3, 94, 50, 0, 0, 0, [], sg0),
  (.iinc 6 1, 95, 51, 0, 0, 1, [], sg0),
  (.goto (-46), 98, 52, 28, 0, 0, [], sg0),
  (.iinc 5 1, 101, 53, 0, 0, 1, [], sg0),
  (.goto (-67), 104, 54, 21, 0, 0, [], sg0),
  (.iload_n 1, 107, 55, 0, 0, 0, [], sg0),
  (.ifCond .ne 7, 108, 56, 58, 0, 0, [], sg0),
  (.iload_n 3, 111, 57, 0, 0, 0, [], sg0),
  (.goto 5, 112, 58, 59, 0, 0, [], sg0),
  (.iload 4, 115, 59, 0, 0, 0, [], sg0),
  (.ireturn, 117, 60, 0, 0, 0, [], sg0),
  (.nop, 118, 61, 0, 0, 0, [], sg0)]
set_option maxRecDepth 100000 in
theorem okX7_two : Chk sgX7_two kX7_two := ⟨by decide +kernel, And.intro sgSX7_isBelow (And.intro sgVX7_fitting (And.intro sgVX7_worstBehind trivial)), tb_l2 [(2, 189), (1, 194), (3, 35), (1, 194), (1, 193), (3, 168)] (by decide +kernel) (by decide +kernel), nw_l2 [(1, 126), (1, 126), (1, 105)] (by decide +kernel) (by decide +kernel), by decide +kernel⟩
set_option maxRecDepth 100000 in
def kX7_parts : List Row := [(.aload_n 0, 0, 1, 0, 0, 0, [], sg0),
  (.iload_n 1, 1, 2, 0, 0, 0, [], sg0),
  (.invokevirtual 137, 2, 3, 7, 0, 0, [], sgX7_isSpeaker),
  (.ifCond .eq 11, 5, 4, 8, 0, 0, [], sg0),
  (.aload_n 0, 8, 5, 0, 0, 0, [], sg0),
  (.iload_n 2, 9, 6, 0, 0, 0, [], sg0),
  (.invokevirtual 100, 10, 7, 7, 0, 0, [], sgX7_isText),
  (.ifCond .ne 7, 13, 8, 10, 0, 0, [], sg0),
  (.ldc2_w 121, 16, 9, 0, 0, (-4611686018427387904), [], sg0),
  (.lreturn, 19, 10, 0, 0, 0, [], sg0),
  (.aload_n 0, 20, 11, 0, 0, 0, [], sg0),
  (.invokevirtual 156, 21, 12, 7, 0, 0, [], sgX7_fitting),
  (.istore 4, 24, 13, 0, 0, 0, [], sg0),
  (.iload 4, 26, 14, 0, 0, 0, [], sg0),
  (.aload_n 0, 28, 15, 0, 0, 0, [], sg0),
  (.iload_n 1, 29, 16, 0, 0, 0, [], sg0),
  (.iload_n 2, 30, 17, 0, 0, 0, [], sg0),
  (.iconst 0, 31, 18, 0, 0, 0, [], sg0),
  (.aload_n 0, 32, 19, 0, 0, 0, [], sg0),
  (.getfield 42, 33, 20, 7, 4, 0, [], sg0),
  (.getfield 71, 36, 21, 4, 4, 1, [], sg0),
  (.invokevirtual 225, 39, 22, 7, 0, 0, [], sgX7_sayableNext),
  (.iand, 42, 23, 0, 0, 0, [], sg0),
  (.istore 5, 43, 24, 0, 0, 0, [], sg0),
  (.iload 4, 45, 25, 0, 0, 0, [], sg0),
  (.aload_n 0, 47, 26, 0, 0, 0, [], sg0),
  (.iload_n 1, 48, 27, 0, 0, 0, [], sg0),
  (.iload_n 2, 49, 28, 0, 0, 0, [], sg0),
  (.iconst 1, 50, 29, 0, 0, 1, [], sg0),
  (.aload_n 0, 51, 30, 0, 0, 0, [], sg0),
  (.getfield 42, 52, 31, 7, 4, 0, [], sg0),
  (.getfield 71, 55, 32, 4, 4, 1, [], sg0),
  (.invokevirtual 225, 58, 33, 7, 0, 0, [], sgX7_sayableNext),
  (.iand, 61, 34, 0, 0, 0, [], sg0),
  (.istore 6, 62, 35, 0, 0, 0, [], sg0),
  (.iload_n 3, 64, 36, 0, 0, 0, [], sg0),
  (.tableswitch 68 0 3 #[31, 37, 43, 59], 65, 37, 59, 0, 0, [37, 40, 43, 54], sg0),
  (.iload 5, 96, 38, 0, 0, 0, [], sg0),
  (.invokestatic 123, 98, 39, 0, 0, 0, [], sgX7_bits),
  (.lreturn, 101, 40, 0, 0, 0, [], sg0),
  (.iload 6, 102, 41, 0, 0, 0, [], sg0),
  (.invokestatic 123, 104, 42, 0, 0, 0, [], sgX7_bits),
  (.lreturn, 107, 43, 0, 0, 0, [], sg0),
  (.iload 4, 108, 44, 0, 0, 0, [], sg0),
  (.iload 5, 110, 45, 0, 0, 0, [], sg0),
  (.iconst (-1), 112, 46, 0, 0, (-1), [], sg0),
  (.ixor, 113, 47, 0, 0, 0, [], sg0),
  (.iand, 114, 48, 0, 0, 0, [], sg0),
  (.iload 6, 115, 49, 0, 0, 0, [], sg0),
  (.iconst (-1), 117, 50, 0, 0, (-1), [], sg0),
  (.ixor, 118, 51, 0, 0, 0, [], sg0),
  (.iand, 119, 52, 0, 0, 0, [], sg0),
  (.invokestatic 123, 120, 53, 0, 0, 0, [], sgX7_bits),
  (.lreturn, 123, 54, 0, 0, 0, [], sg0),
  (.iload 5, 124, 55, 0, 0, 0, [], sg0),
  (.iload 6, 126, 56, 0, 0, 0, [], sg0),
  (.iand, 128, 57, 0, 0, 0, [], sg0),
  (.invokestatic 123, 129, 58, 0, 0, 0, [], sgX7_bits),
  (.lreturn, 132, 59, 0, 0, 0, [], sg0),
  (.ldc2_w 121, 133, 60, 0, 0, (-4611686018427387904), [], sg0),
  (.lreturn, 136, 61, 0, 0, 0, [], sg0),
  (.nop, 137, 62, 0, 0, 0, [], sg0)]
set_option maxRecDepth 100000 in
theorem okX7_parts : Chk sgX7_parts kX7_parts := ⟨by decide +kernel, And.intro sgVX7_isSpeaker (And.intro sgVX7_isText (And.intro sgVX7_fitting (And.intro sgVX7_sayableNext (And.intro sgVX7_sayableNext (And.intro sgSX7_bits (And.intro sgSX7_bits (And.intro sgSX7_bits (And.intro sgSX7_bits trivial)))))))), tb_l2 [(3, 1), (2, 185), (2, 213), (3, 35), (1, 194), (3, 155), (1, 194), (3, 155), (2, 214), (2, 214), (2, 214), (2, 214), (2, 213)] (by decide +kernel) (by decide +kernel), nw_l2 [(1, 128), (1, 128)] (by decide +kernel) (by decide +kernel), by decide +kernel⟩
set_option maxRecDepth 100000 in
def kX7_hide : List Row := [(.aload_n 0, 0, 1, 0, 0, 0, [], sg0),
  (.iload_n 1, 1, 2, 0, 0, 0, [], sg0),
  (.invokevirtual 137, 2, 3, 7, 0, 0, [], sgX7_isSpeaker),
  (.ifCond .eq 18, 5, 4, 11, 0, 0, [], sg0),
  (.iload_n 2, 8, 5, 0, 0, 0, [], sg0),
  (.invokestatic 103, 9, 6, 0, 0, 0, [], sgX7_isWorld),
  (.ifCond .eq 11, 12, 7, 11, 0, 0, [], sg0),
  (.iload_n 3, 15, 8, 0, 0, 0, [], sg0),
  (.iconst 5, 16, 9, 0, 0, 5, [], sg0),
  (.invokestatic 106, 17, 10, 0, 0, 0, [], sgX7_isBelow),
  (.ifCond .ne 6, 20, 11, 13, 0, 0, [], sg0),
  (.bipush (-5), 23, 12, 0, 0, (-5), [], sg0),
  (.ireturn, 25, 13, 0, 0, 0, [], sg0),
  (.aload_n 0, 26, 14, 0, 0, 0, [], sg0),
  (.invokevirtual 176, 27, 15, 7, 0, 0, [], sgX7_lawful),
  (.istore 4, 30, 16, 0, 0, 0, [], sg0),
  (.aload_n 0, 32, 17, 0, 0, 0, [], sg0),
  (.invokevirtual 156, 33, 18, 7, 0, 0, [], sgX7_fitting),
  (.istore 5, 36, 19, 0, 0, 0, [], sg0),
  (.iconst 0, 38, 20, 0, 0, 0, [], sg0),
  (.istore 6, 39, 21, 0, 0, 0, [], sg0),
  (.iconst 0, 41, 22, 0, 0, 0, [], sg0),
  (.istore 7, 42, 23, 0, 0, 0, [], sg0),
  (.iload 7, 44, 24, 0, 0, 0, [], sg0),
  (.iconst 2, 46, 25, 0, 0, 2, [], sg0),
  (.aload_n 0, 47, 26, 0, 0, 0, [], sg0),
  (.getfield 35, 48, 27, 7, 3, 0, [], sg0),
  (.getfield 74, 51, 28, 5, 3, 1, [], sg0),
  (.imul, 54, 29, 0, 0, 0, [], sg0),
  (.if_icmp .ge 65, 55, 30, 64, 0, 0, [], sg0),
  (.aload_n 0, 58, 31, 0, 0, 0, [], sg0),
  (.iload_n 1, 59, 32, 0, 0, 0, [], sg0),
  (.iload 7, 60, 33, 0, 0, 0, [], sg0),
  (.iconst 1, 62, 34, 0, 0, 1, [], sg0),
  (.ishr, 63, 35, 0, 0, 0, [], sg0),
  (.iload 7, 64, 36, 0, 0, 0, [], sg0),
  (.iconst 1, 66, 37, 0, 0, 1, [], sg0),
  (.iand, 67, 38, 0, 0, 0, [], sg0),
  (.aload_n 0, 68, 39, 0, 0, 0, [], sg0),
  (.getfield 42, 69, 40, 7, 4, 0, [], sg0),
  (.getfield 71, 72, 41, 4, 4, 1, [], sg0),
  (.invokevirtual 225, 75, 42, 7, 0, 0, [], sgX7_sayableNext),
  (.istore 8, 78, 43, 0, 0, 0, [], sg0),
  (.iload 4, 80, 44, 0, 0, 0, [], sg0),
  (.iload 8, 82, 45, 0, 0, 0, [], sg0),
  (.iand, 84, 46, 0, 0, 0, [], sg0),
  (.iload_n 2, 85, 47, 0, 0, 0, [], sg0),
  (.invokestatic 118, 86, 48, 0, 0, 0, [], sgX7_bit),
  (.iconst 1, 89, 49, 0, 0, 1, [], sg0),
  (.if_icmp .ne 24, 90, 50, 62, 0, 0, [], sg0),
  (.iload_n 3, 93, 51, 0, 0, 0, [], sg0),
  (.iload 5, 94, 52, 0, 0, 0, [], sg0),
  (.iload 8, 96, 53, 0, 0, 0, [], sg0),
  (.iand, 98, 54, 0, 0, 0, [], sg0),
  (.invokestatic 229, 99, 55, 0, 0, 0, [], sgX7_isSure),
  (.ifCond .ne 12, 102, 56, 62, 0, 0, [], sg0),
  (.iload 6, 105, 57, 0, 0, 0, [], sg0),
  (.iconst 1, 107, 58, 0, 0, 1, [], sg0),
  (.iload 7, 108, 59, 0, 0, 0, [], sg0),
  (.ishl, 110, 60, 0, 0, 0, [], sg0),
  (.ior, 111, 61, 0, 0, 0, [], sg0),
  (.istore 6, 112, 62, 0, 0, 0, [], sg0),
  (.iinc 7 1, 114, 63, 0, 0, 1, [], sg0),
  (.goto (-73), 117, 64, 23, 0, 0, [], sg0),
  (.iload 6, 120, 65, 0, 0, 0, [], sg0),
  (.ireturn, 122, 66, 0, 0, 0, [], sg0),
  (.nop, 123, 67, 0, 0, 0, [], sg0)]
set_option maxRecDepth 100000 in
theorem okX7_hide : Chk sgX7_hide kX7_hide := ⟨by decide +kernel, And.intro sgVX7_isSpeaker (And.intro sgSX7_isWorld (And.intro sgSX7_isBelow (And.intro sgVX7_lawful (And.intro sgVX7_fitting (And.intro sgVX7_sayableNext (And.intro sgSX7_bit (And.intro sgSX7_isSure trivial))))))), tb_l2 [(3, 1), (2, 196), (2, 189), (3, 43), (3, 35), (1, 193), (1, 194), (3, 155), (2, 208), (3, 88)] (by decide +kernel) (by decide +kernel), nw_l2 [(1, 105), (1, 128)] (by decide +kernel) (by decide +kernel), by decide +kernel⟩
set_option maxRecDepth 100000 in
def kX7_same : List Row := [(.aload_n 0, 0, 1, 0, 0, 0, [], sg0),
  (.iload_n 1, 1, 2, 0, 0, 0, [], sg0),
  (.invokevirtual 100, 2, 3, 7, 0, 0, [], sgX7_isText),
  (.ifCond .eq 11, 5, 4, 8, 0, 0, [], sg0),
  (.aload_n 0, 8, 5, 0, 0, 0, [], sg0),
  (.iload_n 2, 9, 6, 0, 0, 0, [], sg0),
  (.invokevirtual 100, 10, 7, 7, 0, 0, [], sgX7_isText),
  (.ifCond .ne 6, 13, 8, 10, 0, 0, [], sg0),
  (.bipush (-5), 16, 9, 0, 0, (-5), [], sg0),
  (.ireturn, 18, 10, 0, 0, 0, [], sg0),
  (.iload_n 3, 19, 11, 0, 0, 0, [], sg0),
  (.iconst 2, 20, 12, 0, 0, 2, [], sg0),
  (.invokestatic 106, 21, 13, 0, 0, 0, [], sgX7_isBelow),
  (.ifCond .ne 6, 24, 14, 16, 0, 0, [], sg0),
  (.bipush (-7), 27, 15, 0, 0, (-7), [], sg0),
  (.ireturn, 29, 16, 0, 0, 0, [], sg0),
  (.iload_n 3, 30, 17, 0, 0, 0, [], sg0),
  (.ifCond .ne 10, 31, 18, 21, 0, 0, [], sg0),
  (.aload_n 0, 34, 19, 0, 0, 0, [], sg0),
  (.invokevirtual 156, 35, 20, 7, 0, 0, [], sgX7_fitting),
  (.goto 4, 38, 21, 22, 0, 0, [], sg0),
  (.iconst (-1), 41, 22, 0, 0, (-1), [], sg0),
  (.istore 4, 42, 23, 0, 0, 0, [], sg0),
  (.aload_n 0, 44, 24, 0, 0, 0, [], sg0),
  (.iload_n 1, 45, 25, 0, 0, 0, [], sg0),
  (.invokevirtual 232, 46, 26, 7, 0, 0, [], sgX7_onceOf),
  (.aload_n 0, 49, 27, 0, 0, 0, [], sg0),
  (.iload_n 2, 50, 28, 0, 0, 0, [], sg0),
  (.invokevirtual 232, 51, 29, 7, 0, 0, [], sgX7_onceOf),
  (.ixor, 54, 30, 0, 0, 0, [], sg0),
  (.iload 4, 55, 31, 0, 0, 0, [], sg0),
  (.iand, 57, 32, 0, 0, 0, [], sg0),
  (.ifCond .ne 7, 58, 33, 35, 0, 0, [], sg0),
  (.iconst 1, 61, 34, 0, 0, 1, [], sg0),
  (.goto 4, 62, 35, 36, 0, 0, [], sg0),
  (.iconst 0, 65, 36, 0, 0, 0, [], sg0),
  (.ireturn, 66, 37, 0, 0, 0, [], sg0),
  (.nop, 67, 38, 0, 0, 0, [], sg0)]
set_option maxRecDepth 100000 in
theorem okX7_same : Chk sgX7_same kX7_same := ⟨by decide +kernel, And.intro sgVX7_isText (And.intro sgVX7_isText (And.intro sgSX7_isBelow (And.intro sgVX7_fitting (And.intro sgVX7_onceOf (And.intro sgVX7_onceOf trivial))))), tb_l2 [(2, 185), (2, 185), (2, 189), (3, 35), (3, 47), (3, 47)] (by decide +kernel) (by decide +kernel), nw_l2 [] (by decide +kernel) (by decide +kernel), by decide +kernel⟩
set_option maxRecDepth 100000 in
def kX7_claims : List Row := [(.aload_n 0, 0, 1, 0, 0, 0, [], sg0),
  (.iload_n 1, 1, 2, 0, 0, 0, [], sg0),
  (.invokevirtual 100, 2, 3, 7, 0, 0, [], sgX7_isText),
  (.ifCond .ne 6, 5, 4, 6, 0, 0, [], sg0),
  (.bipush (-5), 8, 5, 0, 0, (-5), [], sg0),
  (.ireturn, 10, 6, 0, 0, 0, [], sg0),
  (.aload_n 0, 11, 7, 0, 0, 0, [], sg0),
  (.invokevirtual 156, 12, 8, 7, 0, 0, [], sgX7_fitting),
  (.aload_n 0, 15, 9, 0, 0, 0, [], sg0),
  (.iload_n 1, 16, 10, 0, 0, 0, [], sg0),
  (.invokevirtual 232, 17, 11, 7, 0, 0, [], sgX7_onceOf),
  (.iand, 20, 12, 0, 0, 0, [], sg0),
  (.istore_n 2, 21, 13, 0, 0, 0, [], sg0),
  (.iconst 0, 22, 14, 0, 0, 0, [], sg0),
  (.istore_n 3, 23, 15, 0, 0, 0, [], sg0),
  (.iconst 0, 24, 16, 0, 0, 0, [], sg0),
  (.istore 4, 25, 17, 0, 0, 0, [], sg0),
  (.iload 4, 27, 18, 0, 0, 0, [], sg0),
  (.aload_n 0, 29, 19, 0, 0, 0, [], sg0),
  (.getfield 35, 30, 20, 7, 3, 0, [], sg0),
  (.getfield 74, 33, 21, 5, 3, 1, [], sg0),
  (.if_icmp .ge 29, 36, 22, 38, 0, 0, [], sg0),
  (.iload_n 2, 39, 23, 0, 0, 0, [], sg0),
  (.aload_n 0, 40, 24, 0, 0, 0, [], sg0),
  (.iload 4, 41, 25, 0, 0, 0, [], sg0),
  (.invokevirtual 232, 43, 26, 7, 0, 0, [], sgX7_onceOf),
  (.iconst (-1), 46, 27, 0, 0, (-1), [], sg0),
  (.ixor, 47, 28, 0, 0, 0, [], sg0),
  (.iand, 48, 29, 0, 0, 0, [], sg0),
  (.ifCond .ne 10, 49, 30, 36, 0, 0, [], sg0),
  (.iload_n 3, 52, 31, 0, 0, 0, [], sg0),
  (.iconst 1, 53, 32, 0, 0, 1, [], sg0),
  (.iload 4, 54, 33, 0, 0, 0, [], sg0),
  (.ishl, 56, 34, 0, 0, 0, [], sg0),
  (.ior, 57, 35, 0, 0, 0, [], sg0),
  (.istore_n 3, 58, 36, 0, 0, 0, [], sg0),
  (.iinc 4 1, 59, 37, 0, 0, 1, [], sg0),
  (.goto (-35), 62, 38, 17, 0, 0, [], sg0),
  (.iload_n 3, 65, 39, 0, 0, 0, [], sg0),
  (.ireturn, 66, 40, 0, 0, 0, [], sg0),
  (.nop, 67, 41, 0, 0, 0, [], sg0)]
set_option maxRecDepth 100000 in
theorem okX7_claims : Chk sgX7_claims kX7_claims := ⟨by decide +kernel, And.intro sgVX7_isText (And.intro sgVX7_fitting (And.intro sgVX7_onceOf (And.intro sgVX7_onceOf trivial))), tb_l2 [(2, 185), (3, 35), (3, 47), (1, 193), (3, 47)] (by decide +kernel) (by decide +kernel), nw_l2 [(1, 105)] (by decide +kernel) (by decide +kernel), by decide +kernel⟩
set_option maxRecDepth 100000 in
def kX7_settle : List Row := [(.iload_n 1, 0, 1, 0, 0, 0, [], sg0),
  (.iconst 2, 1, 2, 0, 0, 2, [], sg0),
  (.invokestatic 106, 2, 3, 0, 0, 0, [], sgX7_isBelow),
  (.ifCond .ne 6, 5, 4, 6, 0, 0, [], sg0),
  (.bipush (-2), 8, 5, 0, 0, (-2), [], sg0),
  (.ireturn, 10, 6, 0, 0, 0, [], sg0),
  (.aload_n 0, 11, 7, 0, 0, 0, [], sg0),
  (.invokevirtual 156, 12, 8, 7, 0, 0, [], sgX7_fitting),
  (.istore_n 2, 15, 9, 0, 0, 0, [], sg0),
  (.iconst (-1), 16, 10, 0, 0, (-1), [], sg0),
  (.istore_n 3, 17, 11, 0, 0, 0, [], sg0),
  (.iconst 0, 18, 12, 0, 0, 0, [], sg0),
  (.istore 4, 19, 13, 0, 0, 0, [], sg0),
  (.iload 4, 21, 14, 0, 0, 0, [], sg0),
  (.iconst 1, 23, 15, 0, 0, 1, [], sg0),
  (.aload_n 0, 24, 16, 0, 0, 0, [], sg0),
  (.getfield 35, 25, 17, 7, 3, 0, [], sg0),
  (.getfield 74, 28, 18, 5, 3, 1, [], sg0),
  (.ishl, 31, 19, 0, 0, 0, [], sg0),
  (.if_icmp .ge 36, 32, 20, 36, 0, 0, [], sg0),
  (.aload_n 0, 35, 21, 0, 0, 0, [], sg0),
  (.iload 4, 36, 22, 0, 0, 0, [], sg0),
  (.iload_n 2, 38, 23, 0, 0, 0, [], sg0),
  (.invokevirtual 235, 39, 24, 7, 0, 0, [], sgX7_settles),
  (.ifCond .eq 20, 42, 25, 34, 0, 0, [], sg0),
  (.iload_n 3, 45, 26, 0, 0, 0, [], sg0),
  (.iconst (-1), 46, 27, 0, 0, (-1), [], sg0),
  (.if_icmp .ne 8, 47, 28, 30, 0, 0, [], sg0),
  (.iload 4, 50, 29, 0, 0, 0, [], sg0),
  (.goto 9, 52, 30, 33, 0, 0, [], sg0),
  (.iload 4, 55, 31, 0, 0, 0, [], sg0),
  (.iload_n 3, 57, 32, 0, 0, 0, [], sg0),
  (.invokestatic 188, 58, 33, 0, 0, 0, [], sgX7_fewer),
  (.istore_n 3, 61, 34, 0, 0, 0, [], sg0),
  (.iinc 4 1, 62, 35, 0, 0, 1, [], sg0),
  (.goto (-44), 65, 36, 13, 0, 0, [], sg0),
  (.iload_n 1, 68, 37, 0, 0, 0, [], sg0),
  (.iconst 1, 69, 38, 0, 0, 1, [], sg0),
  (.if_icmp .eq 8, 70, 39, 42, 0, 0, [], sg0),
  (.iload_n 3, 73, 40, 0, 0, 0, [], sg0),
  (.iconst (-1), 74, 41, 0, 0, (-1), [], sg0),
  (.if_icmp .ne 7, 75, 42, 44, 0, 0, [], sg0),
  (.iload_n 3, 78, 43, 0, 0, 0, [], sg0),
  (.goto 7, 79, 44, 46, 0, 0, [], sg0),
  (.iload_n 3, 82, 45, 0, 0, 0, [], sg0),
  (.invokestatic 164, 83, 46, 0, 0, 0, [], sgJ6_bitCount_0f7a4),
  (.ireturn, 86, 47, 0, 0, 0, [], sg0),
  (.nop, 87, 48, 0, 0, 0, [], sg0)]
set_option maxRecDepth 100000 in
theorem okX7_settle : Chk sgX7_settle kX7_settle := ⟨by decide +kernel, And.intro sgSX7_isBelow (And.intro sgVX7_fitting (And.intro sgVX7_settles (And.intro sgSX7_fewer (And.intro sgSJ6_bitCount_0f7a4 trivial)))), tb_l2 [(2, 189), (3, 35), (1, 193), (3, 192), (3, 114), (3, 77)] (by decide +kernel) (by decide +kernel), nw_l2 [(1, 105)] (by decide +kernel) (by decide +kernel), by decide +kernel⟩
set_option maxRecDepth 100000 in
def kX7_thrice : List Row := [(.aload_n 0, 0, 1, 0, 0, 0, [], sg0),
  (.iload_n 1, 1, 2, 0, 0, 0, [], sg0),
  (.invokevirtual 100, 2, 3, 7, 0, 0, [], sgX7_isText),
  (.ifCond .eq 19, 5, 4, 12, 0, 0, [], sg0),
  (.aload_n 0, 8, 5, 0, 0, 0, [], sg0),
  (.iload_n 2, 9, 6, 0, 0, 0, [], sg0),
  (.invokevirtual 100, 10, 7, 7, 0, 0, [], sgX7_isText),
  (.ifCond .eq 11, 13, 8, 12, 0, 0, [], sg0),
  (.aload_n 0, 16, 9, 0, 0, 0, [], sg0),
  (.iload_n 3, 17, 10, 0, 0, 0, [], sg0),
  (.invokevirtual 100, 18, 11, 7, 0, 0, [], sgX7_isText),
  (.ifCond .ne 7, 21, 12, 14, 0, 0, [], sg0),
  (.ldc2_w 121, 24, 13, 0, 0, (-4611686018427387904), [], sg0),
  (.lreturn, 27, 14, 0, 0, 0, [], sg0),
  (.aload_n 0, 28, 15, 0, 0, 0, [], sg0),
  (.iload_n 1, 29, 16, 0, 0, 0, [], sg0),
  (.invokevirtual 232, 30, 17, 7, 0, 0, [], sgX7_onceOf),
  (.aload_n 0, 33, 18, 0, 0, 0, [], sg0),
  (.iload_n 2, 34, 19, 0, 0, 0, [], sg0),
  (.invokevirtual 232, 35, 20, 7, 0, 0, [], sgX7_onceOf),
  (.ixor, 38, 21, 0, 0, 0, [], sg0),
  (.aload_n 0, 39, 22, 0, 0, 0, [], sg0),
  (.iload_n 3, 40, 23, 0, 0, 0, [], sg0),
  (.invokevirtual 232, 41, 24, 7, 0, 0, [], sgX7_onceOf),
  (.ixor, 44, 25, 0, 0, 0, [], sg0),
  (.istore 4, 45, 26, 0, 0, 0, [], sg0),
  (.aload_n 0, 47, 27, 0, 0, 0, [], sg0),
  (.iload_n 1, 48, 28, 0, 0, 0, [], sg0),
  (.invokevirtual 232, 49, 29, 7, 0, 0, [], sgX7_onceOf),
  (.aload_n 0, 52, 30, 0, 0, 0, [], sg0),
  (.iload_n 2, 53, 31, 0, 0, 0, [], sg0),
  (.invokevirtual 232, 54, 32, 7, 0, 0, [], sgX7_onceOf),
  (.iand, 57, 33, 0, 0, 0, [], sg0),
  (.aload_n 0, 58, 34, 0, 0, 0, [], sg0),
  (.iload_n 3, 59, 35, 0, 0, 0, [], sg0),
  (.invokevirtual 232, 60, 36, 7, 0, 0, [], sgX7_onceOf),
  (.iand, 63, 37, 0, 0, 0, [], sg0),
  (.istore 5, 64, 38, 0, 0, 0, [], sg0),
  (.aload_n 0, 66, 39, 0, 0, 0, [], sg0),
  (.invokevirtual 156, 67, 40, 7, 0, 0, [], sgX7_fitting),
  (.iload 4, 70, 41, 0, 0, 0, [], sg0),
  (.iand, 72, 42, 0, 0, 0, [], sg0),
  (.iload 5, 73, 43, 0, 0, 0, [], sg0),
  (.iconst (-1), 75, 44, 0, 0, (-1), [], sg0),
  (.ixor, 76, 45, 0, 0, 0, [], sg0),
  (.iand, 77, 46, 0, 0, 0, [], sg0),
  (.invokestatic 123, 78, 47, 0, 0, 0, [], sgX7_bits),
  (.lreturn, 81, 48, 0, 0, 0, [], sg0),
  (.nop, 82, 49, 0, 0, 0, [], sg0)]
set_option maxRecDepth 100000 in
theorem okX7_thrice : Chk sgX7_thrice kX7_thrice := ⟨by decide +kernel, And.intro sgVX7_isText (And.intro sgVX7_isText (And.intro sgVX7_isText (And.intro sgVX7_onceOf (And.intro sgVX7_onceOf (And.intro sgVX7_onceOf (And.intro sgVX7_onceOf (And.intro sgVX7_onceOf (And.intro sgVX7_onceOf (And.intro sgVX7_fitting (And.intro sgSX7_bits trivial)))))))))), tb_l2 [(2, 185), (2, 185), (2, 185), (2, 213), (3, 47), (3, 47), (3, 47), (3, 47), (3, 47), (3, 47), (3, 35), (2, 214)] (by decide +kernel) (by decide +kernel), nw_l2 [] (by decide +kernel) (by decide +kernel), by decide +kernel⟩
set_option maxRecDepth 100000 in
def kX7_many : List Row := [(.iload_n 1, 0, 1, 0, 0, 0, [], sg0),
  (.bipush 8, 1, 2, 0, 0, 8, [], sg0),
  (.invokestatic 106, 3, 3, 0, 0, 0, [], sgX7_isBelow),
  (.ifCond .ne 6, 6, 4, 6, 0, 0, [], sg0),
  (.bipush (-2), 9, 5, 0, 0, (-2), [], sg0),
  (.ireturn, 11, 6, 0, 0, 0, [], sg0),
  (.aload_n 0, 12, 7, 0, 0, 0, [], sg0),
  (.invokevirtual 156, 13, 8, 7, 0, 0, [], sgX7_fitting),
  (.istore_n 2, 16, 9, 0, 0, 0, [], sg0),
  (.iload_n 2, 17, 10, 0, 0, 0, [], sg0),
  (.ifCond .ne 5, 18, 11, 13, 0, 0, [], sg0),
  (.iconst (-1), 21, 12, 0, 0, (-1), [], sg0),
  (.ireturn, 22, 13, 0, 0, 0, [], sg0),
  (.iconst 5, 23, 14, 0, 0, 5, [], sg0),
  (.istore_n 3, 24, 15, 0, 0, 0, [], sg0),
  (.iconst 0, 25, 16, 0, 0, 0, [], sg0),
  (.istore 4, 26, 17, 0, 0, 0, [], sg0),
  (.iconst 0, 28, 18, 0, 0, 0, [], sg0),
  (.istore 5, 29, 19, 0, 0, 0, [], sg0),
  (.iconst 0, 31, 20, 0, 0, 0, [], sg0),
  (.istore 6, 32, 21, 0, 0, 0, [], sg0),
  (.iload 6, 34, 22, 0, 0, 0, [], sg0),
  (.bipush 32, 36, 23, 0, 0, 32, [], sg0),
  (.if_icmp .ge 53, 38, 24, 48, 0, 0, [], sg0),
  (.iload_n 2, 41, 25, 0, 0, 0, [], sg0),
  (.iload 6, 42, 26, 0, 0, 0, [], sg0),
  (.invokestatic 118, 44, 27, 0, 0, 0, [], sgX7_bit),
  (.iconst 1, 47, 28, 0, 0, 1, [], sg0),
  (.if_icmp .ne 37, 48, 29, 46, 0, 0, [], sg0),
  (.iload 6, 51, 30, 0, 0, 0, [], sg0),
  (.invokestatic 164, 53, 31, 0, 0, 0, [], sgJ6_bitCount_0f7a4),
  (.istore 7, 56, 32, 0, 0, 0, [], sg0),
  (.iload_n 3, 58, 33, 0, 0, 0, [], sg0),
  (.iload 7, 59, 34, 0, 0, 0, [], sg0),
  (.invokestatic 238, 61, 35, 0, 8, 0, [], sg0),
  (.istore_n 3, 64, 36, 0, 0, 0, [], sg0),
  (.iload 4, 65, 37, 0, 0, 0, [], sg0),
  (.iload 7, 67, 38, 0, 0, 0, [], sg0),
  (.invokestatic 243, 69, 39, 0, 7, 0, [], sg0),
  (.istore 4, 72, 40, 0, 0, 0, [], sg0),
  (.iload 7, 74, 41, 0, 0, 0, [], sg0),
  (.iload_n 1, 76, 42, 0, 0, 0, [], sg0),
  (.iconst 2, 77, 43, 0, 0, 2, [], sg0),
  (.isub, 78, 44, 0, 0, 0, [], sg0),
  (.if_icmp .ne 6, 79, 45, 46, 0, 0, [], sg0),
  (.iinc 5 1, 82, 46, 0, 0, 1, [], sg0),
  (.iinc 6 1, 85, 47, 0, 0, 1, [], sg0),
  (.goto (-54), 88, 48, 21, 0, 0, [], sg0),
  (.iload_n 1, 91, 49, 0, 0, 0, [], sg0),
  (.ifCond .ne 7, 92, 50, 52, 0, 0, [], sg0),
  (.iload_n 3, 95, 51, 0, 0, 0, [], sg0),
  (.goto 15, 96, 52, 58, 0, 0, [], sg0),
  (.iload_n 1, 99, 53, 0, 0, 0, [], sg0),
  (.iconst 1, 100, 54, 0, 0, 1, [], sg0),
  (.if_icmp .ne 8, 101, 55, 57, 0, 0, [], sg0),
  (.iload 4, 104, 56, 0, 0, 0, [], sg0),
  (.goto 5, 106, 57, 58, 0, 0, [], sg0),
  (.iload 5, 109, 58, 0, 0, 0, [], sg0),
  (.ireturn, 111, 59, 0, 0, 0, [], sg0),
  (.nop, 112, 60, 0, 0, 0, [], sg0)]
set_option maxRecDepth 100000 in
theorem okX7_many : Chk sgX7_many kX7_many := ⟨by decide +kernel, And.intro sgSX7_isBelow (And.intro sgVX7_fitting (And.intro sgSX7_bit (And.intro sgSJ6_bitCount_0f7a4 trivial))), tb_l2 [(2, 189), (3, 35), (2, 208), (3, 77), (3, 208), (2, 175), (1, 14), (2, 176), (3, 159), (2, 178), (1, 14), (2, 179)] (by decide +kernel) (by decide +kernel), nw_l2 [] (by decide +kernel) (by decide +kernel), by decide +kernel⟩
set_option maxRecDepth 100000 in
def kX7_judge : List Row := [(.iload_n 1, 0, 1, 0, 0, 0, [], sg0),
  (.iconst 4, 1, 2, 0, 0, 4, [], sg0),
  (.invokestatic 106, 2, 3, 0, 0, 0, [], sgX7_isBelow),
  (.ifCond .ne 6, 5, 4, 6, 0, 0, [], sg0),
  (.bipush (-2), 8, 5, 0, 0, (-2), [], sg0),
  (.ireturn, 10, 6, 0, 0, 0, [], sg0),
  (.aload_n 0, 11, 7, 0, 0, 0, [], sg0),
  (.getfield 52, 12, 8, 7, 6, 0, [], sg0),
  (.iload_n 1, 15, 9, 0, 0, 0, [], sg0),
  (.invokevirtual 246, 16, 10, 3, 0, 1, [], sgX3_isMissing),
  (.ifCond .eq 6, 19, 11, 13, 0, 0, [], sg0),
  (.bipush (-11), 22, 12, 0, 0, (-11), [], sg0),
  (.ireturn, 24, 13, 0, 0, 0, [], sg0),
  (.aload_n 0, 25, 14, 0, 0, 0, [], sg0),
  (.getfield 52, 26, 15, 7, 6, 0, [], sg0),
  (.getfield 249, 29, 16, 3, 1, 1, [], sg0),
  (.iload_n 1, 32, 17, 0, 0, 0, [], sg0),
  (.invokestatic 144, 33, 18, 0, 0, 0, [], sgX7_at),
  (.istore_n 3, 36, 19, 0, 0, 0, [], sg0),
  (.iload_n 3, 37, 20, 0, 0, 0, [], sg0),
  (.iconst 3, 38, 21, 0, 0, 3, [], sg0),
  (.irem, 39, 22, 0, 0, 0, [], sg0),
  (.ifCond .eq 6, 40, 23, 25, 0, 0, [], sg0),
  (.bipush (-2), 43, 24, 0, 0, (-2), [], sg0),
  (.ireturn, 45, 25, 0, 0, 0, [], sg0),
  (.iload_n 2, 46, 26, 0, 0, 0, [], sg0),
  (.invokestatic 103, 47, 27, 0, 0, 0, [], sgX7_isWorld),
  (.ifCond .ne 6, 50, 28, 30, 0, 0, [], sg0),
  (.bipush (-5), 53, 29, 0, 0, (-5), [], sg0),
  (.ireturn, 55, 30, 0, 0, 0, [], sg0),
  (.iconst 0, 56, 31, 0, 0, 0, [], sg0),
  (.istore 4, 57, 32, 0, 0, 0, [], sg0),
  (.iload 4, 59, 33, 0, 0, 0, [], sg0),
  (.iload_n 3, 61, 34, 0, 0, 0, [], sg0),
  (.iconst 3, 62, 35, 0, 0, 3, [], sg0),
  (.idiv, 63, 36, 0, 0, 0, [], sg0),
  (.if_icmp .ge 23, 64, 37, 47, 0, 0, [], sg0),
  (.aload_n 0, 67, 38, 0, 0, 0, [], sg0),
  (.iload_n 1, 68, 39, 0, 0, 0, [], sg0),
  (.iload 4, 69, 40, 0, 0, 0, [], sg0),
  (.iload_n 2, 71, 41, 0, 0, 0, [], sg0),
  (.invokevirtual 252, 72, 42, 7, 0, 0, [], sgX7_rowFits),
  (.ifCond .ne 6, 75, 43, 45, 0, 0, [], sg0),
  (.iload 4, 78, 44, 0, 0, 0, [], sg0),
  (.ireturn, 80, 45, 0, 0, 0, [], sg0),
  (.iinc 4 1, 81, 46, 0, 0, 1, [], sg0),
  (.goto (-25), 84, 47, 32, 0, 0, [], sg0),
  (.iconst (-1), 87, 48, 0, 0, (-1), [], sg0),
  (.ireturn, 88, 49, 0, 0, 0, [], sg0),
  (.nop, 89, 50, 0, 0, 0, [], sg0)]
set_option maxRecDepth 100000 in
theorem okX7_judge : Chk sgX7_judge kX7_judge := ⟨by decide +kernel, And.intro sgSX7_isBelow (And.intro sgVX3_isMissing (And.intro sgSX7_at (And.intro sgSX7_isWorld (And.intro sgVX7_rowFits trivial)))), tb_l2 [(2, 189), (1, 196), (1, 196), (3, 5), (2, 196), (3, 218)] (by decide +kernel) (by decide +kernel), nw_l2 [(3, 213), (1, 155)] (by decide +kernel) (by decide +kernel), by decide +kernel⟩
set_option maxRecDepth 100000 in
def kX7_film : List Row := [(.iload_n 1, 0, 1, 0, 0, 0, [], sg0),
  (.iconst 4, 1, 2, 0, 0, 4, [], sg0),
  (.invokestatic 106, 2, 3, 0, 0, 0, [], sgX7_isBelow),
  (.ifCond .ne 6, 5, 4, 6, 0, 0, [], sg0),
  (.bipush (-2), 8, 5, 0, 0, (-2), [], sg0),
  (.ireturn, 10, 6, 0, 0, 0, [], sg0),
  (.aload_n 0, 11, 7, 0, 0, 0, [], sg0),
  (.getfield 52, 12, 8, 7, 6, 0, [], sg0),
  (.iload_n 1, 15, 9, 0, 0, 0, [], sg0),
  (.iconst 2, 16, 10, 0, 0, 2, [], sg0),
  (.iconst 3, 17, 11, 0, 0, 3, [], sg0),
  (.aload_n 0, 18, 12, 0, 0, 0, [], sg0),
  (.getfield 42, 19, 13, 7, 4, 0, [], sg0),
  (.getfield 71, 22, 14, 4, 4, 1, [], sg0),
  (.imul, 25, 15, 0, 0, 0, [], sg0),
  (.invokevirtual 256, 26, 16, 3, 0, 1, [], sgX3_make),
  (.iconst 0, 29, 17, 0, 0, 0, [], sg0),
  (.istore_n 2, 30, 18, 0, 0, 0, [], sg0),
  (.iload_n 2, 31, 19, 0, 0, 0, [], sg0),
  (.aload_n 0, 32, 20, 0, 0, 0, [], sg0),
  (.getfield 42, 33, 21, 7, 4, 0, [], sg0),
  (.getfield 71, 36, 22, 4, 4, 1, [], sg0),
  (.if_icmp .ge 44, 39, 23, 46, 0, 0, [], sg0),
  (.iconst 0, 42, 24, 0, 0, 0, [], sg0),
  (.istore_n 3, 43, 25, 0, 0, 0, [], sg0),
  (.iload_n 3, 44, 26, 0, 0, 0, [], sg0),
  (.iconst 3, 45, 27, 0, 0, 3, [], sg0),
  (.if_icmp .ge 31, 46, 28, 44, 0, 0, [], sg0),
  (.aload_n 0, 49, 29, 0, 0, 0, [], sg0),
  (.getfield 52, 50, 30, 7, 6, 0, [], sg0),
  (.iload_n 1, 53, 31, 0, 0, 0, [], sg0),
  (.iconst 3, 54, 32, 0, 0, 3, [], sg0),
  (.iload_n 2, 55, 33, 0, 0, 0, [], sg0),
  (.imul, 56, 34, 0, 0, 0, [], sg0),
  (.iload_n 3, 57, 35, 0, 0, 0, [], sg0),
  (.iadd, 58, 36, 0, 0, 0, [], sg0),
  (.aload_n 0, 59, 37, 0, 0, 0, [], sg0),
  (.getfield 42, 60, 38, 7, 4, 0, [], sg0),
  (.iload_n 2, 63, 39, 0, 0, 0, [], sg0),
  (.iload_n 3, 64, 40, 0, 0, 0, [], sg0),
  (.invokevirtual 153, 65, 41, 4, 0, 1, [], sgX4_sayingPart),
  (.invokevirtual 259, 68, 42, 3, 0, 1, [], sgX3_write),
  (.iinc 3 1, 71, 43, 0, 0, 1, [], sg0),
  (.goto (-30), 74, 44, 25, 0, 0, [], sg0),
  (.iinc 2 1, 77, 45, 0, 0, 1, [], sg0),
  (.goto (-49), 80, 46, 18, 0, 0, [], sg0),
  (.aload_n 0, 83, 47, 0, 0, 0, [], sg0),
  (.getfield 42, 84, 48, 7, 4, 0, [], sg0),
  (.getfield 71, 87, 49, 4, 4, 1, [], sg0),
  (.ireturn, 90, 50, 0, 0, 0, [], sg0),
  (.nop, 91, 51, 0, 0, 0, [], sg0)]
set_option maxRecDepth 100000 in
theorem okX7_film : Chk sgX7_film kX7_film := ⟨by decide +kernel, And.intro sgSX7_isBelow (And.intro sgVX3_make (And.intro sgVX4_sayingPart (And.intro sgVX3_write trivial))), tb_l2 [(2, 189), (1, 196), (1, 194), (1, 194), (1, 196), (1, 194), (1, 194)] (by decide +kernel) (by decide +kernel), nw_l2 [(1, 128), (3, 230), (1, 128), (3, 26), (3, 234), (1, 128)] (by decide +kernel) (by decide +kernel), by decide +kernel⟩
set_option maxRecDepth 100000 in
def kX7_drawn : List Row := [(.iload_n 1, 0, 1, 0, 0, 0, [], sg0),
  (.ifCond .lt 10, 1, 2, 5, 0, 0, [], sg0),
  (.iload_n 1, 4, 3, 0, 0, 0, [], sg0),
  (.ldc_w 262, 5, 4, 0, 0, 99999, [], sg0),
  (.if_icmp .le 6, 8, 5, 7, 0, 0, [], sg0),
  (.bipush (-2), 11, 6, 0, 0, (-2), [], sg0),
  (.ireturn, 13, 7, 0, 0, 0, [], sg0),
  (.aload_n 0, 14, 8, 0, 0, 0, [], sg0),
  (.invokevirtual 156, 15, 9, 7, 0, 0, [], sgX7_fitting),
  (.istore_n 2, 18, 10, 0, 0, 0, [], sg0),
  (.iload_n 2, 19, 11, 0, 0, 0, [], sg0),
  (.ifCond .ne 7, 20, 12, 14, 0, 0, [], sg0),
  (.iconst (-1), 23, 13, 0, 0, (-1), [], sg0),
  (.goto 9, 24, 14, 18, 0, 0, [], sg0),
  (.aload_n 0, 27, 15, 0, 0, 0, [], sg0),
  (.iload_n 1, 28, 16, 0, 0, 0, [], sg0),
  (.iload_n 2, 29, 17, 0, 0, 0, [], sg0),
  (.invokevirtual 263, 30, 18, 7, 0, 0, [], sgX7_strangerAsks),
  (.ireturn, 33, 19, 0, 0, 0, [], sg0),
  (.nop, 34, 20, 0, 0, 0, [], sg0)]
set_option maxRecDepth 100000 in
theorem okX7_drawn : Chk sgX7_drawn kX7_drawn := ⟨by decide +kernel, And.intro sgVX7_fitting (And.intro sgVX7_strangerAsks trivial), tb_l2 [(4, 2), (3, 35), (4, 3)] (by decide +kernel) (by decide +kernel), nw_l2 [] (by decide +kernel) (by decide +kernel), by decide +kernel⟩
set_option maxRecDepth 100000 in
def kX7_mean : List Row := [(.iload_n 1, 0, 1, 0, 0, 0, [], sg0),
  (.ifCond .lt 10, 1, 2, 5, 0, 0, [], sg0),
  (.iload_n 1, 4, 3, 0, 0, 0, [], sg0),
  (.ldc_w 262, 5, 4, 0, 0, 99999, [], sg0),
  (.if_icmp .le 7, 8, 5, 7, 0, 0, [], sg0),
  (.ldc2_w 121, 11, 6, 0, 0, (-4611686018427387904), [], sg0),
  (.lreturn, 14, 7, 0, 0, 0, [], sg0),
  (.iload_n 2, 15, 8, 0, 0, 0, [], sg0),
  (.iconst 1, 16, 9, 0, 0, 1, [], sg0),
  (.if_icmp .lt 17, 17, 10, 17, 0, 0, [], sg0),
  (.iload_n 2, 20, 11, 0, 0, 0, [], sg0),
  (.bipush 10, 21, 12, 0, 0, 10, [], sg0),
  (.if_icmp .gt 11, 23, 13, 17, 0, 0, [], sg0),
  (.iload_n 3, 26, 14, 0, 0, 0, [], sg0),
  (.iconst 2, 27, 15, 0, 0, 2, [], sg0),
  (.invokestatic 106, 28, 16, 0, 0, 0, [], sgX7_isBelow),
  (.ifCond .ne 7, 31, 17, 19, 0, 0, [], sg0),
  (.ldc2_w 121, 34, 18, 0, 0, (-4611686018427387904), [], sg0),
  (.lreturn, 37, 19, 0, 0, 0, [], sg0),
  (.aload_n 0, 38, 20, 0, 0, 0, [], sg0),
  (.invokevirtual 156, 39, 21, 7, 0, 0, [], sgX7_fitting),
  (.istore 4, 42, 22, 0, 0, 0, [], sg0),
  (.iload 4, 44, 23, 0, 0, 0, [], sg0),
  (.ifCond .ne 7, 46, 24, 26, 0, 0, [], sg0),
  (.ldc2_w 121, 49, 25, 0, 0, (-4611686018427387904), [], sg0),
  (.lreturn, 52, 26, 0, 0, 0, [], sg0),
  (.iconst 0, 53, 27, 0, 0, 0, [], sg0),
  (.istore 5, 54, 28, 0, 0, 0, [], sg0),
  (.iconst 0, 56, 29, 0, 0, 0, [], sg0),
  (.istore 6, 57, 30, 0, 0, 0, [], sg0),
  (.iload 6, 59, 31, 0, 0, 0, [], sg0),
  (.iload_n 2, 61, 32, 0, 0, 0, [], sg0),
  (.if_icmp .ge 24, 62, 33, 44, 0, 0, [], sg0),
  (.iload 5, 65, 34, 0, 0, 0, [], sg0),
  (.aload_n 0, 67, 35, 0, 0, 0, [], sg0),
  (.iload_n 1, 68, 36, 0, 0, 0, [], sg0),
  (.iload 6, 69, 37, 0, 0, 0, [], sg0),
  (.iadd, 71, 38, 0, 0, 0, [], sg0),
  (.iload 4, 72, 39, 0, 0, 0, [], sg0),
  (.invokevirtual 263, 74, 40, 7, 0, 0, [], sgX7_strangerAsks),
  (.iadd, 77, 41, 0, 0, 0, [], sg0),
  (.istore 5, 78, 42, 0, 0, 0, [], sg0),
  (.iinc 6 1, 80, 43, 0, 0, 1, [], sg0),
  (.goto (-24), 83, 44, 30, 0, 0, [], sg0),
  (.iload 5, 86, 45, 0, 0, 0, [], sg0),
  (.iload_n 2, 88, 46, 0, 0, 0, [], sg0),
  (.iload_n 3, 89, 47, 0, 0, 0, [], sg0),
  (.invokestatic 200, 90, 48, 0, 0, 0, [], sgX7_inLowestTerms),
  (.lreturn, 93, 49, 0, 0, 0, [], sg0),
  (.nop, 94, 50, 0, 0, 0, [], sg0)]
set_option maxRecDepth 100000 in
theorem okX7_mean : Chk sgX7_mean kX7_mean := ⟨by decide +kernel, And.intro sgSX7_isBelow (And.intro sgVX7_fitting (And.intro sgVX7_strangerAsks (And.intro sgSX7_inLowestTerms trivial))), tb_l2 [(4, 2), (2, 213), (2, 189), (2, 213), (3, 35), (2, 213), (4, 3), (3, 129)] (by decide +kernel) (by decide +kernel), nw_l2 [] (by decide +kernel) (by decide +kernel), by decide +kernel⟩
set_option maxRecDepth 100000 in
def kX7_image : List Row := [(.aload_n 0, 0, 1, 0, 0, 0, [], sg0),
  (.getfield 46, 1, 2, 7, 5, 0, [], sg0),
  (.aload_n 0, 4, 3, 0, 0, 0, [], sg0),
  (.getfield 42, 5, 4, 7, 4, 0, [], sg0),
  (.invokevirtual 266, 8, 5, 4, 0, 1, [], sgX4_becomeLike),
  (.aload_n 0, 11, 6, 0, 0, 0, [], sg0),
  (.iconst 1, 12, 7, 0, 0, 1, [], sg0),
  (.putfield 63, 13, 8, 7, 8, 0, [], sg0),
  (.aload_n 0, 16, 9, 0, 0, 0, [], sg0),
  (.getfield 42, 17, 10, 7, 4, 0, [], sg0),
  (.getfield 71, 20, 11, 4, 4, 1, [], sg0),
  (.ireturn, 23, 12, 0, 0, 0, [], sg0),
  (.nop, 24, 13, 0, 0, 0, [], sg0)]
set_option maxRecDepth 100000 in
theorem okX7_image : Chk sgX7_image kX7_image := ⟨by decide +kernel, And.intro sgVX4_becomeLike trivial, tb_l2 [(1, 195), (1, 194), (1, 198), (1, 194)] (by decide +kernel) (by decide +kernel), nw_l2 [(4, 25), (1, 128)] (by decide +kernel) (by decide +kernel), by decide +kernel⟩
set_option maxRecDepth 100000 in
def kX7_back : List Row := [(.aload_n 0, 0, 1, 0, 0, 0, [], sg0),
  (.getfield 63, 1, 2, 7, 8, 0, [], sg0),
  (.ifCond .ne 6, 4, 3, 5, 0, 0, [], sg0),
  (.bipush (-3), 7, 4, 0, 0, (-3), [], sg0),
  (.ireturn, 9, 5, 0, 0, 0, [], sg0),
  (.aload_n 0, 10, 6, 0, 0, 0, [], sg0),
  (.getfield 42, 11, 7, 7, 4, 0, [], sg0),
  (.aload_n 0, 14, 8, 0, 0, 0, [], sg0),
  (.getfield 46, 15, 9, 7, 5, 0, [], sg0),
  (.invokevirtual 266, 18, 10, 4, 0, 1, [], sgX4_becomeLike),
  (.aload_n 0, 21, 11, 0, 0, 0, [], sg0),
  (.getfield 42, 22, 12, 7, 4, 0, [], sg0),
  (.getfield 71, 25, 13, 4, 4, 1, [], sg0),
  (.ireturn, 28, 14, 0, 0, 0, [], sg0),
  (.nop, 29, 15, 0, 0, 0, [], sg0)]
set_option maxRecDepth 100000 in
theorem okX7_back : Chk sgX7_back kX7_back := ⟨by decide +kernel, And.intro sgVX4_becomeLike trivial, tb_l2 [(1, 198), (1, 194), (1, 195), (1, 194)] (by decide +kernel) (by decide +kernel), nw_l2 [(4, 25), (1, 128)] (by decide +kernel) (by decide +kernel), by decide +kernel⟩
set_option maxRecDepth 100000 in
def kX7_sheet : List Row := [(.iload_n 1, 0, 1, 0, 0, 0, [], sg0),
  (.iconst 4, 1, 2, 0, 0, 4, [], sg0),
  (.invokestatic 106, 2, 3, 0, 0, 0, [], sgX7_isBelow),
  (.ifCond .eq 13, 5, 4, 10, 0, 0, [], sg0),
  (.iload_n 2, 8, 5, 0, 0, 0, [], sg0),
  (.iconst (-1), 9, 6, 0, 0, (-1), [], sg0),
  (.if_icmp .lt 8, 10, 7, 10, 0, 0, [], sg0),
  (.iload_n 2, 13, 8, 0, 0, 0, [], sg0),
  (.iconst 2, 14, 9, 0, 0, 2, [], sg0),
  (.if_icmp .le 6, 15, 10, 12, 0, 0, [], sg0),
  (.bipush (-2), 18, 11, 0, 0, (-2), [], sg0),
  (.ireturn, 20, 12, 0, 0, 0, [], sg0),
  (.iload_n 2, 21, 13, 0, 0, 0, [], sg0),
  (.iconst (-1), 22, 14, 0, 0, (-1), [], sg0),
  (.if_icmp .ne 15, 23, 15, 23, 0, 0, [], sg0),
  (.aload_n 0, 26, 16, 0, 0, 0, [], sg0),
  (.getfield 52, 27, 17, 7, 6, 0, [], sg0),
  (.iload_n 1, 30, 18, 0, 0, 0, [], sg0),
  (.iconst (-1), 31, 19, 0, 0, (-1), [], sg0),
  (.iconst 0, 32, 20, 0, 0, 0, [], sg0),
  (.invokevirtual 256, 33, 21, 3, 0, 1, [], sgX3_make),
  (.iconst 1, 36, 22, 0, 0, 1, [], sg0),
  (.ireturn, 37, 23, 0, 0, 0, [], sg0),
  (.iload_n 3, 38, 24, 0, 0, 0, [], sg0),
  (.bipush 40, 39, 25, 0, 0, 40, [], sg0),
  (.if_icmp .le 6, 41, 26, 28, 0, 0, [], sg0),
  (.bipush (-2), 44, 27, 0, 0, (-2), [], sg0),
  (.ireturn, 46, 28, 0, 0, 0, [], sg0),
  (.iload_n 3, 47, 29, 0, 0, 0, [], sg0),
  (.ifCond .ge 6, 48, 30, 32, 0, 0, [], sg0),
  (.bipush (-14), 51, 31, 0, 0, (-14), [], sg0),
  (.ireturn, 53, 32, 0, 0, 0, [], sg0),
  (.aload_n 0, 54, 33, 0, 0, 0, [], sg0),
  (.getfield 52, 55, 34, 7, 6, 0, [], sg0),
  (.iload_n 1, 58, 35, 0, 0, 0, [], sg0),
  (.iload_n 2, 59, 36, 0, 0, 0, [], sg0),
  (.iload_n 3, 60, 37, 0, 0, 0, [], sg0),
  (.invokevirtual 256, 61, 38, 3, 0, 1, [], sgX3_make),
  (.iconst 1, 64, 39, 0, 0, 1, [], sg0),
  (.ireturn, 65, 40, 0, 0, 0, [], sg0),
  (.nop, 66, 41, 0, 0, 0, [], sg0)]
set_option maxRecDepth 100000 in
theorem okX7_sheet : Chk sgX7_sheet kX7_sheet := ⟨by decide +kernel, And.intro sgSX7_isBelow (And.intro sgVX3_make (And.intro sgVX3_make trivial)), tb_l2 [(2, 189), (1, 196), (1, 196)] (by decide +kernel) (by decide +kernel), nw_l2 [(3, 230), (3, 230)] (by decide +kernel) (by decide +kernel), by decide +kernel⟩
set_option maxRecDepth 100000 in
def kX7_cell : List Row := [(.iload_n 1, 0, 1, 0, 0, 0, [], sg0),
  (.iconst 4, 1, 2, 0, 0, 4, [], sg0),
  (.invokestatic 106, 2, 3, 0, 0, 0, [], sgX7_isBelow),
  (.ifCond .ne 6, 5, 4, 6, 0, 0, [], sg0),
  (.bipush (-2), 8, 5, 0, 0, (-2), [], sg0),
  (.ireturn, 10, 6, 0, 0, 0, [], sg0),
  (.aload_n 0, 11, 7, 0, 0, 0, [], sg0),
  (.getfield 52, 12, 8, 7, 6, 0, [], sg0),
  (.iload_n 1, 15, 9, 0, 0, 0, [], sg0),
  (.invokevirtual 246, 16, 10, 3, 0, 1, [], sgX3_isMissing),
  (.ifCond .eq 6, 19, 11, 13, 0, 0, [], sg0),
  (.bipush (-11), 22, 12, 0, 0, (-11), [], sg0),
  (.ireturn, 24, 13, 0, 0, 0, [], sg0),
  (.aload_n 0, 25, 14, 0, 0, 0, [], sg0),
  (.getfield 52, 26, 15, 7, 6, 0, [], sg0),
  (.iload_n 1, 29, 16, 0, 0, 0, [], sg0),
  (.iload_n 2, 30, 17, 0, 0, 0, [], sg0),
  (.invokevirtual 270, 31, 18, 3, 0, 1, [], sgX3_holds),
  (.ifCond .ne 6, 34, 19, 21, 0, 0, [], sg0),
  (.bipush (-12), 37, 20, 0, 0, (-12), [], sg0),
  (.ireturn, 39, 21, 0, 0, 0, [], sg0),
  (.aload_n 0, 40, 22, 0, 0, 0, [], sg0),
  (.getfield 52, 41, 23, 7, 6, 0, [], sg0),
  (.iload_n 1, 44, 24, 0, 0, 0, [], sg0),
  (.iload_n 2, 45, 25, 0, 0, 0, [], sg0),
  (.iload_n 3, 46, 26, 0, 0, 0, [], sg0),
  (.invokevirtual 259, 47, 27, 3, 0, 1, [], sgX3_write),
  (.iconst 1, 50, 28, 0, 0, 1, [], sg0),
  (.ireturn, 51, 29, 0, 0, 0, [], sg0),
  (.nop, 52, 30, 0, 0, 0, [], sg0)]
set_option maxRecDepth 100000 in
theorem okX7_cell : Chk sgX7_cell kX7_cell := ⟨by decide +kernel, And.intro sgSX7_isBelow (And.intro sgVX3_isMissing (And.intro sgVX3_holds (And.intro sgVX3_write trivial))), tb_l2 [(2, 189), (1, 196), (1, 196), (1, 196)] (by decide +kernel) (by decide +kernel), nw_l2 [(3, 213), (4, 42), (3, 234)] (by decide +kernel) (by decide +kernel), by decide +kernel⟩
set_option maxRecDepth 100000 in
def kX7_copy : List Row := [(.iload_n 1, 0, 1, 0, 0, 0, [], sg0),
  (.iconst 4, 1, 2, 0, 0, 4, [], sg0),
  (.invokestatic 106, 2, 3, 0, 0, 0, [], sgX7_isBelow),
  (.ifCond .eq 11, 5, 4, 8, 0, 0, [], sg0),
  (.iload_n 3, 8, 5, 0, 0, 0, [], sg0),
  (.iconst 4, 9, 6, 0, 0, 4, [], sg0),
  (.invokestatic 106, 10, 7, 0, 0, 0, [], sgX7_isBelow),
  (.ifCond .ne 6, 13, 8, 10, 0, 0, [], sg0),
  (.bipush (-2), 16, 9, 0, 0, (-2), [], sg0),
  (.ireturn, 18, 10, 0, 0, 0, [], sg0),
  (.aload_n 0, 19, 11, 0, 0, 0, [], sg0),
  (.getfield 52, 20, 12, 7, 6, 0, [], sg0),
  (.iload_n 1, 23, 13, 0, 0, 0, [], sg0),
  (.invokevirtual 246, 24, 14, 3, 0, 1, [], sgX3_isMissing),
  (.ifCond .ne 14, 27, 15, 20, 0, 0, [], sg0),
  (.aload_n 0, 30, 16, 0, 0, 0, [], sg0),
  (.getfield 52, 31, 17, 7, 6, 0, [], sg0),
  (.iload_n 3, 34, 18, 0, 0, 0, [], sg0),
  (.invokevirtual 246, 35, 19, 3, 0, 1, [], sgX3_isMissing),
  (.ifCond .eq 6, 38, 20, 22, 0, 0, [], sg0),
  (.bipush (-11), 41, 21, 0, 0, (-11), [], sg0),
  (.ireturn, 43, 22, 0, 0, 0, [], sg0),
  (.aload_n 0, 44, 23, 0, 0, 0, [], sg0),
  (.getfield 52, 45, 24, 7, 6, 0, [], sg0),
  (.getfield 273, 48, 25, 3, 0, 1, [], sg0),
  (.iload_n 1, 51, 26, 0, 0, 0, [], sg0),
  (.invokestatic 144, 52, 27, 0, 0, 0, [], sgX7_at),
  (.aload_n 0, 55, 28, 0, 0, 0, [], sg0),
  (.getfield 52, 56, 29, 7, 6, 0, [], sg0),
  (.getfield 273, 59, 30, 3, 0, 1, [], sg0),
  (.iload_n 3, 62, 31, 0, 0, 0, [], sg0),
  (.invokestatic 144, 63, 32, 0, 0, 0, [], sgX7_at),
  (.if_icmp .eq 6, 66, 33, 35, 0, 0, [], sg0),
  (.bipush (-13), 69, 34, 0, 0, (-13), [], sg0),
  (.ireturn, 71, 35, 0, 0, 0, [], sg0),
  (.aload_n 0, 72, 36, 0, 0, 0, [], sg0),
  (.getfield 52, 73, 37, 7, 6, 0, [], sg0),
  (.iload_n 1, 76, 38, 0, 0, 0, [], sg0),
  (.iload_n 2, 77, 39, 0, 0, 0, [], sg0),
  (.iload 5, 78, 40, 0, 0, 0, [], sg0),
  (.invokevirtual 276, 80, 41, 3, 0, 1, [], sgX3_holdsRun),
  (.ifCond .eq 18, 83, 42, 49, 0, 0, [], sg0),
  (.aload_n 0, 86, 43, 0, 0, 0, [], sg0),
  (.getfield 52, 87, 44, 7, 6, 0, [], sg0),
  (.iload_n 3, 90, 45, 0, 0, 0, [], sg0),
  (.iload 4, 91, 46, 0, 0, 0, [], sg0),
  (.iload 5, 93, 47, 0, 0, 0, [], sg0),
  (.invokevirtual 276, 95, 48, 3, 0, 1, [], sgX3_holdsRun),
  (.ifCond .ne 6, 98, 49, 51, 0, 0, [], sg0),
  (.bipush (-12), 101, 50, 0, 0, (-12), [], sg0),
  (.ireturn, 103, 51, 0, 0, 0, [], sg0),
  (.aload_n 0, 104, 52, 0, 0, 0, [], sg0),
  (.getfield 52, 105, 53, 7, 6, 0, [], sg0),
  (.iload_n 1, 108, 54, 0, 0, 0, [], sg0),
  (.iload_n 2, 109, 55, 0, 0, 0, [], sg0),
  (.iload_n 3, 110, 56, 0, 0, 0, [], sg0),
  (.iload 4, 111, 57, 0, 0, 0, [], sg0),
  (.iload 5, 113, 58, 0, 0, 0, [], sg0),
  (.invokevirtual 279, 115, 59, 3, 0, 1, [], sgX3_move),
  (.iload 5, 118, 60, 0, 0, 0, [], sg0),
  (.ireturn, 120, 61, 0, 0, 0, [], sg0),
  (.nop, 121, 62, 0, 0, 0, [], sg0)]
set_option maxRecDepth 100000 in
theorem okX7_copy : Chk sgX7_copy kX7_copy := ⟨by decide +kernel, And.intro sgSX7_isBelow (And.intro sgSX7_isBelow (And.intro sgVX3_isMissing (And.intro sgVX3_isMissing (And.intro sgSX7_at (And.intro sgSX7_at (And.intro sgVX3_holdsRun (And.intro sgVX3_holdsRun (And.intro sgVX3_move trivial)))))))), tb_l2 [(2, 189), (2, 189), (1, 196), (1, 196), (1, 196), (3, 5), (1, 196), (3, 5), (1, 196), (1, 196), (1, 196)] (by decide +kernel) (by decide +kernel), nw_l2 [(3, 213), (3, 213), (1, 153), (1, 153), (4, 51), (4, 51), (4, 55)] (by decide +kernel) (by decide +kernel), by decide +kernel⟩
set_option maxRecDepth 100000 in
def kX7_sayingsBy : List Row := [(.iload_n 1, 0, 1, 0, 0, 0, [], sg0),
  (.iconst 4, 1, 2, 0, 0, 4, [], sg0),
  (.invokestatic 106, 2, 3, 0, 0, 0, [], sgX7_isBelow),
  (.ifCond .eq 12, 5, 4, 9, 0, 0, [], sg0),
  (.iload_n 2, 8, 5, 0, 0, 0, [], sg0),
  (.ifCond .lt 8, 9, 6, 9, 0, 0, [], sg0),
  (.iload_n 2, 12, 7, 0, 0, 0, [], sg0),
  (.iconst 2, 13, 8, 0, 0, 2, [], sg0),
  (.if_icmp .le 6, 14, 9, 11, 0, 0, [], sg0),
  (.bipush (-2), 17, 10, 0, 0, (-2), [], sg0),
  (.ireturn, 19, 11, 0, 0, 0, [], sg0),
  (.iload 4, 20, 12, 0, 0, 0, [], sg0),
  (.ifCond .lt 10, 22, 13, 16, 0, 0, [], sg0),
  (.iload 4, 25, 14, 0, 0, 0, [], sg0),
  (.bipush 12, 27, 15, 0, 0, 12, [], sg0),
  (.if_icmp .le 6, 29, 16, 18, 0, 0, [], sg0),
  (.bipush (-2), 32, 17, 0, 0, (-2), [], sg0),
  (.ireturn, 34, 18, 0, 0, 0, [], sg0),
  (.aload_n 0, 35, 19, 0, 0, 0, [], sg0),
  (.getfield 52, 36, 20, 7, 6, 0, [], sg0),
  (.iload_n 1, 39, 21, 0, 0, 0, [], sg0),
  (.invokevirtual 246, 40, 22, 3, 0, 1, [], sgX3_isMissing),
  (.ifCond .eq 6, 43, 23, 25, 0, 0, [], sg0),
  (.bipush (-11), 46, 24, 0, 0, (-11), [], sg0),
  (.ireturn, 48, 25, 0, 0, 0, [], sg0),
  (.aload_n 0, 49, 26, 0, 0, 0, [], sg0),
  (.getfield 52, 50, 27, 7, 6, 0, [], sg0),
  (.getfield 273, 53, 28, 3, 0, 1, [], sg0),
  (.iload_n 1, 56, 29, 0, 0, 0, [], sg0),
  (.invokestatic 144, 57, 30, 0, 0, 0, [], sgX7_at),
  (.iload_n 2, 60, 31, 0, 0, 0, [], sg0),
  (.if_icmp .eq 6, 61, 32, 34, 0, 0, [], sg0),
  (.bipush (-13), 64, 33, 0, 0, (-13), [], sg0),
  (.ireturn, 66, 34, 0, 0, 0, [], sg0),
  (.iconst 0, 67, 35, 0, 0, 0, [], sg0),
  (.istore 5, 68, 36, 0, 0, 0, [], sg0),
  (.iconst 0, 70, 37, 0, 0, 0, [], sg0),
  (.istore 6, 71, 38, 0, 0, 0, [], sg0),
  (.iload 6, 73, 39, 0, 0, 0, [], sg0),
  (.iload 4, 75, 40, 0, 0, 0, [], sg0),
  (.if_icmp .ge 78, 77, 41, 81, 0, 0, [], sg0),
  (.iload_n 3, 80, 42, 0, 0, 0, [], sg0),
  (.iconst 3, 81, 43, 0, 0, 3, [], sg0),
  (.iload 6, 82, 44, 0, 0, 0, [], sg0),
  (.imul, 84, 45, 0, 0, 0, [], sg0),
  (.iadd, 85, 46, 0, 0, 0, [], sg0),
  (.istore 7, 86, 47, 0, 0, 0, [], sg0),
  (.aload_n 0, 88, 48, 0, 0, 0, [], sg0),
  (.getfield 52, 89, 49, 7, 6, 0, [], sg0),
  (.iload_n 1, 92, 50, 0, 0, 0, [], sg0),
  (.iload 7, 93, 51, 0, 0, 0, [], sg0),
  (.iconst 3, 95, 52, 0, 0, 3, [], sg0),
  (.invokevirtual 276, 96, 53, 3, 0, 1, [], sgX3_holdsRun),
  (.ifCond .ne 6, 99, 54, 56, 0, 0, [], sg0),
  (.bipush (-12), 102, 55, 0, 0, (-12), [], sg0),
  (.ireturn, 104, 56, 0, 0, 0, [], sg0),
  (.aload_n 0, 105, 57, 0, 0, 0, [], sg0),
  (.aload_n 0, 106, 58, 0, 0, 0, [], sg0),
  (.getfield 52, 107, 59, 7, 6, 0, [], sg0),
  (.iload_n 1, 110, 60, 0, 0, 0, [], sg0),
  (.iload 7, 111, 61, 0, 0, 0, [], sg0),
  (.invokevirtual 283, 113, 62, 3, 0, 1, [], sgX3_read),
  (.aload_n 0, 116, 63, 0, 0, 0, [], sg0),
  (.getfield 52, 117, 64, 7, 6, 0, [], sg0),
  (.iload_n 1, 120, 65, 0, 0, 0, [], sg0),
  (.iload 7, 121, 66, 0, 0, 0, [], sg0),
  (.iconst 1, 123, 67, 0, 0, 1, [], sg0),
  (.iadd, 124, 68, 0, 0, 0, [], sg0),
  (.invokevirtual 283, 125, 69, 3, 0, 1, [], sgX3_read),
  (.aload_n 0, 128, 70, 0, 0, 0, [], sg0),
  (.getfield 52, 129, 71, 7, 6, 0, [], sg0),
  (.iload_n 1, 132, 72, 0, 0, 0, [], sg0),
  (.iload 7, 133, 73, 0, 0, 0, [], sg0),
  (.iconst 2, 135, 74, 0, 0, 2, [], sg0),
  (.iadd, 136, 75, 0, 0, 0, [], sg0),
  (.invokevirtual 283, 137, 76, 3, 0, 1, [], sgX3_read),
  (.invokevirtual 286, 140, 77, 7, 0, 0, [], sgX7_say),
  (.ifCond .lt 6, 143, 78, 79, 0, 0, [], sg0),
  (.iinc 5 1, 146, 79, 0, 0, 1, [], sg0),
  (.iinc 6 1, 149, 80, 0, 0, 1, [], sg0),
  (.goto (-79), 152, 81, 38, 0, 0, [], sg0),
  (.iload 5, 155, 82, 0, 0, 0, [], sg0),
  (.ireturn, 157, 83, 0, 0, 0, [], sg0),
  (.nop, 158, 84, 0, 0, 0, [], sg0)]
set_option maxRecDepth 100000 in
theorem okX7_sayingsBy : Chk sgX7_sayingsBy kX7_sayingsBy := ⟨by decide +kernel, And.intro sgSX7_isBelow (And.intro sgVX3_isMissing (And.intro sgSX7_at (And.intro sgVX3_holdsRun (And.intro sgVX3_read (And.intro sgVX3_read (And.intro sgVX3_read (And.intro sgVX7_say trivial))))))), tb_l2 [(2, 189), (1, 196), (1, 196), (3, 5), (1, 196), (1, 196), (1, 196), (1, 196), (4, 65)] (by decide +kernel) (by decide +kernel), nw_l2 [(3, 213), (1, 153), (4, 51), (3, 222), (3, 222), (3, 222)] (by decide +kernel) (by decide +kernel), by decide +kernel⟩
set_option maxRecDepth 100000 in
def kX7_taken : List Row := [(.iload_n 2, 0, 1, 0, 0, 0, [], sg0),
  (.bipush 7, 1, 2, 0, 0, 7, [], sg0),
  (.invokestatic 106, 3, 3, 0, 0, 0, [], sgX7_isBelow),
  (.ifCond .ne 6, 6, 4, 6, 0, 0, [], sg0),
  (.bipush (-2), 9, 5, 0, 0, (-2), [], sg0),
  (.ireturn, 11, 6, 0, 0, 0, [], sg0),
  (.iload_n 1, 12, 7, 0, 0, 0, [], sg0),
  (.bipush 17, 13, 8, 0, 0, 17, [], sg0),
  (.invokestatic 106, 15, 9, 0, 0, 0, [], sgX7_isBelow),
  (.ifCond .ne 6, 18, 10, 12, 0, 0, [], sg0),
  (.bipush (-12), 21, 11, 0, 0, (-12), [], sg0),
  (.ireturn, 23, 12, 0, 0, 0, [], sg0),
  (.iload_n 1, 24, 13, 0, 0, 0, [], sg0),
  (.bipush 12, 25, 14, 0, 0, 12, [], sg0),
  (.if_icmp .ge 12, 27, 15, 20, 0, 0, [], sg0),
  (.aload_n 0, 30, 16, 0, 0, 0, [], sg0),
  (.iload_n 1, 31, 17, 0, 0, 0, [], sg0),
  (.iload_n 2, 32, 18, 0, 0, 0, [], sg0),
  (.invokevirtual 289, 33, 19, 7, 0, 0, [], sgX7_sayingTaken),
  (.goto 12, 36, 20, 26, 0, 0, [], sg0),
  (.aload_n 0, 39, 21, 0, 0, 0, [], sg0),
  (.iload_n 1, 40, 22, 0, 0, 0, [], sg0),
  (.bipush 12, 41, 23, 0, 0, 12, [], sg0),
  (.isub, 43, 24, 0, 0, 0, [], sg0),
  (.iload_n 2, 44, 25, 0, 0, 0, [], sg0),
  (.invokevirtual 292, 45, 26, 7, 0, 0, [], sgX7_speakerTaken),
  (.ireturn, 48, 27, 0, 0, 0, [], sg0),
  (.nop, 49, 28, 0, 0, 0, [], sg0)]
set_option maxRecDepth 100000 in
theorem okX7_taken : Chk sgX7_taken kX7_taken := ⟨by decide +kernel, And.intro sgSX7_isBelow (And.intro sgSX7_isBelow (And.intro sgVX7_sayingTaken (And.intro sgVX7_speakerTaken trivial))), tb_l2 [(2, 189), (2, 189), (4, 70), (4, 74)] (by decide +kernel) (by decide +kernel), nw_l2 [] (by decide +kernel) (by decide +kernel), by decide +kernel⟩
set_option maxRecDepth 100000 in
def kX7_isBelow : List Row := [(.iload_n 0, 0, 1, 0, 0, 0, [], sg0),
  (.ifCond .lt 12, 1, 2, 7, 0, 0, [], sg0),
  (.iload_n 0, 4, 3, 0, 0, 0, [], sg0),
  (.iload_n 1, 5, 4, 0, 0, 0, [], sg0),
  (.if_icmp .ge 7, 6, 5, 7, 0, 0, [], sg0),
  (.iconst 1, 9, 6, 0, 0, 1, [], sg0),
  (.goto 4, 10, 7, 8, 0, 0, [], sg0),
  (.iconst 0, 13, 8, 0, 0, 0, [], sg0),
  (.ireturn, 14, 9, 0, 0, 0, [], sg0),
  (.nop, 15, 10, 0, 0, 0, [], sg0)]
set_option maxRecDepth 100000 in
theorem okX7_isBelow : Chk sgX7_isBelow kX7_isBelow := ⟨by decide +kernel, trivial, tb_l2 [] (by decide +kernel) (by decide +kernel), nw_l2 [] (by decide +kernel) (by decide +kernel), by decide +kernel⟩
set_option maxRecDepth 100000 in
def kX7_isByte : List Row := [(.iload_n 0, 0, 1, 0, 0, 0, [], sg0),
  (.ifCond .lt 14, 1, 2, 7, 0, 0, [], sg0),
  (.iload_n 0, 4, 3, 0, 0, 0, [], sg0),
  (.sipush 255, 5, 4, 0, 0, 255, [], sg0),
  (.if_icmp .gt 7, 8, 5, 7, 0, 0, [], sg0),
  (.iconst 1, 11, 6, 0, 0, 1, [], sg0),
  (.goto 4, 12, 7, 8, 0, 0, [], sg0),
  (.iconst 0, 15, 8, 0, 0, 0, [], sg0),
  (.ireturn, 16, 9, 0, 0, 0, [], sg0),
  (.nop, 17, 10, 0, 0, 0, [], sg0)]
set_option maxRecDepth 100000 in
theorem okX7_isByte : Chk sgX7_isByte kX7_isByte := ⟨by decide +kernel, trivial, tb_l2 [] (by decide +kernel) (by decide +kernel), nw_l2 [] (by decide +kernel) (by decide +kernel), by decide +kernel⟩
set_option maxRecDepth 100000 in
def kX7_isKind : List Row := [(.iload_n 0, 0, 1, 0, 0, 0, [], sg0),
  (.bipush 6, 1, 2, 0, 0, 6, [], sg0),
  (.invokestatic 106, 3, 3, 0, 0, 0, [], sgX7_isBelow),
  (.ireturn, 6, 4, 0, 0, 0, [], sg0),
  (.nop, 7, 5, 0, 0, 0, [], sg0)]
set_option maxRecDepth 100000 in
theorem okX7_isKind : Chk sgX7_isKind kX7_isKind := ⟨by decide +kernel, And.intro sgSX7_isBelow trivial, tb_l2 [(2, 189)] (by decide +kernel) (by decide +kernel), nw_l2 [] (by decide +kernel) (by decide +kernel), by decide +kernel⟩
set_option maxRecDepth 100000 in
def kX7_isMore : List Row := [(.iload_n 0, 0, 1, 0, 0, 0, [], sg0),
  (.ifCond .lt 13, 1, 2, 7, 0, 0, [], sg0),
  (.iload_n 0, 4, 3, 0, 0, 0, [], sg0),
  (.bipush 9, 5, 4, 0, 0, 9, [], sg0),
  (.if_icmp .gt 7, 7, 5, 7, 0, 0, [], sg0),
  (.iconst 1, 10, 6, 0, 0, 1, [], sg0),
  (.goto 4, 11, 7, 8, 0, 0, [], sg0),
  (.iconst 0, 14, 8, 0, 0, 0, [], sg0),
  (.ireturn, 15, 9, 0, 0, 0, [], sg0),
  (.nop, 16, 10, 0, 0, 0, [], sg0)]
set_option maxRecDepth 100000 in
theorem okX7_isMore : Chk sgX7_isMore kX7_isMore := ⟨by decide +kernel, trivial, tb_l2 [] (by decide +kernel) (by decide +kernel), nw_l2 [] (by decide +kernel) (by decide +kernel), by decide +kernel⟩
set_option maxRecDepth 100000 in
def kX7_isWorld : List Row := [(.iload_n 0, 0, 1, 0, 0, 0, [], sg0),
  (.bipush 32, 1, 2, 0, 0, 32, [], sg0),
  (.invokestatic 106, 3, 3, 0, 0, 0, [], sgX7_isBelow),
  (.ireturn, 6, 4, 0, 0, 0, [], sg0),
  (.nop, 7, 5, 0, 0, 0, [], sg0)]
set_option maxRecDepth 100000 in
theorem okX7_isWorld : Chk sgX7_isWorld kX7_isWorld := ⟨by decide +kernel, And.intro sgSX7_isBelow trivial, tb_l2 [(2, 189)] (by decide +kernel) (by decide +kernel), nw_l2 [] (by decide +kernel) (by decide +kernel), by decide +kernel⟩
set_option maxRecDepth 100000 in
def kX7_isText : List Row := [(.iload_n 1, 0, 1, 0, 0, 0, [], sg0),
  (.aload_n 0, 1, 2, 0, 0, 0, [], sg0),
  (.getfield 35, 2, 3, 7, 3, 0, [], sg0),
  (.getfield 74, 5, 4, 5, 3, 1, [], sg0),
  (.invokestatic 106, 8, 5, 0, 0, 0, [], sgX7_isBelow),
  (.ireturn, 11, 6, 0, 0, 0, [], sg0),
  (.nop, 12, 7, 0, 0, 0, [], sg0)]
set_option maxRecDepth 100000 in
theorem okX7_isText : Chk sgX7_isText kX7_isText := ⟨by decide +kernel, And.intro sgSX7_isBelow trivial, tb_l2 [(1, 193), (2, 189)] (by decide +kernel) (by decide +kernel), nw_l2 [(1, 105)] (by decide +kernel) (by decide +kernel), by decide +kernel⟩
set_option maxRecDepth 100000 in
def kX7_isSpeaker : List Row := [(.iload_n 1, 0, 1, 0, 0, 0, [], sg0),
  (.aload_n 0, 1, 2, 0, 0, 0, [], sg0),
  (.getfield 42, 2, 3, 7, 4, 0, [], sg0),
  (.getfield 67, 5, 4, 4, 3, 1, [], sg0),
  (.invokestatic 106, 8, 5, 0, 0, 0, [], sgX7_isBelow),
  (.ireturn, 11, 6, 0, 0, 0, [], sg0),
  (.nop, 12, 7, 0, 0, 0, [], sg0)]
set_option maxRecDepth 100000 in
theorem okX7_isSpeaker : Chk sgX7_isSpeaker kX7_isSpeaker := ⟨by decide +kernel, And.intro sgSX7_isBelow trivial, tb_l2 [(1, 194), (2, 189)] (by decide +kernel) (by decide +kernel), nw_l2 [(1, 126)] (by decide +kernel) (by decide +kernel), by decide +kernel⟩
set_option maxRecDepth 100000 in
def kX7_at : List Row := [(.aload_n 0, 0, 1, 0, 0, 0, [], sg0),
  (.ifnull 19, 1, 2, 12, 0, 0, [], sg0),
  (.iload_n 1, 4, 3, 0, 0, 0, [], sg0),
  (.ifCond .lt 15, 5, 4, 12, 0, 0, [], sg0),
  (.iload_n 1, 8, 5, 0, 0, 0, [], sg0),
  (.aload_n 0, 9, 6, 0, 0, 0, [], sg0),
  (.arraylength, 10, 7, 0, 0, 0, [], sg0),
  (.if_icmp .ge 9, 11, 8, 12, 0, 0, [], sg0),
  (.aload_n 0, 14, 9, 0, 0, 0, [], sg0),
  (.iload_n 1, 15, 10, 0, 0, 0, [], sg0),
  (.iaload, 16, 11, 0, 0, 0, [], sg0),
  (.goto 4, 17, 12, 13, 0, 0, [], sg0),
  (.iconst 0, 20, 13, 0, 0, 0, [], sg0),
  (.ireturn, 21, 14, 0, 0, 0, [], sg0),
  (.nop, 22, 15, 0, 0, 0, [], sg0)]
set_option maxRecDepth 100000 in
theorem okX7_at : Chk sgX7_at kX7_at := ⟨by decide +kernel, trivial, tb_l2 [] (by decide +kernel) (by decide +kernel), nw_l2 [] (by decide +kernel) (by decide +kernel), by decide +kernel⟩
set_option maxRecDepth 100000 in
def kX7_put : List Row := [(.aload_n 0, 0, 1, 0, 0, 0, [], sg0),
  (.ifnull 17, 1, 2, 12, 0, 0, [], sg0),
  (.iload_n 1, 4, 3, 0, 0, 0, [], sg0),
  (.ifCond .lt 13, 5, 4, 12, 0, 0, [], sg0),
  (.iload_n 1, 8, 5, 0, 0, 0, [], sg0),
  (.aload_n 0, 9, 6, 0, 0, 0, [], sg0),
  (.arraylength, 10, 7, 0, 0, 0, [], sg0),
  (.if_icmp .ge 7, 11, 8, 12, 0, 0, [], sg0),
  (.aload_n 0, 14, 9, 0, 0, 0, [], sg0),
  (.iload_n 1, 15, 10, 0, 0, 0, [], sg0),
  (.iload_n 2, 16, 11, 0, 0, 0, [], sg0),
  (.iastore, 17, 12, 0, 0, 0, [], sg0),
  (.return_, 18, 13, 0, 0, 0, [], sg0),
  (.nop, 19, 14, 0, 0, 0, [], sg0)]
set_option maxRecDepth 100000 in
theorem okX7_put : Chk sgX7_put kX7_put := ⟨by decide +kernel, trivial, tb_l2 [] (by decide +kernel) (by decide +kernel), nw_l2 [] (by decide +kernel) (by decide +kernel), by decide +kernel⟩
set_option maxRecDepth 100000 in
def kX7_bit : List Row := [(.iload_n 0, 0, 1, 0, 0, 0, [], sg0),
  (.iload_n 1, 1, 2, 0, 0, 0, [], sg0),
  (.iushr, 2, 3, 0, 0, 0, [], sg0),
  (.iconst 1, 3, 4, 0, 0, 1, [], sg0),
  (.iand, 4, 5, 0, 0, 0, [], sg0),
  (.ireturn, 5, 6, 0, 0, 0, [], sg0),
  (.nop, 6, 7, 0, 0, 0, [], sg0)]
set_option maxRecDepth 100000 in
theorem okX7_bit : Chk sgX7_bit kX7_bit := ⟨by decide +kernel, trivial, tb_l2 [] (by decide +kernel) (by decide +kernel), nw_l2 [] (by decide +kernel) (by decide +kernel), by decide +kernel⟩
set_option maxRecDepth 100000 in
def kX7_bits : List Row := [(.iload_n 0, 0, 1, 0, 0, 0, [], sg0),
  (.i2l, 1, 2, 0, 0, 0, [], sg0),
  (.ldc2_w 295, 2, 3, 0, 0, 4294967295, [], sg0),
  (.land, 5, 4, 0, 0, 0, [], sg0),
  (.lreturn, 6, 5, 0, 0, 0, [], sg0),
  (.nop, 7, 6, 0, 0, 0, [], sg0)]
set_option maxRecDepth 100000 in
theorem okX7_bits : Chk sgX7_bits kX7_bits := ⟨by decide +kernel, trivial, tb_l2 [(2, 217)] (by decide +kernel) (by decide +kernel), nw_l2 [] (by decide +kernel) (by decide +kernel), by decide +kernel⟩
set_option maxRecDepth 100000 in
def kX7_worldNumber : List Row := [(.iconst 0, 0, 1, 0, 0, 0, [], sg0),
  (.istore_n 2, 1, 2, 0, 0, 0, [], sg0),
  (.iconst 0, 2, 3, 0, 0, 0, [], sg0),
  (.istore_n 3, 3, 4, 0, 0, 0, [], sg0),
  (.iload_n 3, 4, 5, 0, 0, 0, [], sg0),
  (.bipush 32, 5, 6, 0, 0, 32, [], sg0),
  (.if_icmp .ge 28, 7, 7, 20, 0, 0, [], sg0),
  (.iload_n 0, 10, 8, 0, 0, 0, [], sg0),
  (.iload_n 3, 11, 9, 0, 0, 0, [], sg0),
  (.invokestatic 118, 12, 10, 0, 0, 0, [], sgX7_bit),
  (.iconst 1, 15, 11, 0, 0, 1, [], sg0),
  (.if_icmp .ne 13, 16, 12, 18, 0, 0, [], sg0),
  (.iload_n 2, 19, 13, 0, 0, 0, [], sg0),
  (.iload_n 1, 20, 14, 0, 0, 0, [], sg0),
  (.if_icmp .ne 5, 21, 15, 17, 0, 0, [], sg0),
  (.iload_n 3, 24, 16, 0, 0, 0, [], sg0),
  (.ireturn, 25, 17, 0, 0, 0, [], sg0),
  (.iinc 2 1, 26, 18, 0, 0, 1, [], sg0),
  (.iinc 3 1, 29, 19, 0, 0, 1, [], sg0),
  (.goto (-28), 32, 20, 4, 0, 0, [], sg0),
  (.iconst (-1), 35, 21, 0, 0, (-1), [], sg0),
  (.ireturn, 36, 22, 0, 0, 0, [], sg0),
  (.nop, 37, 23, 0, 0, 0, [], sg0)]
set_option maxRecDepth 100000 in
theorem okX7_worldNumber : Chk sgX7_worldNumber kX7_worldNumber := ⟨by decide +kernel, And.intro sgSX7_bit trivial, tb_l2 [(2, 208)] (by decide +kernel) (by decide +kernel), nw_l2 [] (by decide +kernel) (by decide +kernel), by decide +kernel⟩
set_option maxRecDepth 100000 in
def kX7_fewer : List Row := [(.iload_n 0, 0, 1, 0, 0, 0, [], sg0),
  (.invokestatic 164, 1, 2, 0, 0, 0, [], sgJ6_bitCount_0f7a4),
  (.iload_n 1, 4, 3, 0, 0, 0, [], sg0),
  (.invokestatic 164, 5, 4, 0, 0, 0, [], sgJ6_bitCount_0f7a4),
  (.isub, 8, 5, 0, 0, 0, [], sg0),
  (.istore_n 2, 9, 6, 0, 0, 0, [], sg0),
  (.iload_n 2, 10, 7, 0, 0, 0, [], sg0),
  (.ifCond .lt 12, 11, 8, 13, 0, 0, [], sg0),
  (.iload_n 2, 14, 9, 0, 0, 0, [], sg0),
  (.ifCond .ne 12, 15, 10, 15, 0, 0, [], sg0),
  (.iload_n 0, 18, 11, 0, 0, 0, [], sg0),
  (.iload_n 1, 19, 12, 0, 0, 0, [], sg0),
  (.if_icmp .ge 7, 20, 13, 15, 0, 0, [], sg0),
  (.iload_n 0, 23, 14, 0, 0, 0, [], sg0),
  (.goto 4, 24, 15, 16, 0, 0, [], sg0),
  (.iload_n 1, 27, 16, 0, 0, 0, [], sg0),
  (.ireturn, 28, 17, 0, 0, 0, [], sg0),
  (.nop, 29, 18, 0, 0, 0, [], sg0)]
set_option maxRecDepth 100000 in
theorem okX7_fewer : Chk sgX7_fewer kX7_fewer := ⟨by decide +kernel, And.intro sgSJ6_bitCount_0f7a4 (And.intro sgSJ6_bitCount_0f7a4 trivial), tb_l2 [(3, 77), (3, 77)] (by decide +kernel) (by decide +kernel), nw_l2 [] (by decide +kernel) (by decide +kernel), by decide +kernel⟩
set_option maxRecDepth 100000 in
def kX7_inLowestTerms : List Row := [(.iload_n 0, 0, 1, 0, 0, 0, [], sg0),
  (.iload_n 1, 1, 2, 0, 0, 0, [], sg0),
  (.invokestatic 297, 2, 3, 0, 0, 0, [], sgX7_commonDivisor),
  (.istore_n 3, 5, 4, 0, 0, 0, [], sg0),
  (.iload_n 1, 6, 5, 0, 0, 0, [], sg0),
  (.ifCond .eq 7, 7, 6, 8, 0, 0, [], sg0),
  (.iload_n 3, 10, 7, 0, 0, 0, [], sg0),
  (.ifCond .ne 7, 11, 8, 10, 0, 0, [], sg0),
  (.ldc2_w 121, 14, 9, 0, 0, (-4611686018427387904), [], sg0),
  (.lreturn, 17, 10, 0, 0, 0, [], sg0),
  (.iload_n 2, 18, 11, 0, 0, 0, [], sg0),
  (.ifCond .ne 10, 19, 12, 17, 0, 0, [], sg0),
  (.iload_n 0, 22, 13, 0, 0, 0, [], sg0),
  (.iload_n 3, 23, 14, 0, 0, 0, [], sg0),
  (.idiv, 24, 15, 0, 0, 0, [], sg0),
  (.i2l, 25, 16, 0, 0, 0, [], sg0),
  (.goto 7, 26, 17, 21, 0, 0, [], sg0),
  (.iload_n 1, 29, 18, 0, 0, 0, [], sg0),
  (.iload_n 3, 30, 19, 0, 0, 0, [], sg0),
  (.idiv, 31, 20, 0, 0, 0, [], sg0),
  (.i2l, 32, 21, 0, 0, 0, [], sg0),
  (.lreturn, 33, 22, 0, 0, 0, [], sg0),
  (.nop, 34, 23, 0, 0, 0, [], sg0)]
set_option maxRecDepth 100000 in
theorem okX7_inLowestTerms : Chk sgX7_inLowestTerms kX7_inLowestTerms := ⟨by decide +kernel, And.intro sgSX7_commonDivisor trivial, tb_l2 [(3, 132), (2, 213)] (by decide +kernel) (by decide +kernel), nw_l2 [] (by decide +kernel) (by decide +kernel), by decide +kernel⟩
set_option maxRecDepth 100000 in
def kX7_commonDivisor : List Row := [(.iload_n 0, 0, 1, 0, 0, 0, [], sg0),
  (.istore_n 2, 1, 2, 0, 0, 0, [], sg0),
  (.iload_n 1, 2, 3, 0, 0, 0, [], sg0),
  (.istore_n 3, 3, 4, 0, 0, 0, [], sg0),
  (.iconst 0, 4, 5, 0, 0, 0, [], sg0),
  (.istore 4, 5, 6, 0, 0, 0, [], sg0),
  (.iload 4, 7, 7, 0, 0, 0, [], sg0),
  (.bipush 64, 9, 8, 0, 0, 64, [], sg0),
  (.if_icmp .ge 23, 11, 9, 21, 0, 0, [], sg0),
  (.iload_n 3, 14, 10, 0, 0, 0, [], sg0),
  (.ifCond .eq 19, 15, 11, 21, 0, 0, [], sg0),
  (.iload_n 2, 18, 12, 0, 0, 0, [], sg0),
  (.iload_n 3, 19, 13, 0, 0, 0, [], sg0),
  (.irem, 20, 14, 0, 0, 0, [], sg0),
  (.istore 5, 21, 15, 0, 0, 0, [], sg0),
  (.iload_n 3, 23, 16, 0, 0, 0, [], sg0),
  (.istore_n 2, 24, 17, 0, 0, 0, [], sg0),
  (.iload 5, 25, 18, 0, 0, 0, [], sg0),
  (.istore_n 3, 27, 19, 0, 0, 0, [], sg0),
  (.iinc 4 1, 28, 20, 0, 0, 1, [], sg0),
  (.goto (-24), 31, 21, 6, 0, 0, [], sg0),
  (.iload_n 2, 34, 22, 0, 0, 0, [], sg0),
  (.ireturn, 35, 23, 0, 0, 0, [], sg0),
  (.nop, 36, 24, 0, 0, 0, [], sg0)]
set_option maxRecDepth 100000 in
theorem okX7_commonDivisor : Chk sgX7_commonDivisor kX7_commonDivisor := ⟨by decide +kernel, trivial, tb_l2 [] (by decide +kernel) (by decide +kernel), nw_l2 [] (by decide +kernel) (by decide +kernel), by decide +kernel⟩
set_option maxRecDepth 100000 in
def kX7_canSay : List Row := [(.iload_n 0, 0, 1, 0, 0, 0, [], sg0),
  (.tableswitch 98 1 5 #[35, 42, 49, 73, 80], 1, 2, 49, 0, 0, [2, 8, 14, 30, 36], sg0),
  (.iload_n 3, 36, 3, 0, 0, 0, [], sg0),
  (.iload 4, 37, 4, 0, 0, 0, [], sg0),
  (.iconst (-1), 39, 5, 0, 0, (-1), [], sg0),
  (.ixor, 40, 6, 0, 0, 0, [], sg0),
  (.iand, 41, 7, 0, 0, 0, [], sg0),
  (.ireturn, 42, 8, 0, 0, 0, [], sg0),
  (.iload 4, 43, 9, 0, 0, 0, [], sg0),
  (.iload_n 3, 45, 10, 0, 0, 0, [], sg0),
  (.iconst (-1), 46, 11, 0, 0, (-1), [], sg0),
  (.ixor, 47, 12, 0, 0, 0, [], sg0),
  (.iand, 48, 13, 0, 0, 0, [], sg0),
  (.ireturn, 49, 14, 0, 0, 0, [], sg0),
  (.iload_n 2, 50, 15, 0, 0, 0, [], sg0),
  (.iload_n 1, 51, 16, 0, 0, 0, [], sg0),
  (.invokestatic 300, 52, 17, 0, 0, 0, [], sgX7_turnsAt),
  (.ifCond .eq 12, 55, 18, 24, 0, 0, [], sg0),
  (.iload 4, 58, 19, 0, 0, 0, [], sg0),
  (.iload_n 3, 60, 20, 0, 0, 0, [], sg0),
  (.iconst (-1), 61, 21, 0, 0, (-1), [], sg0),
  (.ixor, 62, 22, 0, 0, 0, [], sg0),
  (.iand, 63, 23, 0, 0, 0, [], sg0),
  (.goto 9, 64, 24, 29, 0, 0, [], sg0),
  (.iload_n 3, 67, 25, 0, 0, 0, [], sg0),
  (.iload 4, 68, 26, 0, 0, 0, [], sg0),
  (.iconst (-1), 70, 27, 0, 0, (-1), [], sg0),
  (.ixor, 71, 28, 0, 0, 0, [], sg0),
  (.iand, 72, 29, 0, 0, 0, [], sg0),
  (.ireturn, 73, 30, 0, 0, 0, [], sg0),
  (.iload_n 3, 74, 31, 0, 0, 0, [], sg0),
  (.iload 4, 75, 32, 0, 0, 0, [], sg0),
  (.ixor, 77, 33, 0, 0, 0, [], sg0),
  (.iconst (-1), 78, 34, 0, 0, (-1), [], sg0),
  (.ixor, 79, 35, 0, 0, 0, [], sg0),
  (.ireturn, 80, 36, 0, 0, 0, [], sg0),
  (.iload_n 2, 81, 37, 0, 0, 0, [], sg0),
  (.iload_n 1, 82, 38, 0, 0, 0, [], sg0),
  (.if_icmp .lt 9, 83, 39, 43, 0, 0, [], sg0),
  (.iload_n 3, 86, 40, 0, 0, 0, [], sg0),
  (.iconst (-1), 87, 41, 0, 0, (-1), [], sg0),
  (.ixor, 88, 42, 0, 0, 0, [], sg0),
  (.goto 9, 89, 43, 48, 0, 0, [], sg0),
  (.iload 4, 92, 44, 0, 0, 0, [], sg0),
  (.iload_n 3, 94, 45, 0, 0, 0, [], sg0),
  (.iconst (-1), 95, 46, 0, 0, (-1), [], sg0),
  (.ixor, 96, 47, 0, 0, 0, [], sg0),
  (.iand, 97, 48, 0, 0, 0, [], sg0),
  (.ireturn, 98, 49, 0, 0, 0, [], sg0),
  (.iload_n 3, 99, 50, 0, 0, 0, [], sg0),
  (.iload 4, 100, 51, 0, 0, 0, [], sg0),
  (.ixor, 102, 52, 0, 0, 0, [], sg0),
  (.ireturn, 103, 53, 0, 0, 0, [], sg0),
  (.nop, 104, 54, 0, 0, 0, [], sg0)]
set_option maxRecDepth 100000 in
theorem okX7_canSay : Chk sgX7_canSay kX7_canSay := ⟨by decide +kernel, And.intro sgSX7_turnsAt trivial, tb_l2 [(3, 70)] (by decide +kernel) (by decide +kernel), nw_l2 [] (by decide +kernel) (by decide +kernel), by decide +kernel⟩
set_option maxRecDepth 100000 in
def kX7_turnsAt : List Row := [(.iload_n 1, 0, 1, 0, 0, 0, [], sg0),
  (.iconst 2, 1, 2, 0, 0, 2, [], sg0),
  (.iadd, 2, 3, 0, 0, 0, [], sg0),
  (.istore_n 2, 3, 4, 0, 0, 0, [], sg0),
  (.iload_n 2, 4, 5, 0, 0, 0, [], sg0),
  (.ifCond .le 13, 5, 6, 12, 0, 0, [], sg0),
  (.iload_n 0, 8, 7, 0, 0, 0, [], sg0),
  (.iload_n 2, 9, 8, 0, 0, 0, [], sg0),
  (.irem, 10, 9, 0, 0, 0, [], sg0),
  (.ifCond .ne 7, 11, 10, 12, 0, 0, [], sg0),
  (.iconst 1, 14, 11, 0, 0, 1, [], sg0),
  (.goto 4, 15, 12, 13, 0, 0, [], sg0),
  (.iconst 0, 18, 13, 0, 0, 0, [], sg0),
  (.ireturn, 19, 14, 0, 0, 0, [], sg0),
  (.nop, 20, 15, 0, 0, 0, [], sg0)]
set_option maxRecDepth 100000 in
theorem okX7_turnsAt : Chk sgX7_turnsAt kX7_turnsAt := ⟨by decide +kernel, trivial, tb_l2 [] (by decide +kernel) (by decide +kernel), nw_l2 [] (by decide +kernel) (by decide +kernel), by decide +kernel⟩
set_option maxRecDepth 100000 in
def kX7_onceOf : List Row := [(.aload_n 0, 0, 1, 0, 0, 0, [], sg0),
  (.getfield 35, 1, 2, 7, 3, 0, [], sg0),
  (.iload_n 1, 4, 3, 0, 0, 0, [], sg0),
  (.iconst 0, 5, 4, 0, 0, 0, [], sg0),
  (.iconst 0, 6, 5, 0, 0, 0, [], sg0),
  (.invokevirtual 114, 7, 6, 5, 0, 1, [], sgX5_side),
  (.ireturn, 10, 7, 0, 0, 0, [], sg0),
  (.nop, 11, 8, 0, 0, 0, [], sg0)]
set_option maxRecDepth 100000 in
theorem okX7_onceOf : Chk sgX7_onceOf kX7_onceOf := ⟨by decide +kernel, And.intro sgVX5_side trivial, tb_l2 [(1, 193)] (by decide +kernel) (by decide +kernel), nw_l2 [(2, 204)] (by decide +kernel) (by decide +kernel), by decide +kernel⟩
set_option maxRecDepth 100000 in
def kX7_lawful : List Row := [(.aload_n 0, 0, 1, 0, 0, 0, [], sg0),
  (.aload_n 0, 1, 2, 0, 0, 0, [], sg0),
  (.getfield 42, 2, 3, 7, 4, 0, [], sg0),
  (.getfield 77, 5, 4, 4, 5, 1, [], sg0),
  (.invokevirtual 232, 8, 5, 7, 0, 0, [], sgX7_onceOf),
  (.ireturn, 11, 6, 0, 0, 0, [], sg0),
  (.nop, 12, 7, 0, 0, 0, [], sg0)]
set_option maxRecDepth 100000 in
theorem okX7_lawful : Chk sgX7_lawful kX7_lawful := ⟨by decide +kernel, And.intro sgVX7_onceOf trivial, tb_l2 [(1, 194), (3, 47)] (by decide +kernel) (by decide +kernel), nw_l2 [(1, 130)] (by decide +kernel) (by decide +kernel), by decide +kernel⟩
set_option maxRecDepth 100000 in
def kX7_firstSaid : List Row := [(.aload_n 0, 0, 1, 0, 0, 0, [], sg0),
  (.getfield 35, 1, 2, 7, 3, 0, [], sg0),
  (.aload_n 0, 4, 3, 0, 0, 0, [], sg0),
  (.getfield 42, 5, 4, 7, 4, 0, [], sg0),
  (.iload_n 1, 8, 5, 0, 0, 0, [], sg0),
  (.iconst 1, 9, 6, 0, 0, 1, [], sg0),
  (.invokevirtual 153, 10, 7, 4, 0, 1, [], sgX4_sayingPart),
  (.aload_n 0, 13, 8, 0, 0, 0, [], sg0),
  (.getfield 42, 14, 9, 7, 4, 0, [], sg0),
  (.iload_n 1, 17, 10, 0, 0, 0, [], sg0),
  (.iconst 0, 18, 11, 0, 0, 0, [], sg0),
  (.invokevirtual 153, 19, 12, 4, 0, 1, [], sgX4_sayingPart),
  (.aload_n 0, 22, 13, 0, 0, 0, [], sg0),
  (.getfield 42, 23, 14, 7, 4, 0, [], sg0),
  (.iload_n 1, 26, 15, 0, 0, 0, [], sg0),
  (.iconst 2, 27, 16, 0, 0, 2, [], sg0),
  (.invokevirtual 153, 28, 17, 4, 0, 1, [], sgX4_sayingPart),
  (.invokevirtual 114, 31, 18, 5, 0, 1, [], sgX5_side),
  (.ireturn, 34, 19, 0, 0, 0, [], sg0),
  (.nop, 35, 20, 0, 0, 0, [], sg0)]
set_option maxRecDepth 100000 in
theorem okX7_firstSaid : Chk sgX7_firstSaid kX7_firstSaid := ⟨by decide +kernel, And.intro sgVX4_sayingPart (And.intro sgVX4_sayingPart (And.intro sgVX4_sayingPart (And.intro sgVX5_side trivial))), tb_l2 [(1, 193), (1, 194), (1, 194), (1, 194)] (by decide +kernel) (by decide +kernel), nw_l2 [(3, 26), (3, 26), (3, 26), (2, 204)] (by decide +kernel) (by decide +kernel), by decide +kernel⟩
set_option maxRecDepth 100000 in
def kX7_secondSaid : List Row := [(.aload_n 0, 0, 1, 0, 0, 0, [], sg0),
  (.getfield 35, 1, 2, 7, 3, 0, [], sg0),
  (.aload_n 0, 4, 3, 0, 0, 0, [], sg0),
  (.getfield 42, 5, 4, 7, 4, 0, [], sg0),
  (.iload_n 1, 8, 5, 0, 0, 0, [], sg0),
  (.iconst 1, 9, 6, 0, 0, 1, [], sg0),
  (.invokevirtual 153, 10, 7, 4, 0, 1, [], sgX4_sayingPart),
  (.aload_n 0, 13, 8, 0, 0, 0, [], sg0),
  (.getfield 42, 14, 9, 7, 4, 0, [], sg0),
  (.iload_n 1, 17, 10, 0, 0, 0, [], sg0),
  (.iconst 0, 18, 11, 0, 0, 0, [], sg0),
  (.invokevirtual 153, 19, 12, 4, 0, 1, [], sgX4_sayingPart),
  (.iconst 1, 22, 13, 0, 0, 1, [], sg0),
  (.aload_n 0, 23, 14, 0, 0, 0, [], sg0),
  (.getfield 42, 24, 15, 7, 4, 0, [], sg0),
  (.iload_n 1, 27, 16, 0, 0, 0, [], sg0),
  (.iconst 2, 28, 17, 0, 0, 2, [], sg0),
  (.invokevirtual 153, 29, 18, 4, 0, 1, [], sgX4_sayingPart),
  (.isub, 32, 19, 0, 0, 0, [], sg0),
  (.invokevirtual 114, 33, 20, 5, 0, 1, [], sgX5_side),
  (.ireturn, 36, 21, 0, 0, 0, [], sg0),
  (.nop, 37, 22, 0, 0, 0, [], sg0)]
set_option maxRecDepth 100000 in
theorem okX7_secondSaid : Chk sgX7_secondSaid kX7_secondSaid := ⟨by decide +kernel, And.intro sgVX4_sayingPart (And.intro sgVX4_sayingPart (And.intro sgVX4_sayingPart (And.intro sgVX5_side trivial))), tb_l2 [(1, 193), (1, 194), (1, 194), (1, 194)] (by decide +kernel) (by decide +kernel), nw_l2 [(3, 26), (3, 26), (3, 26), (2, 204)] (by decide +kernel) (by decide +kernel), by decide +kernel⟩
set_option maxRecDepth 100000 in
def kX7_sayableNext : List Row := [(.aload_n 0, 0, 1, 0, 0, 0, [], sg0),
  (.getfield 35, 1, 2, 7, 3, 0, [], sg0),
  (.iload_n 2, 4, 3, 0, 0, 0, [], sg0),
  (.iload_n 1, 5, 4, 0, 0, 0, [], sg0),
  (.iload_n 3, 6, 5, 0, 0, 0, [], sg0),
  (.invokevirtual 114, 7, 6, 5, 0, 1, [], sgX5_side),
  (.istore 5, 10, 7, 0, 0, 0, [], sg0),
  (.aload_n 0, 12, 8, 0, 0, 0, [], sg0),
  (.getfield 35, 13, 9, 7, 3, 0, [], sg0),
  (.iload_n 2, 16, 10, 0, 0, 0, [], sg0),
  (.iload_n 1, 17, 11, 0, 0, 0, [], sg0),
  (.iconst 1, 18, 12, 0, 0, 1, [], sg0),
  (.iload_n 3, 19, 13, 0, 0, 0, [], sg0),
  (.isub, 20, 14, 0, 0, 0, [], sg0),
  (.invokevirtual 114, 21, 15, 5, 0, 1, [], sgX5_side),
  (.istore 6, 24, 16, 0, 0, 0, [], sg0),
  (.aload_n 0, 26, 17, 0, 0, 0, [], sg0),
  (.getfield 42, 27, 18, 7, 4, 0, [], sg0),
  (.getfield 140, 30, 19, 4, 0, 1, [], sg0),
  (.iload_n 1, 33, 20, 0, 0, 0, [], sg0),
  (.invokestatic 144, 34, 21, 0, 0, 0, [], sgX7_at),
  (.aload_n 0, 37, 22, 0, 0, 0, [], sg0),
  (.getfield 42, 38, 23, 7, 4, 0, [], sg0),
  (.getfield 148, 41, 24, 4, 1, 1, [], sg0),
  (.iload_n 1, 44, 25, 0, 0, 0, [], sg0),
  (.invokestatic 144, 45, 26, 0, 0, 0, [], sgX7_at),
  (.iload 4, 48, 27, 0, 0, 0, [], sg0),
  (.iload 5, 50, 28, 0, 0, 0, [], sg0),
  (.iload 6, 52, 29, 0, 0, 0, [], sg0),
  (.invokestatic 303, 54, 30, 0, 0, 0, [], sgX7_canSay),
  (.ireturn, 57, 31, 0, 0, 0, [], sg0),
  (.nop, 58, 32, 0, 0, 0, [], sg0)]
set_option maxRecDepth 100000 in
theorem okX7_sayableNext : Chk sgX7_sayableNext kX7_sayableNext := ⟨by decide +kernel, And.intro sgVX5_side (And.intro sgVX5_side (And.intro sgSX7_at (And.intro sgSX7_at (And.intro sgSX7_canSay trivial)))), tb_l2 [(1, 193), (1, 193), (1, 194), (3, 5), (1, 194), (3, 5), (3, 67)] (by decide +kernel) (by decide +kernel), nw_l2 [(2, 204), (2, 204), (1, 122), (1, 124)] (by decide +kernel) (by decide +kernel), by decide +kernel⟩
set_option maxRecDepth 100000 in
def kX7_sayable : List Row := [(.aload_n 0, 0, 1, 0, 0, 0, [], sg0),
  (.iload_n 1, 1, 2, 0, 0, 0, [], sg0),
  (.aload_n 0, 2, 3, 0, 0, 0, [], sg0),
  (.getfield 42, 3, 4, 7, 4, 0, [], sg0),
  (.getfield 140, 6, 5, 4, 0, 1, [], sg0),
  (.aload_n 0, 9, 6, 0, 0, 0, [], sg0),
  (.getfield 42, 10, 7, 7, 4, 0, [], sg0),
  (.iload_n 1, 13, 8, 0, 0, 0, [], sg0),
  (.iconst 0, 14, 9, 0, 0, 0, [], sg0),
  (.invokevirtual 153, 15, 10, 4, 0, 1, [], sgX4_sayingPart),
  (.invokestatic 144, 18, 11, 0, 0, 0, [], sgX7_at),
  (.invokevirtual 307, 21, 12, 7, 0, 0, [], sgX7_sayableAs),
  (.ireturn, 24, 13, 0, 0, 0, [], sg0),
  (.nop, 25, 14, 0, 0, 0, [], sg0)]
set_option maxRecDepth 100000 in
theorem okX7_sayable : Chk sgX7_sayable kX7_sayable := ⟨by decide +kernel, And.intro sgVX4_sayingPart (And.intro sgSX7_at (And.intro sgVX7_sayableAs trivial)), tb_l2 [(1, 194), (1, 194), (3, 5), (3, 55)] (by decide +kernel) (by decide +kernel), nw_l2 [(1, 122), (3, 26)] (by decide +kernel) (by decide +kernel), by decide +kernel⟩
set_option maxRecDepth 100000 in
def kX7_sayableAs : List Row := [(.aload_n 0, 0, 1, 0, 0, 0, [], sg0),
  (.getfield 42, 1, 2, 7, 4, 0, [], sg0),
  (.getfield 148, 4, 3, 4, 1, 1, [], sg0),
  (.aload_n 0, 7, 4, 0, 0, 0, [], sg0),
  (.getfield 42, 8, 5, 7, 4, 0, [], sg0),
  (.iload_n 1, 11, 6, 0, 0, 0, [], sg0),
  (.iconst 0, 12, 7, 0, 0, 0, [], sg0),
  (.invokevirtual 153, 13, 8, 4, 0, 1, [], sgX4_sayingPart),
  (.invokestatic 144, 16, 9, 0, 0, 0, [], sgX7_at),
  (.istore_n 3, 19, 10, 0, 0, 0, [], sg0),
  (.iload_n 2, 20, 11, 0, 0, 0, [], sg0),
  (.iload_n 3, 21, 12, 0, 0, 0, [], sg0),
  (.iload_n 1, 22, 13, 0, 0, 0, [], sg0),
  (.aload_n 0, 23, 14, 0, 0, 0, [], sg0),
  (.iload_n 1, 24, 15, 0, 0, 0, [], sg0),
  (.invokevirtual 194, 25, 16, 7, 0, 0, [], sgX7_firstSaid),
  (.aload_n 0, 28, 17, 0, 0, 0, [], sg0),
  (.iload_n 1, 29, 18, 0, 0, 0, [], sg0),
  (.invokevirtual 197, 30, 19, 7, 0, 0, [], sgX7_secondSaid),
  (.invokestatic 303, 33, 20, 0, 0, 0, [], sgX7_canSay),
  (.ireturn, 36, 21, 0, 0, 0, [], sg0),
  (.nop, 37, 22, 0, 0, 0, [], sg0)]
set_option maxRecDepth 100000 in
theorem okX7_sayableAs : Chk sgX7_sayableAs kX7_sayableAs := ⟨by decide +kernel, And.intro sgVX4_sayingPart (And.intro sgSX7_at (And.intro sgVX7_firstSaid (And.intro sgVX7_secondSaid (And.intro sgSX7_canSay trivial)))), tb_l2 [(1, 194), (1, 194), (3, 5), (3, 59), (3, 63), (3, 67)] (by decide +kernel) (by decide +kernel), nw_l2 [(1, 124), (3, 26)] (by decide +kernel) (by decide +kernel), by decide +kernel⟩
set_option maxRecDepth 100000 in
def kX7_allSayableWere : List Row := [(.iconst (-1), 0, 1, 0, 0, (-1), [], sg0),
  (.istore_n 3, 1, 2, 0, 0, 0, [], sg0),
  (.iconst 0, 2, 3, 0, 0, 0, [], sg0),
  (.istore 4, 3, 4, 0, 0, 0, [], sg0),
  (.iload 4, 5, 5, 0, 0, 0, [], sg0),
  (.aload_n 0, 7, 6, 0, 0, 0, [], sg0),
  (.getfield 42, 8, 7, 7, 4, 0, [], sg0),
  (.getfield 71, 11, 8, 4, 4, 1, [], sg0),
  (.if_icmp .ge 33, 14, 9, 25, 0, 0, [], sg0),
  (.aload_n 0, 17, 10, 0, 0, 0, [], sg0),
  (.getfield 42, 18, 11, 7, 4, 0, [], sg0),
  (.iload 4, 21, 12, 0, 0, 0, [], sg0),
  (.iconst 0, 23, 13, 0, 0, 0, [], sg0),
  (.invokevirtual 153, 24, 14, 4, 0, 1, [], sgX4_sayingPart),
  (.iload_n 1, 27, 15, 0, 0, 0, [], sg0),
  (.if_icmp .ne 13, 28, 16, 23, 0, 0, [], sg0),
  (.iload_n 3, 31, 17, 0, 0, 0, [], sg0),
  (.aload_n 0, 32, 18, 0, 0, 0, [], sg0),
  (.iload 4, 33, 19, 0, 0, 0, [], sg0),
  (.iload_n 2, 35, 20, 0, 0, 0, [], sg0),
  (.invokevirtual 307, 36, 21, 7, 0, 0, [], sgX7_sayableAs),
  (.iand, 39, 22, 0, 0, 0, [], sg0),
  (.istore_n 3, 40, 23, 0, 0, 0, [], sg0),
  (.iinc 4 1, 41, 24, 0, 0, 1, [], sg0),
  (.goto (-39), 44, 25, 4, 0, 0, [], sg0),
  (.iload_n 3, 47, 26, 0, 0, 0, [], sg0),
  (.ireturn, 48, 27, 0, 0, 0, [], sg0),
  (.nop, 49, 28, 0, 0, 0, [], sg0)]
set_option maxRecDepth 100000 in
theorem okX7_allSayableWere : Chk sgX7_allSayableWere kX7_allSayableWere := ⟨by decide +kernel, And.intro sgVX4_sayingPart (And.intro sgVX7_sayableAs trivial), tb_l2 [(1, 194), (1, 194), (3, 55)] (by decide +kernel) (by decide +kernel), nw_l2 [(1, 128), (3, 26)] (by decide +kernel) (by decide +kernel), by decide +kernel⟩
set_option maxRecDepth 100000 in
def kX7_fittingFirst : List Row := [(.aload_n 0, 0, 1, 0, 0, 0, [], sg0),
  (.invokevirtual 176, 1, 2, 7, 0, 0, [], sgX7_lawful),
  (.istore_n 2, 4, 3, 0, 0, 0, [], sg0),
  (.iconst 0, 5, 4, 0, 0, 0, [], sg0),
  (.istore_n 3, 6, 5, 0, 0, 0, [], sg0),
  (.iload_n 3, 7, 6, 0, 0, 0, [], sg0),
  (.iload_n 1, 8, 7, 0, 0, 0, [], sg0),
  (.if_icmp .ge 17, 9, 8, 16, 0, 0, [], sg0),
  (.iload_n 2, 12, 9, 0, 0, 0, [], sg0),
  (.aload_n 0, 13, 10, 0, 0, 0, [], sg0),
  (.iload_n 3, 14, 11, 0, 0, 0, [], sg0),
  (.invokevirtual 179, 15, 12, 7, 0, 0, [], sgX7_sayable),
  (.iand, 18, 13, 0, 0, 0, [], sg0),
  (.istore_n 2, 19, 14, 0, 0, 0, [], sg0),
  (.iinc 3 1, 20, 15, 0, 0, 1, [], sg0),
  (.goto (-16), 23, 16, 5, 0, 0, [], sg0),
  (.iload_n 2, 26, 17, 0, 0, 0, [], sg0),
  (.ireturn, 27, 18, 0, 0, 0, [], sg0),
  (.nop, 28, 19, 0, 0, 0, [], sg0)]
set_option maxRecDepth 100000 in
theorem okX7_fittingFirst : Chk sgX7_fittingFirst kX7_fittingFirst := ⟨by decide +kernel, And.intro sgVX7_lawful (And.intro sgVX7_sayable trivial), tb_l2 [(3, 43), (3, 51)] (by decide +kernel) (by decide +kernel), nw_l2 [] (by decide +kernel) (by decide +kernel), by decide +kernel⟩
set_option maxRecDepth 100000 in
def kX7_fitting : List Row := [(.aload_n 0, 0, 1, 0, 0, 0, [], sg0),
  (.aload_n 0, 1, 2, 0, 0, 0, [], sg0),
  (.getfield 42, 2, 3, 7, 4, 0, [], sg0),
  (.getfield 71, 5, 4, 4, 4, 1, [], sg0),
  (.invokevirtual 160, 8, 5, 7, 0, 0, [], sgX7_fittingFirst),
  (.ireturn, 11, 6, 0, 0, 0, [], sg0),
  (.nop, 12, 7, 0, 0, 0, [], sg0)]
set_option maxRecDepth 100000 in
theorem okX7_fitting : Chk sgX7_fitting kX7_fitting := ⟨by decide +kernel, And.intro sgVX7_fittingFirst trivial, tb_l2 [(1, 194), (3, 39)] (by decide +kernel) (by decide +kernel), nw_l2 [(1, 128)] (by decide +kernel) (by decide +kernel), by decide +kernel⟩
set_option maxRecDepth 100000 in
def kX7_fittingWithout : List Row := [(.aload_n 0, 0, 1, 0, 0, 0, [], sg0),
  (.invokevirtual 176, 1, 2, 7, 0, 0, [], sgX7_lawful),
  (.istore_n 2, 4, 3, 0, 0, 0, [], sg0),
  (.iconst 0, 5, 4, 0, 0, 0, [], sg0),
  (.istore_n 3, 6, 5, 0, 0, 0, [], sg0),
  (.iload_n 3, 7, 6, 0, 0, 0, [], sg0),
  (.aload_n 0, 8, 7, 0, 0, 0, [], sg0),
  (.getfield 42, 9, 8, 7, 4, 0, [], sg0),
  (.getfield 71, 12, 9, 4, 4, 1, [], sg0),
  (.if_icmp .ge 22, 15, 10, 21, 0, 0, [], sg0),
  (.iload_n 3, 18, 11, 0, 0, 0, [], sg0),
  (.iload_n 1, 19, 12, 0, 0, 0, [], sg0),
  (.if_icmp .eq 11, 20, 13, 19, 0, 0, [], sg0),
  (.iload_n 2, 23, 14, 0, 0, 0, [], sg0),
  (.aload_n 0, 24, 15, 0, 0, 0, [], sg0),
  (.iload_n 3, 25, 16, 0, 0, 0, [], sg0),
  (.invokevirtual 179, 26, 17, 7, 0, 0, [], sgX7_sayable),
  (.iand, 29, 18, 0, 0, 0, [], sg0),
  (.istore_n 2, 30, 19, 0, 0, 0, [], sg0),
  (.iinc 3 1, 31, 20, 0, 0, 1, [], sg0),
  (.goto (-27), 34, 21, 5, 0, 0, [], sg0),
  (.iload_n 2, 37, 22, 0, 0, 0, [], sg0),
  (.ireturn, 38, 23, 0, 0, 0, [], sg0),
  (.nop, 39, 24, 0, 0, 0, [], sg0)]
set_option maxRecDepth 100000 in
theorem okX7_fittingWithout : Chk sgX7_fittingWithout kX7_fittingWithout := ⟨by decide +kernel, And.intro sgVX7_lawful (And.intro sgVX7_sayable trivial), tb_l2 [(3, 43), (1, 194), (3, 51)] (by decide +kernel) (by decide +kernel), nw_l2 [(1, 128)] (by decide +kernel) (by decide +kernel), by decide +kernel⟩
set_option maxRecDepth 100000 in
def kX7_fittingWereMad : List Row := [(.aload_n 0, 0, 1, 0, 0, 0, [], sg0),
  (.invokevirtual 176, 1, 2, 7, 0, 0, [], sgX7_lawful),
  (.istore_n 2, 4, 3, 0, 0, 0, [], sg0),
  (.iconst 0, 5, 4, 0, 0, 0, [], sg0),
  (.istore_n 3, 6, 5, 0, 0, 0, [], sg0),
  (.iload_n 3, 7, 6, 0, 0, 0, [], sg0),
  (.aload_n 0, 8, 7, 0, 0, 0, [], sg0),
  (.getfield 42, 9, 8, 7, 4, 0, [], sg0),
  (.getfield 71, 12, 9, 4, 4, 1, [], sg0),
  (.if_icmp .ge 55, 15, 10, 38, 0, 0, [], sg0),
  (.iload_n 1, 18, 11, 0, 0, 0, [], sg0),
  (.aload_n 0, 19, 12, 0, 0, 0, [], sg0),
  (.getfield 42, 20, 13, 7, 4, 0, [], sg0),
  (.iload_n 3, 23, 14, 0, 0, 0, [], sg0),
  (.iconst 0, 24, 15, 0, 0, 0, [], sg0),
  (.invokevirtual 153, 25, 16, 4, 0, 1, [], sgX4_sayingPart),
  (.invokestatic 118, 28, 17, 0, 0, 0, [], sgX7_bit),
  (.iconst 1, 31, 18, 0, 0, 1, [], sg0),
  (.if_icmp .ne 7, 32, 19, 21, 0, 0, [], sg0),
  (.iconst 1, 35, 20, 0, 0, 1, [], sg0),
  (.goto 4, 36, 21, 22, 0, 0, [], sg0),
  (.iconst 0, 39, 22, 0, 0, 0, [], sg0),
  (.istore 4, 40, 23, 0, 0, 0, [], sg0),
  (.iload_n 2, 42, 24, 0, 0, 0, [], sg0),
  (.iload 4, 43, 25, 0, 0, 0, [], sg0),
  (.ifCond .eq 12, 45, 26, 31, 0, 0, [], sg0),
  (.aload_n 0, 48, 27, 0, 0, 0, [], sg0),
  (.iload_n 3, 49, 28, 0, 0, 0, [], sg0),
  (.iconst 4, 50, 29, 0, 0, 4, [], sg0),
  (.invokevirtual 307, 51, 30, 7, 0, 0, [], sgX7_sayableAs),
  (.goto 8, 54, 31, 34, 0, 0, [], sg0),
  (.aload_n 0, 57, 32, 0, 0, 0, [], sg0),
  (.iload_n 3, 58, 33, 0, 0, 0, [], sg0),
  (.invokevirtual 179, 59, 34, 7, 0, 0, [], sgX7_sayable),
  (.iand, 62, 35, 0, 0, 0, [], sg0),
  (.istore_n 2, 63, 36, 0, 0, 0, [], sg0),
  (.iinc 3 1, 64, 37, 0, 0, 1, [], sg0),
  (.goto (-60), 67, 38, 5, 0, 0, [], sg0),
  (.iload_n 2, 70, 39, 0, 0, 0, [], sg0),
  (.ireturn, 71, 40, 0, 0, 0, [], sg0),
  (.nop, 72, 41, 0, 0, 0, [], sg0)]
set_option maxRecDepth 100000 in
theorem okX7_fittingWereMad : Chk sgX7_fittingWereMad kX7_fittingWereMad := ⟨by decide +kernel, And.intro sgVX7_lawful (And.intro sgVX4_sayingPart (And.intro sgSX7_bit (And.intro sgVX7_sayableAs (And.intro sgVX7_sayable trivial)))), tb_l2 [(3, 43), (1, 194), (1, 194), (2, 208), (3, 55), (3, 51)] (by decide +kernel) (by decide +kernel), nw_l2 [(1, 128), (3, 26)] (by decide +kernel) (by decide +kernel), by decide +kernel⟩
set_option maxRecDepth 100000 in
def kX7_misfits : List Row := [(.iconst 0, 0, 1, 0, 0, 0, [], sg0),
  (.istore_n 2, 1, 2, 0, 0, 0, [], sg0),
  (.iconst 0, 2, 3, 0, 0, 0, [], sg0),
  (.istore_n 3, 3, 4, 0, 0, 0, [], sg0),
  (.iload_n 3, 4, 5, 0, 0, 0, [], sg0),
  (.aload_n 0, 5, 6, 0, 0, 0, [], sg0),
  (.getfield 42, 6, 7, 7, 4, 0, [], sg0),
  (.getfield 71, 9, 8, 4, 4, 1, [], sg0),
  (.if_icmp .ge 27, 12, 9, 23, 0, 0, [], sg0),
  (.aload_n 0, 15, 10, 0, 0, 0, [], sg0),
  (.iload_n 3, 16, 11, 0, 0, 0, [], sg0),
  (.invokevirtual 179, 17, 12, 7, 0, 0, [], sgX7_sayable),
  (.iload_n 1, 20, 13, 0, 0, 0, [], sg0),
  (.invokestatic 118, 21, 14, 0, 0, 0, [], sgX7_bit),
  (.ifCond .ne 9, 24, 15, 21, 0, 0, [], sg0),
  (.iload_n 2, 27, 16, 0, 0, 0, [], sg0),
  (.iconst 1, 28, 17, 0, 0, 1, [], sg0),
  (.iload_n 3, 29, 18, 0, 0, 0, [], sg0),
  (.ishl, 30, 19, 0, 0, 0, [], sg0),
  (.ior, 31, 20, 0, 0, 0, [], sg0),
  (.istore_n 2, 32, 21, 0, 0, 0, [], sg0),
  (.iinc 3 1, 33, 22, 0, 0, 1, [], sg0),
  (.goto (-32), 36, 23, 4, 0, 0, [], sg0),
  (.iload_n 2, 39, 24, 0, 0, 0, [], sg0),
  (.ireturn, 40, 25, 0, 0, 0, [], sg0),
  (.nop, 41, 26, 0, 0, 0, [], sg0)]
set_option maxRecDepth 100000 in
theorem okX7_misfits : Chk sgX7_misfits kX7_misfits := ⟨by decide +kernel, And.intro sgVX7_sayable (And.intro sgSX7_bit trivial), tb_l2 [(1, 194), (3, 51), (2, 208)] (by decide +kernel) (by decide +kernel), nw_l2 [(1, 128)] (by decide +kernel) (by decide +kernel), by decide +kernel⟩
set_option maxRecDepth 100000 in
def kX7_isSure : List Row := [(.iload_n 1, 0, 1, 0, 0, 0, [], sg0),
  (.getstatic 310, 1, 2, 0, 0, 0, [], sg0),
  (.iload_n 0, 4, 3, 0, 0, 0, [], sg0),
  (.invokestatic 144, 5, 4, 0, 0, 0, [], sgX7_at),
  (.iand, 8, 5, 0, 0, 0, [], sg0),
  (.istore_n 2, 9, 6, 0, 0, 0, [], sg0),
  (.iload_n 1, 10, 7, 0, 0, 0, [], sg0),
  (.ifCond .eq 16, 11, 8, 15, 0, 0, [], sg0),
  (.iload_n 2, 14, 9, 0, 0, 0, [], sg0),
  (.iload_n 1, 15, 10, 0, 0, 0, [], sg0),
  (.if_icmp .eq 7, 16, 11, 13, 0, 0, [], sg0),
  (.iload_n 2, 19, 12, 0, 0, 0, [], sg0),
  (.ifCond .ne 7, 20, 13, 15, 0, 0, [], sg0),
  (.iconst 1, 23, 14, 0, 0, 1, [], sg0),
  (.goto 4, 24, 15, 16, 0, 0, [], sg0),
  (.iconst 0, 27, 16, 0, 0, 0, [], sg0),
  (.ireturn, 28, 17, 0, 0, 0, [], sg0),
  (.nop, 29, 18, 0, 0, 0, [], sg0)]
set_option maxRecDepth 100000 in
theorem okX7_isSure : Chk sgX7_isSure kX7_isSure := ⟨by decide +kernel, And.intro sgSX7_at trivial, tb_l2 [(3, 86), (3, 5)] (by decide +kernel) (by decide +kernel), nw_l2 [] (by decide +kernel) (by decide +kernel), by decide +kernel⟩
set_option maxRecDepth 100000 in
def kX7_thingsSure : List Row := [(.iconst 0, 0, 1, 0, 0, 0, [], sg0),
  (.istore_n 2, 1, 2, 0, 0, 0, [], sg0),
  (.iconst 0, 2, 3, 0, 0, 0, [], sg0),
  (.istore_n 3, 3, 4, 0, 0, 0, [], sg0),
  (.iload_n 3, 4, 5, 0, 0, 0, [], sg0),
  (.iconst 5, 5, 6, 0, 0, 5, [], sg0),
  (.if_icmp .ge 48, 6, 7, 32, 0, 0, [], sg0),
  (.iload_n 0, 9, 8, 0, 0, 0, [], sg0),
  (.getstatic 310, 10, 9, 0, 0, 0, [], sg0),
  (.iload_n 3, 13, 10, 0, 0, 0, [], sg0),
  (.invokestatic 144, 14, 11, 0, 0, 0, [], sgX7_at),
  (.iand, 17, 12, 0, 0, 0, [], sg0),
  (.ifCond .eq 7, 18, 13, 15, 0, 0, [], sg0),
  (.iconst 1, 21, 14, 0, 0, 1, [], sg0),
  (.goto 4, 22, 15, 16, 0, 0, [], sg0),
  (.iconst 0, 25, 16, 0, 0, 0, [], sg0),
  (.istore 4, 26, 17, 0, 0, 0, [], sg0),
  (.iload_n 3, 28, 18, 0, 0, 0, [], sg0),
  (.iload_n 0, 29, 19, 0, 0, 0, [], sg0),
  (.invokestatic 229, 30, 20, 0, 0, 0, [], sgX7_isSure),
  (.ifCond .eq 15, 33, 21, 30, 0, 0, [], sg0),
  (.iload 4, 36, 22, 0, 0, 0, [], sg0),
  (.iload_n 1, 38, 23, 0, 0, 0, [], sg0),
  (.if_icmp .ne 9, 39, 24, 30, 0, 0, [], sg0),
  (.iload_n 2, 42, 25, 0, 0, 0, [], sg0),
  (.iconst 1, 43, 26, 0, 0, 1, [], sg0),
  (.iload_n 3, 44, 27, 0, 0, 0, [], sg0),
  (.ishl, 45, 28, 0, 0, 0, [], sg0),
  (.ior, 46, 29, 0, 0, 0, [], sg0),
  (.istore_n 2, 47, 30, 0, 0, 0, [], sg0),
  (.iinc 3 1, 48, 31, 0, 0, 1, [], sg0),
  (.goto (-47), 51, 32, 4, 0, 0, [], sg0),
  (.iload_n 2, 54, 33, 0, 0, 0, [], sg0),
  (.ireturn, 55, 34, 0, 0, 0, [], sg0),
  (.nop, 56, 35, 0, 0, 0, [], sg0)]
set_option maxRecDepth 100000 in
theorem okX7_thingsSure : Chk sgX7_thingsSure kX7_thingsSure := ⟨by decide +kernel, And.intro sgSX7_at (And.intro sgSX7_isSure trivial), tb_l2 [(3, 86), (3, 5), (3, 88)] (by decide +kernel) (by decide +kernel), nw_l2 [] (by decide +kernel) (by decide +kernel), by decide +kernel⟩
set_option maxRecDepth 100000 in
def kX7_findBest : List Row := [(.aload_n 0, 0, 1, 0, 0, 0, [], sg0),
  (.getfield 59, 1, 2, 7, 7, 0, [], sg0),
  (.bipush 33, 4, 3, 0, 0, 33, [], sg0),
  (.putfield 210, 6, 4, 2, 2, 1, [], sg0),
  (.iconst 0, 9, 5, 0, 0, 0, [], sg0),
  (.istore_n 3, 10, 6, 0, 0, 0, [], sg0),
  (.iload_n 3, 11, 7, 0, 0, 0, [], sg0),
  (.aload_n 0, 12, 8, 0, 0, 0, [], sg0),
  (.getfield 42, 13, 9, 7, 4, 0, [], sg0),
  (.getfield 67, 16, 10, 4, 3, 1, [], sg0),
  (.if_icmp .ge 59, 19, 11, 38, 0, 0, [], sg0),
  (.iconst 0, 22, 12, 0, 0, 0, [], sg0),
  (.istore 4, 23, 13, 0, 0, 0, [], sg0),
  (.iload 4, 25, 14, 0, 0, 0, [], sg0),
  (.aload_n 0, 27, 15, 0, 0, 0, [], sg0),
  (.getfield 35, 28, 16, 7, 3, 0, [], sg0),
  (.getfield 74, 31, 17, 5, 3, 1, [], sg0),
  (.if_icmp .ge 38, 34, 18, 36, 0, 0, [], sg0),
  (.aload_n 0, 37, 19, 0, 0, 0, [], sg0),
  (.getfield 59, 38, 20, 7, 7, 0, [], sg0),
  (.iload_n 3, 41, 21, 0, 0, 0, [], sg0),
  (.iload 4, 42, 22, 0, 0, 0, [], sg0),
  (.aload_n 0, 44, 23, 0, 0, 0, [], sg0),
  (.iload_n 1, 45, 24, 0, 0, 0, [], sg0),
  (.iload_n 3, 46, 25, 0, 0, 0, [], sg0),
  (.iload 4, 47, 26, 0, 0, 0, [], sg0),
  (.iload_n 2, 49, 27, 0, 0, 0, [], sg0),
  (.invokevirtual 313, 50, 28, 7, 0, 0, [], sgX7_worstOf),
  (.aload_n 0, 53, 29, 0, 0, 0, [], sg0),
  (.getfield 35, 54, 30, 7, 3, 0, [], sg0),
  (.iload 4, 57, 31, 0, 0, 0, [], sg0),
  (.iload_n 3, 59, 32, 0, 0, 0, [], sg0),
  (.invokevirtual 110, 60, 33, 5, 0, 1, [], sgX5_costOf),
  (.invokevirtual 316, 63, 34, 2, 0, 1, [], sgX2_consider),
  (.iinc 4 1, 66, 35, 0, 0, 1, [], sg0),
  (.goto (-44), 69, 36, 13, 0, 0, [], sg0),
  (.iinc 3 1, 72, 37, 0, 0, 1, [], sg0),
  (.goto (-64), 75, 38, 6, 0, 0, [], sg0),
  (.aload_n 0, 78, 39, 0, 0, 0, [], sg0),
  (.getfield 42, 79, 40, 7, 4, 0, [], sg0),
  (.getfield 67, 82, 41, 4, 3, 1, [], sg0),
  (.ifCond .le 7, 85, 42, 44, 0, 0, [], sg0),
  (.iconst 1, 88, 43, 0, 0, 1, [], sg0),
  (.goto 4, 89, 44, 45, 0, 0, [], sg0),
  (.iconst 0, 92, 45, 0, 0, 0, [], sg0),
  (.ireturn, 93, 46, 0, 0, 0, [], sg0),
  (.nop, 94, 47, 0, 0, 0, [], sg0)]
set_option maxRecDepth 100000 in
theorem okX7_findBest : Chk sgX7_findBest kX7_findBest := ⟨by decide +kernel, And.intro sgVX7_worstOf (And.intro sgVX5_costOf (And.intro sgVX2_consider trivial)), tb_l2 [(1, 197), (1, 194), (1, 193), (1, 197), (3, 151), (1, 193), (1, 194)] (by decide +kernel) (by decide +kernel), nw_l2 [(1, 178), (1, 126), (1, 105), (2, 199), (3, 160), (1, 126)] (by decide +kernel) (by decide +kernel), by decide +kernel⟩
set_option maxRecDepth 100000 in
def kX7_worstOf : List Row := [(.iload_n 1, 0, 1, 0, 0, 0, [], sg0),
  (.aload_n 0, 1, 2, 0, 0, 0, [], sg0),
  (.iload_n 2, 2, 3, 0, 0, 0, [], sg0),
  (.iload_n 3, 3, 4, 0, 0, 0, [], sg0),
  (.iconst 0, 4, 5, 0, 0, 0, [], sg0),
  (.iload 4, 5, 6, 0, 0, 0, [], sg0),
  (.invokevirtual 225, 7, 7, 7, 0, 0, [], sgX7_sayableNext),
  (.iand, 10, 8, 0, 0, 0, [], sg0),
  (.invokestatic 164, 11, 9, 0, 0, 0, [], sgJ6_bitCount_0f7a4),
  (.istore 5, 14, 10, 0, 0, 0, [], sg0),
  (.iload_n 1, 16, 11, 0, 0, 0, [], sg0),
  (.aload_n 0, 17, 12, 0, 0, 0, [], sg0),
  (.iload_n 2, 18, 13, 0, 0, 0, [], sg0),
  (.iload_n 3, 19, 14, 0, 0, 0, [], sg0),
  (.iconst 1, 20, 15, 0, 0, 1, [], sg0),
  (.iload 4, 21, 16, 0, 0, 0, [], sg0),
  (.invokevirtual 225, 23, 17, 7, 0, 0, [], sgX7_sayableNext),
  (.iand, 26, 18, 0, 0, 0, [], sg0),
  (.invokestatic 164, 27, 19, 0, 0, 0, [], sgJ6_bitCount_0f7a4),
  (.istore 6, 30, 20, 0, 0, 0, [], sg0),
  (.iload 5, 32, 21, 0, 0, 0, [], sg0),
  (.iload 6, 34, 22, 0, 0, 0, [], sg0),
  (.invokestatic 243, 36, 23, 0, 7, 0, [], sg0),
  (.ireturn, 39, 24, 0, 0, 0, [], sg0),
  (.nop, 40, 25, 0, 0, 0, [], sg0)]
set_option maxRecDepth 100000 in
theorem okX7_worstOf : Chk sgX7_worstOf kX7_worstOf := ⟨by decide +kernel, And.intro sgVX7_sayableNext (And.intro sgSJ6_bitCount_0f7a4 (And.intro sgVX7_sayableNext (And.intro sgSJ6_bitCount_0f7a4 trivial))), tb_l2 [(3, 155), (3, 77), (3, 155), (3, 77), (3, 159), (2, 178), (1, 14), (2, 179)] (by decide +kernel) (by decide +kernel), nw_l2 [] (by decide +kernel) (by decide +kernel), by decide +kernel⟩
set_option maxRecDepth 100000 in
def kX7_worstBehind : List Row := [(.aload_n 0, 0, 1, 0, 0, 0, [], sg0),
  (.getfield 42, 1, 2, 7, 4, 0, [], sg0),
  (.getfield 71, 4, 3, 4, 4, 1, [], sg0),
  (.istore 4, 7, 4, 0, 0, 0, [], sg0),
  (.iconst 0, 9, 5, 0, 0, 0, [], sg0),
  (.istore 5, 10, 6, 0, 0, 0, [], sg0),
  (.iconst 0, 12, 7, 0, 0, 0, [], sg0),
  (.istore 6, 13, 8, 0, 0, 0, [], sg0),
  (.iload 6, 15, 9, 0, 0, 0, [], sg0),
  (.iconst 2, 17, 10, 0, 0, 2, [], sg0),
  (.if_icmp .ge 50, 18, 11, 35, 0, 0, [], sg0),
  (.aload_n 0, 21, 12, 0, 0, 0, [], sg0),
  (.iload_n 1, 22, 13, 0, 0, 0, [], sg0),
  (.aload_n 0, 23, 14, 0, 0, 0, [], sg0),
  (.iload_n 2, 24, 15, 0, 0, 0, [], sg0),
  (.iload_n 3, 25, 16, 0, 0, 0, [], sg0),
  (.iload 6, 26, 17, 0, 0, 0, [], sg0),
  (.iload 4, 28, 18, 0, 0, 0, [], sg0),
  (.invokevirtual 225, 30, 19, 7, 0, 0, [], sgX7_sayableNext),
  (.iand, 33, 20, 0, 0, 0, [], sg0),
  (.iload 4, 34, 21, 0, 0, 0, [], sg0),
  (.iconst 1, 36, 22, 0, 0, 1, [], sg0),
  (.iadd, 37, 23, 0, 0, 0, [], sg0),
  (.invokevirtual 207, 38, 24, 7, 0, 0, [], sgX7_findBest),
  (.istore 7, 41, 25, 0, 0, 0, [], sg0),
  (.iload 7, 43, 26, 0, 0, 0, [], sg0),
  (.ifCond .eq 17, 45, 27, 33, 0, 0, [], sg0),
  (.iload 5, 48, 28, 0, 0, 0, [], sg0),
  (.aload_n 0, 50, 29, 0, 0, 0, [], sg0),
  (.getfield 59, 51, 30, 7, 7, 0, [], sg0),
  (.getfield 210, 54, 31, 2, 2, 1, [], sg0),
  (.invokestatic 243, 57, 32, 0, 7, 0, [], sg0),
  (.istore 5, 60, 33, 0, 0, 0, [], sg0),
  (.iinc 6 1, 62, 34, 0, 0, 1, [], sg0),
  (.goto (-50), 65, 35, 8, 0, 0, [], sg0),
  (.iload 5, 68, 36, 0, 0, 0, [], sg0),
  (.ireturn, 70, 37, 0, 0, 0, [], sg0),
  (.nop, 71, 38, 0, 0, 0, [], sg0)]
set_option maxRecDepth 100000 in
theorem okX7_worstBehind : Chk sgX7_worstBehind kX7_worstBehind := ⟨by decide +kernel, And.intro sgVX7_sayableNext (And.intro sgVX7_findBest trivial), tb_l2 [(1, 194), (3, 155), (3, 147), (1, 197), (3, 159), (2, 178), (1, 14), (2, 179)] (by decide +kernel) (by decide +kernel), nw_l2 [(1, 128), (1, 178)] (by decide +kernel) (by decide +kernel), by decide +kernel⟩
set_option maxRecDepth 100000 in
def kX7_strangerAsks : List Row := [(.iload_n 2, 0, 1, 0, 0, 0, [], sg0),
  (.invokestatic 164, 1, 2, 0, 0, 0, [], sgJ6_bitCount_0f7a4),
  (.istore_n 3, 4, 3, 0, 0, 0, [], sg0),
  (.iload_n 3, 5, 4, 0, 0, 0, [], sg0),
  (.ifCond .ne 5, 6, 5, 7, 0, 0, [], sg0),
  (.iconst (-1), 9, 6, 0, 0, (-1), [], sg0),
  (.ireturn, 10, 7, 0, 0, 0, [], sg0),
  (.iload_n 1, 11, 8, 0, 0, 0, [], sg0),
  (.i2l, 12, 9, 0, 0, 0, [], sg0),
  (.lconst 1, 13, 10, 0, 0, 1, [], sg0),
  (.ladd, 14, 11, 0, 0, 0, [], sg0),
  (.invokestatic 320, 15, 12, 0, 0, 0, [], sgX7_lotBehind),
  (.lstore 4, 18, 13, 0, 0, 0, [], sg0),
  (.iload_n 2, 20, 14, 0, 0, 0, [], sg0),
  (.lload 4, 21, 15, 0, 0, 0, [], sg0),
  (.iload_n 3, 23, 16, 0, 0, 0, [], sg0),
  (.i2l, 24, 17, 0, 0, 0, [], sg0),
  (.lrem, 25, 18, 0, 0, 0, [], sg0),
  (.l2i, 26, 19, 0, 0, 0, [], sg0),
  (.invokestatic 173, 27, 20, 0, 0, 0, [], sgX7_worldNumber),
  (.istore 6, 30, 21, 0, 0, 0, [], sg0),
  (.iload_n 2, 32, 22, 0, 0, 0, [], sg0),
  (.istore 7, 33, 23, 0, 0, 0, [], sg0),
  (.iconst 0, 35, 24, 0, 0, 0, [], sg0),
  (.istore 8, 36, 25, 0, 0, 0, [], sg0),
  (.iconst 0, 38, 26, 0, 0, 0, [], sg0),
  (.istore 9, 39, 27, 0, 0, 0, [], sg0),
  (.iload 9, 41, 28, 0, 0, 0, [], sg0),
  (.bipush 6, 43, 29, 0, 0, 6, [], sg0),
  (.if_icmp .ge 83, 45, 30, 68, 0, 0, [], sg0),
  (.iload 7, 48, 31, 0, 0, 0, [], sg0),
  (.invokestatic 164, 50, 32, 0, 0, 0, [], sgJ6_bitCount_0f7a4),
  (.iconst 1, 53, 33, 0, 0, 1, [], sg0),
  (.if_icmp .le 74, 54, 34, 68, 0, 0, [], sg0),
  (.aload_n 0, 57, 35, 0, 0, 0, [], sg0),
  (.getfield 42, 58, 36, 7, 4, 0, [], sg0),
  (.getfield 71, 61, 37, 4, 4, 1, [], sg0),
  (.iload 9, 64, 38, 0, 0, 0, [], sg0),
  (.iadd, 66, 39, 0, 0, 0, [], sg0),
  (.istore 10, 67, 40, 0, 0, 0, [], sg0),
  (.aload_n 0, 69, 41, 0, 0, 0, [], sg0),
  (.iload 7, 70, 42, 0, 0, 0, [], sg0),
  (.iload 10, 72, 43, 0, 0, 0, [], sg0),
  (.invokevirtual 207, 74, 44, 7, 0, 0, [], sgX7_findBest),
  (.ifCond .ne 6, 77, 45, 46, 0, 0, [], sg0),
  (.goto 48, 80, 46, 68, 0, 0, [], sg0),
  (.lload 4, 83, 47, 0, 0, 0, [], sg0),
  (.invokestatic 320, 85, 48, 0, 0, 0, [], sgX7_lotBehind),
  (.lstore 4, 88, 49, 0, 0, 0, [], sg0),
  (.iload 7, 90, 50, 0, 0, 0, [], sg0),
  (.aload_n 0, 92, 51, 0, 0, 0, [], sg0),
  (.iload 6, 93, 52, 0, 0, 0, [], sg0),
  (.iload 10, 95, 53, 0, 0, 0, [], sg0),
  (.lload 4, 97, 54, 0, 0, 0, [], sg0),
  (.ldc2_w 324, 99, 55, 0, 0, 2, [], sg0),
  (.lrem, 102, 56, 0, 0, 0, [], sg0),
  (.lconst 0, 103, 57, 0, 0, 0, [], sg0),
  (.lcmp, 104, 58, 0, 0, 0, [], sg0),
  (.ifCond .ne 7, 105, 59, 61, 0, 0, [], sg0),
  (.iconst 1, 108, 60, 0, 0, 1, [], sg0),
  (.goto 4, 109, 61, 62, 0, 0, [], sg0),
  (.iconst 0, 112, 62, 0, 0, 0, [], sg0),
  (.invokevirtual 326, 113, 63, 7, 0, 0, [], sgX7_answered),
  (.iand, 116, 64, 0, 0, 0, [], sg0),
  (.istore 7, 117, 65, 0, 0, 0, [], sg0),
  (.iinc 8 1, 119, 66, 0, 0, 1, [], sg0),
  (.iinc 9 1, 122, 67, 0, 0, 1, [], sg0),
  (.goto (-84), 125, 68, 27, 0, 0, [], sg0),
  (.iload 8, 128, 69, 0, 0, 0, [], sg0),
  (.ireturn, 130, 70, 0, 0, 0, [], sg0),
  (.nop, 131, 71, 0, 0, 0, [], sg0)]
set_option maxRecDepth 100000 in
theorem okX7_strangerAsks : Chk sgX7_strangerAsks kX7_strangerAsks := ⟨by decide +kernel, And.intro sgSJ6_bitCount_0f7a4 (And.intro sgSX7_lotBehind (And.intro sgSX7_worldNumber (And.intro sgSJ6_bitCount_0f7a4 (And.intro sgVX7_findBest (And.intro sgSX7_lotBehind (And.intro sgVX7_answered trivial)))))), tb_l2 [(3, 77), (4, 7), (3, 91), (3, 77), (1, 194), (3, 147), (4, 7), (4, 12), (4, 13)] (by decide +kernel) (by decide +kernel), nw_l2 [(1, 128)] (by decide +kernel) (by decide +kernel), by decide +kernel⟩
set_option maxRecDepth 100000 in
def kX7_answered : List Row := [(.aload_n 0, 0, 1, 0, 0, 0, [], sg0),
  (.aload_n 0, 1, 2, 0, 0, 0, [], sg0),
  (.getfield 59, 2, 3, 7, 7, 0, [], sg0),
  (.getfield 216, 5, 4, 2, 0, 1, [], sg0),
  (.aload_n 0, 8, 5, 0, 0, 0, [], sg0),
  (.getfield 59, 9, 6, 7, 7, 0, [], sg0),
  (.getfield 219, 12, 7, 2, 1, 1, [], sg0),
  (.iconst 0, 15, 8, 0, 0, 0, [], sg0),
  (.iload_n 2, 16, 9, 0, 0, 0, [], sg0),
  (.invokevirtual 225, 17, 10, 7, 0, 0, [], sgX7_sayableNext),
  (.istore 4, 20, 11, 0, 0, 0, [], sg0),
  (.aload_n 0, 22, 12, 0, 0, 0, [], sg0),
  (.aload_n 0, 23, 13, 0, 0, 0, [], sg0),
  (.getfield 59, 24, 14, 7, 7, 0, [], sg0),
  (.getfield 216, 27, 15, 2, 0, 1, [], sg0),
  (.aload_n 0, 30, 16, 0, 0, 0, [], sg0),
  (.getfield 59, 31, 17, 7, 7, 0, [], sg0),
  (.getfield 219, 34, 18, 2, 1, 1, [], sg0),
  (.iconst 1, 37, 19, 0, 0, 1, [], sg0),
  (.iload_n 2, 38, 20, 0, 0, 0, [], sg0),
  (.invokevirtual 225, 39, 21, 7, 0, 0, [], sgX7_sayableNext),
  (.istore 5, 42, 22, 0, 0, 0, [], sg0),
  (.iload 4, 44, 23, 0, 0, 0, [], sg0),
  (.iload_n 1, 46, 24, 0, 0, 0, [], sg0),
  (.invokestatic 118, 47, 25, 0, 0, 0, [], sgX7_bit),
  (.iconst 1, 50, 26, 0, 0, 1, [], sg0),
  (.if_icmp .ne 7, 51, 27, 29, 0, 0, [], sg0),
  (.iconst 1, 54, 28, 0, 0, 1, [], sg0),
  (.goto 4, 55, 29, 30, 0, 0, [], sg0),
  (.iconst 0, 58, 30, 0, 0, 0, [], sg0),
  (.istore 6, 59, 31, 0, 0, 0, [], sg0),
  (.iload 5, 61, 32, 0, 0, 0, [], sg0),
  (.iload_n 1, 63, 33, 0, 0, 0, [], sg0),
  (.invokestatic 118, 64, 34, 0, 0, 0, [], sgX7_bit),
  (.iconst 1, 67, 35, 0, 0, 1, [], sg0),
  (.if_icmp .ne 7, 68, 36, 38, 0, 0, [], sg0),
  (.iconst 1, 71, 37, 0, 0, 1, [], sg0),
  (.goto 4, 72, 38, 39, 0, 0, [], sg0),
  (.iconst 0, 75, 39, 0, 0, 0, [], sg0),
  (.istore 7, 76, 40, 0, 0, 0, [], sg0),
  (.iload 6, 78, 41, 0, 0, 0, [], sg0),
  (.ifCond .eq 15, 80, 42, 48, 0, 0, [], sg0),
  (.iload 7, 83, 43, 0, 0, 0, [], sg0),
  (.ifCond .eq 7, 85, 44, 46, 0, 0, [], sg0),
  (.iload_n 3, 88, 45, 0, 0, 0, [], sg0),
  (.ifCond .eq 6, 89, 46, 48, 0, 0, [], sg0),
  (.iload 4, 92, 47, 0, 0, 0, [], sg0),
  (.ireturn, 94, 48, 0, 0, 0, [], sg0),
  (.iload 7, 95, 49, 0, 0, 0, [], sg0),
  (.ifCond .eq 8, 97, 50, 52, 0, 0, [], sg0),
  (.iload 5, 100, 51, 0, 0, 0, [], sg0),
  (.goto 4, 102, 52, 53, 0, 0, [], sg0),
  (.iconst (-1), 105, 53, 0, 0, (-1), [], sg0),
  (.ireturn, 106, 54, 0, 0, 0, [], sg0),
  (.nop, 107, 55, 0, 0, 0, [], sg0)]
set_option maxRecDepth 100000 in
theorem okX7_answered : Chk sgX7_answered kX7_answered := ⟨by decide +kernel, And.intro sgVX7_sayableNext (And.intro sgVX7_sayableNext (And.intro sgSX7_bit (And.intro sgSX7_bit trivial))), tb_l2 [(1, 197), (1, 197), (3, 155), (1, 197), (1, 197), (3, 155), (2, 208), (2, 208)] (by decide +kernel) (by decide +kernel), nw_l2 [(1, 174), (1, 176), (1, 174), (1, 176)] (by decide +kernel) (by decide +kernel), by decide +kernel⟩
set_option maxRecDepth 100000 in
def kX7_lotBehind : List Row := [(.lload_n 0, 0, 1, 0, 0, 0, [], sg0),
  (.ldc2_w 330, 1, 2, 0, 0, 48271, [], sg0),
  (.lmul, 4, 3, 0, 0, 0, [], sg0),
  (.ldc2_w 332, 5, 4, 0, 0, 2147483647, [], sg0),
  (.lrem, 8, 5, 0, 0, 0, [], sg0),
  (.lreturn, 9, 6, 0, 0, 0, [], sg0),
  (.nop, 10, 7, 0, 0, 0, [], sg0)]
set_option maxRecDepth 100000 in
theorem okX7_lotBehind : Chk sgX7_lotBehind kX7_lotBehind := ⟨by decide +kernel, trivial, tb_l2 [(4, 10), (4, 11)] (by decide +kernel) (by decide +kernel), nw_l2 [] (by decide +kernel) (by decide +kernel), by decide +kernel⟩
set_option maxRecDepth 100000 in
def kX7_settles : List Row := [(.lconst 0, 0, 1, 0, 0, 0, [], sg0),
  (.lstore_n 3, 1, 2, 0, 0, 0, [], sg0),
  (.iconst 0, 2, 3, 0, 0, 0, [], sg0),
  (.istore 5, 3, 4, 0, 0, 0, [], sg0),
  (.iload 5, 5, 5, 0, 0, 0, [], sg0),
  (.bipush 32, 7, 6, 0, 0, 32, [], sg0),
  (.if_icmp .ge 46, 9, 7, 33, 0, 0, [], sg0),
  (.iload_n 2, 12, 8, 0, 0, 0, [], sg0),
  (.iload 5, 13, 9, 0, 0, 0, [], sg0),
  (.invokestatic 118, 15, 10, 0, 0, 0, [], sgX7_bit),
  (.iconst 1, 18, 11, 0, 0, 1, [], sg0),
  (.if_icmp .ne 30, 19, 12, 31, 0, 0, [], sg0),
  (.lconst 1, 22, 13, 0, 0, 1, [], sg0),
  (.aload_n 0, 23, 14, 0, 0, 0, [], sg0),
  (.iload_n 1, 24, 15, 0, 0, 0, [], sg0),
  (.iload 5, 25, 16, 0, 0, 0, [], sg0),
  (.invokevirtual 334, 27, 17, 7, 0, 0, [], sgX7_markOf),
  (.lshl, 30, 18, 0, 0, 0, [], sg0),
  (.lstore 6, 31, 19, 0, 0, 0, [], sg0),
  (.lload_n 3, 33, 20, 0, 0, 0, [], sg0),
  (.lload 6, 34, 21, 0, 0, 0, [], sg0),
  (.land, 36, 22, 0, 0, 0, [], sg0),
  (.lconst 0, 37, 23, 0, 0, 0, [], sg0),
  (.lcmp, 38, 24, 0, 0, 0, [], sg0),
  (.ifCond .eq 5, 39, 25, 27, 0, 0, [], sg0),
  (.iconst 0, 42, 26, 0, 0, 0, [], sg0),
  (.ireturn, 43, 27, 0, 0, 0, [], sg0),
  (.lload_n 3, 44, 28, 0, 0, 0, [], sg0),
  (.lload 6, 45, 29, 0, 0, 0, [], sg0),
  (.lor, 47, 30, 0, 0, 0, [], sg0),
  (.lstore_n 3, 48, 31, 0, 0, 0, [], sg0),
  (.iinc 5 1, 49, 32, 0, 0, 1, [], sg0),
  (.goto (-47), 52, 33, 4, 0, 0, [], sg0),
  (.iconst 1, 55, 34, 0, 0, 1, [], sg0),
  (.ireturn, 56, 35, 0, 0, 0, [], sg0),
  (.nop, 57, 36, 0, 0, 0, [], sg0)]
set_option maxRecDepth 100000 in
theorem okX7_settles : Chk sgX7_settles kX7_settles := ⟨by decide +kernel, And.intro sgSX7_bit (And.intro sgVX7_markOf trivial), tb_l2 [(2, 208), (3, 196)] (by decide +kernel) (by decide +kernel), nw_l2 [] (by decide +kernel) (by decide +kernel), by decide +kernel⟩
set_option maxRecDepth 100000 in
def kX7_markOf : List Row := [(.iconst 0, 0, 1, 0, 0, 0, [], sg0),
  (.istore_n 3, 1, 2, 0, 0, 0, [], sg0),
  (.iconst 0, 2, 3, 0, 0, 0, [], sg0),
  (.istore 4, 3, 4, 0, 0, 0, [], sg0),
  (.iload 4, 5, 5, 0, 0, 0, [], sg0),
  (.aload_n 0, 7, 6, 0, 0, 0, [], sg0),
  (.getfield 35, 8, 7, 7, 3, 0, [], sg0),
  (.getfield 74, 11, 8, 5, 3, 1, [], sg0),
  (.if_icmp .ge 40, 14, 9, 29, 0, 0, [], sg0),
  (.iload_n 1, 17, 10, 0, 0, 0, [], sg0),
  (.iload 4, 18, 11, 0, 0, 0, [], sg0),
  (.invokestatic 118, 20, 12, 0, 0, 0, [], sgX7_bit),
  (.iconst 1, 23, 13, 0, 0, 1, [], sg0),
  (.if_icmp .ne 24, 24, 14, 27, 0, 0, [], sg0),
  (.aload_n 0, 27, 15, 0, 0, 0, [], sg0),
  (.iload 4, 28, 16, 0, 0, 0, [], sg0),
  (.invokevirtual 232, 30, 17, 7, 0, 0, [], sgX7_onceOf),
  (.iload_n 2, 33, 18, 0, 0, 0, [], sg0),
  (.invokestatic 118, 34, 19, 0, 0, 0, [], sgX7_bit),
  (.iconst 1, 37, 20, 0, 0, 1, [], sg0),
  (.if_icmp .ne 10, 38, 21, 27, 0, 0, [], sg0),
  (.iload_n 3, 41, 22, 0, 0, 0, [], sg0),
  (.iconst 1, 42, 23, 0, 0, 1, [], sg0),
  (.iload 4, 43, 24, 0, 0, 0, [], sg0),
  (.ishl, 45, 25, 0, 0, 0, [], sg0),
  (.ior, 46, 26, 0, 0, 0, [], sg0),
  (.istore_n 3, 47, 27, 0, 0, 0, [], sg0),
  (.iinc 4 1, 48, 28, 0, 0, 1, [], sg0),
  (.goto (-46), 51, 29, 4, 0, 0, [], sg0),
  (.iload_n 3, 54, 30, 0, 0, 0, [], sg0),
  (.ireturn, 55, 31, 0, 0, 0, [], sg0),
  (.nop, 56, 32, 0, 0, 0, [], sg0)]
set_option maxRecDepth 100000 in
theorem okX7_markOf : Chk sgX7_markOf kX7_markOf := ⟨by decide +kernel, And.intro sgSX7_bit (And.intro sgVX7_onceOf (And.intro sgSX7_bit trivial)), tb_l2 [(1, 193), (2, 208), (3, 47), (2, 208)] (by decide +kernel) (by decide +kernel), nw_l2 [(1, 105)] (by decide +kernel) (by decide +kernel), by decide +kernel⟩
set_option maxRecDepth 100000 in
def kX7_rowFits : List Row := [(.aload_n 0, 0, 1, 0, 0, 0, [], sg0),
  (.getfield 52, 1, 2, 7, 6, 0, [], sg0),
  (.iload_n 1, 4, 3, 0, 0, 0, [], sg0),
  (.iconst 3, 5, 4, 0, 0, 3, [], sg0),
  (.iload_n 2, 6, 5, 0, 0, 0, [], sg0),
  (.imul, 7, 6, 0, 0, 0, [], sg0),
  (.invokevirtual 283, 8, 7, 3, 0, 1, [], sgX3_read),
  (.istore 4, 11, 8, 0, 0, 0, [], sg0),
  (.aload_n 0, 13, 9, 0, 0, 0, [], sg0),
  (.getfield 52, 14, 10, 7, 6, 0, [], sg0),
  (.iload_n 1, 17, 11, 0, 0, 0, [], sg0),
  (.iconst 3, 18, 12, 0, 0, 3, [], sg0),
  (.iload_n 2, 19, 13, 0, 0, 0, [], sg0),
  (.imul, 20, 14, 0, 0, 0, [], sg0),
  (.iconst 1, 21, 15, 0, 0, 1, [], sg0),
  (.iadd, 22, 16, 0, 0, 0, [], sg0),
  (.invokevirtual 283, 23, 17, 3, 0, 1, [], sgX3_read),
  (.istore 5, 26, 18, 0, 0, 0, [], sg0),
  (.aload_n 0, 28, 19, 0, 0, 0, [], sg0),
  (.getfield 52, 29, 20, 7, 6, 0, [], sg0),
  (.iload_n 1, 32, 21, 0, 0, 0, [], sg0),
  (.iconst 3, 33, 22, 0, 0, 3, [], sg0),
  (.iload_n 2, 34, 23, 0, 0, 0, [], sg0),
  (.imul, 35, 24, 0, 0, 0, [], sg0),
  (.iconst 2, 36, 25, 0, 0, 2, [], sg0),
  (.iadd, 37, 26, 0, 0, 0, [], sg0),
  (.invokevirtual 283, 38, 27, 3, 0, 1, [], sgX3_read),
  (.istore 6, 41, 28, 0, 0, 0, [], sg0),
  (.aload_n 0, 43, 29, 0, 0, 0, [], sg0),
  (.iload 4, 44, 30, 0, 0, 0, [], sg0),
  (.invokevirtual 137, 46, 31, 7, 0, 0, [], sgX7_isSpeaker),
  (.ifCond .eq 21, 49, 32, 40, 0, 0, [], sg0),
  (.aload_n 0, 52, 33, 0, 0, 0, [], sg0),
  (.iload 5, 53, 34, 0, 0, 0, [], sg0),
  (.invokevirtual 100, 55, 35, 7, 0, 0, [], sgX7_isText),
  (.ifCond .eq 12, 58, 36, 40, 0, 0, [], sg0),
  (.iload 6, 61, 37, 0, 0, 0, [], sg0),
  (.iconst 2, 63, 38, 0, 0, 2, [], sg0),
  (.invokestatic 106, 64, 39, 0, 0, 0, [], sgX7_isBelow),
  (.ifCond .ne 5, 67, 40, 42, 0, 0, [], sg0),
  (.iconst 0, 70, 41, 0, 0, 0, [], sg0),
  (.ireturn, 71, 42, 0, 0, 0, [], sg0),
  (.aload_n 0, 72, 43, 0, 0, 0, [], sg0),
  (.iload 4, 73, 44, 0, 0, 0, [], sg0),
  (.iload 5, 75, 45, 0, 0, 0, [], sg0),
  (.iload 6, 77, 46, 0, 0, 0, [], sg0),
  (.iload_n 2, 79, 47, 0, 0, 0, [], sg0),
  (.invokevirtual 225, 80, 48, 7, 0, 0, [], sgX7_sayableNext),
  (.iload_n 3, 83, 49, 0, 0, 0, [], sg0),
  (.invokestatic 118, 84, 50, 0, 0, 0, [], sgX7_bit),
  (.iconst 1, 87, 51, 0, 0, 1, [], sg0),
  (.if_icmp .ne 7, 88, 52, 54, 0, 0, [], sg0),
  (.iconst 1, 91, 53, 0, 0, 1, [], sg0),
  (.goto 4, 92, 54, 55, 0, 0, [], sg0),
  (.iconst 0, 95, 55, 0, 0, 0, [], sg0),
  (.ireturn, 96, 56, 0, 0, 0, [], sg0),
  (.nop, 97, 57, 0, 0, 0, [], sg0)]
set_option maxRecDepth 100000 in
theorem okX7_rowFits : Chk sgX7_rowFits kX7_rowFits := ⟨by decide +kernel, And.intro sgVX3_read (And.intro sgVX3_read (And.intro sgVX3_read (And.intro sgVX7_isSpeaker (And.intro sgVX7_isText (And.intro sgSX7_isBelow (And.intro sgVX7_sayableNext (And.intro sgSX7_bit trivial))))))), tb_l2 [(1, 196), (1, 196), (1, 196), (3, 1), (2, 185), (2, 189), (3, 155), (2, 208)] (by decide +kernel) (by decide +kernel), nw_l2 [(3, 222), (3, 222), (3, 222)] (by decide +kernel) (by decide +kernel), by decide +kernel⟩
set_option maxRecDepth 100000 in
def kX7_sayingTaken : List Row := [(.iload_n 1, 0, 1, 0, 0, 0, [], sg0),
  (.aload_n 0, 1, 2, 0, 0, 0, [], sg0),
  (.getfield 42, 2, 3, 7, 4, 0, [], sg0),
  (.getfield 71, 5, 4, 4, 4, 1, [], sg0),
  (.if_icmp .lt 6, 8, 5, 7, 0, 0, [], sg0),
  (.bipush (-11), 11, 6, 0, 0, (-11), [], sg0),
  (.ireturn, 13, 7, 0, 0, 0, [], sg0),
  (.iload_n 2, 14, 8, 0, 0, 0, [], sg0),
  (.bipush 6, 15, 9, 0, 0, 6, [], sg0),
  (.if_icmp .ne 15, 17, 10, 16, 0, 0, [], sg0),
  (.aload_n 0, 20, 11, 0, 0, 0, [], sg0),
  (.getfield 42, 21, 12, 7, 4, 0, [], sg0),
  (.iload_n 1, 24, 13, 0, 0, 0, [], sg0),
  (.iconst 2, 25, 14, 0, 0, 2, [], sg0),
  (.invokevirtual 153, 26, 15, 4, 0, 1, [], sgX4_sayingPart),
  (.goto 5, 29, 16, 17, 0, 0, [], sg0),
  (.bipush (-13), 32, 17, 0, 0, (-13), [], sg0),
  (.ireturn, 34, 18, 0, 0, 0, [], sg0),
  (.nop, 35, 19, 0, 0, 0, [], sg0)]
set_option maxRecDepth 100000 in
theorem okX7_sayingTaken : Chk sgX7_sayingTaken kX7_sayingTaken := ⟨by decide +kernel, And.intro sgVX4_sayingPart trivial, tb_l2 [(1, 194), (1, 194)] (by decide +kernel) (by decide +kernel), nw_l2 [(1, 128), (3, 26)] (by decide +kernel) (by decide +kernel), by decide +kernel⟩
set_option maxRecDepth 100000 in
def kX7_speakerTaken : List Row := [(.iload_n 1, 0, 1, 0, 0, 0, [], sg0),
  (.aload_n 0, 1, 2, 0, 0, 0, [], sg0),
  (.getfield 42, 2, 3, 7, 4, 0, [], sg0),
  (.getfield 67, 5, 4, 4, 3, 1, [], sg0),
  (.if_icmp .lt 6, 8, 5, 7, 0, 0, [], sg0),
  (.bipush (-11), 11, 6, 0, 0, (-11), [], sg0),
  (.ireturn, 13, 7, 0, 0, 0, [], sg0),
  (.aload_n 0, 14, 8, 0, 0, 0, [], sg0),
  (.getfield 42, 15, 9, 7, 4, 0, [], sg0),
  (.getfield 140, 18, 10, 4, 0, 1, [], sg0),
  (.iload_n 1, 21, 11, 0, 0, 0, [], sg0),
  (.invokestatic 144, 22, 12, 0, 0, 0, [], sgX7_at),
  (.iload_n 2, 25, 13, 0, 0, 0, [], sg0),
  (.invokestatic 337, 26, 14, 0, 0, 0, [], sgX7_isOneOf),
  (.ifCond .eq 7, 29, 15, 17, 0, 0, [], sg0),
  (.iload_n 1, 32, 16, 0, 0, 0, [], sg0),
  (.goto 5, 33, 17, 18, 0, 0, [], sg0),
  (.bipush (-13), 36, 18, 0, 0, (-13), [], sg0),
  (.ireturn, 38, 19, 0, 0, 0, [], sg0),
  (.nop, 39, 20, 0, 0, 0, [], sg0)]
set_option maxRecDepth 100000 in
theorem okX7_speakerTaken : Chk sgX7_speakerTaken kX7_speakerTaken := ⟨by decide +kernel, And.intro sgSX7_at (And.intro sgSX7_isOneOf trivial), tb_l2 [(1, 194), (1, 194), (3, 5), (4, 78)] (by decide +kernel) (by decide +kernel), nw_l2 [(1, 126), (1, 122)] (by decide +kernel) (by decide +kernel), by decide +kernel⟩
set_option maxRecDepth 100000 in
def kX7_isOneOf : List Row := [(.iload_n 0, 0, 1, 0, 0, 0, [], sg0),
  (.iload_n 1, 1, 2, 0, 0, 0, [], sg0),
  (.if_icmp .eq 7, 2, 3, 5, 0, 0, [], sg0),
  (.iload_n 1, 5, 4, 0, 0, 0, [], sg0),
  (.ifCond .ne 5, 6, 5, 7, 0, 0, [], sg0),
  (.iconst 1, 9, 6, 0, 0, 1, [], sg0),
  (.ireturn, 10, 7, 0, 0, 0, [], sg0),
  (.iload_n 0, 11, 8, 0, 0, 0, [], sg0),
  (.iconst 3, 12, 9, 0, 0, 3, [], sg0),
  (.if_icmp .ne 8, 13, 10, 13, 0, 0, [], sg0),
  (.iload_n 1, 16, 11, 0, 0, 0, [], sg0),
  (.iconst 1, 17, 12, 0, 0, 1, [], sg0),
  (.if_icmp .eq 13, 18, 13, 19, 0, 0, [], sg0),
  (.iload_n 0, 21, 14, 0, 0, 0, [], sg0),
  (.iconst 5, 22, 15, 0, 0, 5, [], sg0),
  (.if_icmp .ne 12, 23, 16, 21, 0, 0, [], sg0),
  (.iload_n 1, 26, 17, 0, 0, 0, [], sg0),
  (.iconst 2, 27, 18, 0, 0, 2, [], sg0),
  (.if_icmp .ne 7, 28, 19, 21, 0, 0, [], sg0),
  (.iconst 1, 31, 20, 0, 0, 1, [], sg0),
  (.goto 4, 32, 21, 22, 0, 0, [], sg0),
  (.iconst 0, 35, 22, 0, 0, 0, [], sg0),
  (.ireturn, 36, 23, 0, 0, 0, [], sg0),
  (.nop, 37, 24, 0, 0, 0, [], sg0)]
set_option maxRecDepth 100000 in
theorem okX7_isOneOf : Chk sgX7_isOneOf kX7_isOneOf := ⟨by decide +kernel, trivial, tb_l2 [] (by decide +kernel) (by decide +kernel), nw_l2 [] (by decide +kernel) (by decide +kernel), by decide +kernel⟩
set_option maxRecDepth 100000 in
def kJ6_bitCount_0f7a4 : List Row := [(.iload_n 0, 0, 1, 0, 0, 0, [], sg0),
  (.iload_n 0, 1, 2, 0, 0, 0, [], sg0),
  (.iconst 1, 2, 3, 0, 0, 1, [], sg0),
  (.iushr, 3, 4, 0, 0, 0, [], sg0),
  (.ldc_w 265, 4, 5, 0, 0, 1431655765, [], sg0),
  (.iand, 7, 6, 0, 0, 0, [], sg0),
  (.isub, 8, 7, 0, 0, 0, [], sg0),
  (.istore_n 0, 9, 8, 0, 0, 0, [], sg0),
  (.iload_n 0, 10, 9, 0, 0, 0, [], sg0),
  (.ldc_w 266, 11, 10, 0, 0, 858993459, [], sg0),
  (.iand, 14, 11, 0, 0, 0, [], sg0),
  (.iload_n 0, 15, 12, 0, 0, 0, [], sg0),
  (.iconst 2, 16, 13, 0, 0, 2, [], sg0),
  (.iushr, 17, 14, 0, 0, 0, [], sg0),
  (.ldc_w 266, 18, 15, 0, 0, 858993459, [], sg0),
  (.iand, 21, 16, 0, 0, 0, [], sg0),
  (.iadd, 22, 17, 0, 0, 0, [], sg0),
  (.istore_n 0, 23, 18, 0, 0, 0, [], sg0),
  (.iload_n 0, 24, 19, 0, 0, 0, [], sg0),
  (.iload_n 0, 25, 20, 0, 0, 0, [], sg0),
  (.iconst 4, 26, 21, 0, 0, 4, [], sg0),
  (.iushr, 27, 22, 0, 0, 0, [], sg0),
  (.iadd, 28, 23, 0, 0, 0, [], sg0),
  (.ldc_w 267, 29, 24, 0, 0, 252645135, [], sg0),
  (.iand, 32, 25, 0, 0, 0, [], sg0),
  (.istore_n 0, 33, 26, 0, 0, 0, [], sg0),
  (.iload_n 0, 34, 27, 0, 0, 0, [], sg0),
  (.iload_n 0, 35, 28, 0, 0, 0, [], sg0),
  (.bipush 8, 36, 29, 0, 0, 8, [], sg0),
  (.iushr, 38, 30, 0, 0, 0, [], sg0),
  (.iadd, 39, 31, 0, 0, 0, [], sg0),
  (.istore_n 0, 40, 32, 0, 0, 0, [], sg0),
  (.iload_n 0, 41, 33, 0, 0, 0, [], sg0),
  (.iload_n 0, 42, 34, 0, 0, 0, [], sg0),
  (.bipush 16, 43, 35, 0, 0, 16, [], sg0),
  (.iushr, 45, 36, 0, 0, 0, [], sg0),
  (.iadd, 46, 37, 0, 0, 0, [], sg0),
  (.istore_n 0, 47, 38, 0, 0, 0, [], sg0),
  (.iload_n 0, 48, 39, 0, 0, 0, [], sg0),
  (.bipush 63, 49, 40, 0, 0, 63, [], sg0),
  (.iand, 51, 41, 0, 0, 0, [], sg0),
  (.ireturn, 52, 42, 0, 0, 0, [], sg0),
  (.nop, 53, 43, 0, 0, 0, [], sg0)]
set_option maxRecDepth 100000 in
theorem okJ6_bitCount_0f7a4 : Chk sgJ6_bitCount_0f7a4 kJ6_bitCount_0f7a4 := ⟨by decide +kernel, trivial, tb_l2 [(3, 80), (3, 81), (3, 81), (3, 82)] (by decide +kernel) (by decide +kernel), nw_l2 [] (by decide +kernel) (by decide +kernel), by decide +kernel⟩
end
section
set_option maxRecDepth 100000 in
def kX8_init_0 : List Row := [(.aload_n 0, 0, 1, 0, 0, 0, [], sg0),
  (.invokespecial 1, 1, 2, 0, 9, 0, [], sg0),
  (.aload_n 0, 4, 3, 0, 0, 0, [], sg0),
  (.iconst 5, 5, 4, 0, 0, 5, [], sg0),
  (.newarray .int, 6, 5, 0, 0, 0, [], sg0),
  (.putfield 7, 8, 6, 8, 1, 0, [], sg0),
  (.aload_n 0, 11, 7, 0, 0, 0, [], sg0),
  (.iconst 5, 12, 8, 0, 0, 5, [], sg0),
  (.newarray .int, 13, 9, 0, 0, 0, [], sg0),
  (.putfield 13, 15, 10, 8, 2, 0, [], sg0),
  (.aload_n 0, 18, 11, 0, 0, 0, [], sg0),
  (.bipush 36, 19, 12, 0, 0, 36, [], sg0),
  (.newarray .int, 21, 13, 0, 0, 0, [], sg0),
  (.putfield 16, 23, 14, 8, 4, 0, [], sg0),
  (.aload_n 0, 26, 15, 0, 0, 0, [], sg0),
  (.sipush 160, 27, 16, 0, 0, 160, [], sg0),
  (.newarray .int, 30, 17, 0, 0, 0, [], sg0),
  (.putfield 19, 32, 18, 8, 5, 0, [], sg0),
  (.aload_n 0, 35, 19, 0, 0, 0, [], sg0),
  (.sipush 1200, 36, 20, 0, 0, 1200, [], sg0),
  (.newarray .int, 39, 21, 0, 0, 0, [], sg0),
  (.putfield 22, 41, 22, 8, 7, 0, [], sg0),
  (.aload_n 0, 44, 23, 0, 0, 0, [], sg0),
  (.bipush 24, 45, 24, 0, 0, 24, [], sg0),
  (.newarray .int, 47, 25, 0, 0, 0, [], sg0),
  (.putfield 25, 49, 26, 8, 8, 0, [], sg0),
  (.aload_n 0, 52, 27, 0, 0, 0, [], sg0),
  (.bipush 10, 53, 28, 0, 0, 10, [], sg0),
  (.newarray .int, 55, 29, 0, 0, 0, [], sg0),
  (.putfield 28, 57, 30, 8, 15, 0, [], sg0),
  (.aload_n 0, 60, 31, 0, 0, 0, [], sg0),
  (.bipush 36, 61, 32, 0, 0, 36, [], sg0),
  (.newarray .int, 63, 33, 0, 0, 0, [], sg0),
  (.putfield 31, 65, 34, 8, 16, 0, [], sg0),
  (.aload_n 0, 68, 35, 0, 0, 0, [], sg0),
  (.iconst 4, 69, 36, 0, 0, 4, [], sg0),
  (.newarray .int, 70, 37, 0, 0, 0, [], sg0),
  (.dup, 72, 38, 0, 0, 0, [], sg0),
  (.iconst 0, 73, 39, 0, 0, 0, [], sg0),
  (.iconst (-1), 74, 40, 0, 0, (-1), [], sg0),
  (.iastore, 75, 41, 0, 0, 0, [], sg0),
  (.dup, 76, 42, 0, 0, 0, [], sg0),
  (.iconst 1, 77, 43, 0, 0, 1, [], sg0),
  (.iconst (-1), 78, 44, 0, 0, (-1), [], sg0),
  (.iastore, 79, 45, 0, 0, 0, [], sg0),
  (.dup, 80, 46, 0, 0, 0, [], sg0),
  (.iconst 2, 81, 47, 0, 0, 2, [], sg0),
  (.iconst (-1), 82, 48, 0, 0, (-1), [], sg0),
  (.iastore, 83, 49, 0, 0, 0, [], sg0),
  (.dup, 84, 50, 0, 0, 0, [], sg0),
  (.iconst 3, 85, 51, 0, 0, 3, [], sg0),
  (.iconst (-1), 86, 52, 0, 0, (-1), [], sg0),
  (.iastore, 87, 53, 0, 0, 0, [], sg0),
  (.putfield 34, 88, 54, 8, 17, 0, [], sg0),
  (.aload_n 0, 91, 55, 0, 0, 0, [], sg0),
  (.iconst 4, 92, 56, 0, 0, 4, [], sg0),
  (.newarray .int, 93, 57, 0, 0, 0, [], sg0),
  (.putfield 37, 95, 58, 8, 18, 0, [], sg0),
  (.aload_n 0, 98, 59, 0, 0, 0, [], sg0),
  (.sipush 160, 99, 60, 0, 0, 160, [], sg0),
  (.newarray .int, 102, 61, 0, 0, 0, [], sg0),
  (.putfield 40, 104, 62, 8, 19, 0, [], sg0),
  (.aload_n 0, 107, 63, 0, 0, 0, [], sg0),
  (.bipush 28, 108, 64, 0, 0, 28, [], sg0),
  (.newarray .int, 110, 65, 0, 0, 0, [], sg0),
  (.dup, 112, 66, 0, 0, 0, [], sg0),
  (.iconst 0, 113, 67, 0, 0, 0, [], sg0),
  (.bipush 111, 114, 68, 0, 0, 111, [], sg0),
  (.iastore, 116, 69, 0, 0, 0, [], sg0),
  (.dup, 117, 70, 0, 0, 0, [], sg0),
  (.iconst 1, 118, 71, 0, 0, 1, [], sg0),
  (.bipush 110, 119, 72, 0, 0, 110, [], sg0),
  (.iastore, 121, 73, 0, 0, 0, [], sg0),
  (.dup, 122, 74, 0, 0, 0, [], sg0),
  (.iconst 2, 123, 75, 0, 0, 2, [], sg0),
  (.bipush 99, 124, 76, 0, 0, 99, [], sg0),
  (.iastore, 126, 77, 0, 0, 0, [], sg0),
  (.dup, 127, 78, 0, 0, 0, [], sg0),
  (.iconst 3, 128, 79, 0, 0, 3, [], sg0),
  (.bipush 101, 129, 80, 0, 0, 101, [], sg0),
  (.iastore, 131, 81, 0, 0, 0, [], sg0),
  (.dup, 132, 82, 0, 0, 0, [], sg0),
  (.iconst 4, 133, 83, 0, 0, 4, [], sg0),
  (.bipush 32, 134, 84, 0, 0, 32, [], sg0),
  (.iastore, 136, 85, 0, 0, 0, [], sg0),
  (.dup, 137, 86, 0, 0, 0, [], sg0),
  (.iconst 5, 138, 87, 0, 0, 5, [], sg0),
  (.bipush 49, 139, 88, 0, 0, 49, [], sg0),
  (.iastore, 141, 89, 0, 0, 0, [], sg0),
  (.dup, 142, 90, 0, 0, 0, [], sg0),
  (.bipush 6, 143, 91, 0, 0, 6, [], sg0),
  (.bipush 32, 145, 92, 0, 0, 32, [], sg0),
  (.iastore, 147, 93, 0, 0, 0, [], sg0),
  (.dup, 148, 94, 0, 0, 0, [], sg0),
  (.bipush 7, 149, 95, 0, 0, 7, [], sg0),
  (.bipush 59, 151, 96, 0, 0, 59, [], sg0),
  (.iastore, 153, 97, 0, 0, 0, [], sg0),
  (.dup, 154, 98, 0, 0, 0, [], sg0),
  (.bipush 8, 155, 99, 0, 0, 8, [], sg0),
  (.bipush 32, 157, 100, 0, 0, 32, [], sg0)]
set_option maxRecDepth 100000 in
def kX8_init_1 : List Row := [(.iastore, 159, 101, 0, 0, 0, [], sg0),
  (.dup, 160, 102, 0, 0, 0, [], sg0),
  (.bipush 9, 161, 103, 0, 0, 9, [], sg0),
  (.bipush 116, 163, 104, 0, 0, 116, [], sg0),
  (.iastore, 165, 105, 0, 0, 0, [], sg0),
  (.dup, 166, 106, 0, 0, 0, [], sg0),
  (.bipush 10, 167, 107, 0, 0, 10, [], sg0),
  (.bipush 119, 169, 108, 0, 0, 119, [], sg0),
  (.iastore, 171, 109, 0, 0, 0, [], sg0),
  (.dup, 172, 110, 0, 0, 0, [], sg0),
  (.bipush 11, 173, 111, 0, 0, 11, [], sg0),
  (.bipush 105, 175, 112, 0, 0, 105, [], sg0),
  (.iastore, 177, 113, 0, 0, 0, [], sg0),
  (.dup, 178, 114, 0, 0, 0, [], sg0),
  (.bipush 12, 179, 115, 0, 0, 12, [], sg0),
  (.bipush 99, 181, 116, 0, 0, 99, [], sg0),
  (.iastore, 183, 117, 0, 0, 0, [], sg0),
  (.dup, 184, 118, 0, 0, 0, [], sg0),
  (.bipush 13, 185, 119, 0, 0, 13, [], sg0),
  (.bipush 101, 187, 120, 0, 0, 101, [], sg0),
  (.iastore, 189, 121, 0, 0, 0, [], sg0),
  (.dup, 190, 122, 0, 0, 0, [], sg0),
  (.bipush 14, 191, 123, 0, 0, 14, [], sg0),
  (.bipush 32, 193, 124, 0, 0, 32, [], sg0),
  (.iastore, 195, 125, 0, 0, 0, [], sg0),
  (.dup, 196, 126, 0, 0, 0, [], sg0),
  (.bipush 15, 197, 127, 0, 0, 15, [], sg0),
  (.bipush 48, 199, 128, 0, 0, 48, [], sg0),
  (.iastore, 201, 129, 0, 0, 0, [], sg0),
  (.dup, 202, 130, 0, 0, 0, [], sg0),
  (.bipush 16, 203, 131, 0, 0, 16, [], sg0),
  (.bipush 32, 205, 132, 0, 0, 32, [], sg0),
  (.iastore, 207, 133, 0, 0, 0, [], sg0),
  (.dup, 208, 134, 0, 0, 0, [], sg0),
  (.bipush 17, 209, 135, 0, 0, 17, [], sg0),
  (.bipush 59, 211, 136, 0, 0, 59, [], sg0),
  (.iastore, 213, 137, 0, 0, 0, [], sg0),
  (.dup, 214, 138, 0, 0, 0, [], sg0),
  (.bipush 18, 215, 139, 0, 0, 18, [], sg0),
  (.bipush 32, 217, 140, 0, 0, 32, [], sg0),
  (.iastore, 219, 141, 0, 0, 0, [], sg0),
  (.dup, 220, 142, 0, 0, 0, [], sg0),
  (.bipush 19, 221, 143, 0, 0, 19, [], sg0),
  (.bipush 99, 223, 144, 0, 0, 99, [], sg0),
  (.iastore, 225, 145, 0, 0, 0, [], sg0),
  (.dup, 226, 146, 0, 0, 0, [], sg0),
  (.bipush 20, 227, 147, 0, 0, 20, [], sg0),
  (.bipush 111, 229, 148, 0, 0, 111, [], sg0),
  (.iastore, 231, 149, 0, 0, 0, [], sg0),
  (.dup, 232, 150, 0, 0, 0, [], sg0),
  (.bipush 21, 233, 151, 0, 0, 21, [], sg0),
  (.bipush 115, 235, 152, 0, 0, 115, [], sg0),
  (.iastore, 237, 153, 0, 0, 0, [], sg0),
  (.dup, 238, 154, 0, 0, 0, [], sg0),
  (.bipush 22, 239, 155, 0, 0, 22, [], sg0),
  (.bipush 116, 241, 156, 0, 0, 116, [], sg0),
  (.iastore, 243, 157, 0, 0, 0, [], sg0),
  (.dup, 244, 158, 0, 0, 0, [], sg0),
  (.bipush 23, 245, 159, 0, 0, 23, [], sg0),
  (.bipush 115, 247, 160, 0, 0, 115, [], sg0),
  (.iastore, 249, 161, 0, 0, 0, [], sg0),
  (.dup, 250, 162, 0, 0, 0, [], sg0),
  (.bipush 24, 251, 163, 0, 0, 24, [], sg0),
  (.bipush 32, 253, 164, 0, 0, 32, [], sg0),
  (.iastore, 255, 165, 0, 0, 0, [], sg0),
  (.dup, 256, 166, 0, 0, 0, [], sg0),
  (.bipush 25, 257, 167, 0, 0, 25, [], sg0),
  (.bipush 49, 259, 168, 0, 0, 49, [], sg0),
  (.iastore, 261, 169, 0, 0, 0, [], sg0),
  (.dup, 262, 170, 0, 0, 0, [], sg0),
  (.bipush 26, 263, 171, 0, 0, 26, [], sg0),
  (.bipush 32, 265, 172, 0, 0, 32, [], sg0),
  (.iastore, 267, 173, 0, 0, 0, [], sg0),
  (.dup, 268, 174, 0, 0, 0, [], sg0),
  (.bipush 27, 269, 175, 0, 0, 27, [], sg0),
  (.bipush 59, 271, 176, 0, 0, 59, [], sg0),
  (.iastore, 273, 177, 0, 0, 0, [], sg0),
  (.putfield 43, 274, 178, 8, 20, 0, [], sg0),
  (.aload_n 0, 277, 179, 0, 0, 0, [], sg0),
  (.bipush 96, 278, 180, 0, 0, 96, [], sg0),
  (.newarray .int, 280, 181, 0, 0, 0, [], sg0),
  (.dup, 282, 182, 0, 0, 0, [], sg0),
  (.iconst 0, 283, 183, 0, 0, 0, [], sg0),
  (.bipush 111, 284, 184, 0, 0, 111, [], sg0),
  (.iastore, 286, 185, 0, 0, 0, [], sg0),
  (.dup, 287, 186, 0, 0, 0, [], sg0),
  (.iconst 1, 288, 187, 0, 0, 1, [], sg0),
  (.bipush 110, 289, 188, 0, 0, 110, [], sg0),
  (.iastore, 291, 189, 0, 0, 0, [], sg0),
  (.dup, 292, 190, 0, 0, 0, [], sg0),
  (.iconst 2, 293, 191, 0, 0, 2, [], sg0),
  (.bipush 99, 294, 192, 0, 0, 99, [], sg0),
  (.iastore, 296, 193, 0, 0, 0, [], sg0),
  (.dup, 297, 194, 0, 0, 0, [], sg0),
  (.iconst 3, 298, 195, 0, 0, 3, [], sg0),
  (.bipush 101, 299, 196, 0, 0, 101, [], sg0),
  (.iastore, 301, 197, 0, 0, 0, [], sg0),
  (.dup, 302, 198, 0, 0, 0, [], sg0),
  (.iconst 4, 303, 199, 0, 0, 4, [], sg0),
  (.bipush 32, 304, 200, 0, 0, 32, [], sg0)]
set_option maxRecDepth 100000 in
def kX8_init_2 : List Row := [(.iastore, 306, 201, 0, 0, 0, [], sg0),
  (.dup, 307, 202, 0, 0, 0, [], sg0),
  (.iconst 5, 308, 203, 0, 0, 5, [], sg0),
  (.bipush 32, 309, 204, 0, 0, 32, [], sg0),
  (.iastore, 311, 205, 0, 0, 0, [], sg0),
  (.dup, 312, 206, 0, 0, 0, [], sg0),
  (.bipush 6, 313, 207, 0, 0, 6, [], sg0),
  (.bipush 32, 315, 208, 0, 0, 32, [], sg0),
  (.iastore, 317, 209, 0, 0, 0, [], sg0),
  (.dup, 318, 210, 0, 0, 0, [], sg0),
  (.bipush 7, 319, 211, 0, 0, 7, [], sg0),
  (.bipush 32, 321, 212, 0, 0, 32, [], sg0),
  (.iastore, 323, 213, 0, 0, 0, [], sg0),
  (.dup, 324, 214, 0, 0, 0, [], sg0),
  (.bipush 8, 325, 215, 0, 0, 8, [], sg0),
  (.bipush 116, 327, 216, 0, 0, 116, [], sg0),
  (.iastore, 329, 217, 0, 0, 0, [], sg0),
  (.dup, 330, 218, 0, 0, 0, [], sg0),
  (.bipush 9, 331, 219, 0, 0, 9, [], sg0),
  (.bipush 119, 333, 220, 0, 0, 119, [], sg0),
  (.iastore, 335, 221, 0, 0, 0, [], sg0),
  (.dup, 336, 222, 0, 0, 0, [], sg0),
  (.bipush 10, 337, 223, 0, 0, 10, [], sg0),
  (.bipush 105, 339, 224, 0, 0, 105, [], sg0),
  (.iastore, 341, 225, 0, 0, 0, [], sg0),
  (.dup, 342, 226, 0, 0, 0, [], sg0),
  (.bipush 11, 343, 227, 0, 0, 11, [], sg0),
  (.bipush 99, 345, 228, 0, 0, 99, [], sg0),
  (.iastore, 347, 229, 0, 0, 0, [], sg0),
  (.dup, 348, 230, 0, 0, 0, [], sg0),
  (.bipush 12, 349, 231, 0, 0, 12, [], sg0),
  (.bipush 101, 351, 232, 0, 0, 101, [], sg0),
  (.iastore, 353, 233, 0, 0, 0, [], sg0),
  (.dup, 354, 234, 0, 0, 0, [], sg0),
  (.bipush 13, 355, 235, 0, 0, 13, [], sg0),
  (.bipush 32, 357, 236, 0, 0, 32, [], sg0),
  (.iastore, 359, 237, 0, 0, 0, [], sg0),
  (.dup, 360, 238, 0, 0, 0, [], sg0),
  (.bipush 14, 361, 239, 0, 0, 14, [], sg0),
  (.bipush 32, 363, 240, 0, 0, 32, [], sg0),
  (.iastore, 365, 241, 0, 0, 0, [], sg0),
  (.dup, 366, 242, 0, 0, 0, [], sg0),
  (.bipush 15, 367, 243, 0, 0, 15, [], sg0),
  (.bipush 32, 369, 244, 0, 0, 32, [], sg0),
  (.iastore, 371, 245, 0, 0, 0, [], sg0),
  (.dup, 372, 246, 0, 0, 0, [], sg0),
  (.bipush 16, 373, 247, 0, 0, 16, [], sg0),
  (.bipush 99, 375, 248, 0, 0, 99, [], sg0),
  (.iastore, 377, 249, 0, 0, 0, [], sg0),
  (.dup, 378, 250, 0, 0, 0, [], sg0),
  (.bipush 17, 379, 251, 0, 0, 17, [], sg0),
  (.bipush 111, 381, 252, 0, 0, 111, [], sg0),
  (.iastore, 383, 253, 0, 0, 0, [], sg0),
  (.dup, 384, 254, 0, 0, 0, [], sg0),
  (.bipush 18, 385, 255, 0, 0, 18, [], sg0),
  (.bipush 115, 387, 256, 0, 0, 115, [], sg0),
  (.iastore, 389, 257, 0, 0, 0, [], sg0),
  (.dup, 390, 258, 0, 0, 0, [], sg0),
  (.bipush 19, 391, 259, 0, 0, 19, [], sg0),
  (.bipush 116, 393, 260, 0, 0, 116, [], sg0),
  (.iastore, 395, 261, 0, 0, 0, [], sg0),
  (.dup, 396, 262, 0, 0, 0, [], sg0),
  (.bipush 20, 397, 263, 0, 0, 20, [], sg0),
  (.bipush 115, 399, 264, 0, 0, 115, [], sg0),
  (.iastore, 401, 265, 0, 0, 0, [], sg0),
  (.dup, 402, 266, 0, 0, 0, [], sg0),
  (.bipush 21, 403, 267, 0, 0, 21, [], sg0),
  (.bipush 32, 405, 268, 0, 0, 32, [], sg0),
  (.iastore, 407, 269, 0, 0, 0, [], sg0),
  (.dup, 408, 270, 0, 0, 0, [], sg0),
  (.bipush 22, 409, 271, 0, 0, 22, [], sg0),
  (.bipush 32, 411, 272, 0, 0, 32, [], sg0),
  (.iastore, 413, 273, 0, 0, 0, [], sg0),
  (.dup, 414, 274, 0, 0, 0, [], sg0),
  (.bipush 23, 415, 275, 0, 0, 23, [], sg0),
  (.bipush 32, 417, 276, 0, 0, 32, [], sg0),
  (.iastore, 419, 277, 0, 0, 0, [], sg0),
  (.dup, 420, 278, 0, 0, 0, [], sg0),
  (.bipush 24, 421, 279, 0, 0, 24, [], sg0),
  (.bipush 97, 423, 280, 0, 0, 97, [], sg0),
  (.iastore, 425, 281, 0, 0, 0, [], sg0),
  (.dup, 426, 282, 0, 0, 0, [], sg0),
  (.bipush 25, 427, 283, 0, 0, 25, [], sg0),
  (.bipush 32, 429, 284, 0, 0, 32, [], sg0),
  (.iastore, 431, 285, 0, 0, 0, [], sg0),
  (.dup, 432, 286, 0, 0, 0, [], sg0),
  (.bipush 26, 433, 287, 0, 0, 26, [], sg0),
  (.bipush 32, 435, 288, 0, 0, 32, [], sg0),
  (.iastore, 437, 289, 0, 0, 0, [], sg0),
  (.dup, 438, 290, 0, 0, 0, [], sg0),
  (.bipush 27, 439, 291, 0, 0, 27, [], sg0),
  (.bipush 32, 441, 292, 0, 0, 32, [], sg0),
  (.iastore, 443, 293, 0, 0, 0, [], sg0),
  (.dup, 444, 294, 0, 0, 0, [], sg0),
  (.bipush 28, 445, 295, 0, 0, 28, [], sg0),
  (.bipush 32, 447, 296, 0, 0, 32, [], sg0),
  (.iastore, 449, 297, 0, 0, 0, [], sg0),
  (.dup, 450, 298, 0, 0, 0, [], sg0),
  (.bipush 29, 451, 299, 0, 0, 29, [], sg0),
  (.bipush 32, 453, 300, 0, 0, 32, [], sg0)]
set_option maxRecDepth 100000 in
def kX8_init_3 : List Row := [(.iastore, 455, 301, 0, 0, 0, [], sg0),
  (.dup, 456, 302, 0, 0, 0, [], sg0),
  (.bipush 30, 457, 303, 0, 0, 30, [], sg0),
  (.bipush 32, 459, 304, 0, 0, 32, [], sg0),
  (.iastore, 461, 305, 0, 0, 0, [], sg0),
  (.dup, 462, 306, 0, 0, 0, [], sg0),
  (.bipush 31, 463, 307, 0, 0, 31, [], sg0),
  (.bipush 32, 465, 308, 0, 0, 32, [], sg0),
  (.iastore, 467, 309, 0, 0, 0, [], sg0),
  (.dup, 468, 310, 0, 0, 0, [], sg0),
  (.bipush 32, 469, 311, 0, 0, 32, [], sg0),
  (.bipush 98, 471, 312, 0, 0, 98, [], sg0),
  (.iastore, 473, 313, 0, 0, 0, [], sg0),
  (.dup, 474, 314, 0, 0, 0, [], sg0),
  (.bipush 33, 475, 315, 0, 0, 33, [], sg0),
  (.bipush 32, 477, 316, 0, 0, 32, [], sg0),
  (.iastore, 479, 317, 0, 0, 0, [], sg0),
  (.dup, 480, 318, 0, 0, 0, [], sg0),
  (.bipush 34, 481, 319, 0, 0, 34, [], sg0),
  (.bipush 32, 483, 320, 0, 0, 32, [], sg0),
  (.iastore, 485, 321, 0, 0, 0, [], sg0),
  (.dup, 486, 322, 0, 0, 0, [], sg0),
  (.bipush 35, 487, 323, 0, 0, 35, [], sg0),
  (.bipush 32, 489, 324, 0, 0, 32, [], sg0),
  (.iastore, 491, 325, 0, 0, 0, [], sg0),
  (.dup, 492, 326, 0, 0, 0, [], sg0),
  (.bipush 36, 493, 327, 0, 0, 36, [], sg0),
  (.bipush 32, 495, 328, 0, 0, 32, [], sg0),
  (.iastore, 497, 329, 0, 0, 0, [], sg0),
  (.dup, 498, 330, 0, 0, 0, [], sg0),
  (.bipush 37, 499, 331, 0, 0, 37, [], sg0),
  (.bipush 32, 501, 332, 0, 0, 32, [], sg0),
  (.iastore, 503, 333, 0, 0, 0, [], sg0),
  (.dup, 504, 334, 0, 0, 0, [], sg0),
  (.bipush 38, 505, 335, 0, 0, 38, [], sg0),
  (.bipush 32, 507, 336, 0, 0, 32, [], sg0),
  (.iastore, 509, 337, 0, 0, 0, [], sg0),
  (.dup, 510, 338, 0, 0, 0, [], sg0),
  (.bipush 39, 511, 339, 0, 0, 39, [], sg0),
  (.bipush 32, 513, 340, 0, 0, 32, [], sg0),
  (.iastore, 515, 341, 0, 0, 0, [], sg0),
  (.dup, 516, 342, 0, 0, 0, [], sg0),
  (.bipush 40, 517, 343, 0, 0, 40, [], sg0),
  (.bipush 99, 519, 344, 0, 0, 99, [], sg0),
  (.iastore, 521, 345, 0, 0, 0, [], sg0),
  (.dup, 522, 346, 0, 0, 0, [], sg0),
  (.bipush 41, 523, 347, 0, 0, 41, [], sg0),
  (.bipush 32, 525, 348, 0, 0, 32, [], sg0),
  (.iastore, 527, 349, 0, 0, 0, [], sg0),
  (.dup, 528, 350, 0, 0, 0, [], sg0),
  (.bipush 42, 529, 351, 0, 0, 42, [], sg0),
  (.bipush 32, 531, 352, 0, 0, 32, [], sg0),
  (.iastore, 533, 353, 0, 0, 0, [], sg0),
  (.dup, 534, 354, 0, 0, 0, [], sg0),
  (.bipush 43, 535, 355, 0, 0, 43, [], sg0),
  (.bipush 32, 537, 356, 0, 0, 32, [], sg0),
  (.iastore, 539, 357, 0, 0, 0, [], sg0),
  (.dup, 540, 358, 0, 0, 0, [], sg0),
  (.bipush 44, 541, 359, 0, 0, 44, [], sg0),
  (.bipush 32, 543, 360, 0, 0, 32, [], sg0),
  (.iastore, 545, 361, 0, 0, 0, [], sg0),
  (.dup, 546, 362, 0, 0, 0, [], sg0),
  (.bipush 45, 547, 363, 0, 0, 45, [], sg0),
  (.bipush 32, 549, 364, 0, 0, 32, [], sg0),
  (.iastore, 551, 365, 0, 0, 0, [], sg0),
  (.dup, 552, 366, 0, 0, 0, [], sg0),
  (.bipush 46, 553, 367, 0, 0, 46, [], sg0),
  (.bipush 32, 555, 368, 0, 0, 32, [], sg0),
  (.iastore, 557, 369, 0, 0, 0, [], sg0),
  (.dup, 558, 370, 0, 0, 0, [], sg0),
  (.bipush 47, 559, 371, 0, 0, 47, [], sg0),
  (.bipush 32, 561, 372, 0, 0, 32, [], sg0),
  (.iastore, 563, 373, 0, 0, 0, [], sg0),
  (.dup, 564, 374, 0, 0, 0, [], sg0),
  (.bipush 48, 565, 375, 0, 0, 48, [], sg0),
  (.bipush 100, 567, 376, 0, 0, 100, [], sg0),
  (.iastore, 569, 377, 0, 0, 0, [], sg0),
  (.dup, 570, 378, 0, 0, 0, [], sg0),
  (.bipush 49, 571, 379, 0, 0, 49, [], sg0),
  (.bipush 32, 573, 380, 0, 0, 32, [], sg0),
  (.iastore, 575, 381, 0, 0, 0, [], sg0),
  (.dup, 576, 382, 0, 0, 0, [], sg0),
  (.bipush 50, 577, 383, 0, 0, 50, [], sg0),
  (.bipush 32, 579, 384, 0, 0, 32, [], sg0),
  (.iastore, 581, 385, 0, 0, 0, [], sg0),
  (.dup, 582, 386, 0, 0, 0, [], sg0),
  (.bipush 51, 583, 387, 0, 0, 51, [], sg0),
  (.bipush 32, 585, 388, 0, 0, 32, [], sg0),
  (.iastore, 587, 389, 0, 0, 0, [], sg0),
  (.dup, 588, 390, 0, 0, 0, [], sg0),
  (.bipush 52, 589, 391, 0, 0, 52, [], sg0),
  (.bipush 32, 591, 392, 0, 0, 32, [], sg0),
  (.iastore, 593, 393, 0, 0, 0, [], sg0),
  (.dup, 594, 394, 0, 0, 0, [], sg0),
  (.bipush 53, 595, 395, 0, 0, 53, [], sg0),
  (.bipush 32, 597, 396, 0, 0, 32, [], sg0),
  (.iastore, 599, 397, 0, 0, 0, [], sg0),
  (.dup, 600, 398, 0, 0, 0, [], sg0),
  (.bipush 54, 601, 399, 0, 0, 54, [], sg0),
  (.bipush 32, 603, 400, 0, 0, 32, [], sg0)]
set_option maxRecDepth 100000 in
def kX8_init_4 : List Row := [(.iastore, 605, 401, 0, 0, 0, [], sg0),
  (.dup, 606, 402, 0, 0, 0, [], sg0),
  (.bipush 55, 607, 403, 0, 0, 55, [], sg0),
  (.bipush 32, 609, 404, 0, 0, 32, [], sg0),
  (.iastore, 611, 405, 0, 0, 0, [], sg0),
  (.dup, 612, 406, 0, 0, 0, [], sg0),
  (.bipush 56, 613, 407, 0, 0, 56, [], sg0),
  (.bipush 101, 615, 408, 0, 0, 101, [], sg0),
  (.iastore, 617, 409, 0, 0, 0, [], sg0),
  (.dup, 618, 410, 0, 0, 0, [], sg0),
  (.bipush 57, 619, 411, 0, 0, 57, [], sg0),
  (.bipush 32, 621, 412, 0, 0, 32, [], sg0),
  (.iastore, 623, 413, 0, 0, 0, [], sg0),
  (.dup, 624, 414, 0, 0, 0, [], sg0),
  (.bipush 58, 625, 415, 0, 0, 58, [], sg0),
  (.bipush 32, 627, 416, 0, 0, 32, [], sg0),
  (.iastore, 629, 417, 0, 0, 0, [], sg0),
  (.dup, 630, 418, 0, 0, 0, [], sg0),
  (.bipush 59, 631, 419, 0, 0, 59, [], sg0),
  (.bipush 32, 633, 420, 0, 0, 32, [], sg0),
  (.iastore, 635, 421, 0, 0, 0, [], sg0),
  (.dup, 636, 422, 0, 0, 0, [], sg0),
  (.bipush 60, 637, 423, 0, 0, 60, [], sg0),
  (.bipush 32, 639, 424, 0, 0, 32, [], sg0),
  (.iastore, 641, 425, 0, 0, 0, [], sg0),
  (.dup, 642, 426, 0, 0, 0, [], sg0),
  (.bipush 61, 643, 427, 0, 0, 61, [], sg0),
  (.bipush 32, 645, 428, 0, 0, 32, [], sg0),
  (.iastore, 647, 429, 0, 0, 0, [], sg0),
  (.dup, 648, 430, 0, 0, 0, [], sg0),
  (.bipush 62, 649, 431, 0, 0, 62, [], sg0),
  (.bipush 32, 651, 432, 0, 0, 32, [], sg0),
  (.iastore, 653, 433, 0, 0, 0, [], sg0),
  (.dup, 654, 434, 0, 0, 0, [], sg0),
  (.bipush 63, 655, 435, 0, 0, 63, [], sg0),
  (.bipush 32, 657, 436, 0, 0, 32, [], sg0),
  (.iastore, 659, 437, 0, 0, 0, [], sg0),
  (.dup, 660, 438, 0, 0, 0, [], sg0),
  (.bipush 64, 661, 439, 0, 0, 64, [], sg0),
  (.bipush 119, 663, 440, 0, 0, 119, [], sg0),
  (.iastore, 665, 441, 0, 0, 0, [], sg0),
  (.dup, 666, 442, 0, 0, 0, [], sg0),
  (.bipush 65, 667, 443, 0, 0, 65, [], sg0),
  (.bipush 104, 669, 444, 0, 0, 104, [], sg0),
  (.iastore, 671, 445, 0, 0, 0, [], sg0),
  (.dup, 672, 446, 0, 0, 0, [], sg0),
  (.bipush 66, 673, 447, 0, 0, 66, [], sg0),
  (.bipush 111, 675, 448, 0, 0, 111, [], sg0),
  (.iastore, 677, 449, 0, 0, 0, [], sg0),
  (.dup, 678, 450, 0, 0, 0, [], sg0),
  (.bipush 67, 679, 451, 0, 0, 67, [], sg0),
  (.bipush 32, 681, 452, 0, 0, 32, [], sg0),
  (.iastore, 683, 453, 0, 0, 0, [], sg0),
  (.dup, 684, 454, 0, 0, 0, [], sg0),
  (.bipush 68, 685, 455, 0, 0, 68, [], sg0),
  (.bipush 32, 687, 456, 0, 0, 32, [], sg0),
  (.iastore, 689, 457, 0, 0, 0, [], sg0),
  (.dup, 690, 458, 0, 0, 0, [], sg0),
  (.bipush 69, 691, 459, 0, 0, 69, [], sg0),
  (.bipush 32, 693, 460, 0, 0, 32, [], sg0),
  (.iastore, 695, 461, 0, 0, 0, [], sg0),
  (.dup, 696, 462, 0, 0, 0, [], sg0),
  (.bipush 70, 697, 463, 0, 0, 70, [], sg0),
  (.bipush 32, 699, 464, 0, 0, 32, [], sg0),
  (.iastore, 701, 465, 0, 0, 0, [], sg0),
  (.dup, 702, 466, 0, 0, 0, [], sg0),
  (.bipush 71, 703, 467, 0, 0, 71, [], sg0),
  (.bipush 32, 705, 468, 0, 0, 32, [], sg0),
  (.iastore, 707, 469, 0, 0, 0, [], sg0),
  (.dup, 708, 470, 0, 0, 0, [], sg0),
  (.bipush 72, 709, 471, 0, 0, 72, [], sg0),
  (.bipush 111, 711, 472, 0, 0, 111, [], sg0),
  (.iastore, 713, 473, 0, 0, 0, [], sg0),
  (.dup, 714, 474, 0, 0, 0, [], sg0),
  (.bipush 73, 715, 475, 0, 0, 73, [], sg0),
  (.bipush 114, 717, 476, 0, 0, 114, [], sg0),
  (.iastore, 719, 477, 0, 0, 0, [], sg0),
  (.dup, 720, 478, 0, 0, 0, [], sg0),
  (.bipush 74, 721, 479, 0, 0, 74, [], sg0),
  (.bipush 32, 723, 480, 0, 0, 32, [], sg0),
  (.iastore, 725, 481, 0, 0, 0, [], sg0),
  (.dup, 726, 482, 0, 0, 0, [], sg0),
  (.bipush 75, 727, 483, 0, 0, 75, [], sg0),
  (.bipush 32, 729, 484, 0, 0, 32, [], sg0),
  (.iastore, 731, 485, 0, 0, 0, [], sg0),
  (.dup, 732, 486, 0, 0, 0, [], sg0),
  (.bipush 76, 733, 487, 0, 0, 76, [], sg0),
  (.bipush 32, 735, 488, 0, 0, 32, [], sg0),
  (.iastore, 737, 489, 0, 0, 0, [], sg0),
  (.dup, 738, 490, 0, 0, 0, [], sg0),
  (.bipush 77, 739, 491, 0, 0, 77, [], sg0),
  (.bipush 32, 741, 492, 0, 0, 32, [], sg0),
  (.iastore, 743, 493, 0, 0, 0, [], sg0),
  (.dup, 744, 494, 0, 0, 0, [], sg0),
  (.bipush 78, 745, 495, 0, 0, 78, [], sg0),
  (.bipush 32, 747, 496, 0, 0, 32, [], sg0),
  (.iastore, 749, 497, 0, 0, 0, [], sg0),
  (.dup, 750, 498, 0, 0, 0, [], sg0),
  (.bipush 79, 751, 499, 0, 0, 79, [], sg0),
  (.bipush 32, 753, 500, 0, 0, 32, [], sg0)]
set_option maxRecDepth 100000 in
def kX8_init_5 : List Row := [(.iastore, 755, 501, 0, 0, 0, [], sg0),
  (.dup, 756, 502, 0, 0, 0, [], sg0),
  (.bipush 80, 757, 503, 0, 0, 80, [], sg0),
  (.bipush 97, 759, 504, 0, 0, 97, [], sg0),
  (.iastore, 761, 505, 0, 0, 0, [], sg0),
  (.dup, 762, 506, 0, 0, 0, [], sg0),
  (.bipush 81, 763, 507, 0, 0, 81, [], sg0),
  (.bipush 110, 765, 508, 0, 0, 110, [], sg0),
  (.iastore, 767, 509, 0, 0, 0, [], sg0),
  (.dup, 768, 510, 0, 0, 0, [], sg0),
  (.bipush 82, 769, 511, 0, 0, 82, [], sg0),
  (.bipush 100, 771, 512, 0, 0, 100, [], sg0),
  (.iastore, 773, 513, 0, 0, 0, [], sg0),
  (.dup, 774, 514, 0, 0, 0, [], sg0),
  (.bipush 83, 775, 515, 0, 0, 83, [], sg0),
  (.bipush 32, 777, 516, 0, 0, 32, [], sg0),
  (.iastore, 779, 517, 0, 0, 0, [], sg0),
  (.dup, 780, 518, 0, 0, 0, [], sg0),
  (.bipush 84, 781, 519, 0, 0, 84, [], sg0),
  (.bipush 32, 783, 520, 0, 0, 32, [], sg0),
  (.iastore, 785, 521, 0, 0, 0, [], sg0),
  (.dup, 786, 522, 0, 0, 0, [], sg0),
  (.bipush 85, 787, 523, 0, 0, 85, [], sg0),
  (.bipush 32, 789, 524, 0, 0, 32, [], sg0),
  (.iastore, 791, 525, 0, 0, 0, [], sg0),
  (.dup, 792, 526, 0, 0, 0, [], sg0),
  (.bipush 86, 793, 527, 0, 0, 86, [], sg0),
  (.bipush 32, 795, 528, 0, 0, 32, [], sg0),
  (.iastore, 797, 529, 0, 0, 0, [], sg0),
  (.dup, 798, 530, 0, 0, 0, [], sg0),
  (.bipush 87, 799, 531, 0, 0, 87, [], sg0),
  (.bipush 32, 801, 532, 0, 0, 32, [], sg0),
  (.iastore, 803, 533, 0, 0, 0, [], sg0),
  (.dup, 804, 534, 0, 0, 0, [], sg0),
  (.bipush 88, 805, 535, 0, 0, 88, [], sg0),
  (.bipush 110, 807, 536, 0, 0, 110, [], sg0),
  (.iastore, 809, 537, 0, 0, 0, [], sg0),
  (.dup, 810, 538, 0, 0, 0, [], sg0),
  (.bipush 89, 811, 539, 0, 0, 89, [], sg0),
  (.bipush 111, 813, 540, 0, 0, 111, [], sg0),
  (.iastore, 815, 541, 0, 0, 0, [], sg0),
  (.dup, 816, 542, 0, 0, 0, [], sg0),
  (.bipush 90, 817, 543, 0, 0, 90, [], sg0),
  (.bipush 116, 819, 544, 0, 0, 116, [], sg0),
  (.iastore, 821, 545, 0, 0, 0, [], sg0),
  (.dup, 822, 546, 0, 0, 0, [], sg0),
  (.bipush 91, 823, 547, 0, 0, 91, [], sg0),
  (.bipush 32, 825, 548, 0, 0, 32, [], sg0),
  (.iastore, 827, 549, 0, 0, 0, [], sg0),
  (.dup, 828, 550, 0, 0, 0, [], sg0),
  (.bipush 92, 829, 551, 0, 0, 92, [], sg0),
  (.bipush 32, 831, 552, 0, 0, 32, [], sg0),
  (.iastore, 833, 553, 0, 0, 0, [], sg0),
  (.dup, 834, 554, 0, 0, 0, [], sg0),
  (.bipush 93, 835, 555, 0, 0, 93, [], sg0),
  (.bipush 32, 837, 556, 0, 0, 32, [], sg0),
  (.iastore, 839, 557, 0, 0, 0, [], sg0),
  (.dup, 840, 558, 0, 0, 0, [], sg0),
  (.bipush 94, 841, 559, 0, 0, 94, [], sg0),
  (.bipush 32, 843, 560, 0, 0, 32, [], sg0),
  (.iastore, 845, 561, 0, 0, 0, [], sg0),
  (.dup, 846, 562, 0, 0, 0, [], sg0),
  (.bipush 95, 847, 563, 0, 0, 95, [], sg0),
  (.bipush 32, 849, 564, 0, 0, 32, [], sg0),
  (.iastore, 851, 565, 0, 0, 0, [], sg0),
  (.putfield 46, 852, 566, 8, 25, 0, [], sg0),
  (.aload_n 0, 855, 567, 0, 0, 0, [], sg0),
  (.sipush 200, 856, 568, 0, 0, 200, [], sg0),
  (.newarray .int, 859, 569, 0, 0, 0, [], sg0),
  (.putfield 49, 861, 570, 8, 26, 0, [], sg0),
  (.aload_n 0, 864, 571, 0, 0, 0, [], sg0),
  (.sipush 200, 865, 572, 0, 0, 200, [], sg0),
  (.newarray .int, 868, 573, 0, 0, 0, [], sg0),
  (.putfield 52, 870, 574, 8, 30, 0, [], sg0),
  (.aload_n 0, 873, 575, 0, 0, 0, [], sg0),
  (.bipush 6, 874, 576, 0, 0, 6, [], sg0),
  (.newarray .int, 876, 577, 0, 0, 0, [], sg0),
  (.putfield 55, 878, 578, 8, 31, 0, [], sg0),
  (.aload_n 0, 881, 579, 0, 0, 0, [], sg0),
  (.bipush 60, 882, 580, 0, 0, 60, [], sg0),
  (.newarray .long, 884, 581, 0, 0, 0, [], sg0),
  (.putfield 58, 886, 582, 8, 32, 0, [], sg0),
  (.aload_n 0, 889, 583, 0, 0, 0, [], sg0),
  (.bipush 12, 890, 584, 0, 0, 12, [], sg0),
  (.newarray .long, 892, 585, 0, 0, 0, [], sg0),
  (.putfield 62, 894, 586, 8, 33, 0, [], sg0),
  (.iconst 0, 897, 587, 0, 0, 0, [], sg0),
  (.istore_n 1, 898, 588, 0, 0, 0, [], sg0),
  (.iload_n 1, 899, 589, 0, 0, 0, [], sg0),
  (.bipush 28, 900, 590, 0, 0, 28, [], sg0),
  (.if_icmp .ge 21, 902, 591, 601, 0, 0, [], sg0),
  (.aload_n 0, 905, 592, 0, 0, 0, [], sg0),
  (.getfield 19, 906, 593, 8, 5, 0, [], sg0),
  (.iload_n 1, 909, 594, 0, 0, 0, [], sg0),
  (.aload_n 0, 910, 595, 0, 0, 0, [], sg0),
  (.getfield 43, 911, 596, 8, 20, 0, [], sg0),
  (.iload_n 1, 914, 597, 0, 0, 0, [], sg0),
  (.iaload, 915, 598, 0, 0, 0, [], sg0),
  (.iastore, 916, 599, 0, 0, 0, [], sg0),
  (.iinc 1 1, 917, 600, 0, 0, 1, [], sg0)]
set_option maxRecDepth 100000 in
def kX8_init_6 : List Row := [(.goto (-21), 920, 601, 588, 0, 0, [], sg0),
  (.aload_n 0, 923, 602, 0, 0, 0, [], sg0),
  (.bipush 28, 924, 603, 0, 0, 28, [], sg0),
  (.putfield 65, 926, 604, 8, 6, 0, [], sg0),
  (.aload_n 0, 929, 605, 0, 0, 0, [], sg0),
  (.invokevirtual 69, 930, 606, 8, 0, 0, [], sgX8_text),
  (.pop, 933, 607, 0, 0, 0, [], sg0),
  (.return_, 934, 608, 0, 0, 0, [], sg0),
  (.nop, 935, 609, 0, 0, 0, [], sg0)]
def kX8_init : List Row := kX8_init_0 ++ (kX8_init_1 ++ (kX8_init_2 ++ (kX8_init_3 ++ (kX8_init_4 ++ (kX8_init_5 ++ kX8_init_6)))))
set_option maxRecDepth 100000 in
theorem rX8_init_0 : linE sgX8_init kX8_init (nxPc (kX8_init_1 ++ (kX8_init_2 ++ (kX8_init_3 ++ (kX8_init_4 ++ (kX8_init_5 ++ kX8_init_6)))))) 0 kX8_init_0 = true := by decide +kernel
set_option maxRecDepth 100000 in
theorem rX8_init_1 : linE sgX8_init kX8_init (nxPc (kX8_init_2 ++ (kX8_init_3 ++ (kX8_init_4 ++ (kX8_init_5 ++ kX8_init_6))))) 100 kX8_init_1 = true := by decide +kernel
set_option maxRecDepth 100000 in
theorem rX8_init_2 : linE sgX8_init kX8_init (nxPc (kX8_init_3 ++ (kX8_init_4 ++ (kX8_init_5 ++ kX8_init_6)))) 200 kX8_init_2 = true := by decide +kernel
set_option maxRecDepth 100000 in
theorem rX8_init_3 : linE sgX8_init kX8_init (nxPc (kX8_init_4 ++ (kX8_init_5 ++ kX8_init_6))) 300 kX8_init_3 = true := by decide +kernel
set_option maxRecDepth 100000 in
theorem rX8_init_4 : linE sgX8_init kX8_init (nxPc (kX8_init_5 ++ kX8_init_6)) 400 kX8_init_4 = true := by decide +kernel
set_option maxRecDepth 100000 in
theorem rX8_init_5 : linE sgX8_init kX8_init (nxPc (kX8_init_6)) 500 kX8_init_5 = true := by decide +kernel
set_option maxRecDepth 100000 in
theorem rX8_init_6 : linB sgX8_init kX8_init 600 kX8_init_6 = true := by decide +kernel
set_option maxRecDepth 100000 in
theorem okX8_init : Chk sgX8_init kX8_init := ⟨(linB_app rX8_init_0 (linB_app rX8_init_1 (linB_app rX8_init_2 (linB_app rX8_init_3 (linB_app rX8_init_4 (linB_app rX8_init_5 (rX8_init_6))))))), And.intro sgVX8_text trivial, tb_l2 [(4, 86), (1, 22), (1, 23), (1, 53), (4, 135), (1, 53), (4, 136), (1, 53), (4, 138), (1, 53), (4, 139), (1, 53), (4, 141), (1, 53), (4, 142), (1, 53), (4, 149), (1, 53), (4, 150), (1, 53), (4, 151), (1, 53), (4, 152), (1, 53), (4, 153), (1, 53), (4, 154), (1, 53), (4, 159), (1, 53), (4, 160), (1, 53), (4, 164), (1, 53), (4, 165), (5, 6), (4, 166), (5, 6), (4, 167), (4, 139), (4, 154), (4, 140), (4, 87)] (by decide +kernel) (by decide +kernel), nw_l2 [] (by decide +kernel) (by decide +kernel), by decide +kernel⟩
set_option maxRecDepth 100000 in
def kX8_in : List Row := [(.iload_n 0, 0, 1, 0, 0, 0, [], sg0),
  (.iload_n 1, 1, 2, 0, 0, 0, [], sg0),
  (.if_icmp .lt 12, 2, 3, 8, 0, 0, [], sg0),
  (.iload_n 0, 5, 4, 0, 0, 0, [], sg0),
  (.iload_n 2, 6, 5, 0, 0, 0, [], sg0),
  (.if_icmp .gt 7, 7, 6, 8, 0, 0, [], sg0),
  (.iconst 1, 10, 7, 0, 0, 1, [], sg0),
  (.goto 4, 11, 8, 9, 0, 0, [], sg0),
  (.iconst 0, 14, 9, 0, 0, 0, [], sg0),
  (.ireturn, 15, 10, 0, 0, 0, [], sg0),
  (.nop, 16, 11, 0, 0, 0, [], sg0)]
set_option maxRecDepth 100000 in
theorem okX8_in : Chk sgX8_in kX8_in := ⟨by decide +kernel, trivial, tb_l2 [] (by decide +kernel) (by decide +kernel), nw_l2 [] (by decide +kernel) (by decide +kernel), by decide +kernel⟩
set_option maxRecDepth 100000 in
def kX8_within : List Row := [(.iload_n 0, 0, 1, 0, 0, 0, [], sg0),
  (.iload_n 1, 1, 2, 0, 0, 0, [], sg0),
  (.if_icmp .ge 7, 2, 3, 5, 0, 0, [], sg0),
  (.iload_n 1, 5, 4, 0, 0, 0, [], sg0),
  (.goto 13, 6, 5, 11, 0, 0, [], sg0),
  (.iload_n 0, 9, 6, 0, 0, 0, [], sg0),
  (.iload_n 2, 10, 7, 0, 0, 0, [], sg0),
  (.if_icmp .le 7, 11, 8, 10, 0, 0, [], sg0),
  (.iload_n 2, 14, 9, 0, 0, 0, [], sg0),
  (.goto 4, 15, 10, 11, 0, 0, [], sg0),
  (.iload_n 0, 18, 11, 0, 0, 0, [], sg0),
  (.ireturn, 19, 12, 0, 0, 0, [], sg0),
  (.nop, 20, 13, 0, 0, 0, [], sg0)]
set_option maxRecDepth 100000 in
theorem okX8_within : Chk sgX8_within kX8_within := ⟨by decide +kernel, trivial, tb_l2 [] (by decide +kernel) (by decide +kernel), nw_l2 [] (by decide +kernel) (by decide +kernel), by decide +kernel⟩
set_option maxRecDepth 100000 in
def kX8_isSpeaker : List Row := [(.iload_n 1, 0, 1, 0, 0, 0, [], sg0),
  (.iconst 0, 1, 2, 0, 0, 0, [], sg0),
  (.aload_n 0, 2, 3, 0, 0, 0, [], sg0),
  (.getfield 73, 3, 4, 8, 0, 0, [], sg0),
  (.iconst 1, 6, 5, 0, 0, 1, [], sg0),
  (.isub, 7, 6, 0, 0, 0, [], sg0),
  (.invokestatic 76, 8, 7, 0, 0, 0, [], sgX8_in),
  (.ireturn, 11, 8, 0, 0, 0, [], sg0),
  (.nop, 12, 9, 0, 0, 0, [], sg0)]
set_option maxRecDepth 100000 in
theorem okX8_isSpeaker : Chk sgX8_isSpeaker kX8_isSpeaker := ⟨by decide +kernel, And.intro sgSX8_in trivial, tb_l2 [(4, 134), (4, 95)] (by decide +kernel) (by decide +kernel), nw_l2 [] (by decide +kernel) (by decide +kernel), by decide +kernel⟩
set_option maxRecDepth 100000 in
def kX8_isOfTexts : List Row := [(.iload_n 1, 0, 1, 0, 0, 0, [], sg0),
  (.iconst 0, 1, 2, 0, 0, 0, [], sg0),
  (.aload_n 0, 2, 3, 0, 0, 0, [], sg0),
  (.getfield 80, 3, 4, 8, 9, 0, [], sg0),
  (.iconst 1, 6, 5, 0, 0, 1, [], sg0),
  (.isub, 7, 6, 0, 0, 0, [], sg0),
  (.invokestatic 76, 8, 7, 0, 0, 0, [], sgX8_in),
  (.ireturn, 11, 8, 0, 0, 0, [], sg0),
  (.nop, 12, 9, 0, 0, 0, [], sg0)]
set_option maxRecDepth 100000 in
theorem okX8_isOfTexts : Chk sgX8_isOfTexts kX8_isOfTexts := ⟨by decide +kernel, And.intro sgSX8_in trivial, tb_l2 [(4, 143), (4, 95)] (by decide +kernel) (by decide +kernel), nw_l2 [] (by decide +kernel) (by decide +kernel), by decide +kernel⟩
set_option maxRecDepth 100000 in
def kX8_isWorld : List Row := [(.iload_n 0, 0, 1, 0, 0, 0, [], sg0),
  (.iconst 0, 1, 2, 0, 0, 0, [], sg0),
  (.bipush 31, 2, 3, 0, 0, 31, [], sg0),
  (.invokestatic 76, 4, 4, 0, 0, 0, [], sgX8_in),
  (.ireturn, 7, 5, 0, 0, 0, [], sg0),
  (.nop, 8, 6, 0, 0, 0, [], sg0)]
set_option maxRecDepth 100000 in
theorem okX8_isWorld : Chk sgX8_isWorld kX8_isWorld := ⟨by decide +kernel, And.intro sgSX8_in trivial, tb_l2 [(4, 95)] (by decide +kernel) (by decide +kernel), nw_l2 [] (by decide +kernel) (by decide +kernel), by decide +kernel⟩
set_option maxRecDepth 100000 in
def kX8_has : List Row := [(.lload_n 0, 0, 1, 0, 0, 0, [], sg0),
  (.iload_n 2, 1, 2, 0, 0, 0, [], sg0),
  (.lshr, 2, 3, 0, 0, 0, [], sg0),
  (.lconst 1, 3, 4, 0, 0, 1, [], sg0),
  (.land, 4, 5, 0, 0, 0, [], sg0),
  (.lconst 1, 5, 6, 0, 0, 1, [], sg0),
  (.lcmp, 6, 7, 0, 0, 0, [], sg0),
  (.ifCond .ne 7, 7, 8, 10, 0, 0, [], sg0),
  (.iconst 1, 10, 9, 0, 0, 1, [], sg0),
  (.goto 4, 11, 10, 11, 0, 0, [], sg0),
  (.iconst 0, 14, 11, 0, 0, 0, [], sg0),
  (.ireturn, 15, 12, 0, 0, 0, [], sg0),
  (.nop, 16, 13, 0, 0, 0, [], sg0)]
set_option maxRecDepth 100000 in
theorem okX8_has : Chk sgX8_has kX8_has := ⟨by decide +kernel, trivial, tb_l2 [] (by decide +kernel) (by decide +kernel), nw_l2 [] (by decide +kernel) (by decide +kernel), by decide +kernel⟩
set_option maxRecDepth 100000 in
def kX8_bitsOf : List Row := [(.iconst 0, 0, 1, 0, 0, 0, [], sg0),
  (.istore_n 2, 1, 2, 0, 0, 0, [], sg0),
  (.iconst 0, 2, 3, 0, 0, 0, [], sg0),
  (.istore_n 3, 3, 4, 0, 0, 0, [], sg0),
  (.iload_n 3, 4, 5, 0, 0, 0, [], sg0),
  (.bipush 32, 5, 6, 0, 0, 32, [], sg0),
  (.if_icmp .ge 25, 7, 7, 19, 0, 0, [], sg0),
  (.iload_n 2, 10, 8, 0, 0, 0, [], sg0),
  (.lload_n 0, 11, 9, 0, 0, 0, [], sg0),
  (.iload_n 3, 12, 10, 0, 0, 0, [], sg0),
  (.invokestatic 83, 13, 11, 0, 0, 0, [], sgX8_has),
  (.ifCond .eq 7, 16, 12, 14, 0, 0, [], sg0),
  (.iconst 1, 19, 13, 0, 0, 1, [], sg0),
  (.goto 4, 20, 14, 15, 0, 0, [], sg0),
  (.iconst 0, 23, 15, 0, 0, 0, [], sg0),
  (.iadd, 24, 16, 0, 0, 0, [], sg0),
  (.istore_n 2, 25, 17, 0, 0, 0, [], sg0),
  (.iinc 3 1, 26, 18, 0, 0, 1, [], sg0),
  (.goto (-25), 29, 19, 4, 0, 0, [], sg0),
  (.iload_n 2, 32, 20, 0, 0, 0, [], sg0),
  (.ireturn, 33, 21, 0, 0, 0, [], sg0),
  (.nop, 34, 22, 0, 0, 0, [], sg0)]
set_option maxRecDepth 100000 in
theorem okX8_bitsOf : Chk sgX8_bitsOf kX8_bitsOf := ⟨by decide +kernel, And.intro sgSX8_has trivial, tb_l2 [(5, 133)] (by decide +kernel) (by decide +kernel), nw_l2 [] (by decide +kernel) (by decide +kernel), by decide +kernel⟩
set_option maxRecDepth 100000 in
def kX8_count : List Row := [(.iload_n 1, 0, 1, 0, 0, 0, [], sg0),
  (.tableswitch 60 0 4 #[35, 40, 45, 50, 55], 1, 2, 17, 0, 0, [2, 5, 8, 11, 14], sg0),
  (.aload_n 0, 36, 3, 0, 0, 0, [], sg0),
  (.getfield 73, 37, 4, 8, 0, 0, [], sg0),
  (.ireturn, 40, 5, 0, 0, 0, [], sg0),
  (.aload_n 0, 41, 6, 0, 0, 0, [], sg0),
  (.getfield 87, 42, 7, 8, 3, 0, [], sg0),
  (.ireturn, 45, 8, 0, 0, 0, [], sg0),
  (.aload_n 0, 46, 9, 0, 0, 0, [], sg0),
  (.getfield 80, 47, 10, 8, 9, 0, [], sg0),
  (.ireturn, 50, 11, 0, 0, 0, [], sg0),
  (.aload_n 0, 51, 12, 0, 0, 0, [], sg0),
  (.getfield 90, 52, 13, 8, 10, 0, [], sg0),
  (.ireturn, 55, 14, 0, 0, 0, [], sg0),
  (.aload_n 0, 56, 15, 0, 0, 0, [], sg0),
  (.getfield 65, 57, 16, 8, 6, 0, [], sg0),
  (.ireturn, 60, 17, 0, 0, 0, [], sg0),
  (.bipush (-2), 61, 18, 0, 0, (-2), [], sg0),
  (.ireturn, 63, 19, 0, 0, 0, [], sg0),
  (.nop, 64, 20, 0, 0, 0, [], sg0)]
set_option maxRecDepth 100000 in
theorem okX8_count : Chk sgX8_count kX8_count := ⟨by decide +kernel, trivial, tb_l2 [(4, 134), (4, 137), (4, 143), (4, 144), (4, 140)] (by decide +kernel) (by decide +kernel), nw_l2 [] (by decide +kernel) (by decide +kernel), by decide +kernel⟩
set_option maxRecDepth 100000 in
def kX8_isByte : List Row := [(.iload_n 0, 0, 1, 0, 0, 0, [], sg0),
  (.iconst 0, 1, 2, 0, 0, 0, [], sg0),
  (.sipush 255, 2, 3, 0, 0, 255, [], sg0),
  (.invokestatic 76, 5, 4, 0, 0, 0, [], sgX8_in),
  (.ireturn, 8, 5, 0, 0, 0, [], sg0),
  (.nop, 9, 6, 0, 0, 0, [], sg0)]
set_option maxRecDepth 100000 in
theorem okX8_isByte : Chk sgX8_isByte kX8_isByte := ⟨by decide +kernel, And.intro sgSX8_in trivial, tb_l2 [(4, 95)] (by decide +kernel) (by decide +kernel), nw_l2 [] (by decide +kernel) (by decide +kernel), by decide +kernel⟩
set_option maxRecDepth 100000 in
def kX8_feed : List Row := [(.iload_n 1, 0, 1, 0, 0, 0, [], sg0),
  (.iconst 1, 1, 2, 0, 0, 1, [], sg0),
  (.iconst 5, 2, 3, 0, 0, 5, [], sg0),
  (.invokestatic 76, 3, 4, 0, 0, 0, [], sgX8_in),
  (.ifCond .eq 41, 6, 5, 20, 0, 0, [], sg0),
  (.iload_n 2, 9, 6, 0, 0, 0, [], sg0),
  (.invokestatic 93, 10, 7, 0, 0, 0, [], sgX8_isByte),
  (.ifCond .eq 34, 13, 8, 20, 0, 0, [], sg0),
  (.iload_n 3, 16, 9, 0, 0, 0, [], sg0),
  (.invokestatic 93, 17, 10, 0, 0, 0, [], sgX8_isByte),
  (.ifCond .eq 27, 20, 11, 20, 0, 0, [], sg0),
  (.iload 4, 23, 12, 0, 0, 0, [], sg0),
  (.invokestatic 93, 25, 13, 0, 0, 0, [], sgX8_isByte),
  (.ifCond .eq 19, 28, 14, 20, 0, 0, [], sg0),
  (.iload 5, 31, 15, 0, 0, 0, [], sg0),
  (.invokestatic 93, 33, 16, 0, 0, 0, [], sgX8_isByte),
  (.ifCond .eq 11, 36, 17, 20, 0, 0, [], sg0),
  (.iload 6, 39, 18, 0, 0, 0, [], sg0),
  (.invokestatic 93, 41, 19, 0, 0, 0, [], sgX8_isByte),
  (.ifCond .ne 6, 44, 20, 22, 0, 0, [], sg0),
  (.bipush (-2), 47, 21, 0, 0, (-2), [], sg0),
  (.ireturn, 49, 22, 0, 0, 0, [], sg0),
  (.aload_n 0, 50, 23, 0, 0, 0, [], sg0),
  (.getfield 65, 51, 24, 8, 6, 0, [], sg0),
  (.iload_n 1, 54, 25, 0, 0, 0, [], sg0),
  (.iadd, 55, 26, 0, 0, 0, [], sg0),
  (.sipush 160, 56, 27, 0, 0, 160, [], sg0),
  (.if_icmp .le 6, 59, 28, 30, 0, 0, [], sg0),
  (.bipush (-4), 62, 29, 0, 0, (-4), [], sg0),
  (.ireturn, 64, 30, 0, 0, 0, [], sg0),
  (.iconst 0, 65, 31, 0, 0, 0, [], sg0),
  (.istore 7, 66, 32, 0, 0, 0, [], sg0),
  (.iload 7, 68, 33, 0, 0, 0, [], sg0),
  (.iload_n 1, 70, 34, 0, 0, 0, [], sg0),
  (.if_icmp .ge 71, 71, 35, 68, 0, 0, [], sg0),
  (.aload_n 0, 74, 36, 0, 0, 0, [], sg0),
  (.getfield 19, 75, 37, 8, 5, 0, [], sg0),
  (.aload_n 0, 78, 38, 0, 0, 0, [], sg0),
  (.getfield 65, 79, 39, 8, 6, 0, [], sg0),
  (.iload 7, 82, 40, 0, 0, 0, [], sg0),
  (.ifCond .ne 7, 84, 41, 43, 0, 0, [], sg0),
  (.iload_n 2, 87, 42, 0, 0, 0, [], sg0),
  (.goto 37, 88, 43, 59, 0, 0, [], sg0),
  (.iload 7, 91, 44, 0, 0, 0, [], sg0),
  (.iconst 1, 93, 45, 0, 0, 1, [], sg0),
  (.if_icmp .ne 7, 94, 46, 48, 0, 0, [], sg0),
  (.iload_n 3, 97, 47, 0, 0, 0, [], sg0),
  (.goto 27, 98, 48, 59, 0, 0, [], sg0),
  (.iload 7, 101, 49, 0, 0, 0, [], sg0),
  (.iconst 2, 103, 50, 0, 0, 2, [], sg0),
  (.if_icmp .ne 8, 104, 51, 53, 0, 0, [], sg0),
  (.iload 4, 107, 52, 0, 0, 0, [], sg0),
  (.goto 16, 109, 53, 59, 0, 0, [], sg0),
  (.iload 7, 112, 54, 0, 0, 0, [], sg0),
  (.iconst 3, 114, 55, 0, 0, 3, [], sg0),
  (.if_icmp .ne 8, 115, 56, 58, 0, 0, [], sg0),
  (.iload 5, 118, 57, 0, 0, 0, [], sg0),
  (.goto 5, 120, 58, 59, 0, 0, [], sg0),
  (.iload 6, 123, 59, 0, 0, 0, [], sg0),
  (.iastore, 125, 60, 0, 0, 0, [], sg0),
  (.aload_n 0, 126, 61, 0, 0, 0, [], sg0),
  (.dup, 127, 62, 0, 0, 0, [], sg0),
  (.getfield 65, 128, 63, 8, 6, 0, [], sg0),
  (.iconst 1, 131, 64, 0, 0, 1, [], sg0),
  (.iadd, 132, 65, 0, 0, 0, [], sg0),
  (.putfield 65, 133, 66, 8, 6, 0, [], sg0),
  (.iinc 7 1, 136, 67, 0, 0, 1, [], sg0),
  (.goto (-71), 139, 68, 32, 0, 0, [], sg0),
  (.aload_n 0, 142, 69, 0, 0, 0, [], sg0),
  (.getfield 65, 143, 70, 8, 6, 0, [], sg0),
  (.ireturn, 146, 71, 0, 0, 0, [], sg0),
  (.nop, 147, 72, 0, 0, 0, [], sg0)]
set_option maxRecDepth 100000 in
theorem okX8_feed : Chk sgX8_feed kX8_feed := ⟨by decide +kernel, And.intro sgSX8_in (And.intro sgSX8_isByte (And.intro sgSX8_isByte (And.intro sgSX8_isByte (And.intro sgSX8_isByte (And.intro sgSX8_isByte trivial))))), tb_l2 [(4, 95), (5, 15), (5, 15), (5, 15), (5, 15), (5, 15), (4, 140), (4, 139), (4, 140), (4, 140), (4, 140), (4, 140)] (by decide +kernel) (by decide +kernel), nw_l2 [] (by decide +kernel) (by decide +kernel), by decide +kernel⟩
set_option maxRecDepth 100000 in
def kX8_wordFrom : List Row := [(.iconst 0, 0, 1, 0, 0, 0, [], sg0),
  (.istore_n 3, 1, 2, 0, 0, 0, [], sg0),
  (.iload_n 3, 2, 3, 0, 0, 0, [], sg0),
  (.bipush 12, 3, 4, 0, 0, 12, [], sg0),
  (.if_icmp .ge 96, 5, 5, 55, 0, 0, [], sg0),
  (.iload_n 2, 8, 6, 0, 0, 0, [], sg0),
  (.iload_n 1, 9, 7, 0, 0, 0, [], sg0),
  (.isub, 10, 8, 0, 0, 0, [], sg0),
  (.bipush 8, 11, 9, 0, 0, 8, [], sg0),
  (.if_icmp .gt 7, 13, 10, 12, 0, 0, [], sg0),
  (.iconst 1, 16, 11, 0, 0, 1, [], sg0),
  (.goto 4, 17, 12, 13, 0, 0, [], sg0),
  (.iconst 0, 20, 13, 0, 0, 0, [], sg0),
  (.istore 4, 21, 14, 0, 0, 0, [], sg0),
  (.iconst 0, 23, 15, 0, 0, 0, [], sg0),
  (.istore 5, 24, 16, 0, 0, 0, [], sg0),
  (.iload 5, 26, 17, 0, 0, 0, [], sg0),
  (.bipush 8, 28, 18, 0, 0, 8, [], sg0),
  (.if_icmp .ge 58, 30, 19, 49, 0, 0, [], sg0),
  (.iload 4, 33, 20, 0, 0, 0, [], sg0),
  (.ifCond .eq 53, 35, 21, 49, 0, 0, [], sg0),
  (.aload_n 0, 38, 22, 0, 0, 0, [], sg0),
  (.getfield 46, 39, 23, 8, 25, 0, [], sg0),
  (.bipush 8, 42, 24, 0, 0, 8, [], sg0),
  (.iload_n 3, 44, 25, 0, 0, 0, [], sg0),
  (.imul, 45, 26, 0, 0, 0, [], sg0),
  (.iload 5, 46, 27, 0, 0, 0, [], sg0),
  (.iadd, 48, 28, 0, 0, 0, [], sg0),
  (.iaload, 49, 29, 0, 0, 0, [], sg0),
  (.iload_n 1, 50, 30, 0, 0, 0, [], sg0),
  (.iload 5, 51, 31, 0, 0, 0, [], sg0),
  (.iadd, 53, 32, 0, 0, 0, [], sg0),
  (.iload_n 2, 54, 33, 0, 0, 0, [], sg0),
  (.if_icmp .ge 15, 55, 34, 41, 0, 0, [], sg0),
  (.aload_n 0, 58, 35, 0, 0, 0, [], sg0),
  (.getfield 19, 59, 36, 8, 5, 0, [], sg0),
  (.iload_n 1, 62, 37, 0, 0, 0, [], sg0),
  (.iload 5, 63, 38, 0, 0, 0, [], sg0),
  (.iadd, 65, 39, 0, 0, 0, [], sg0),
  (.iaload, 66, 40, 0, 0, 0, [], sg0),
  (.goto 5, 67, 41, 42, 0, 0, [], sg0),
  (.bipush 32, 70, 42, 0, 0, 32, [], sg0),
  (.if_icmp .ne 7, 72, 43, 45, 0, 0, [], sg0),
  (.iconst 1, 75, 44, 0, 0, 1, [], sg0),
  (.goto 4, 76, 45, 46, 0, 0, [], sg0),
  (.iconst 0, 79, 46, 0, 0, 0, [], sg0),
  (.istore 4, 80, 47, 0, 0, 0, [], sg0),
  (.iinc 5 1, 82, 48, 0, 0, 1, [], sg0),
  (.goto (-59), 85, 49, 16, 0, 0, [], sg0),
  (.iload 4, 88, 50, 0, 0, 0, [], sg0),
  (.ifCond .eq 5, 90, 51, 53, 0, 0, [], sg0),
  (.iload_n 3, 93, 52, 0, 0, 0, [], sg0),
  (.ireturn, 94, 53, 0, 0, 0, [], sg0),
  (.iinc 3 1, 95, 54, 0, 0, 1, [], sg0),
  (.goto (-96), 98, 55, 2, 0, 0, [], sg0),
  (.bipush 12, 101, 56, 0, 0, 12, [], sg0),
  (.ireturn, 103, 57, 0, 0, 0, [], sg0),
  (.nop, 104, 58, 0, 0, 0, [], sg0)]
set_option maxRecDepth 100000 in
theorem okX8_wordFrom : Chk sgX8_wordFrom kX8_wordFrom := ⟨by decide +kernel, trivial, tb_l2 [(4, 159), (4, 139)] (by decide +kernel) (by decide +kernel), nw_l2 [] (by decide +kernel) (by decide +kernel), by decide +kernel⟩
set_option maxRecDepth 100000 in
def kX8_next_0 : List Row := [(.aload_n 0, 0, 1, 0, 0, 0, [], sg0),
  (.getfield 97, 1, 2, 8, 21, 0, [], sg0),
  (.aload_n 0, 4, 3, 0, 0, 0, [], sg0),
  (.getfield 65, 5, 4, 8, 6, 0, [], sg0),
  (.if_icmp .ge 44, 8, 5, 26, 0, 0, [], sg0),
  (.aload_n 0, 11, 6, 0, 0, 0, [], sg0),
  (.getfield 19, 12, 7, 8, 5, 0, [], sg0),
  (.aload_n 0, 15, 8, 0, 0, 0, [], sg0),
  (.getfield 97, 16, 9, 8, 21, 0, [], sg0),
  (.iaload, 19, 10, 0, 0, 0, [], sg0),
  (.bipush 32, 20, 11, 0, 0, 32, [], sg0),
  (.if_icmp .eq 17, 22, 12, 19, 0, 0, [], sg0),
  (.aload_n 0, 25, 13, 0, 0, 0, [], sg0),
  (.getfield 19, 26, 14, 8, 5, 0, [], sg0),
  (.aload_n 0, 29, 15, 0, 0, 0, [], sg0),
  (.getfield 97, 30, 16, 8, 21, 0, [], sg0),
  (.iaload, 33, 17, 0, 0, 0, [], sg0),
  (.bipush 10, 34, 18, 0, 0, 10, [], sg0),
  (.if_icmp .ne 16, 36, 19, 26, 0, 0, [], sg0),
  (.aload_n 0, 39, 20, 0, 0, 0, [], sg0),
  (.dup, 40, 21, 0, 0, 0, [], sg0),
  (.getfield 97, 41, 22, 8, 21, 0, [], sg0),
  (.iconst 1, 44, 23, 0, 0, 1, [], sg0),
  (.iadd, 45, 24, 0, 0, 0, [], sg0),
  (.putfield 97, 46, 25, 8, 21, 0, [], sg0),
  (.goto (-49), 49, 26, 0, 0, 0, [], sg0),
  (.aload_n 0, 52, 27, 0, 0, 0, [], sg0),
  (.aload_n 0, 53, 28, 0, 0, 0, [], sg0),
  (.getfield 97, 54, 29, 8, 21, 0, [], sg0),
  (.putfield 100, 57, 30, 8, 22, 0, [], sg0),
  (.aload_n 0, 60, 31, 0, 0, 0, [], sg0),
  (.iconst 0, 61, 32, 0, 0, 0, [], sg0),
  (.putfield 103, 62, 33, 8, 23, 0, [], sg0),
  (.aload_n 0, 65, 34, 0, 0, 0, [], sg0),
  (.iconst 0, 66, 35, 0, 0, 0, [], sg0),
  (.putfield 106, 67, 36, 8, 24, 0, [], sg0),
  (.aload_n 0, 70, 37, 0, 0, 0, [], sg0),
  (.getfield 97, 71, 38, 8, 21, 0, [], sg0),
  (.aload_n 0, 74, 39, 0, 0, 0, [], sg0),
  (.getfield 65, 75, 40, 8, 6, 0, [], sg0),
  (.if_icmp .ne 4, 78, 41, 42, 0, 0, [], sg0),
  (.return_, 81, 42, 0, 0, 0, [], sg0),
  (.aload_n 0, 82, 43, 0, 0, 0, [], sg0),
  (.getfield 19, 83, 44, 8, 5, 0, [], sg0),
  (.aload_n 0, 86, 45, 0, 0, 0, [], sg0),
  (.getfield 97, 87, 46, 8, 21, 0, [], sg0),
  (.iaload, 90, 47, 0, 0, 0, [], sg0),
  (.istore_n 1, 91, 48, 0, 0, 0, [], sg0),
  (.iload_n 1, 92, 49, 0, 0, 0, [], sg0),
  (.bipush 97, 93, 50, 0, 0, 97, [], sg0),
  (.bipush 122, 95, 51, 0, 0, 122, [], sg0),
  (.invokestatic 76, 97, 52, 0, 0, 0, [], sgX8_in),
  (.ifCond .eq 117, 100, 53, 114, 0, 0, [], sg0),
  (.aload_n 0, 103, 54, 0, 0, 0, [], sg0),
  (.getfield 97, 104, 55, 8, 21, 0, [], sg0),
  (.aload_n 0, 107, 56, 0, 0, 0, [], sg0),
  (.getfield 65, 108, 57, 8, 6, 0, [], sg0),
  (.if_icmp .ge 35, 111, 58, 74, 0, 0, [], sg0),
  (.aload_n 0, 114, 59, 0, 0, 0, [], sg0),
  (.getfield 19, 115, 60, 8, 5, 0, [], sg0),
  (.aload_n 0, 118, 61, 0, 0, 0, [], sg0),
  (.getfield 97, 119, 62, 8, 21, 0, [], sg0),
  (.iaload, 122, 63, 0, 0, 0, [], sg0),
  (.bipush 97, 123, 64, 0, 0, 97, [], sg0),
  (.bipush 122, 125, 65, 0, 0, 122, [], sg0),
  (.invokestatic 76, 127, 66, 0, 0, 0, [], sgX8_in),
  (.ifCond .eq 16, 130, 67, 74, 0, 0, [], sg0),
  (.aload_n 0, 133, 68, 0, 0, 0, [], sg0),
  (.dup, 134, 69, 0, 0, 0, [], sg0),
  (.getfield 97, 135, 70, 8, 21, 0, [], sg0),
  (.iconst 1, 138, 71, 0, 0, 1, [], sg0),
  (.iadd, 139, 72, 0, 0, 0, [], sg0),
  (.putfield 97, 140, 73, 8, 21, 0, [], sg0),
  (.goto (-40), 143, 74, 53, 0, 0, [], sg0),
  (.aload_n 0, 146, 75, 0, 0, 0, [], sg0),
  (.aload_n 0, 147, 76, 0, 0, 0, [], sg0),
  (.getfield 100, 148, 77, 8, 22, 0, [], sg0),
  (.aload_n 0, 151, 78, 0, 0, 0, [], sg0),
  (.getfield 97, 152, 79, 8, 21, 0, [], sg0),
  (.invokevirtual 109, 155, 80, 8, 0, 0, [], sgX8_wordFrom),
  (.istore_n 2, 158, 81, 0, 0, 0, [], sg0),
  (.aload_n 0, 159, 82, 0, 0, 0, [], sg0),
  (.iload_n 2, 160, 83, 0, 0, 0, [], sg0),
  (.iconst 3, 161, 84, 0, 0, 3, [], sg0),
  (.if_icmp .ge 7, 162, 85, 87, 0, 0, [], sg0),
  (.iconst 3, 165, 86, 0, 0, 3, [], sg0),
  (.goto 29, 166, 87, 102, 0, 0, [], sg0),
  (.iload_n 2, 169, 88, 0, 0, 0, [], sg0),
  (.bipush 9, 170, 89, 0, 0, 9, [], sg0),
  (.if_icmp .ge 7, 172, 90, 92, 0, 0, [], sg0),
  (.iconst 2, 175, 91, 0, 0, 2, [], sg0),
  (.goto 19, 176, 92, 102, 0, 0, [], sg0),
  (.iload_n 2, 179, 93, 0, 0, 0, [], sg0),
  (.bipush 12, 180, 94, 0, 0, 12, [], sg0),
  (.if_icmp .ne 7, 182, 95, 97, 0, 0, [], sg0),
  (.iconst (-1), 185, 96, 0, 0, (-1), [], sg0),
  (.goto 9, 186, 97, 102, 0, 0, [], sg0),
  (.iconst 4, 189, 98, 0, 0, 4, [], sg0),
  (.iload_n 2, 190, 99, 0, 0, 0, [], sg0),
  (.iadd, 191, 100, 0, 0, 0, [], sg0)]
set_option maxRecDepth 100000 in
def kX8_next_1 : List Row := [(.bipush 9, 192, 101, 0, 0, 9, [], sg0),
  (.isub, 194, 102, 0, 0, 0, [], sg0),
  (.putfield 103, 195, 103, 8, 23, 0, [], sg0),
  (.aload_n 0, 198, 104, 0, 0, 0, [], sg0),
  (.iload_n 2, 199, 105, 0, 0, 0, [], sg0),
  (.iconst 3, 200, 106, 0, 0, 3, [], sg0),
  (.if_icmp .ge 7, 201, 107, 109, 0, 0, [], sg0),
  (.iload_n 2, 204, 108, 0, 0, 0, [], sg0),
  (.goto 6, 205, 109, 112, 0, 0, [], sg0),
  (.iload_n 2, 208, 110, 0, 0, 0, [], sg0),
  (.iconst 3, 209, 111, 0, 0, 3, [], sg0),
  (.isub, 210, 112, 0, 0, 0, [], sg0),
  (.putfield 106, 211, 113, 8, 24, 0, [], sg0),
  (.goto 189, 214, 114, 212, 0, 0, [], sg0),
  (.iload_n 1, 217, 115, 0, 0, 0, [], sg0),
  (.bipush 48, 218, 116, 0, 0, 48, [], sg0),
  (.bipush 57, 220, 117, 0, 0, 57, [], sg0),
  (.invokestatic 76, 222, 118, 0, 0, 0, [], sgX8_in),
  (.ifCond .eq 101, 225, 119, 171, 0, 0, [], sg0),
  (.iconst 0, 228, 120, 0, 0, 0, [], sg0),
  (.istore_n 2, 229, 121, 0, 0, 0, [], sg0),
  (.aload_n 0, 230, 122, 0, 0, 0, [], sg0),
  (.getfield 97, 231, 123, 8, 21, 0, [], sg0),
  (.aload_n 0, 234, 124, 0, 0, 0, [], sg0),
  (.getfield 65, 235, 125, 8, 6, 0, [], sg0),
  (.if_icmp .ge 71, 238, 126, 162, 0, 0, [], sg0),
  (.aload_n 0, 241, 127, 0, 0, 0, [], sg0),
  (.getfield 19, 242, 128, 8, 5, 0, [], sg0),
  (.aload_n 0, 245, 129, 0, 0, 0, [], sg0),
  (.getfield 97, 246, 130, 8, 21, 0, [], sg0),
  (.iaload, 249, 131, 0, 0, 0, [], sg0),
  (.bipush 48, 250, 132, 0, 0, 48, [], sg0),
  (.bipush 57, 252, 133, 0, 0, 57, [], sg0),
  (.invokestatic 76, 254, 134, 0, 0, 0, [], sgX8_in),
  (.ifCond .eq 52, 257, 135, 162, 0, 0, [], sg0),
  (.aload_n 0, 260, 136, 0, 0, 0, [], sg0),
  (.iload_n 2, 261, 137, 0, 0, 0, [], sg0),
  (.iconst 4, 262, 138, 0, 0, 4, [], sg0),
  (.if_icmp .ge 26, 263, 139, 152, 0, 0, [], sg0),
  (.bipush 10, 266, 140, 0, 0, 10, [], sg0),
  (.aload_n 0, 268, 141, 0, 0, 0, [], sg0),
  (.getfield 106, 269, 142, 8, 24, 0, [], sg0),
  (.imul, 272, 143, 0, 0, 0, [], sg0),
  (.aload_n 0, 273, 144, 0, 0, 0, [], sg0),
  (.getfield 19, 274, 145, 8, 5, 0, [], sg0),
  (.aload_n 0, 277, 146, 0, 0, 0, [], sg0),
  (.getfield 97, 278, 147, 8, 21, 0, [], sg0),
  (.iaload, 281, 148, 0, 0, 0, [], sg0),
  (.iadd, 282, 149, 0, 0, 0, [], sg0),
  (.bipush 48, 283, 150, 0, 0, 48, [], sg0),
  (.isub, 285, 151, 0, 0, 0, [], sg0),
  (.goto 4, 286, 152, 153, 0, 0, [], sg0),
  (.iconst 0, 289, 153, 0, 0, 0, [], sg0),
  (.putfield 106, 290, 154, 8, 24, 0, [], sg0),
  (.iinc 2 1, 293, 155, 0, 0, 1, [], sg0),
  (.aload_n 0, 296, 156, 0, 0, 0, [], sg0),
  (.dup, 297, 157, 0, 0, 0, [], sg0),
  (.getfield 97, 298, 158, 8, 21, 0, [], sg0),
  (.iconst 1, 301, 159, 0, 0, 1, [], sg0),
  (.iadd, 302, 160, 0, 0, 0, [], sg0),
  (.putfield 97, 303, 161, 8, 21, 0, [], sg0),
  (.goto (-76), 306, 162, 121, 0, 0, [], sg0),
  (.aload_n 0, 309, 163, 0, 0, 0, [], sg0),
  (.iload_n 2, 310, 164, 0, 0, 0, [], sg0),
  (.iconst 4, 311, 165, 0, 0, 4, [], sg0),
  (.if_icmp .le 7, 312, 166, 168, 0, 0, [], sg0),
  (.iconst (-1), 315, 167, 0, 0, (-1), [], sg0),
  (.goto 4, 316, 168, 169, 0, 0, [], sg0),
  (.iconst 1, 319, 169, 0, 0, 1, [], sg0),
  (.putfield 103, 320, 170, 8, 23, 0, [], sg0),
  (.goto 80, 323, 171, 212, 0, 0, [], sg0),
  (.iload_n 1, 326, 172, 0, 0, 0, [], sg0),
  (.bipush 40, 327, 173, 0, 0, 40, [], sg0),
  (.if_icmp .eq 45, 329, 174, 195, 0, 0, [], sg0),
  (.iload_n 1, 332, 175, 0, 0, 0, [], sg0),
  (.bipush 41, 333, 176, 0, 0, 41, [], sg0),
  (.if_icmp .eq 39, 335, 177, 195, 0, 0, [], sg0),
  (.iload_n 1, 338, 178, 0, 0, 0, [], sg0),
  (.bipush 59, 339, 179, 0, 0, 59, [], sg0),
  (.if_icmp .eq 33, 341, 180, 195, 0, 0, [], sg0),
  (.iload_n 1, 344, 181, 0, 0, 0, [], sg0),
  (.bipush 43, 345, 182, 0, 0, 43, [], sg0),
  (.if_icmp .eq 27, 347, 183, 195, 0, 0, [], sg0),
  (.iload_n 1, 350, 184, 0, 0, 0, [], sg0),
  (.bipush 45, 351, 185, 0, 0, 45, [], sg0),
  (.if_icmp .eq 21, 353, 186, 195, 0, 0, [], sg0),
  (.iload_n 1, 356, 187, 0, 0, 0, [], sg0),
  (.bipush 42, 357, 188, 0, 0, 42, [], sg0),
  (.if_icmp .eq 15, 359, 189, 195, 0, 0, [], sg0),
  (.iload_n 1, 362, 190, 0, 0, 0, [], sg0),
  (.bipush 60, 363, 191, 0, 0, 60, [], sg0),
  (.if_icmp .eq 9, 365, 192, 195, 0, 0, [], sg0),
  (.iload_n 1, 368, 193, 0, 0, 0, [], sg0),
  (.bipush 61, 369, 194, 0, 0, 61, [], sg0),
  (.if_icmp .ne 7, 371, 195, 197, 0, 0, [], sg0),
  (.iconst 1, 374, 196, 0, 0, 1, [], sg0),
  (.goto 4, 375, 197, 198, 0, 0, [], sg0),
  (.iconst 0, 378, 198, 0, 0, 0, [], sg0),
  (.istore_n 2, 379, 199, 0, 0, 0, [], sg0),
  (.aload_n 0, 380, 200, 0, 0, 0, [], sg0)]
set_option maxRecDepth 100000 in
def kX8_next_2 : List Row := [(.iload_n 2, 381, 201, 0, 0, 0, [], sg0),
  (.ifCond .eq 7, 382, 202, 204, 0, 0, [], sg0),
  (.iload_n 1, 385, 203, 0, 0, 0, [], sg0),
  (.goto 4, 386, 204, 205, 0, 0, [], sg0),
  (.iconst (-1), 389, 205, 0, 0, (-1), [], sg0),
  (.putfield 103, 390, 206, 8, 23, 0, [], sg0),
  (.aload_n 0, 393, 207, 0, 0, 0, [], sg0),
  (.dup, 394, 208, 0, 0, 0, [], sg0),
  (.getfield 97, 395, 209, 8, 21, 0, [], sg0),
  (.iconst 1, 398, 210, 0, 0, 1, [], sg0),
  (.iadd, 399, 211, 0, 0, 0, [], sg0),
  (.putfield 97, 400, 212, 8, 21, 0, [], sg0),
  (.return_, 403, 213, 0, 0, 0, [], sg0),
  (.nop, 404, 214, 0, 0, 0, [], sg0)]
def kX8_next : List Row := kX8_next_0 ++ (kX8_next_1 ++ kX8_next_2)
set_option maxRecDepth 100000 in
theorem rX8_next_0 : linE sgX8_next kX8_next (nxPc (kX8_next_1 ++ kX8_next_2)) 0 kX8_next_0 = true := by decide +kernel
set_option maxRecDepth 100000 in
theorem rX8_next_1 : linE sgX8_next kX8_next (nxPc (kX8_next_2)) 100 kX8_next_1 = true := by decide +kernel
set_option maxRecDepth 100000 in
theorem rX8_next_2 : linB sgX8_next kX8_next 200 kX8_next_2 = true := by decide +kernel
set_option maxRecDepth 100000 in
theorem okX8_next : Chk sgX8_next kX8_next := ⟨(linB_app rX8_next_0 (linB_app rX8_next_1 (rX8_next_2))), And.intro sgSX8_in (And.intro sgSX8_in (And.intro sgVX8_wordFrom (And.intro sgSX8_in (And.intro sgSX8_in trivial)))), tb_l2 [(4, 155), (4, 140), (4, 139), (4, 155), (4, 139), (4, 155), (4, 155), (4, 155), (4, 155), (4, 156), (4, 157), (4, 158), (4, 155), (4, 140), (4, 139), (4, 155), (4, 95), (4, 155), (4, 140), (4, 139), (4, 155), (4, 95), (4, 155), (4, 155), (4, 156), (4, 155), (4, 98), (4, 157), (4, 158), (4, 95), (4, 155), (4, 140), (4, 139), (4, 155), (4, 95), (4, 158), (4, 139), (4, 155), (4, 158), (4, 155), (4, 155), (4, 157), (4, 157), (4, 155), (4, 155)] (by decide +kernel) (by decide +kernel), nw_l2 [] (by decide +kernel) (by decide +kernel), by decide +kernel⟩
set_option maxRecDepth 100000 in
def kX8_rank : List Row := [(.iload_n 0, 0, 1, 0, 0, 0, [], sg0),
  (.ifCond .ne 7, 1, 2, 4, 0, 0, [], sg0),
  (.iconst 0, 4, 3, 0, 0, 0, [], sg0),
  (.goto 66, 5, 4, 35, 0, 0, [], sg0),
  (.iload_n 0, 8, 5, 0, 0, 0, [], sg0),
  (.bipush 11, 9, 6, 0, 0, 11, [], sg0),
  (.if_icmp .ne 7, 11, 7, 9, 0, 0, [], sg0),
  (.iconst 1, 14, 8, 0, 0, 1, [], sg0),
  (.goto 56, 15, 9, 35, 0, 0, [], sg0),
  (.iload_n 0, 18, 10, 0, 0, 0, [], sg0),
  (.bipush 12, 19, 11, 0, 0, 12, [], sg0),
  (.if_icmp .ne 7, 21, 12, 14, 0, 0, [], sg0),
  (.iconst 2, 24, 13, 0, 0, 2, [], sg0),
  (.goto 46, 25, 14, 35, 0, 0, [], sg0),
  (.iload_n 0, 28, 15, 0, 0, 0, [], sg0),
  (.bipush 13, 29, 16, 0, 0, 13, [], sg0),
  (.if_icmp .ne 7, 31, 17, 19, 0, 0, [], sg0),
  (.iconst 3, 34, 18, 0, 0, 3, [], sg0),
  (.goto 36, 35, 19, 35, 0, 0, [], sg0),
  (.iload_n 0, 38, 20, 0, 0, 0, [], sg0),
  (.bipush 15, 39, 21, 0, 0, 15, [], sg0),
  (.if_icmp .gt 7, 41, 22, 24, 0, 0, [], sg0),
  (.iconst 4, 44, 23, 0, 0, 4, [], sg0),
  (.goto 26, 45, 24, 35, 0, 0, [], sg0),
  (.iload_n 0, 48, 25, 0, 0, 0, [], sg0),
  (.bipush 17, 49, 26, 0, 0, 17, [], sg0),
  (.if_icmp .gt 7, 51, 27, 29, 0, 0, [], sg0),
  (.iconst 5, 54, 28, 0, 0, 5, [], sg0),
  (.goto 16, 55, 29, 35, 0, 0, [], sg0),
  (.iload_n 0, 58, 30, 0, 0, 0, [], sg0),
  (.bipush 18, 59, 31, 0, 0, 18, [], sg0),
  (.if_icmp .ne 8, 61, 32, 34, 0, 0, [], sg0),
  (.bipush 6, 64, 33, 0, 0, 6, [], sg0),
  (.goto 5, 66, 34, 35, 0, 0, [], sg0),
  (.bipush 7, 69, 35, 0, 0, 7, [], sg0),
  (.ireturn, 71, 36, 0, 0, 0, [], sg0),
  (.nop, 72, 37, 0, 0, 0, [], sg0)]
set_option maxRecDepth 100000 in
theorem okX8_rank : Chk sgX8_rank kX8_rank := ⟨by decide +kernel, trivial, tb_l2 [] (by decide +kernel) (by decide +kernel), nw_l2 [] (by decide +kernel) (by decide +kernel), by decide +kernel⟩
set_option maxRecDepth 100000 in
def kX8_puts : List Row := [(.aload_n 0, 0, 1, 0, 0, 0, [], sg0),
  (.getfield 22, 1, 2, 8, 7, 0, [], sg0),
  (.sipush 200, 4, 3, 0, 0, 200, [], sg0),
  (.aload_n 0, 7, 4, 0, 0, 0, [], sg0),
  (.getfield 80, 8, 5, 8, 9, 0, [], sg0),
  (.imul, 11, 6, 0, 0, 0, [], sg0),
  (.aload_n 0, 12, 7, 0, 0, 0, [], sg0),
  (.getfield 113, 13, 8, 8, 29, 0, [], sg0),
  (.iadd, 16, 9, 0, 0, 0, [], sg0),
  (.iload_n 1, 17, 10, 0, 0, 0, [], sg0),
  (.iastore, 18, 11, 0, 0, 0, [], sg0),
  (.aload_n 0, 19, 12, 0, 0, 0, [], sg0),
  (.dup, 20, 13, 0, 0, 0, [], sg0),
  (.getfield 113, 21, 14, 8, 29, 0, [], sg0),
  (.iconst 1, 24, 15, 0, 0, 1, [], sg0),
  (.iadd, 25, 16, 0, 0, 0, [], sg0),
  (.putfield 113, 26, 17, 8, 29, 0, [], sg0),
  (.return_, 29, 18, 0, 0, 0, [], sg0),
  (.nop, 30, 19, 0, 0, 0, [], sg0)]
set_option maxRecDepth 100000 in
theorem okX8_puts : Chk sgX8_puts kX8_puts := ⟨by decide +kernel, trivial, tb_l2 [(4, 141), (4, 143), (4, 163), (4, 163), (4, 163)] (by decide +kernel) (by decide +kernel), nw_l2 [] (by decide +kernel) (by decide +kernel), by decide +kernel⟩
set_option maxRecDepth 100000 in
def kX8_unwinds : List Row := [(.aload_n 0, 0, 1, 0, 0, 0, [], sg0),
  (.getfield 116, 1, 2, 8, 27, 0, [], sg0),
  (.ifCond .le 75, 4, 3, 43, 0, 0, [], sg0),
  (.aload_n 0, 7, 4, 0, 0, 0, [], sg0),
  (.getfield 49, 8, 5, 8, 26, 0, [], sg0),
  (.aload_n 0, 11, 6, 0, 0, 0, [], sg0),
  (.getfield 116, 12, 7, 8, 27, 0, [], sg0),
  (.iconst 1, 15, 8, 0, 0, 1, [], sg0),
  (.isub, 16, 9, 0, 0, 0, [], sg0),
  (.iaload, 17, 10, 0, 0, 0, [], sg0),
  (.invokestatic 119, 18, 11, 0, 0, 0, [], sgX8_rank),
  (.iload_n 1, 21, 12, 0, 0, 0, [], sg0),
  (.if_icmp .lt 57, 22, 13, 43, 0, 0, [], sg0),
  (.aload_n 0, 25, 14, 0, 0, 0, [], sg0),
  (.dup, 26, 15, 0, 0, 0, [], sg0),
  (.getfield 116, 27, 16, 8, 27, 0, [], sg0),
  (.iconst 1, 30, 17, 0, 0, 1, [], sg0),
  (.isub, 31, 18, 0, 0, 0, [], sg0),
  (.putfield 116, 32, 19, 8, 27, 0, [], sg0),
  (.aload_n 0, 35, 20, 0, 0, 0, [], sg0),
  (.getfield 49, 36, 21, 8, 26, 0, [], sg0),
  (.aload_n 0, 39, 22, 0, 0, 0, [], sg0),
  (.getfield 116, 40, 23, 8, 27, 0, [], sg0),
  (.iaload, 43, 24, 0, 0, 0, [], sg0),
  (.istore_n 2, 44, 25, 0, 0, 0, [], sg0),
  (.aload_n 0, 45, 26, 0, 0, 0, [], sg0),
  (.dup, 46, 27, 0, 0, 0, [], sg0),
  (.getfield 123, 47, 28, 8, 28, 0, [], sg0),
  (.iload_n 2, 50, 29, 0, 0, 0, [], sg0),
  (.bipush 13, 51, 30, 0, 0, 13, [], sg0),
  (.if_icmp .eq 9, 53, 31, 34, 0, 0, [], sg0),
  (.iload_n 2, 56, 32, 0, 0, 0, [], sg0),
  (.bipush 19, 57, 33, 0, 0, 19, [], sg0),
  (.if_icmp .ne 7, 59, 34, 36, 0, 0, [], sg0),
  (.iconst 1, 62, 35, 0, 0, 1, [], sg0),
  (.goto 4, 63, 36, 37, 0, 0, [], sg0),
  (.iconst 0, 66, 37, 0, 0, 0, [], sg0),
  (.isub, 67, 38, 0, 0, 0, [], sg0),
  (.putfield 123, 68, 39, 8, 28, 0, [], sg0),
  (.aload_n 0, 71, 40, 0, 0, 0, [], sg0),
  (.iload_n 2, 72, 41, 0, 0, 0, [], sg0),
  (.invokevirtual 126, 73, 42, 8, 0, 0, [], sgX8_puts),
  (.goto (-76), 76, 43, 0, 0, 0, [], sg0),
  (.return_, 79, 44, 0, 0, 0, [], sg0),
  (.nop, 80, 45, 0, 0, 0, [], sg0)]
set_option maxRecDepth 100000 in
theorem okX8_unwinds : Chk sgX8_unwinds kX8_unwinds := ⟨by decide +kernel, And.intro sgSX8_rank (And.intro sgVX8_puts trivial), tb_l2 [(4, 161), (4, 160), (4, 161), (4, 115), (4, 161), (4, 161), (4, 160), (4, 161), (4, 162), (4, 162), (4, 107)] (by decide +kernel) (by decide +kernel), nw_l2 [] (by decide +kernel) (by decide +kernel), by decide +kernel⟩
set_option maxRecDepth 100000 in
def kX8_holds : List Row := [(.aload_n 0, 0, 1, 0, 0, 0, [], sg0),
  (.getfield 49, 1, 2, 8, 26, 0, [], sg0),
  (.aload_n 0, 4, 3, 0, 0, 0, [], sg0),
  (.getfield 116, 5, 4, 8, 27, 0, [], sg0),
  (.iload_n 1, 8, 5, 0, 0, 0, [], sg0),
  (.iastore, 9, 6, 0, 0, 0, [], sg0),
  (.aload_n 0, 10, 7, 0, 0, 0, [], sg0),
  (.dup, 11, 8, 0, 0, 0, [], sg0),
  (.getfield 116, 12, 9, 8, 27, 0, [], sg0),
  (.iconst 1, 15, 10, 0, 0, 1, [], sg0),
  (.iadd, 16, 11, 0, 0, 0, [], sg0),
  (.putfield 116, 17, 12, 8, 27, 0, [], sg0),
  (.return_, 20, 13, 0, 0, 0, [], sg0),
  (.nop, 21, 14, 0, 0, 0, [], sg0)]
set_option maxRecDepth 100000 in
theorem okX8_holds : Chk sgX8_holds kX8_holds := ⟨by decide +kernel, trivial, tb_l2 [(4, 160), (4, 161), (4, 161), (4, 161)] (by decide +kernel) (by decide +kernel), nw_l2 [] (by decide +kernel) (by decide +kernel), by decide +kernel⟩
set_option maxRecDepth 100000 in
def kX8_opensOne : List Row := [(.aload_n 0, 0, 1, 0, 0, 0, [], sg0),
  (.getfield 123, 1, 2, 8, 28, 0, [], sg0),
  (.iconst 5, 4, 3, 0, 0, 5, [], sg0),
  (.if_icmp .ne 5, 5, 4, 6, 0, 0, [], sg0),
  (.iconst 0, 8, 5, 0, 0, 0, [], sg0),
  (.ireturn, 9, 6, 0, 0, 0, [], sg0),
  (.aload_n 0, 10, 7, 0, 0, 0, [], sg0),
  (.dup, 11, 8, 0, 0, 0, [], sg0),
  (.getfield 123, 12, 9, 8, 28, 0, [], sg0),
  (.iconst 1, 15, 10, 0, 0, 1, [], sg0),
  (.iadd, 16, 11, 0, 0, 0, [], sg0),
  (.putfield 123, 17, 12, 8, 28, 0, [], sg0),
  (.aload_n 0, 20, 13, 0, 0, 0, [], sg0),
  (.iload_n 1, 21, 14, 0, 0, 0, [], sg0),
  (.invokevirtual 130, 22, 15, 8, 0, 0, [], sgX8_holds),
  (.iconst 1, 25, 16, 0, 0, 1, [], sg0),
  (.ireturn, 26, 17, 0, 0, 0, [], sg0),
  (.nop, 27, 18, 0, 0, 0, [], sg0)]
set_option maxRecDepth 100000 in
theorem okX8_opensOne : Chk sgX8_opensOne kX8_opensOne := ⟨by decide +kernel, And.intro sgVX8_holds trivial, tb_l2 [(4, 162), (4, 162), (4, 162), (4, 122)] (by decide +kernel) (by decide +kernel), nw_l2 [] (by decide +kernel) (by decide +kernel), by decide +kernel⟩
set_option maxRecDepth 100000 in
def kX8_between : List Row := [(.aload_n 0, 0, 1, 0, 0, 0, [], sg0),
  (.iload_n 1, 1, 2, 0, 0, 0, [], sg0),
  (.invokestatic 119, 2, 3, 0, 0, 0, [], sgX8_rank),
  (.iconst 4, 5, 4, 0, 0, 4, [], sg0),
  (.if_icmp .ne 7, 6, 5, 7, 0, 0, [], sg0),
  (.iconst 5, 9, 6, 0, 0, 5, [], sg0),
  (.goto 7, 10, 7, 9, 0, 0, [], sg0),
  (.iload_n 1, 13, 8, 0, 0, 0, [], sg0),
  (.invokestatic 119, 14, 9, 0, 0, 0, [], sgX8_rank),
  (.invokevirtual 133, 17, 10, 8, 0, 0, [], sgX8_unwinds),
  (.iload_n 1, 20, 11, 0, 0, 0, [], sg0),
  (.invokestatic 119, 21, 12, 0, 0, 0, [], sgX8_rank),
  (.iconst 4, 24, 13, 0, 0, 4, [], sg0),
  (.if_icmp .ne 30, 25, 14, 29, 0, 0, [], sg0),
  (.aload_n 0, 28, 15, 0, 0, 0, [], sg0),
  (.getfield 116, 29, 16, 8, 27, 0, [], sg0),
  (.ifCond .le 23, 32, 17, 29, 0, 0, [], sg0),
  (.aload_n 0, 35, 18, 0, 0, 0, [], sg0),
  (.getfield 49, 36, 19, 8, 26, 0, [], sg0),
  (.aload_n 0, 39, 20, 0, 0, 0, [], sg0),
  (.getfield 116, 40, 21, 8, 27, 0, [], sg0),
  (.iconst 1, 43, 22, 0, 0, 1, [], sg0),
  (.isub, 44, 23, 0, 0, 0, [], sg0),
  (.iaload, 45, 24, 0, 0, 0, [], sg0),
  (.invokestatic 119, 46, 25, 0, 0, 0, [], sgX8_rank),
  (.iconst 4, 49, 26, 0, 0, 4, [], sg0),
  (.if_icmp .ne 5, 50, 27, 29, 0, 0, [], sg0),
  (.iconst 0, 53, 28, 0, 0, 0, [], sg0),
  (.ireturn, 54, 29, 0, 0, 0, [], sg0),
  (.aload_n 0, 55, 30, 0, 0, 0, [], sg0),
  (.iload_n 1, 56, 31, 0, 0, 0, [], sg0),
  (.invokevirtual 130, 57, 32, 8, 0, 0, [], sgX8_holds),
  (.iconst 1, 60, 33, 0, 0, 1, [], sg0),
  (.ireturn, 61, 34, 0, 0, 0, [], sg0),
  (.nop, 62, 35, 0, 0, 0, [], sg0)]
set_option maxRecDepth 100000 in
theorem okX8_between : Chk sgX8_between kX8_between := ⟨by decide +kernel, And.intro sgSX8_rank (And.intro sgSX8_rank (And.intro sgVX8_unwinds (And.intro sgSX8_rank (And.intro sgSX8_rank (And.intro sgVX8_holds trivial))))), tb_l2 [(4, 115), (4, 115), (4, 111), (4, 115), (4, 161), (4, 160), (4, 161), (4, 115), (4, 122)] (by decide +kernel) (by decide +kernel), nw_l2 [] (by decide +kernel) (by decide +kernel), by decide +kernel⟩
set_option maxRecDepth 100000 in
def kX8_signOf : List Row := [(.aload_n 0, 0, 1, 0, 0, 0, [], sg0),
  (.getfield 103, 1, 2, 8, 23, 0, [], sg0),
  (.iconst 4, 4, 3, 0, 0, 4, [], sg0),
  (.if_icmp .ne 8, 5, 4, 6, 0, 0, [], sg0),
  (.bipush 11, 8, 5, 0, 0, 11, [], sg0),
  (.goto 87, 10, 6, 43, 0, 0, [], sg0),
  (.aload_n 0, 13, 7, 0, 0, 0, [], sg0),
  (.getfield 103, 14, 8, 8, 23, 0, [], sg0),
  (.iconst 5, 17, 9, 0, 0, 5, [], sg0),
  (.if_icmp .ne 8, 18, 10, 12, 0, 0, [], sg0),
  (.bipush 12, 21, 11, 0, 0, 12, [], sg0),
  (.goto 74, 23, 12, 43, 0, 0, [], sg0),
  (.aload_n 0, 26, 13, 0, 0, 0, [], sg0),
  (.getfield 103, 27, 14, 8, 23, 0, [], sg0),
  (.bipush 60, 30, 15, 0, 0, 60, [], sg0),
  (.if_icmp .ne 8, 32, 16, 18, 0, 0, [], sg0),
  (.bipush 14, 35, 17, 0, 0, 14, [], sg0),
  (.goto 60, 37, 18, 43, 0, 0, [], sg0),
  (.aload_n 0, 40, 19, 0, 0, 0, [], sg0),
  (.getfield 103, 41, 20, 8, 23, 0, [], sg0),
  (.bipush 61, 44, 21, 0, 0, 61, [], sg0),
  (.if_icmp .ne 8, 46, 22, 24, 0, 0, [], sg0),
  (.bipush 15, 49, 23, 0, 0, 15, [], sg0),
  (.goto 46, 51, 24, 43, 0, 0, [], sg0),
  (.aload_n 0, 54, 25, 0, 0, 0, [], sg0),
  (.getfield 103, 55, 26, 8, 23, 0, [], sg0),
  (.bipush 43, 58, 27, 0, 0, 43, [], sg0),
  (.if_icmp .ne 8, 60, 28, 30, 0, 0, [], sg0),
  (.bipush 16, 63, 29, 0, 0, 16, [], sg0),
  (.goto 32, 65, 30, 43, 0, 0, [], sg0),
  (.aload_n 0, 68, 31, 0, 0, 0, [], sg0),
  (.getfield 103, 69, 32, 8, 23, 0, [], sg0),
  (.bipush 45, 72, 33, 0, 0, 45, [], sg0),
  (.if_icmp .ne 8, 74, 34, 36, 0, 0, [], sg0),
  (.bipush 17, 77, 35, 0, 0, 17, [], sg0),
  (.goto 18, 79, 36, 43, 0, 0, [], sg0),
  (.aload_n 0, 82, 37, 0, 0, 0, [], sg0),
  (.getfield 103, 83, 38, 8, 23, 0, [], sg0),
  (.bipush 42, 86, 39, 0, 0, 42, [], sg0),
  (.if_icmp .ne 8, 88, 40, 42, 0, 0, [], sg0),
  (.bipush 18, 91, 41, 0, 0, 18, [], sg0),
  (.goto 4, 93, 42, 43, 0, 0, [], sg0),
  (.iconst (-1), 96, 43, 0, 0, (-1), [], sg0),
  (.ireturn, 97, 44, 0, 0, 0, [], sg0),
  (.nop, 98, 45, 0, 0, 0, [], sg0)]
set_option maxRecDepth 100000 in
theorem okX8_signOf : Chk sgX8_signOf kX8_signOf := ⟨by decide +kernel, trivial, tb_l2 [(4, 157), (4, 157), (4, 157), (4, 157), (4, 157), (4, 157), (4, 157)] (by decide +kernel) (by decide +kernel), nw_l2 [] (by decide +kernel) (by decide +kernel), by decide +kernel⟩
set_option maxRecDepth 100000 in
def kX8_eRead_0 : List Row := [(.aload_n 0, 0, 1, 0, 0, 0, [], sg0),
  (.iconst 0, 1, 2, 0, 0, 0, [], sg0),
  (.putfield 116, 2, 3, 8, 27, 0, [], sg0),
  (.aload_n 0, 5, 4, 0, 0, 0, [], sg0),
  (.iconst 0, 6, 5, 0, 0, 0, [], sg0),
  (.putfield 123, 7, 6, 8, 28, 0, [], sg0),
  (.iconst 1, 10, 7, 0, 0, 1, [], sg0),
  (.istore_n 1, 11, 8, 0, 0, 0, [], sg0),
  (.iconst 1, 12, 9, 0, 0, 1, [], sg0),
  (.istore_n 2, 13, 10, 0, 0, 0, [], sg0),
  (.aload_n 0, 14, 11, 0, 0, 0, [], sg0),
  (.invokevirtual 136, 15, 12, 8, 0, 0, [], sgX8_next),
  (.iload_n 1, 18, 13, 0, 0, 0, [], sg0),
  (.ifCond .eq 131, 19, 14, 81, 0, 0, [], sg0),
  (.aload_n 0, 22, 15, 0, 0, 0, [], sg0),
  (.getfield 103, 23, 16, 8, 23, 0, [], sg0),
  (.iconst 1, 26, 17, 0, 0, 1, [], sg0),
  (.if_icmp .eq 11, 27, 18, 22, 0, 0, [], sg0),
  (.aload_n 0, 30, 19, 0, 0, 0, [], sg0),
  (.getfield 103, 31, 20, 8, 23, 0, [], sg0),
  (.iconst 2, 34, 21, 0, 0, 2, [], sg0),
  (.if_icmp .ne 40, 35, 22, 41, 0, 0, [], sg0),
  (.aload_n 0, 38, 23, 0, 0, 0, [], sg0),
  (.aload_n 0, 39, 24, 0, 0, 0, [], sg0),
  (.getfield 103, 40, 25, 8, 23, 0, [], sg0),
  (.iconst 1, 43, 26, 0, 0, 1, [], sg0),
  (.if_icmp .ne 13, 44, 27, 32, 0, 0, [], sg0),
  (.ldc 139, 47, 28, 0, 0, 100000, [], sg0),
  (.aload_n 0, 49, 29, 0, 0, 0, [], sg0),
  (.getfield 106, 50, 30, 8, 24, 0, [], sg0),
  (.iadd, 53, 31, 0, 0, 0, [], sg0),
  (.goto 7, 54, 32, 34, 0, 0, [], sg0),
  (.aload_n 0, 57, 33, 0, 0, 0, [], sg0),
  (.getfield 106, 58, 34, 8, 24, 0, [], sg0),
  (.invokevirtual 126, 61, 35, 8, 0, 0, [], sgX8_puts),
  (.aload_n 0, 64, 36, 0, 0, 0, [], sg0),
  (.bipush 7, 65, 37, 0, 0, 7, [], sg0),
  (.invokevirtual 133, 67, 38, 8, 0, 0, [], sgX8_unwinds),
  (.iconst 0, 70, 39, 0, 0, 0, [], sg0),
  (.istore_n 1, 71, 40, 0, 0, 0, [], sg0),
  (.goto (-58), 72, 41, 10, 0, 0, [], sg0),
  (.aload_n 0, 75, 42, 0, 0, 0, [], sg0),
  (.getfield 103, 76, 43, 8, 23, 0, [], sg0),
  (.bipush 6, 79, 44, 0, 0, 6, [], sg0),
  (.if_icmp .ne 18, 81, 45, 53, 0, 0, [], sg0),
  (.iload_n 2, 84, 46, 0, 0, 0, [], sg0),
  (.ifCond .eq 14, 85, 47, 53, 0, 0, [], sg0),
  (.aload_n 0, 88, 48, 0, 0, 0, [], sg0),
  (.bipush 13, 89, 49, 0, 0, 13, [], sg0),
  (.invokevirtual 140, 91, 50, 8, 0, 0, [], sgX8_opensOne),
  (.ifCond .ne (-80), 94, 51, 10, 0, 0, [], sg0),
  (.iconst 0, 97, 52, 0, 0, 0, [], sg0),
  (.ireturn, 98, 53, 0, 0, 0, [], sg0),
  (.aload_n 0, 99, 54, 0, 0, 0, [], sg0),
  (.getfield 103, 100, 55, 8, 23, 0, [], sg0),
  (.bipush 45, 103, 56, 0, 0, 45, [], sg0),
  (.if_icmp .ne 19, 105, 57, 66, 0, 0, [], sg0),
  (.aload_n 0, 108, 58, 0, 0, 0, [], sg0),
  (.bipush 19, 109, 59, 0, 0, 19, [], sg0),
  (.invokevirtual 140, 111, 60, 8, 0, 0, [], sgX8_opensOne),
  (.ifCond .ne 5, 114, 61, 63, 0, 0, [], sg0),
  (.iconst 0, 117, 62, 0, 0, 0, [], sg0),
  (.ireturn, 118, 63, 0, 0, 0, [], sg0),
  (.iconst 0, 119, 64, 0, 0, 0, [], sg0),
  (.istore_n 2, 120, 65, 0, 0, 0, [], sg0),
  (.goto (-107), 121, 66, 10, 0, 0, [], sg0),
  (.aload_n 0, 124, 67, 0, 0, 0, [], sg0),
  (.getfield 103, 125, 68, 8, 23, 0, [], sg0),
  (.bipush 40, 128, 69, 0, 0, 40, [], sg0),
  (.if_icmp .ne 18, 130, 70, 79, 0, 0, [], sg0),
  (.aload_n 0, 133, 71, 0, 0, 0, [], sg0),
  (.iconst 0, 134, 72, 0, 0, 0, [], sg0),
  (.invokevirtual 140, 135, 73, 8, 0, 0, [], sgX8_opensOne),
  (.ifCond .ne 5, 138, 74, 76, 0, 0, [], sg0),
  (.iconst 0, 141, 75, 0, 0, 0, [], sg0),
  (.ireturn, 142, 76, 0, 0, 0, [], sg0),
  (.iconst 1, 143, 77, 0, 0, 1, [], sg0),
  (.istore_n 2, 144, 78, 0, 0, 0, [], sg0),
  (.goto (-131), 145, 79, 10, 0, 0, [], sg0),
  (.iconst 0, 148, 80, 0, 0, 0, [], sg0),
  (.ireturn, 149, 81, 0, 0, 0, [], sg0),
  (.aload_n 0, 150, 82, 0, 0, 0, [], sg0),
  (.getfield 103, 151, 83, 8, 23, 0, [], sg0),
  (.bipush 59, 154, 84, 0, 0, 59, [], sg0),
  (.if_icmp .ne 21, 156, 85, 95, 0, 0, [], sg0),
  (.aload_n 0, 159, 86, 0, 0, 0, [], sg0),
  (.iconst 1, 160, 87, 0, 0, 1, [], sg0),
  (.invokevirtual 133, 161, 88, 8, 0, 0, [], sgX8_unwinds),
  (.aload_n 0, 164, 89, 0, 0, 0, [], sg0),
  (.getfield 116, 165, 90, 8, 27, 0, [], sg0),
  (.ifCond .ne 7, 168, 91, 93, 0, 0, [], sg0),
  (.iconst 1, 171, 92, 0, 0, 1, [], sg0),
  (.goto 4, 172, 93, 94, 0, 0, [], sg0),
  (.iconst 0, 175, 94, 0, 0, 0, [], sg0),
  (.ireturn, 176, 95, 0, 0, 0, [], sg0),
  (.aload_n 0, 177, 96, 0, 0, 0, [], sg0),
  (.getfield 103, 178, 97, 8, 23, 0, [], sg0),
  (.bipush 41, 181, 98, 0, 0, 41, [], sg0),
  (.if_icmp .ne 46, 183, 99, 123, 0, 0, [], sg0),
  (.aload_n 0, 186, 100, 0, 0, 0, [], sg0)]
set_option maxRecDepth 100000 in
def kX8_eRead_1 : List Row := [(.iconst 1, 187, 101, 0, 0, 1, [], sg0),
  (.invokevirtual 133, 188, 102, 8, 0, 0, [], sgX8_unwinds),
  (.aload_n 0, 191, 103, 0, 0, 0, [], sg0),
  (.getfield 116, 192, 104, 8, 27, 0, [], sg0),
  (.ifCond .ne 5, 195, 105, 107, 0, 0, [], sg0),
  (.iconst 0, 198, 106, 0, 0, 0, [], sg0),
  (.ireturn, 199, 107, 0, 0, 0, [], sg0),
  (.aload_n 0, 200, 108, 0, 0, 0, [], sg0),
  (.dup, 201, 109, 0, 0, 0, [], sg0),
  (.getfield 116, 202, 110, 8, 27, 0, [], sg0),
  (.iconst 1, 205, 111, 0, 0, 1, [], sg0),
  (.isub, 206, 112, 0, 0, 0, [], sg0),
  (.putfield 116, 207, 113, 8, 27, 0, [], sg0),
  (.aload_n 0, 210, 114, 0, 0, 0, [], sg0),
  (.dup, 211, 115, 0, 0, 0, [], sg0),
  (.getfield 123, 212, 116, 8, 28, 0, [], sg0),
  (.iconst 1, 215, 117, 0, 0, 1, [], sg0),
  (.isub, 216, 118, 0, 0, 0, [], sg0),
  (.putfield 123, 217, 119, 8, 28, 0, [], sg0),
  (.aload_n 0, 220, 120, 0, 0, 0, [], sg0),
  (.bipush 7, 221, 121, 0, 0, 7, [], sg0),
  (.invokevirtual 133, 223, 122, 8, 0, 0, [], sgX8_unwinds),
  (.goto (-212), 226, 123, 10, 0, 0, [], sg0),
  (.aload_n 0, 229, 124, 0, 0, 0, [], sg0),
  (.invokevirtual 143, 230, 125, 8, 0, 0, [], sgX8_signOf),
  (.istore_n 3, 233, 126, 0, 0, 0, [], sg0),
  (.iload_n 3, 234, 127, 0, 0, 0, [], sg0),
  (.iconst (-1), 235, 128, 0, 0, (-1), [], sg0),
  (.if_icmp .eq 11, 236, 129, 133, 0, 0, [], sg0),
  (.aload_n 0, 239, 130, 0, 0, 0, [], sg0),
  (.iload_n 3, 240, 131, 0, 0, 0, [], sg0),
  (.invokevirtual 146, 241, 132, 8, 0, 0, [], sgX8_between),
  (.ifCond .ne 5, 244, 133, 135, 0, 0, [], sg0),
  (.iconst 0, 247, 134, 0, 0, 0, [], sg0),
  (.ireturn, 248, 135, 0, 0, 0, [], sg0),
  (.iconst 1, 249, 136, 0, 0, 1, [], sg0),
  (.istore_n 1, 250, 137, 0, 0, 0, [], sg0),
  (.iload_n 3, 251, 138, 0, 0, 0, [], sg0),
  (.bipush 12, 252, 139, 0, 0, 12, [], sg0),
  (.if_icmp .gt 7, 254, 140, 142, 0, 0, [], sg0),
  (.iconst 1, 257, 141, 0, 0, 1, [], sg0),
  (.goto 4, 258, 142, 143, 0, 0, [], sg0),
  (.iconst 0, 261, 143, 0, 0, 0, [], sg0),
  (.istore_n 2, 262, 144, 0, 0, 0, [], sg0),
  (.goto (-249), 263, 145, 10, 0, 0, [], sg0),
  (.nop, 266, 146, 0, 0, 0, [], sg0)]
def kX8_eRead : List Row := kX8_eRead_0 ++ kX8_eRead_1
set_option maxRecDepth 100000 in
theorem rX8_eRead_0 : linE sgX8_eRead kX8_eRead (nxPc (kX8_eRead_1)) 0 kX8_eRead_0 = true := by decide +kernel
set_option maxRecDepth 100000 in
theorem rX8_eRead_1 : linB sgX8_eRead kX8_eRead 100 kX8_eRead_1 = true := by decide +kernel
set_option maxRecDepth 100000 in
theorem okX8_eRead : Chk sgX8_eRead kX8_eRead := ⟨(linB_app rX8_eRead_0 (rX8_eRead_1)), And.intro sgVX8_next (And.intro sgVX8_puts (And.intro sgVX8_unwinds (And.intro sgVX8_opensOne (And.intro sgVX8_opensOne (And.intro sgVX8_opensOne (And.intro sgVX8_unwinds (And.intro sgVX8_unwinds (And.intro sgVX8_unwinds (And.intro sgVX8_signOf (And.intro sgVX8_between trivial)))))))))), tb_l2 [(4, 161), (4, 162), (4, 91), (4, 157), (4, 157), (4, 157), (4, 106), (4, 158), (4, 158), (4, 107), (4, 111), (4, 157), (4, 118), (4, 157), (4, 118), (4, 157), (4, 118), (4, 157), (4, 111), (4, 161), (4, 157), (4, 111), (4, 161), (4, 161), (4, 161), (4, 162), (4, 162), (4, 111), (4, 126), (4, 130)] (by decide +kernel) (by decide +kernel), nw_l2 [] (by decide +kernel) (by decide +kernel), by decide +kernel⟩
set_option maxRecDepth 100000 in
def kX8_text : List Row := [(.aload_n 0, 0, 1, 0, 0, 0, [], sg0),
  (.getfield 80, 1, 2, 8, 9, 0, [], sg0),
  (.bipush 6, 4, 3, 0, 0, 6, [], sg0),
  (.if_icmp .ne 6, 6, 4, 6, 0, 0, [], sg0),
  (.bipush (-4), 9, 5, 0, 0, (-4), [], sg0),
  (.ireturn, 11, 6, 0, 0, 0, [], sg0),
  (.aload_n 0, 12, 7, 0, 0, 0, [], sg0),
  (.iconst 0, 13, 8, 0, 0, 0, [], sg0),
  (.putfield 97, 14, 9, 8, 21, 0, [], sg0),
  (.aload_n 0, 17, 10, 0, 0, 0, [], sg0),
  (.iconst 0, 18, 11, 0, 0, 0, [], sg0),
  (.putfield 113, 19, 12, 8, 29, 0, [], sg0),
  (.iconst 1, 22, 13, 0, 0, 1, [], sg0),
  (.istore_n 1, 23, 14, 0, 0, 0, [], sg0),
  (.iconst 0, 24, 15, 0, 0, 0, [], sg0),
  (.istore_n 2, 25, 16, 0, 0, 0, [], sg0),
  (.iload_n 2, 26, 17, 0, 0, 0, [], sg0),
  (.iconst 3, 27, 18, 0, 0, 3, [], sg0),
  (.if_icmp .ge 73, 28, 19, 57, 0, 0, [], sg0),
  (.iload_n 1, 31, 20, 0, 0, 0, [], sg0),
  (.ifCond .eq 69, 32, 21, 57, 0, 0, [], sg0),
  (.aload_n 0, 35, 22, 0, 0, 0, [], sg0),
  (.invokevirtual 136, 36, 23, 8, 0, 0, [], sgX8_next),
  (.aload_n 0, 39, 24, 0, 0, 0, [], sg0),
  (.getfield 103, 40, 25, 8, 23, 0, [], sg0),
  (.iconst 3, 43, 26, 0, 0, 3, [], sg0),
  (.if_icmp .ne 15, 44, 27, 33, 0, 0, [], sg0),
  (.aload_n 0, 47, 28, 0, 0, 0, [], sg0),
  (.getfield 106, 48, 29, 8, 24, 0, [], sg0),
  (.iload_n 2, 51, 30, 0, 0, 0, [], sg0),
  (.if_icmp .ne 7, 52, 31, 33, 0, 0, [], sg0),
  (.iconst 1, 55, 32, 0, 0, 1, [], sg0),
  (.goto 4, 56, 33, 34, 0, 0, [], sg0),
  (.iconst 0, 59, 34, 0, 0, 0, [], sg0),
  (.istore_n 1, 60, 35, 0, 0, 0, [], sg0),
  (.aload_n 0, 61, 36, 0, 0, 0, [], sg0),
  (.getfield 25, 62, 37, 8, 8, 0, [], sg0),
  (.iconst 4, 65, 38, 0, 0, 4, [], sg0),
  (.aload_n 0, 66, 39, 0, 0, 0, [], sg0),
  (.getfield 80, 67, 40, 8, 9, 0, [], sg0),
  (.imul, 70, 41, 0, 0, 0, [], sg0),
  (.iload_n 2, 71, 42, 0, 0, 0, [], sg0),
  (.iadd, 72, 43, 0, 0, 0, [], sg0),
  (.aload_n 0, 73, 44, 0, 0, 0, [], sg0),
  (.getfield 113, 74, 45, 8, 29, 0, [], sg0),
  (.iastore, 77, 46, 0, 0, 0, [], sg0),
  (.iload_n 1, 78, 47, 0, 0, 0, [], sg0),
  (.ifCond .eq 14, 79, 48, 53, 0, 0, [], sg0),
  (.aload_n 0, 82, 49, 0, 0, 0, [], sg0),
  (.invokevirtual 149, 83, 50, 8, 0, 0, [], sgX8_eRead),
  (.ifCond .eq 7, 86, 51, 53, 0, 0, [], sg0),
  (.iconst 1, 89, 52, 0, 0, 1, [], sg0),
  (.goto 4, 90, 53, 54, 0, 0, [], sg0),
  (.iconst 0, 93, 54, 0, 0, 0, [], sg0),
  (.istore_n 1, 94, 55, 0, 0, 0, [], sg0),
  (.iinc 2 1, 95, 56, 0, 0, 1, [], sg0),
  (.goto (-72), 98, 57, 16, 0, 0, [], sg0),
  (.iload_n 1, 101, 58, 0, 0, 0, [], sg0),
  (.ifCond .eq 20, 102, 59, 68, 0, 0, [], sg0),
  (.aload_n 0, 105, 60, 0, 0, 0, [], sg0),
  (.invokevirtual 136, 106, 61, 8, 0, 0, [], sgX8_next),
  (.aload_n 0, 109, 62, 0, 0, 0, [], sg0),
  (.getfield 103, 110, 63, 8, 23, 0, [], sg0),
  (.ifCond .ne 7, 113, 64, 66, 0, 0, [], sg0),
  (.iconst 1, 116, 65, 0, 0, 1, [], sg0),
  (.goto 4, 117, 66, 67, 0, 0, [], sg0),
  (.iconst 0, 120, 67, 0, 0, 0, [], sg0),
  (.istore_n 1, 121, 68, 0, 0, 0, [], sg0),
  (.aload_n 0, 122, 69, 0, 0, 0, [], sg0),
  (.getfield 25, 123, 70, 8, 8, 0, [], sg0),
  (.iconst 4, 126, 71, 0, 0, 4, [], sg0),
  (.aload_n 0, 127, 72, 0, 0, 0, [], sg0),
  (.getfield 80, 128, 73, 8, 9, 0, [], sg0),
  (.imul, 131, 74, 0, 0, 0, [], sg0),
  (.iconst 3, 132, 75, 0, 0, 3, [], sg0),
  (.iadd, 133, 76, 0, 0, 0, [], sg0),
  (.aload_n 0, 134, 77, 0, 0, 0, [], sg0),
  (.getfield 113, 135, 78, 8, 29, 0, [], sg0),
  (.iastore, 138, 79, 0, 0, 0, [], sg0),
  (.aload_n 0, 139, 80, 0, 0, 0, [], sg0),
  (.iconst 0, 140, 81, 0, 0, 0, [], sg0),
  (.putfield 65, 141, 82, 8, 6, 0, [], sg0),
  (.iload_n 1, 144, 83, 0, 0, 0, [], sg0),
  (.ifCond .ne 11, 145, 84, 89, 0, 0, [], sg0),
  (.bipush (-100), 148, 85, 0, 0, (-100), [], sg0),
  (.aload_n 0, 150, 86, 0, 0, 0, [], sg0),
  (.getfield 100, 151, 87, 8, 22, 0, [], sg0),
  (.isub, 154, 88, 0, 0, 0, [], sg0),
  (.ireturn, 155, 89, 0, 0, 0, [], sg0),
  (.aload_n 0, 156, 90, 0, 0, 0, [], sg0),
  (.dup, 157, 91, 0, 0, 0, [], sg0),
  (.getfield 80, 158, 92, 8, 9, 0, [], sg0),
  (.iconst 1, 161, 93, 0, 0, 1, [], sg0),
  (.iadd, 162, 94, 0, 0, 0, [], sg0),
  (.putfield 80, 163, 95, 8, 9, 0, [], sg0),
  (.aload_n 0, 166, 96, 0, 0, 0, [], sg0),
  (.getfield 80, 167, 97, 8, 9, 0, [], sg0),
  (.iconst 1, 170, 98, 0, 0, 1, [], sg0),
  (.isub, 171, 99, 0, 0, 0, [], sg0),
  (.ireturn, 172, 100, 0, 0, 0, [], sg0),
  (.nop, 173, 101, 0, 0, 0, [], sg0)]
set_option maxRecDepth 100000 in
theorem okX8_text : Chk sgX8_text kX8_text := ⟨by decide +kernel, And.intro sgVX8_next (And.intro sgVX8_eRead (And.intro sgVX8_next trivial)), tb_l2 [(4, 143), (4, 155), (4, 163), (4, 91), (4, 157), (4, 158), (4, 142), (4, 143), (4, 163), (4, 102), (4, 91), (4, 157), (4, 142), (4, 143), (4, 163), (4, 140), (4, 156), (4, 143), (4, 143), (4, 143)] (by decide +kernel) (by decide +kernel), nw_l2 [] (by decide +kernel) (by decide +kernel), by decide +kernel⟩
set_option maxRecDepth 100000 in
def kX8_two : List Row := [(.iload_n 0, 0, 1, 0, 0, 0, [], sg0),
  (.tableswitch 101 11 17 #[43, 57, 101, 71, 82, 93, 97], 1, 2, 40, 0, 0, [2, 10, 40, 18, 25, 32, 36], sg0),
  (.iload_n 1, 44, 3, 0, 0, 0, [], sg0),
  (.ifCond .ne 7, 45, 4, 6, 0, 0, [], sg0),
  (.iload_n 2, 48, 5, 0, 0, 0, [], sg0),
  (.ifCond .eq 7, 49, 6, 8, 0, 0, [], sg0),
  (.iconst 1, 52, 7, 0, 0, 1, [], sg0),
  (.goto 4, 53, 8, 9, 0, 0, [], sg0),
  (.iconst 0, 56, 9, 0, 0, 0, [], sg0),
  (.ireturn, 57, 10, 0, 0, 0, [], sg0),
  (.iload_n 1, 58, 11, 0, 0, 0, [], sg0),
  (.ifCond .eq 11, 59, 12, 16, 0, 0, [], sg0),
  (.iload_n 2, 62, 13, 0, 0, 0, [], sg0),
  (.ifCond .eq 7, 63, 14, 16, 0, 0, [], sg0),
  (.iconst 1, 66, 15, 0, 0, 1, [], sg0),
  (.goto 4, 67, 16, 17, 0, 0, [], sg0),
  (.iconst 0, 70, 17, 0, 0, 0, [], sg0),
  (.ireturn, 71, 18, 0, 0, 0, [], sg0),
  (.iload_n 1, 72, 19, 0, 0, 0, [], sg0),
  (.iload_n 2, 73, 20, 0, 0, 0, [], sg0),
  (.if_icmp .ge 7, 74, 21, 23, 0, 0, [], sg0),
  (.iconst 1, 77, 22, 0, 0, 1, [], sg0),
  (.goto 4, 78, 23, 24, 0, 0, [], sg0),
  (.iconst 0, 81, 24, 0, 0, 0, [], sg0),
  (.ireturn, 82, 25, 0, 0, 0, [], sg0),
  (.iload_n 1, 83, 26, 0, 0, 0, [], sg0),
  (.iload_n 2, 84, 27, 0, 0, 0, [], sg0),
  (.if_icmp .ne 7, 85, 28, 30, 0, 0, [], sg0),
  (.iconst 1, 88, 29, 0, 0, 1, [], sg0),
  (.goto 4, 89, 30, 31, 0, 0, [], sg0),
  (.iconst 0, 92, 31, 0, 0, 0, [], sg0),
  (.ireturn, 93, 32, 0, 0, 0, [], sg0),
  (.iload_n 1, 94, 33, 0, 0, 0, [], sg0),
  (.iload_n 2, 95, 34, 0, 0, 0, [], sg0),
  (.iadd, 96, 35, 0, 0, 0, [], sg0),
  (.ireturn, 97, 36, 0, 0, 0, [], sg0),
  (.iload_n 1, 98, 37, 0, 0, 0, [], sg0),
  (.iload_n 2, 99, 38, 0, 0, 0, [], sg0),
  (.isub, 100, 39, 0, 0, 0, [], sg0),
  (.ireturn, 101, 40, 0, 0, 0, [], sg0),
  (.iload_n 1, 102, 41, 0, 0, 0, [], sg0),
  (.iload_n 2, 103, 42, 0, 0, 0, [], sg0),
  (.imul, 104, 43, 0, 0, 0, [], sg0),
  (.ireturn, 105, 44, 0, 0, 0, [], sg0),
  (.nop, 106, 45, 0, 0, 0, [], sg0)]
set_option maxRecDepth 100000 in
theorem okX8_two : Chk sgX8_two kX8_two := ⟨by decide +kernel, trivial, tb_l2 [] (by decide +kernel) (by decide +kernel), nw_l2 [] (by decide +kernel) (by decide +kernel), by decide +kernel⟩
set_option maxRecDepth 100000 in
def kX8_says_0 : List Row := [(.iconst 0, 0, 1, 0, 0, 0, [], sg0),
  (.istore_n 2, 1, 2, 0, 0, 0, [], sg0),
  (.aload_n 0, 2, 3, 0, 0, 0, [], sg0),
  (.getfield 25, 3, 4, 8, 8, 0, [], sg0),
  (.iconst 4, 6, 5, 0, 0, 4, [], sg0),
  (.aload_n 0, 7, 6, 0, 0, 0, [], sg0),
  (.getfield 90, 8, 7, 8, 10, 0, [], sg0),
  (.imul, 11, 8, 0, 0, 0, [], sg0),
  (.iload_n 1, 12, 9, 0, 0, 0, [], sg0),
  (.iadd, 13, 10, 0, 0, 0, [], sg0),
  (.iaload, 14, 11, 0, 0, 0, [], sg0),
  (.istore_n 3, 15, 12, 0, 0, 0, [], sg0),
  (.iload_n 3, 16, 13, 0, 0, 0, [], sg0),
  (.aload_n 0, 17, 14, 0, 0, 0, [], sg0),
  (.getfield 25, 18, 15, 8, 8, 0, [], sg0),
  (.iconst 4, 21, 16, 0, 0, 4, [], sg0),
  (.aload_n 0, 22, 17, 0, 0, 0, [], sg0),
  (.getfield 90, 23, 18, 8, 10, 0, [], sg0),
  (.imul, 26, 19, 0, 0, 0, [], sg0),
  (.iload_n 1, 27, 20, 0, 0, 0, [], sg0),
  (.iadd, 28, 21, 0, 0, 0, [], sg0),
  (.iconst 1, 29, 22, 0, 0, 1, [], sg0),
  (.iadd, 30, 23, 0, 0, 0, [], sg0),
  (.iaload, 31, 24, 0, 0, 0, [], sg0),
  (.if_icmp .ge 165, 32, 25, 116, 0, 0, [], sg0),
  (.aload_n 0, 35, 26, 0, 0, 0, [], sg0),
  (.getfield 22, 36, 27, 8, 7, 0, [], sg0),
  (.sipush 200, 39, 28, 0, 0, 200, [], sg0),
  (.aload_n 0, 42, 29, 0, 0, 0, [], sg0),
  (.getfield 90, 43, 30, 8, 10, 0, [], sg0),
  (.imul, 46, 31, 0, 0, 0, [], sg0),
  (.iload_n 3, 47, 32, 0, 0, 0, [], sg0),
  (.iadd, 48, 33, 0, 0, 0, [], sg0),
  (.iaload, 49, 34, 0, 0, 0, [], sg0),
  (.istore 4, 50, 35, 0, 0, 0, [], sg0),
  (.iload 4, 52, 36, 0, 0, 0, [], sg0),
  (.ldc 139, 54, 37, 0, 0, 100000, [], sg0),
  (.if_icmp .ge 10, 56, 38, 41, 0, 0, [], sg0),
  (.iload 4, 59, 39, 0, 0, 0, [], sg0),
  (.bipush 11, 61, 40, 0, 0, 11, [], sg0),
  (.if_icmp .ge 37, 63, 41, 58, 0, 0, [], sg0),
  (.aload_n 0, 66, 42, 0, 0, 0, [], sg0),
  (.getfield 52, 67, 43, 8, 30, 0, [], sg0),
  (.iload_n 2, 70, 44, 0, 0, 0, [], sg0),
  (.iload 4, 71, 45, 0, 0, 0, [], sg0),
  (.bipush 11, 73, 46, 0, 0, 11, [], sg0),
  (.if_icmp .ge 13, 75, 47, 52, 0, 0, [], sg0),
  (.aload_n 0, 78, 48, 0, 0, 0, [], sg0),
  (.getfield 55, 79, 49, 8, 31, 0, [], sg0),
  (.iload 4, 82, 50, 0, 0, 0, [], sg0),
  (.iaload, 84, 51, 0, 0, 0, [], sg0),
  (.goto 8, 85, 52, 55, 0, 0, [], sg0),
  (.iload 4, 88, 53, 0, 0, 0, [], sg0),
  (.ldc 139, 90, 54, 0, 0, 100000, [], sg0),
  (.isub, 92, 55, 0, 0, 0, [], sg0),
  (.iastore, 93, 56, 0, 0, 0, [], sg0),
  (.iinc 2 1, 94, 57, 0, 0, 1, [], sg0),
  (.goto 94, 97, 58, 114, 0, 0, [], sg0),
  (.iload 4, 100, 59, 0, 0, 0, [], sg0),
  (.bipush 13, 102, 60, 0, 0, 13, [], sg0),
  (.if_icmp .ne 30, 104, 61, 78, 0, 0, [], sg0),
  (.aload_n 0, 107, 62, 0, 0, 0, [], sg0),
  (.getfield 52, 108, 63, 8, 30, 0, [], sg0),
  (.iload_n 2, 111, 64, 0, 0, 0, [], sg0),
  (.iconst 1, 112, 65, 0, 0, 1, [], sg0),
  (.isub, 113, 66, 0, 0, 0, [], sg0),
  (.aload_n 0, 114, 67, 0, 0, 0, [], sg0),
  (.getfield 52, 115, 68, 8, 30, 0, [], sg0),
  (.iload_n 2, 118, 69, 0, 0, 0, [], sg0),
  (.iconst 1, 119, 70, 0, 0, 1, [], sg0),
  (.isub, 120, 71, 0, 0, 0, [], sg0),
  (.iaload, 121, 72, 0, 0, 0, [], sg0),
  (.ifCond .ne 7, 122, 73, 75, 0, 0, [], sg0),
  (.iconst 1, 125, 74, 0, 0, 1, [], sg0),
  (.goto 4, 126, 75, 76, 0, 0, [], sg0),
  (.iconst 0, 129, 76, 0, 0, 0, [], sg0),
  (.iastore, 130, 77, 0, 0, 0, [], sg0),
  (.goto 60, 131, 78, 114, 0, 0, [], sg0),
  (.iload 4, 134, 79, 0, 0, 0, [], sg0),
  (.bipush 19, 136, 80, 0, 0, 19, [], sg0),
  (.if_icmp .ne 23, 138, 81, 95, 0, 0, [], sg0),
  (.aload_n 0, 141, 82, 0, 0, 0, [], sg0),
  (.getfield 52, 142, 83, 8, 30, 0, [], sg0),
  (.iload_n 2, 145, 84, 0, 0, 0, [], sg0),
  (.iconst 1, 146, 85, 0, 0, 1, [], sg0),
  (.isub, 147, 86, 0, 0, 0, [], sg0),
  (.aload_n 0, 148, 87, 0, 0, 0, [], sg0),
  (.getfield 52, 149, 88, 8, 30, 0, [], sg0),
  (.iload_n 2, 152, 89, 0, 0, 0, [], sg0),
  (.iconst 1, 153, 90, 0, 0, 1, [], sg0),
  (.isub, 154, 91, 0, 0, 0, [], sg0),
  (.iaload, 155, 92, 0, 0, 0, [], sg0),
  (.ineg, 156, 93, 0, 0, 0, [], sg0),
  (.iastore, 157, 94, 0, 0, 0, [], sg0),
  (.goto 33, 158, 95, 114, 0, 0, [], sg0),
  (.iinc 2 (-1), 161, 96, 0, 0, (-1), [], sg0),
  (.aload_n 0, 164, 97, 0, 0, 0, [], sg0),
  (.getfield 52, 165, 98, 8, 30, 0, [], sg0),
  (.iload_n 2, 168, 99, 0, 0, 0, [], sg0),
  (.iconst 1, 169, 100, 0, 0, 1, [], sg0)]
set_option maxRecDepth 100000 in
def kX8_says_1 : List Row := [(.isub, 170, 101, 0, 0, 0, [], sg0),
  (.iload 4, 171, 102, 0, 0, 0, [], sg0),
  (.aload_n 0, 173, 103, 0, 0, 0, [], sg0),
  (.getfield 52, 174, 104, 8, 30, 0, [], sg0),
  (.iload_n 2, 177, 105, 0, 0, 0, [], sg0),
  (.iconst 1, 178, 106, 0, 0, 1, [], sg0),
  (.isub, 179, 107, 0, 0, 0, [], sg0),
  (.iaload, 180, 108, 0, 0, 0, [], sg0),
  (.aload_n 0, 181, 109, 0, 0, 0, [], sg0),
  (.getfield 52, 182, 110, 8, 30, 0, [], sg0),
  (.iload_n 2, 185, 111, 0, 0, 0, [], sg0),
  (.iaload, 186, 112, 0, 0, 0, [], sg0),
  (.invokestatic 153, 187, 113, 0, 0, 0, [], sgX8_two),
  (.iastore, 190, 114, 0, 0, 0, [], sg0),
  (.iinc 3 1, 191, 115, 0, 0, 1, [], sg0),
  (.goto (-178), 194, 116, 12, 0, 0, [], sg0),
  (.aload_n 0, 197, 117, 0, 0, 0, [], sg0),
  (.getfield 52, 198, 118, 8, 30, 0, [], sg0),
  (.iconst 0, 201, 119, 0, 0, 0, [], sg0),
  (.iaload, 202, 120, 0, 0, 0, [], sg0),
  (.ireturn, 203, 121, 0, 0, 0, [], sg0),
  (.nop, 204, 122, 0, 0, 0, [], sg0)]
def kX8_says : List Row := kX8_says_0 ++ kX8_says_1
set_option maxRecDepth 100000 in
theorem rX8_says_0 : linE sgX8_says kX8_says (nxPc (kX8_says_1)) 0 kX8_says_0 = true := by decide +kernel
set_option maxRecDepth 100000 in
theorem rX8_says_1 : linB sgX8_says kX8_says 100 kX8_says_1 = true := by decide +kernel
set_option maxRecDepth 100000 in
theorem okX8_says : Chk sgX8_says kX8_says := ⟨(linB_app rX8_says_0 (rX8_says_1)), And.intro sgSX8_two trivial, tb_l2 [(4, 142), (4, 144), (4, 142), (4, 144), (4, 141), (4, 144), (4, 106), (4, 164), (4, 165), (4, 106), (4, 164), (4, 164), (4, 164), (4, 164), (4, 164), (4, 164), (4, 164), (5, 42), (4, 164)] (by decide +kernel) (by decide +kernel), nw_l2 [] (by decide +kernel) (by decide +kernel), by decide +kernel⟩
set_option maxRecDepth 100000 in
def kX8_force : List Row := [(.iload_n 1, 0, 1, 0, 0, 0, [], sg0),
  (.iconst 0, 1, 2, 0, 0, 0, [], sg0),
  (.aload_n 0, 2, 3, 0, 0, 0, [], sg0),
  (.getfield 80, 3, 4, 8, 9, 0, [], sg0),
  (.iconst 1, 6, 5, 0, 0, 1, [], sg0),
  (.isub, 7, 6, 0, 0, 0, [], sg0),
  (.invokestatic 76, 8, 7, 0, 0, 0, [], sgX8_in),
  (.ifCond .ne 6, 11, 8, 10, 0, 0, [], sg0),
  (.bipush (-2), 14, 9, 0, 0, (-2), [], sg0),
  (.ireturn, 16, 10, 0, 0, 0, [], sg0),
  (.aload_n 0, 17, 11, 0, 0, 0, [], sg0),
  (.getfield 90, 18, 12, 8, 10, 0, [], sg0),
  (.istore_n 2, 21, 13, 0, 0, 0, [], sg0),
  (.aload_n 0, 22, 14, 0, 0, 0, [], sg0),
  (.iload_n 1, 23, 15, 0, 0, 0, [], sg0),
  (.putfield 90, 24, 16, 8, 10, 0, [], sg0),
  (.iload_n 2, 27, 17, 0, 0, 0, [], sg0),
  (.ireturn, 28, 18, 0, 0, 0, [], sg0),
  (.nop, 29, 19, 0, 0, 0, [], sg0)]
set_option maxRecDepth 100000 in
theorem okX8_force : Chk sgX8_force kX8_force := ⟨by decide +kernel, And.intro sgSX8_in trivial, tb_l2 [(4, 143), (4, 95), (4, 144), (4, 144)] (by decide +kernel) (by decide +kernel), nw_l2 [] (by decide +kernel) (by decide +kernel), by decide +kernel⟩
set_option maxRecDepth 100000 in
def kX8_saysOf : List Row := [(.aload_n 0, 0, 1, 0, 0, 0, [], sg0),
  (.getfield 90, 1, 2, 8, 10, 0, [], sg0),
  (.istore 5, 4, 3, 0, 0, 0, [], sg0),
  (.aload_n 0, 6, 4, 0, 0, 0, [], sg0),
  (.iload_n 2, 7, 5, 0, 0, 0, [], sg0),
  (.putfield 90, 8, 6, 8, 10, 0, [], sg0),
  (.iconst 0, 11, 7, 0, 0, 0, [], sg0),
  (.istore 6, 12, 8, 0, 0, 0, [], sg0),
  (.iload 6, 14, 9, 0, 0, 0, [], sg0),
  (.iconst 5, 16, 10, 0, 0, 5, [], sg0),
  (.if_icmp .ge 22, 17, 11, 22, 0, 0, [], sg0),
  (.aload_n 0, 20, 12, 0, 0, 0, [], sg0),
  (.getfield 55, 21, 13, 8, 31, 0, [], sg0),
  (.iload 6, 24, 14, 0, 0, 0, [], sg0),
  (.iload_n 3, 26, 15, 0, 0, 0, [], sg0),
  (.iload 6, 27, 16, 0, 0, 0, [], sg0),
  (.ishr, 29, 17, 0, 0, 0, [], sg0),
  (.iconst 1, 30, 18, 0, 0, 1, [], sg0),
  (.iand, 31, 19, 0, 0, 0, [], sg0),
  (.iastore, 32, 20, 0, 0, 0, [], sg0),
  (.iinc 6 1, 33, 21, 0, 0, 1, [], sg0),
  (.goto (-22), 36, 22, 8, 0, 0, [], sg0),
  (.aload_n 0, 39, 23, 0, 0, 0, [], sg0),
  (.getfield 55, 40, 24, 8, 31, 0, [], sg0),
  (.iconst 5, 43, 25, 0, 0, 5, [], sg0),
  (.iload 4, 44, 26, 0, 0, 0, [], sg0),
  (.iastore, 46, 27, 0, 0, 0, [], sg0),
  (.aload_n 0, 47, 28, 0, 0, 0, [], sg0),
  (.iload_n 1, 48, 29, 0, 0, 0, [], sg0),
  (.invokevirtual 157, 49, 30, 8, 0, 0, [], sgX8_says),
  (.istore 6, 52, 31, 0, 0, 0, [], sg0),
  (.aload_n 0, 54, 32, 0, 0, 0, [], sg0),
  (.iload 5, 55, 33, 0, 0, 0, [], sg0),
  (.putfield 90, 57, 34, 8, 10, 0, [], sg0),
  (.iload_n 1, 60, 35, 0, 0, 0, [], sg0),
  (.iconst 2, 61, 36, 0, 0, 2, [], sg0),
  (.if_icmp .ne 14, 62, 37, 42, 0, 0, [], sg0),
  (.iload 6, 65, 38, 0, 0, 0, [], sg0),
  (.iconst 0, 67, 39, 0, 0, 0, [], sg0),
  (.bipush 99, 68, 40, 0, 0, 99, [], sg0),
  (.invokestatic 160, 70, 41, 0, 0, 0, [], sgX8_within),
  (.goto 13, 73, 42, 47, 0, 0, [], sg0),
  (.iload 6, 76, 43, 0, 0, 0, [], sg0),
  (.ifCond .ne 7, 78, 44, 46, 0, 0, [], sg0),
  (.iconst 0, 81, 45, 0, 0, 0, [], sg0),
  (.goto 4, 82, 46, 47, 0, 0, [], sg0),
  (.iconst 1, 85, 47, 0, 0, 1, [], sg0),
  (.ireturn, 86, 48, 0, 0, 0, [], sg0),
  (.nop, 87, 49, 0, 0, 0, [], sg0)]
set_option maxRecDepth 100000 in
theorem okX8_saysOf : Chk sgX8_saysOf kX8_saysOf := ⟨by decide +kernel, And.intro sgVX8_says (And.intro sgSX8_within trivial), tb_l2 [(4, 144), (4, 144), (4, 165), (4, 165), (5, 38), (4, 144), (5, 45)] (by decide +kernel) (by decide +kernel), nw_l2 [] (by decide +kernel) (by decide +kernel), by decide +kernel⟩
set_option maxRecDepth 100000 in
def kX8_asks : List Row := [(.aload_n 0, 0, 1, 0, 0, 0, [], sg0),
  (.iload_n 1, 1, 2, 0, 0, 0, [], sg0),
  (.invokevirtual 163, 2, 3, 8, 0, 0, [], sgX8_isOfTexts),
  (.ifCond .eq 10, 5, 4, 7, 0, 0, [], sg0),
  (.iload_n 2, 8, 5, 0, 0, 0, [], sg0),
  (.invokestatic 166, 9, 6, 0, 0, 0, [], sgX8_isWorld),
  (.ifCond .ne 6, 12, 7, 9, 0, 0, [], sg0),
  (.bipush (-5), 15, 8, 0, 0, (-5), [], sg0),
  (.ireturn, 17, 9, 0, 0, 0, [], sg0),
  (.iload_n 3, 18, 10, 0, 0, 0, [], sg0),
  (.iconst 0, 19, 11, 0, 0, 0, [], sg0),
  (.iconst 4, 20, 12, 0, 0, 4, [], sg0),
  (.invokestatic 76, 21, 13, 0, 0, 0, [], sgX8_in),
  (.ifCond .eq 35, 24, 14, 31, 0, 0, [], sg0),
  (.iload 4, 27, 15, 0, 0, 0, [], sg0),
  (.iconst 0, 29, 16, 0, 0, 0, [], sg0),
  (.iconst 2, 30, 17, 0, 0, 2, [], sg0),
  (.invokestatic 76, 31, 18, 0, 0, 0, [], sgX8_in),
  (.ifCond .eq 25, 34, 19, 31, 0, 0, [], sg0),
  (.aload_n 0, 37, 20, 0, 0, 0, [], sg0),
  (.iload 4, 38, 21, 0, 0, 0, [], sg0),
  (.iload_n 1, 40, 22, 0, 0, 0, [], sg0),
  (.iload 4, 41, 23, 0, 0, 0, [], sg0),
  (.iconst 2, 43, 24, 0, 0, 2, [], sg0),
  (.if_icmp .ne 7, 44, 25, 27, 0, 0, [], sg0),
  (.iconst 0, 47, 26, 0, 0, 0, [], sg0),
  (.goto 4, 48, 27, 28, 0, 0, [], sg0),
  (.iload_n 2, 51, 28, 0, 0, 0, [], sg0),
  (.iload_n 3, 52, 29, 0, 0, 0, [], sg0),
  (.invokevirtual 169, 53, 30, 8, 0, 0, [], sgX8_saysOf),
  (.goto 5, 56, 31, 32, 0, 0, [], sg0),
  (.bipush (-7), 59, 32, 0, 0, (-7), [], sg0),
  (.ireturn, 61, 33, 0, 0, 0, [], sg0),
  (.nop, 62, 34, 0, 0, 0, [], sg0)]
set_option maxRecDepth 100000 in
theorem okX8_asks : Chk sgX8_asks kX8_asks := ⟨by decide +kernel, And.intro sgVX8_isOfTexts (And.intro sgSX8_isWorld (And.intro sgSX8_in (And.intro sgSX8_in (And.intro sgVX8_saysOf trivial)))), tb_l2 [(5, 27), (5, 31), (4, 95), (4, 95), (5, 34)] (by decide +kernel) (by decide +kernel), nw_l2 [] (by decide +kernel) (by decide +kernel), by decide +kernel⟩
set_option maxRecDepth 100000 in
def kX8_soIn : List Row := [(.lconst 0, 0, 1, 0, 0, 0, [], sg0),
  (.lstore 4, 1, 2, 0, 0, 0, [], sg0),
  (.iconst 0, 3, 3, 0, 0, 0, [], sg0),
  (.istore 6, 4, 4, 0, 0, 0, [], sg0),
  (.iload 6, 6, 5, 0, 0, 0, [], sg0),
  (.bipush 32, 8, 6, 0, 0, 32, [], sg0),
  (.if_icmp .ge 35, 10, 7, 25, 0, 0, [], sg0),
  (.lload 4, 13, 8, 0, 0, 0, [], sg0),
  (.aload_n 0, 15, 9, 0, 0, 0, [], sg0),
  (.iload_n 2, 16, 10, 0, 0, 0, [], sg0),
  (.iload_n 1, 17, 11, 0, 0, 0, [], sg0),
  (.iload 6, 18, 12, 0, 0, 0, [], sg0),
  (.iload_n 3, 20, 13, 0, 0, 0, [], sg0),
  (.invokevirtual 169, 21, 14, 8, 0, 0, [], sgX8_saysOf),
  (.iconst 1, 24, 15, 0, 0, 1, [], sg0),
  (.if_icmp .ne 10, 25, 16, 20, 0, 0, [], sg0),
  (.lconst 1, 28, 17, 0, 0, 1, [], sg0),
  (.iload 6, 29, 18, 0, 0, 0, [], sg0),
  (.lshl, 31, 19, 0, 0, 0, [], sg0),
  (.goto 4, 32, 20, 21, 0, 0, [], sg0),
  (.lconst 0, 35, 21, 0, 0, 0, [], sg0),
  (.lor, 36, 22, 0, 0, 0, [], sg0),
  (.lstore 4, 37, 23, 0, 0, 0, [], sg0),
  (.iinc 6 1, 39, 24, 0, 0, 1, [], sg0),
  (.goto (-36), 42, 25, 4, 0, 0, [], sg0),
  (.lload 4, 45, 26, 0, 0, 0, [], sg0),
  (.lreturn, 47, 27, 0, 0, 0, [], sg0),
  (.nop, 48, 28, 0, 0, 0, [], sg0)]
set_option maxRecDepth 100000 in
theorem okX8_soIn : Chk sgX8_soIn kX8_soIn := ⟨by decide +kernel, And.intro sgVX8_saysOf trivial, tb_l2 [(5, 34)] (by decide +kernel) (by decide +kernel), nw_l2 [] (by decide +kernel) (by decide +kernel), by decide +kernel⟩
set_option maxRecDepth 100000 in
def kX8_means : List Row := [(.aload_n 0, 0, 1, 0, 0, 0, [], sg0),
  (.iload_n 1, 1, 2, 0, 0, 0, [], sg0),
  (.invokevirtual 163, 2, 3, 8, 0, 0, [], sgX8_isOfTexts),
  (.ifCond .eq 22, 5, 4, 15, 0, 0, [], sg0),
  (.iload_n 2, 8, 5, 0, 0, 0, [], sg0),
  (.iconst 0, 9, 6, 0, 0, 0, [], sg0),
  (.iconst 1, 10, 7, 0, 0, 1, [], sg0),
  (.invokestatic 76, 11, 8, 0, 0, 0, [], sgX8_in),
  (.ifCond .eq 13, 14, 9, 15, 0, 0, [], sg0),
  (.aload_n 0, 17, 10, 0, 0, 0, [], sg0),
  (.iload_n 1, 18, 11, 0, 0, 0, [], sg0),
  (.iload_n 2, 19, 12, 0, 0, 0, [], sg0),
  (.iconst 0, 20, 13, 0, 0, 0, [], sg0),
  (.invokevirtual 173, 21, 14, 8, 0, 0, [], sgX8_soIn),
  (.goto 6, 24, 15, 16, 0, 0, [], sg0),
  (.ldc2_w 177, 27, 16, 0, 0, (-4611686018427387904), [], sg0),
  (.lreturn, 30, 17, 0, 0, 0, [], sg0),
  (.nop, 31, 18, 0, 0, 0, [], sg0)]
set_option maxRecDepth 100000 in
theorem okX8_means : Chk sgX8_means kX8_means := ⟨by decide +kernel, And.intro sgVX8_isOfTexts (And.intro sgSX8_in (And.intro sgVX8_soIn trivial)), tb_l2 [(5, 27), (4, 95), (5, 52), (5, 56)] (by decide +kernel) (by decide +kernel), nw_l2 [] (by decide +kernel) (by decide +kernel), by decide +kernel⟩
set_option maxRecDepth 100000 in
def kX8_pairs : List Row := [(.iload_n 1, 0, 1, 0, 0, 0, [], sg0),
  (.iconst 0, 1, 2, 0, 0, 0, [], sg0),
  (.iconst 4, 2, 3, 0, 0, 4, [], sg0),
  (.invokestatic 76, 3, 4, 0, 0, 0, [], sgX8_in),
  (.ifCond .ne 6, 6, 5, 7, 0, 0, [], sg0),
  (.bipush (-2), 9, 6, 0, 0, (-2), [], sg0),
  (.ireturn, 11, 7, 0, 0, 0, [], sg0),
  (.iconst 0, 12, 8, 0, 0, 0, [], sg0),
  (.istore_n 2, 13, 9, 0, 0, 0, [], sg0),
  (.iconst 0, 14, 10, 0, 0, 0, [], sg0),
  (.istore_n 3, 15, 11, 0, 0, 0, [], sg0),
  (.iload_n 3, 16, 12, 0, 0, 0, [], sg0),
  (.aload_n 0, 17, 13, 0, 0, 0, [], sg0),
  (.getfield 80, 18, 14, 8, 9, 0, [], sg0),
  (.if_icmp .ge 41, 21, 15, 39, 0, 0, [], sg0),
  (.iload_n 2, 24, 16, 0, 0, 0, [], sg0),
  (.aload_n 0, 25, 17, 0, 0, 0, [], sg0),
  (.iload_n 3, 26, 18, 0, 0, 0, [], sg0),
  (.iconst 0, 27, 19, 0, 0, 0, [], sg0),
  (.iload_n 1, 28, 20, 0, 0, 0, [], sg0),
  (.invokevirtual 173, 29, 21, 8, 0, 0, [], sgX8_soIn),
  (.aload_n 0, 32, 22, 0, 0, 0, [], sg0),
  (.iload_n 3, 33, 23, 0, 0, 0, [], sg0),
  (.iconst 1, 34, 24, 0, 0, 1, [], sg0),
  (.iload_n 1, 35, 25, 0, 0, 0, [], sg0),
  (.invokevirtual 173, 36, 26, 8, 0, 0, [], sgX8_soIn),
  (.lxor, 39, 27, 0, 0, 0, [], sg0),
  (.ldc2_w 179, 40, 28, 0, 0, 4294967295, [], sg0),
  (.lcmp, 43, 29, 0, 0, 0, [], sg0),
  (.ifCond .ne 9, 44, 30, 34, 0, 0, [], sg0),
  (.iconst 1, 47, 31, 0, 0, 1, [], sg0),
  (.iload_n 3, 48, 32, 0, 0, 0, [], sg0),
  (.ishl, 49, 33, 0, 0, 0, [], sg0),
  (.goto 4, 50, 34, 35, 0, 0, [], sg0),
  (.iconst 0, 53, 35, 0, 0, 0, [], sg0),
  (.ior, 54, 36, 0, 0, 0, [], sg0),
  (.istore_n 2, 55, 37, 0, 0, 0, [], sg0),
  (.iinc 3 1, 56, 38, 0, 0, 1, [], sg0),
  (.goto (-43), 59, 39, 11, 0, 0, [], sg0),
  (.iload_n 2, 62, 40, 0, 0, 0, [], sg0),
  (.ireturn, 63, 41, 0, 0, 0, [], sg0),
  (.nop, 64, 42, 0, 0, 0, [], sg0)]
set_option maxRecDepth 100000 in
theorem okX8_pairs : Chk sgX8_pairs kX8_pairs := ⟨by decide +kernel, And.intro sgSX8_in (And.intro sgVX8_soIn (And.intro sgVX8_soIn trivial)), tb_l2 [(4, 95), (4, 143), (5, 52), (5, 52), (5, 61)] (by decide +kernel) (by decide +kernel), nw_l2 [] (by decide +kernel) (by decide +kernel), by decide +kernel⟩
set_option maxRecDepth 100000 in
def kX8_reads : List Row := [(.iconst 0, 0, 1, 0, 0, 0, [], sg0),
  (.istore_n 1, 1, 2, 0, 0, 0, [], sg0),
  (.iload_n 1, 2, 3, 0, 0, 0, [], sg0),
  (.bipush 10, 3, 4, 0, 0, 10, [], sg0),
  (.aload_n 0, 5, 5, 0, 0, 0, [], sg0),
  (.getfield 80, 6, 6, 8, 9, 0, [], sg0),
  (.imul, 9, 7, 0, 0, 0, [], sg0),
  (.if_icmp .ge 31, 10, 8, 27, 0, 0, [], sg0),
  (.aload_n 0, 13, 9, 0, 0, 0, [], sg0),
  (.getfield 58, 14, 10, 8, 32, 0, [], sg0),
  (.iload_n 1, 17, 11, 0, 0, 0, [], sg0),
  (.aload_n 0, 18, 12, 0, 0, 0, [], sg0),
  (.iload_n 1, 19, 13, 0, 0, 0, [], sg0),
  (.bipush 10, 20, 14, 0, 0, 10, [], sg0),
  (.idiv, 22, 15, 0, 0, 0, [], sg0),
  (.iload_n 1, 23, 16, 0, 0, 0, [], sg0),
  (.iconst 2, 24, 17, 0, 0, 2, [], sg0),
  (.irem, 25, 18, 0, 0, 0, [], sg0),
  (.iload_n 1, 26, 19, 0, 0, 0, [], sg0),
  (.iconst 2, 27, 20, 0, 0, 2, [], sg0),
  (.idiv, 28, 21, 0, 0, 0, [], sg0),
  (.iconst 5, 29, 22, 0, 0, 5, [], sg0),
  (.irem, 30, 23, 0, 0, 0, [], sg0),
  (.invokevirtual 173, 31, 24, 8, 0, 0, [], sgX8_soIn),
  (.lastore, 34, 25, 0, 0, 0, [], sg0),
  (.iinc 1 1, 35, 26, 0, 0, 1, [], sg0),
  (.goto (-36), 38, 27, 2, 0, 0, [], sg0),
  (.return_, 41, 28, 0, 0, 0, [], sg0),
  (.nop, 42, 29, 0, 0, 0, [], sg0)]
set_option maxRecDepth 100000 in
theorem okX8_reads : Chk sgX8_reads kX8_reads := ⟨by decide +kernel, And.intro sgVX8_soIn trivial, tb_l2 [(4, 143), (4, 166), (5, 52)] (by decide +kernel) (by decide +kernel), nw_l2 [] (by decide +kernel) (by decide +kernel), by decide +kernel⟩
set_option maxRecDepth 100000 in
def kX8_once : List Row := [(.aload_n 0, 0, 1, 0, 0, 0, [], sg0),
  (.getfield 58, 1, 2, 8, 32, 0, [], sg0),
  (.bipush 10, 4, 3, 0, 0, 10, [], sg0),
  (.iload_n 1, 6, 4, 0, 0, 0, [], sg0),
  (.imul, 7, 5, 0, 0, 0, [], sg0),
  (.laload, 8, 6, 0, 0, 0, [], sg0),
  (.lreturn, 9, 7, 0, 0, 0, [], sg0),
  (.nop, 10, 8, 0, 0, 0, [], sg0)]
set_option maxRecDepth 100000 in
theorem okX8_once : Chk sgX8_once kX8_once := ⟨by decide +kernel, trivial, tb_l2 [(4, 166)] (by decide +kernel) (by decide +kernel), nw_l2 [] (by decide +kernel) (by decide +kernel), by decide +kernel⟩
set_option maxRecDepth 100000 in
def kX8_isSo : List Row := [(.iload_n 0, 0, 1, 0, 0, 0, [], sg0),
  (.iconst 0, 1, 2, 0, 0, 0, [], sg0),
  (.iconst 5, 2, 3, 0, 0, 5, [], sg0),
  (.invokestatic 76, 3, 4, 0, 0, 0, [], sgX8_in),
  (.ifCond .eq 17, 6, 5, 12, 0, 0, [], sg0),
  (.iload_n 1, 9, 6, 0, 0, 0, [], sg0),
  (.iconst 0, 10, 7, 0, 0, 0, [], sg0),
  (.bipush 9, 11, 8, 0, 0, 9, [], sg0),
  (.invokestatic 76, 13, 9, 0, 0, 0, [], sgX8_in),
  (.ifCond .eq 7, 16, 10, 12, 0, 0, [], sg0),
  (.iconst 1, 19, 11, 0, 0, 1, [], sg0),
  (.goto 4, 20, 12, 13, 0, 0, [], sg0),
  (.iconst 0, 23, 13, 0, 0, 0, [], sg0),
  (.ireturn, 24, 14, 0, 0, 0, [], sg0),
  (.nop, 25, 15, 0, 0, 0, [], sg0)]
set_option maxRecDepth 100000 in
theorem okX8_isSo : Chk sgX8_isSo kX8_isSo := ⟨by decide +kernel, And.intro sgSX8_in (And.intro sgSX8_in trivial), tb_l2 [(4, 95), (4, 95)] (by decide +kernel) (by decide +kernel), nw_l2 [] (by decide +kernel) (by decide +kernel), by decide +kernel⟩
set_option maxRecDepth 100000 in
def kX8_speaker : List Row := [(.iload_n 1, 0, 1, 0, 0, 0, [], sg0),
  (.iload_n 2, 1, 2, 0, 0, 0, [], sg0),
  (.invokestatic 181, 2, 3, 0, 0, 0, [], sgX8_isSo),
  (.ifCond .ne 6, 5, 4, 6, 0, 0, [], sg0),
  (.bipush (-2), 8, 5, 0, 0, (-2), [], sg0),
  (.ireturn, 10, 6, 0, 0, 0, [], sg0),
  (.aload_n 0, 11, 7, 0, 0, 0, [], sg0),
  (.getfield 73, 12, 8, 8, 0, 0, [], sg0),
  (.iconst 5, 15, 9, 0, 0, 5, [], sg0),
  (.if_icmp .ne 6, 16, 10, 12, 0, 0, [], sg0),
  (.bipush (-4), 19, 11, 0, 0, (-4), [], sg0),
  (.ireturn, 21, 12, 0, 0, 0, [], sg0),
  (.aload_n 0, 22, 13, 0, 0, 0, [], sg0),
  (.getfield 7, 23, 14, 8, 1, 0, [], sg0),
  (.aload_n 0, 26, 15, 0, 0, 0, [], sg0),
  (.getfield 73, 27, 16, 8, 0, 0, [], sg0),
  (.iload_n 1, 30, 17, 0, 0, 0, [], sg0),
  (.iastore, 31, 18, 0, 0, 0, [], sg0),
  (.aload_n 0, 32, 19, 0, 0, 0, [], sg0),
  (.getfield 13, 33, 20, 8, 2, 0, [], sg0),
  (.aload_n 0, 36, 21, 0, 0, 0, [], sg0),
  (.getfield 73, 37, 22, 8, 0, 0, [], sg0),
  (.iload_n 2, 40, 23, 0, 0, 0, [], sg0),
  (.iastore, 41, 24, 0, 0, 0, [], sg0),
  (.aload_n 0, 42, 25, 0, 0, 0, [], sg0),
  (.dup, 43, 26, 0, 0, 0, [], sg0),
  (.getfield 73, 44, 27, 8, 0, 0, [], sg0),
  (.iconst 1, 47, 28, 0, 0, 1, [], sg0),
  (.iadd, 48, 29, 0, 0, 0, [], sg0),
  (.putfield 73, 49, 30, 8, 0, 0, [], sg0),
  (.aload_n 0, 52, 31, 0, 0, 0, [], sg0),
  (.getfield 73, 53, 32, 8, 0, 0, [], sg0),
  (.iconst 1, 56, 33, 0, 0, 1, [], sg0),
  (.isub, 57, 34, 0, 0, 0, [], sg0),
  (.ireturn, 58, 35, 0, 0, 0, [], sg0),
  (.nop, 59, 36, 0, 0, 0, [], sg0)]
set_option maxRecDepth 100000 in
theorem okX8_speaker : Chk sgX8_speaker kX8_speaker := ⟨by decide +kernel, And.intro sgSX8_isSo trivial, tb_l2 [(5, 66), (4, 134), (4, 135), (4, 134), (4, 136), (4, 134), (4, 134), (4, 134), (4, 134)] (by decide +kernel) (by decide +kernel), nw_l2 [] (by decide +kernel) (by decide +kernel), by decide +kernel⟩
set_option maxRecDepth 100000 in
def kX8_turn : List Row := [(.aload_n 0, 0, 1, 0, 0, 0, [], sg0),
  (.iload_n 1, 1, 2, 0, 0, 0, [], sg0),
  (.invokevirtual 185, 2, 3, 8, 0, 0, [], sgX8_isSpeaker),
  (.ifCond .ne 6, 5, 4, 6, 0, 0, [], sg0),
  (.bipush (-5), 8, 5, 0, 0, (-5), [], sg0),
  (.ireturn, 10, 6, 0, 0, 0, [], sg0),
  (.iload_n 2, 11, 7, 0, 0, 0, [], sg0),
  (.iload_n 3, 12, 8, 0, 0, 0, [], sg0),
  (.invokestatic 181, 13, 9, 0, 0, 0, [], sgX8_isSo),
  (.ifCond .ne 6, 16, 10, 12, 0, 0, [], sg0),
  (.bipush (-7), 19, 11, 0, 0, (-7), [], sg0),
  (.ireturn, 21, 12, 0, 0, 0, [], sg0),
  (.aload_n 0, 22, 13, 0, 0, 0, [], sg0),
  (.getfield 7, 23, 14, 8, 1, 0, [], sg0),
  (.iload_n 1, 26, 15, 0, 0, 0, [], sg0),
  (.iaload, 27, 16, 0, 0, 0, [], sg0),
  (.istore 4, 28, 17, 0, 0, 0, [], sg0),
  (.aload_n 0, 30, 18, 0, 0, 0, [], sg0),
  (.getfield 7, 31, 19, 8, 1, 0, [], sg0),
  (.iload_n 1, 34, 20, 0, 0, 0, [], sg0),
  (.iload_n 2, 35, 21, 0, 0, 0, [], sg0),
  (.iastore, 36, 22, 0, 0, 0, [], sg0),
  (.aload_n 0, 37, 23, 0, 0, 0, [], sg0),
  (.getfield 13, 38, 24, 8, 2, 0, [], sg0),
  (.iload_n 1, 41, 25, 0, 0, 0, [], sg0),
  (.iload_n 3, 42, 26, 0, 0, 0, [], sg0),
  (.iastore, 43, 27, 0, 0, 0, [], sg0),
  (.iload 4, 44, 28, 0, 0, 0, [], sg0),
  (.ireturn, 46, 29, 0, 0, 0, [], sg0),
  (.nop, 47, 30, 0, 0, 0, [], sg0)]
set_option maxRecDepth 100000 in
theorem okX8_turn : Chk sgX8_turn kX8_turn := ⟨by decide +kernel, And.intro sgVX8_isSpeaker (And.intro sgSX8_isSo trivial), tb_l2 [(5, 73), (5, 66), (4, 135), (4, 135), (4, 136)] (by decide +kernel) (by decide +kernel), nw_l2 [] (by decide +kernel) (by decide +kernel), by decide +kernel⟩
set_option maxRecDepth 100000 in
def kX8_told : List Row := [(.aload_n 0, 0, 1, 0, 0, 0, [], sg0),
  (.iload_n 1, 1, 2, 0, 0, 0, [], sg0),
  (.invokevirtual 185, 2, 3, 8, 0, 0, [], sgX8_isSpeaker),
  (.ifCond .ne 6, 5, 4, 6, 0, 0, [], sg0),
  (.bipush (-5), 8, 5, 0, 0, (-5), [], sg0),
  (.ireturn, 10, 6, 0, 0, 0, [], sg0),
  (.iload_n 2, 11, 7, 0, 0, 0, [], sg0),
  (.tableswitch 58 0 2 #[28, 35, 42], 12, 8, 28, 0, 0, [8, 13, 18], sg0),
  (.aload_n 0, 40, 9, 0, 0, 0, [], sg0),
  (.getfield 7, 41, 10, 8, 1, 0, [], sg0),
  (.iload_n 1, 44, 11, 0, 0, 0, [], sg0),
  (.iaload, 45, 12, 0, 0, 0, [], sg0),
  (.ireturn, 46, 13, 0, 0, 0, [], sg0),
  (.aload_n 0, 47, 14, 0, 0, 0, [], sg0),
  (.getfield 13, 48, 15, 8, 2, 0, [], sg0),
  (.iload_n 1, 51, 16, 0, 0, 0, [], sg0),
  (.iaload, 52, 17, 0, 0, 0, [], sg0),
  (.ireturn, 53, 18, 0, 0, 0, [], sg0),
  (.aload_n 0, 54, 19, 0, 0, 0, [], sg0),
  (.getfield 7, 55, 20, 8, 1, 0, [], sg0),
  (.iload_n 1, 58, 21, 0, 0, 0, [], sg0),
  (.iaload, 59, 22, 0, 0, 0, [], sg0),
  (.iconst 5, 60, 23, 0, 0, 5, [], sg0),
  (.if_icmp .ne 7, 61, 24, 26, 0, 0, [], sg0),
  (.iconst 1, 64, 25, 0, 0, 1, [], sg0),
  (.goto 4, 65, 26, 27, 0, 0, [], sg0),
  (.iconst 0, 68, 27, 0, 0, 0, [], sg0),
  (.ireturn, 69, 28, 0, 0, 0, [], sg0),
  (.bipush (-7), 70, 29, 0, 0, (-7), [], sg0),
  (.ireturn, 72, 30, 0, 0, 0, [], sg0),
  (.nop, 73, 31, 0, 0, 0, [], sg0)]
set_option maxRecDepth 100000 in
theorem okX8_told : Chk sgX8_told kX8_told := ⟨by decide +kernel, And.intro sgVX8_isSpeaker trivial, tb_l2 [(5, 73), (4, 135), (4, 136), (4, 135)] (by decide +kernel) (by decide +kernel), nw_l2 [] (by decide +kernel) (by decide +kernel), by decide +kernel⟩
set_option maxRecDepth 100000 in
def kX8_say : List Row := [(.aload_n 0, 0, 1, 0, 0, 0, [], sg0),
  (.iload_n 1, 1, 2, 0, 0, 0, [], sg0),
  (.invokevirtual 185, 2, 3, 8, 0, 0, [], sgX8_isSpeaker),
  (.ifCond .eq 11, 5, 4, 8, 0, 0, [], sg0),
  (.aload_n 0, 8, 5, 0, 0, 0, [], sg0),
  (.iload_n 2, 9, 6, 0, 0, 0, [], sg0),
  (.invokevirtual 163, 10, 7, 8, 0, 0, [], sgX8_isOfTexts),
  (.ifCond .ne 6, 13, 8, 10, 0, 0, [], sg0),
  (.bipush (-5), 16, 9, 0, 0, (-5), [], sg0),
  (.ireturn, 18, 10, 0, 0, 0, [], sg0),
  (.iload_n 3, 19, 11, 0, 0, 0, [], sg0),
  (.iconst 0, 20, 12, 0, 0, 0, [], sg0),
  (.iconst 1, 21, 13, 0, 0, 1, [], sg0),
  (.invokestatic 76, 22, 14, 0, 0, 0, [], sgX8_in),
  (.ifCond .ne 6, 25, 15, 17, 0, 0, [], sg0),
  (.bipush (-7), 28, 16, 0, 0, (-7), [], sg0),
  (.ireturn, 30, 17, 0, 0, 0, [], sg0),
  (.aload_n 0, 31, 18, 0, 0, 0, [], sg0),
  (.getfield 87, 32, 19, 8, 3, 0, [], sg0),
  (.bipush 12, 35, 20, 0, 0, 12, [], sg0),
  (.if_icmp .ne 6, 37, 21, 23, 0, 0, [], sg0),
  (.bipush (-4), 40, 22, 0, 0, (-4), [], sg0),
  (.ireturn, 42, 23, 0, 0, 0, [], sg0),
  (.aload_n 0, 43, 24, 0, 0, 0, [], sg0),
  (.getfield 16, 44, 25, 8, 4, 0, [], sg0),
  (.iconst 3, 47, 26, 0, 0, 3, [], sg0),
  (.aload_n 0, 48, 27, 0, 0, 0, [], sg0),
  (.getfield 87, 49, 28, 8, 3, 0, [], sg0),
  (.imul, 52, 29, 0, 0, 0, [], sg0),
  (.iload_n 1, 53, 30, 0, 0, 0, [], sg0),
  (.iastore, 54, 31, 0, 0, 0, [], sg0),
  (.aload_n 0, 55, 32, 0, 0, 0, [], sg0),
  (.getfield 16, 56, 33, 8, 4, 0, [], sg0),
  (.iconst 3, 59, 34, 0, 0, 3, [], sg0),
  (.aload_n 0, 60, 35, 0, 0, 0, [], sg0),
  (.getfield 87, 61, 36, 8, 3, 0, [], sg0),
  (.imul, 64, 37, 0, 0, 0, [], sg0),
  (.iconst 1, 65, 38, 0, 0, 1, [], sg0),
  (.iadd, 66, 39, 0, 0, 0, [], sg0),
  (.iload_n 2, 67, 40, 0, 0, 0, [], sg0),
  (.iastore, 68, 41, 0, 0, 0, [], sg0),
  (.aload_n 0, 69, 42, 0, 0, 0, [], sg0),
  (.getfield 16, 70, 43, 8, 4, 0, [], sg0),
  (.iconst 3, 73, 44, 0, 0, 3, [], sg0),
  (.aload_n 0, 74, 45, 0, 0, 0, [], sg0),
  (.getfield 87, 75, 46, 8, 3, 0, [], sg0),
  (.imul, 78, 47, 0, 0, 0, [], sg0),
  (.iconst 2, 79, 48, 0, 0, 2, [], sg0),
  (.iadd, 80, 49, 0, 0, 0, [], sg0),
  (.iload_n 3, 81, 50, 0, 0, 0, [], sg0),
  (.iastore, 82, 51, 0, 0, 0, [], sg0),
  (.aload_n 0, 83, 52, 0, 0, 0, [], sg0),
  (.dup, 84, 53, 0, 0, 0, [], sg0),
  (.getfield 87, 85, 54, 8, 3, 0, [], sg0),
  (.iconst 1, 88, 55, 0, 0, 1, [], sg0),
  (.iadd, 89, 56, 0, 0, 0, [], sg0),
  (.putfield 87, 90, 57, 8, 3, 0, [], sg0),
  (.aload_n 0, 93, 58, 0, 0, 0, [], sg0),
  (.getfield 87, 94, 59, 8, 3, 0, [], sg0),
  (.iconst 1, 97, 60, 0, 0, 1, [], sg0),
  (.isub, 98, 61, 0, 0, 0, [], sg0),
  (.ireturn, 99, 62, 0, 0, 0, [], sg0),
  (.nop, 100, 63, 0, 0, 0, [], sg0)]
set_option maxRecDepth 100000 in
theorem okX8_say : Chk sgX8_say kX8_say := ⟨by decide +kernel, And.intro sgVX8_isSpeaker (And.intro sgVX8_isOfTexts (And.intro sgSX8_in trivial)), tb_l2 [(5, 73), (5, 27), (4, 95), (4, 137), (4, 138), (4, 137), (4, 138), (4, 137), (4, 138), (4, 137), (4, 137), (4, 137), (4, 137)] (by decide +kernel) (by decide +kernel), nw_l2 [] (by decide +kernel) (by decide +kernel), by decide +kernel⟩
set_option maxRecDepth 100000 in
def kX8_unsay : List Row := [(.aload_n 0, 0, 1, 0, 0, 0, [], sg0),
  (.getfield 87, 1, 2, 8, 3, 0, [], sg0),
  (.ifCond .ne 6, 4, 3, 5, 0, 0, [], sg0),
  (.bipush (-3), 7, 4, 0, 0, (-3), [], sg0),
  (.ireturn, 9, 5, 0, 0, 0, [], sg0),
  (.aload_n 0, 10, 6, 0, 0, 0, [], sg0),
  (.dup, 11, 7, 0, 0, 0, [], sg0),
  (.getfield 87, 12, 8, 8, 3, 0, [], sg0),
  (.iconst 1, 15, 9, 0, 0, 1, [], sg0),
  (.isub, 16, 10, 0, 0, 0, [], sg0),
  (.putfield 87, 17, 11, 8, 3, 0, [], sg0),
  (.aload_n 0, 20, 12, 0, 0, 0, [], sg0),
  (.getfield 87, 21, 13, 8, 3, 0, [], sg0),
  (.ireturn, 24, 14, 0, 0, 0, [], sg0),
  (.nop, 25, 15, 0, 0, 0, [], sg0)]
set_option maxRecDepth 100000 in
theorem okX8_unsay : Chk sgX8_unsay kX8_unsay := ⟨by decide +kernel, trivial, tb_l2 [(4, 137), (4, 137), (4, 137), (4, 137)] (by decide +kernel) (by decide +kernel), nw_l2 [] (by decide +kernel) (by decide +kernel), by decide +kernel⟩
set_option maxRecDepth 100000 in
def kX8_said : List Row := [(.iload_n 1, 0, 1, 0, 0, 0, [], sg0),
  (.iconst 0, 1, 2, 0, 0, 0, [], sg0),
  (.aload_n 0, 2, 3, 0, 0, 0, [], sg0),
  (.getfield 87, 3, 4, 8, 3, 0, [], sg0),
  (.iconst 1, 6, 5, 0, 0, 1, [], sg0),
  (.isub, 7, 6, 0, 0, 0, [], sg0),
  (.invokestatic 76, 8, 7, 0, 0, 0, [], sgX8_in),
  (.ifCond .ne 6, 11, 8, 10, 0, 0, [], sg0),
  (.bipush (-5), 14, 9, 0, 0, (-5), [], sg0),
  (.ireturn, 16, 10, 0, 0, 0, [], sg0),
  (.iload_n 2, 17, 11, 0, 0, 0, [], sg0),
  (.iconst 0, 18, 12, 0, 0, 0, [], sg0),
  (.iconst 2, 19, 13, 0, 0, 2, [], sg0),
  (.invokestatic 76, 20, 14, 0, 0, 0, [], sgX8_in),
  (.ifCond .eq 16, 23, 15, 24, 0, 0, [], sg0),
  (.aload_n 0, 26, 16, 0, 0, 0, [], sg0),
  (.getfield 16, 27, 17, 8, 4, 0, [], sg0),
  (.iconst 3, 30, 18, 0, 0, 3, [], sg0),
  (.iload_n 1, 31, 19, 0, 0, 0, [], sg0),
  (.imul, 32, 20, 0, 0, 0, [], sg0),
  (.iload_n 2, 33, 21, 0, 0, 0, [], sg0),
  (.iadd, 34, 22, 0, 0, 0, [], sg0),
  (.iaload, 35, 23, 0, 0, 0, [], sg0),
  (.goto 5, 36, 24, 25, 0, 0, [], sg0),
  (.bipush (-7), 39, 25, 0, 0, (-7), [], sg0),
  (.ireturn, 41, 26, 0, 0, 0, [], sg0),
  (.nop, 42, 27, 0, 0, 0, [], sg0)]
set_option maxRecDepth 100000 in
theorem okX8_said : Chk sgX8_said kX8_said := ⟨by decide +kernel, And.intro sgSX8_in (And.intro sgSX8_in trivial), tb_l2 [(4, 137), (4, 95), (4, 95), (4, 138)] (by decide +kernel) (by decide +kernel), nw_l2 [] (by decide +kernel) (by decide +kernel), by decide +kernel⟩
set_option maxRecDepth 100000 in
def kX8_canSay : List Row := [(.aload_n 0, 0, 1, 0, 0, 0, [], sg0),
  (.getfield 58, 1, 2, 8, 32, 0, [], sg0),
  (.bipush 10, 4, 3, 0, 0, 10, [], sg0),
  (.iload 4, 6, 4, 0, 0, 0, [], sg0),
  (.imul, 8, 5, 0, 0, 0, [], sg0),
  (.iconst 2, 9, 6, 0, 0, 2, [], sg0),
  (.iload_n 3, 10, 7, 0, 0, 0, [], sg0),
  (.imul, 11, 8, 0, 0, 0, [], sg0),
  (.iadd, 12, 9, 0, 0, 0, [], sg0),
  (.iload 5, 13, 10, 0, 0, 0, [], sg0),
  (.iadd, 15, 11, 0, 0, 0, [], sg0),
  (.laload, 16, 12, 0, 0, 0, [], sg0),
  (.lstore 7, 17, 13, 0, 0, 0, [], sg0),
  (.aload_n 0, 19, 14, 0, 0, 0, [], sg0),
  (.getfield 58, 20, 15, 8, 32, 0, [], sg0),
  (.bipush 10, 23, 16, 0, 0, 10, [], sg0),
  (.iload 4, 25, 17, 0, 0, 0, [], sg0),
  (.imul, 27, 18, 0, 0, 0, [], sg0),
  (.iconst 2, 28, 19, 0, 0, 2, [], sg0),
  (.iload_n 3, 29, 20, 0, 0, 0, [], sg0),
  (.imul, 30, 21, 0, 0, 0, [], sg0),
  (.iadd, 31, 22, 0, 0, 0, [], sg0),
  (.iconst 1, 32, 23, 0, 0, 1, [], sg0),
  (.iadd, 33, 24, 0, 0, 0, [], sg0),
  (.iload 5, 34, 25, 0, 0, 0, [], sg0),
  (.isub, 36, 26, 0, 0, 0, [], sg0),
  (.laload, 37, 27, 0, 0, 0, [], sg0),
  (.lstore 9, 38, 28, 0, 0, 0, [], sg0),
  (.lload 7, 40, 29, 0, 0, 0, [], sg0),
  (.lload 9, 42, 30, 0, 0, 0, [], sg0),
  (.lxor, 44, 31, 0, 0, 0, [], sg0),
  (.lstore 11, 45, 32, 0, 0, 0, [], sg0),
  (.iload_n 1, 47, 33, 0, 0, 0, [], sg0),
  (.iconst 3, 48, 34, 0, 0, 3, [], sg0),
  (.if_icmp .ne 16, 49, 35, 43, 0, 0, [], sg0),
  (.iload 6, 52, 36, 0, 0, 0, [], sg0),
  (.iload_n 2, 54, 37, 0, 0, 0, [], sg0),
  (.iconst 2, 55, 38, 0, 0, 2, [], sg0),
  (.iadd, 56, 39, 0, 0, 0, [], sg0),
  (.irem, 57, 40, 0, 0, 0, [], sg0),
  (.ifCond .ne 7, 58, 41, 43, 0, 0, [], sg0),
  (.iconst 1, 61, 42, 0, 0, 1, [], sg0),
  (.goto 4, 62, 43, 44, 0, 0, [], sg0),
  (.iconst 0, 65, 44, 0, 0, 0, [], sg0),
  (.istore 13, 66, 45, 0, 0, 0, [], sg0),
  (.iload_n 1, 68, 46, 0, 0, 0, [], sg0),
  (.iconst 1, 69, 47, 0, 0, 1, [], sg0),
  (.if_icmp .eq 8, 70, 48, 51, 0, 0, [], sg0),
  (.iload_n 1, 73, 49, 0, 0, 0, [], sg0),
  (.iconst 3, 74, 50, 0, 0, 3, [], sg0),
  (.if_icmp .ne 19, 75, 51, 59, 0, 0, [], sg0),
  (.lload 11, 78, 52, 0, 0, 0, [], sg0),
  (.iload 13, 80, 53, 0, 0, 0, [], sg0),
  (.ifCond .eq 8, 82, 54, 56, 0, 0, [], sg0),
  (.lload 9, 85, 55, 0, 0, 0, [], sg0),
  (.goto 5, 87, 56, 57, 0, 0, [], sg0),
  (.lload 7, 90, 57, 0, 0, 0, [], sg0),
  (.land, 92, 58, 0, 0, 0, [], sg0),
  (.lreturn, 93, 59, 0, 0, 0, [], sg0),
  (.iload_n 1, 94, 60, 0, 0, 0, [], sg0),
  (.iconst 2, 95, 61, 0, 0, 2, [], sg0),
  (.if_icmp .eq 8, 96, 62, 65, 0, 0, [], sg0),
  (.iload_n 1, 99, 63, 0, 0, 0, [], sg0),
  (.iconst 5, 100, 64, 0, 0, 5, [], sg0),
  (.if_icmp .ne 42, 101, 65, 87, 0, 0, [], sg0),
  (.lload 11, 104, 66, 0, 0, 0, [], sg0),
  (.lload 9, 106, 67, 0, 0, 0, [], sg0),
  (.land, 108, 68, 0, 0, 0, [], sg0),
  (.iload_n 1, 109, 69, 0, 0, 0, [], sg0),
  (.iconst 5, 110, 70, 0, 0, 5, [], sg0),
  (.if_icmp .ne 29, 111, 71, 84, 0, 0, [], sg0),
  (.iload 6, 114, 72, 0, 0, 0, [], sg0),
  (.iload_n 2, 116, 73, 0, 0, 0, [], sg0),
  (.if_icmp .lt 23, 117, 74, 84, 0, 0, [], sg0),
  (.ldc2_w 179, 120, 75, 0, 0, 4294967295, [], sg0),
  (.lload 7, 123, 76, 0, 0, 0, [], sg0),
  (.ldc2_w 188, 125, 77, 0, 0, (-1), [], sg0),
  (.lxor, 128, 78, 0, 0, 0, [], sg0),
  (.land, 129, 79, 0, 0, 0, [], sg0),
  (.lload 9, 130, 80, 0, 0, 0, [], sg0),
  (.ldc2_w 188, 132, 81, 0, 0, (-1), [], sg0),
  (.lxor, 135, 82, 0, 0, 0, [], sg0),
  (.land, 136, 83, 0, 0, 0, [], sg0),
  (.goto 4, 137, 84, 85, 0, 0, [], sg0),
  (.lconst 0, 140, 85, 0, 0, 0, [], sg0),
  (.lor, 141, 86, 0, 0, 0, [], sg0),
  (.lreturn, 142, 87, 0, 0, 0, [], sg0),
  (.iload_n 1, 143, 88, 0, 0, 0, [], sg0),
  (.iconst 4, 144, 89, 0, 0, 4, [], sg0),
  (.if_icmp .ne 16, 145, 90, 96, 0, 0, [], sg0),
  (.ldc2_w 179, 148, 91, 0, 0, 4294967295, [], sg0),
  (.lload 11, 151, 92, 0, 0, 0, [], sg0),
  (.ldc2_w 188, 153, 93, 0, 0, (-1), [], sg0),
  (.lxor, 156, 94, 0, 0, 0, [], sg0),
  (.land, 157, 95, 0, 0, 0, [], sg0),
  (.goto 5, 158, 96, 97, 0, 0, [], sg0),
  (.lload 11, 161, 97, 0, 0, 0, [], sg0),
  (.lreturn, 163, 98, 0, 0, 0, [], sg0),
  (.nop, 164, 99, 0, 0, 0, [], sg0)]
set_option maxRecDepth 100000 in
theorem okX8_canSay : Chk sgX8_canSay kX8_canSay := ⟨by decide +kernel, trivial, tb_l2 [(4, 166), (4, 166), (5, 61), (5, 125), (5, 125), (5, 61), (5, 125)] (by decide +kernel) (by decide +kernel), nw_l2 [] (by decide +kernel) (by decide +kernel), by decide +kernel⟩
set_option maxRecDepth 100000 in
def kX8_fits : List Row := [(.aload_n 0, 0, 1, 0, 0, 0, [], sg0),
  (.aload_n 0, 1, 2, 0, 0, 0, [], sg0),
  (.getfield 7, 2, 3, 8, 1, 0, [], sg0),
  (.iload_n 1, 5, 4, 0, 0, 0, [], sg0),
  (.iaload, 6, 5, 0, 0, 0, [], sg0),
  (.aload_n 0, 7, 6, 0, 0, 0, [], sg0),
  (.getfield 13, 8, 7, 8, 2, 0, [], sg0),
  (.iload_n 1, 11, 8, 0, 0, 0, [], sg0),
  (.iaload, 12, 9, 0, 0, 0, [], sg0),
  (.iload_n 1, 13, 10, 0, 0, 0, [], sg0),
  (.iload_n 2, 14, 11, 0, 0, 0, [], sg0),
  (.iload_n 3, 15, 12, 0, 0, 0, [], sg0),
  (.iload 4, 16, 13, 0, 0, 0, [], sg0),
  (.invokevirtual 190, 18, 14, 8, 0, 0, [], sgX8_canSay),
  (.lreturn, 21, 15, 0, 0, 0, [], sg0),
  (.nop, 22, 16, 0, 0, 0, [], sg0)]
set_option maxRecDepth 100000 in
theorem okX8_fits : Chk sgX8_fits kX8_fits := ⟨by decide +kernel, And.intro sgVX8_canSay trivial, tb_l2 [(4, 135), (4, 136), (5, 121)] (by decide +kernel) (by decide +kernel), nw_l2 [] (by decide +kernel) (by decide +kernel), by decide +kernel⟩
set_option maxRecDepth 100000 in
def kX8_fitsSaying : List Row := [(.aload_n 0, 0, 1, 0, 0, 0, [], sg0),
  (.aload_n 0, 1, 2, 0, 0, 0, [], sg0),
  (.getfield 16, 2, 3, 8, 4, 0, [], sg0),
  (.iconst 3, 5, 4, 0, 0, 3, [], sg0),
  (.iload_n 1, 6, 5, 0, 0, 0, [], sg0),
  (.imul, 7, 6, 0, 0, 0, [], sg0),
  (.iaload, 8, 7, 0, 0, 0, [], sg0),
  (.aload_n 0, 9, 8, 0, 0, 0, [], sg0),
  (.getfield 16, 10, 9, 8, 4, 0, [], sg0),
  (.iconst 3, 13, 10, 0, 0, 3, [], sg0),
  (.iload_n 1, 14, 11, 0, 0, 0, [], sg0),
  (.imul, 15, 12, 0, 0, 0, [], sg0),
  (.iconst 1, 16, 13, 0, 0, 1, [], sg0),
  (.iadd, 17, 14, 0, 0, 0, [], sg0),
  (.iaload, 18, 15, 0, 0, 0, [], sg0),
  (.aload_n 0, 19, 16, 0, 0, 0, [], sg0),
  (.getfield 16, 20, 17, 8, 4, 0, [], sg0),
  (.iconst 3, 23, 18, 0, 0, 3, [], sg0),
  (.iload_n 1, 24, 19, 0, 0, 0, [], sg0),
  (.imul, 25, 20, 0, 0, 0, [], sg0),
  (.iconst 2, 26, 21, 0, 0, 2, [], sg0),
  (.iadd, 27, 22, 0, 0, 0, [], sg0),
  (.iaload, 28, 23, 0, 0, 0, [], sg0),
  (.iload_n 1, 29, 24, 0, 0, 0, [], sg0),
  (.invokevirtual 194, 30, 25, 8, 0, 0, [], sgX8_fits),
  (.lreturn, 33, 26, 0, 0, 0, [], sg0),
  (.nop, 34, 27, 0, 0, 0, [], sg0)]
set_option maxRecDepth 100000 in
theorem okX8_fitsSaying : Chk sgX8_fitsSaying kX8_fitsSaying := ⟨by decide +kernel, And.intro sgVX8_fits trivial, tb_l2 [(4, 138), (4, 138), (4, 138), (5, 117)] (by decide +kernel) (by decide +kernel), nw_l2 [] (by decide +kernel) (by decide +kernel), by decide +kernel⟩
set_option maxRecDepth 100000 in
def kX8_worldsOf : List Row := [(.aload_n 0, 0, 1, 0, 0, 0, [], sg0),
  (.aload_n 0, 1, 2, 0, 0, 0, [], sg0),
  (.getfield 90, 2, 3, 8, 10, 0, [], sg0),
  (.invokevirtual 198, 5, 4, 8, 0, 0, [], sgX8_once),
  (.lstore_n 2, 8, 5, 0, 0, 0, [], sg0),
  (.iconst 0, 9, 6, 0, 0, 0, [], sg0),
  (.istore 4, 10, 7, 0, 0, 0, [], sg0),
  (.iload 4, 12, 8, 0, 0, 0, [], sg0),
  (.iload_n 1, 14, 9, 0, 0, 0, [], sg0),
  (.if_icmp .ge 18, 15, 10, 18, 0, 0, [], sg0),
  (.lload_n 2, 18, 11, 0, 0, 0, [], sg0),
  (.aload_n 0, 19, 12, 0, 0, 0, [], sg0),
  (.iload 4, 20, 13, 0, 0, 0, [], sg0),
  (.invokevirtual 202, 22, 14, 8, 0, 0, [], sgX8_fitsSaying),
  (.land, 25, 15, 0, 0, 0, [], sg0),
  (.lstore_n 2, 26, 16, 0, 0, 0, [], sg0),
  (.iinc 4 1, 27, 17, 0, 0, 1, [], sg0),
  (.goto (-18), 30, 18, 7, 0, 0, [], sg0),
  (.lload_n 2, 33, 19, 0, 0, 0, [], sg0),
  (.lreturn, 34, 20, 0, 0, 0, [], sg0),
  (.nop, 35, 21, 0, 0, 0, [], sg0)]
set_option maxRecDepth 100000 in
theorem okX8_worldsOf : Chk sgX8_worldsOf kX8_worldsOf := ⟨by decide +kernel, And.intro sgVX8_once (And.intro sgVX8_fitsSaying trivial), tb_l2 [(4, 144), (5, 109), (5, 113)] (by decide +kernel) (by decide +kernel), nw_l2 [] (by decide +kernel) (by decide +kernel), by decide +kernel⟩
set_option maxRecDepth 100000 in
def kX8_worldsNow : List Row := [(.aload_n 0, 0, 1, 0, 0, 0, [], sg0),
  (.invokevirtual 205, 1, 2, 8, 0, 0, [], sgX8_reads),
  (.aload_n 0, 4, 3, 0, 0, 0, [], sg0),
  (.aload_n 0, 5, 4, 0, 0, 0, [], sg0),
  (.getfield 87, 6, 5, 8, 3, 0, [], sg0),
  (.invokevirtual 208, 9, 6, 8, 0, 0, [], sgX8_worldsOf),
  (.lreturn, 12, 7, 0, 0, 0, [], sg0),
  (.nop, 13, 8, 0, 0, 0, [], sg0)]
set_option maxRecDepth 100000 in
theorem okX8_worldsNow : Chk sgX8_worldsNow kX8_worldsNow := ⟨by decide +kernel, And.intro sgVX8_reads (And.intro sgVX8_worldsOf trivial), tb_l2 [(5, 101), (4, 137), (5, 105)] (by decide +kernel) (by decide +kernel), nw_l2 [] (by decide +kernel) (by decide +kernel), by decide +kernel⟩
set_option maxRecDepth 100000 in
def kX8_worlds : List Row := [(.aload_n 0, 0, 1, 0, 0, 0, [], sg0),
  (.invokevirtual 211, 1, 2, 8, 0, 0, [], sgX8_worldsNow),
  (.lreturn, 4, 3, 0, 0, 0, [], sg0),
  (.nop, 5, 4, 0, 0, 0, [], sg0)]
set_option maxRecDepth 100000 in
theorem okX8_worlds : Chk sgX8_worlds kX8_worlds := ⟨by decide +kernel, And.intro sgVX8_worldsNow trivial, tb_l2 [(5, 97)] (by decide +kernel) (by decide +kernel), nw_l2 [] (by decide +kernel) (by decide +kernel), by decide +kernel⟩
set_option maxRecDepth 100000 in
def kX8_allIn : List Row := [(.lload_n 0, 0, 1, 0, 0, 0, [], sg0),
  (.lconst 0, 1, 2, 0, 0, 0, [], sg0),
  (.lcmp, 2, 3, 0, 0, 0, [], sg0),
  (.ifCond .ne 7, 3, 4, 6, 0, 0, [], sg0),
  (.iconst 0, 6, 5, 0, 0, 0, [], sg0),
  (.goto 5, 7, 6, 7, 0, 0, [], sg0),
  (.bipush 31, 10, 7, 0, 0, 31, [], sg0),
  (.istore_n 2, 12, 8, 0, 0, 0, [], sg0),
  (.iconst 0, 13, 9, 0, 0, 0, [], sg0),
  (.istore_n 3, 14, 10, 0, 0, 0, [], sg0),
  (.iload_n 3, 15, 11, 0, 0, 0, [], sg0),
  (.bipush 32, 16, 12, 0, 0, 32, [], sg0),
  (.if_icmp .ge 26, 18, 13, 25, 0, 0, [], sg0),
  (.iload_n 2, 21, 14, 0, 0, 0, [], sg0),
  (.lload_n 0, 22, 15, 0, 0, 0, [], sg0),
  (.iload_n 3, 23, 16, 0, 0, 0, [], sg0),
  (.invokestatic 83, 24, 17, 0, 0, 0, [], sgX8_has),
  (.ifCond .eq 7, 27, 18, 20, 0, 0, [], sg0),
  (.iload_n 3, 30, 19, 0, 0, 0, [], sg0),
  (.goto 5, 31, 20, 21, 0, 0, [], sg0),
  (.bipush 31, 34, 21, 0, 0, 31, [], sg0),
  (.iand, 36, 22, 0, 0, 0, [], sg0),
  (.istore_n 2, 37, 23, 0, 0, 0, [], sg0),
  (.iinc 3 1, 38, 24, 0, 0, 1, [], sg0),
  (.goto (-26), 41, 25, 10, 0, 0, [], sg0),
  (.iload_n 2, 44, 26, 0, 0, 0, [], sg0),
  (.ireturn, 45, 27, 0, 0, 0, [], sg0),
  (.nop, 46, 28, 0, 0, 0, [], sg0)]
set_option maxRecDepth 100000 in
theorem okX8_allIn : Chk sgX8_allIn kX8_allIn := ⟨by decide +kernel, And.intro sgSX8_has trivial, tb_l2 [(5, 133)] (by decide +kernel) (by decide +kernel), nw_l2 [] (by decide +kernel) (by decide +kernel), by decide +kernel⟩
set_option maxRecDepth 100000 in
def kX8_noneIn : List Row := [(.lload_n 0, 0, 1, 0, 0, 0, [], sg0),
  (.lconst 0, 1, 2, 0, 0, 0, [], sg0),
  (.lcmp, 2, 3, 0, 0, 0, [], sg0),
  (.ifCond .ne 7, 3, 4, 6, 0, 0, [], sg0),
  (.iconst 0, 6, 5, 0, 0, 0, [], sg0),
  (.goto 5, 7, 6, 7, 0, 0, [], sg0),
  (.bipush 31, 10, 7, 0, 0, 31, [], sg0),
  (.istore_n 2, 12, 8, 0, 0, 0, [], sg0),
  (.iconst 0, 13, 9, 0, 0, 0, [], sg0),
  (.istore_n 3, 14, 10, 0, 0, 0, [], sg0),
  (.iload_n 3, 15, 11, 0, 0, 0, [], sg0),
  (.bipush 32, 16, 12, 0, 0, 32, [], sg0),
  (.if_icmp .ge 31, 18, 13, 29, 0, 0, [], sg0),
  (.iload_n 2, 21, 14, 0, 0, 0, [], sg0),
  (.lload_n 0, 22, 15, 0, 0, 0, [], sg0),
  (.iload_n 3, 23, 16, 0, 0, 0, [], sg0),
  (.invokestatic 83, 24, 17, 0, 0, 0, [], sgX8_has),
  (.ifCond .eq 12, 27, 18, 24, 0, 0, [], sg0),
  (.bipush 31, 30, 19, 0, 0, 31, [], sg0),
  (.iload_n 3, 32, 20, 0, 0, 0, [], sg0),
  (.iconst (-1), 33, 21, 0, 0, (-1), [], sg0),
  (.ixor, 34, 22, 0, 0, 0, [], sg0),
  (.iand, 35, 23, 0, 0, 0, [], sg0),
  (.goto 5, 36, 24, 25, 0, 0, [], sg0),
  (.bipush 31, 39, 25, 0, 0, 31, [], sg0),
  (.iand, 41, 26, 0, 0, 0, [], sg0),
  (.istore_n 2, 42, 27, 0, 0, 0, [], sg0),
  (.iinc 3 1, 43, 28, 0, 0, 1, [], sg0),
  (.goto (-31), 46, 29, 10, 0, 0, [], sg0),
  (.iload_n 2, 49, 30, 0, 0, 0, [], sg0),
  (.ireturn, 50, 31, 0, 0, 0, [], sg0),
  (.nop, 51, 32, 0, 0, 0, [], sg0)]
set_option maxRecDepth 100000 in
theorem okX8_noneIn : Chk sgX8_noneIn kX8_noneIn := ⟨by decide +kernel, And.intro sgSX8_has trivial, tb_l2 [(5, 133)] (by decide +kernel) (by decide +kernel), nw_l2 [] (by decide +kernel) (by decide +kernel), by decide +kernel⟩
set_option maxRecDepth 100000 in
def kX8_leastOf : List Row := [(.iconst 0, 0, 1, 0, 0, 0, [], sg0),
  (.istore_n 2, 1, 2, 0, 0, 0, [], sg0),
  (.iload_n 2, 2, 3, 0, 0, 0, [], sg0),
  (.bipush 32, 3, 4, 0, 0, 32, [], sg0),
  (.if_icmp .ge 19, 5, 5, 13, 0, 0, [], sg0),
  (.lload_n 0, 8, 6, 0, 0, 0, [], sg0),
  (.iload_n 2, 9, 7, 0, 0, 0, [], sg0),
  (.invokestatic 83, 10, 8, 0, 0, 0, [], sgX8_has),
  (.ifCond .eq 5, 13, 9, 11, 0, 0, [], sg0),
  (.iload_n 2, 16, 10, 0, 0, 0, [], sg0),
  (.ireturn, 17, 11, 0, 0, 0, [], sg0),
  (.iinc 2 1, 18, 12, 0, 0, 1, [], sg0),
  (.goto (-19), 21, 13, 2, 0, 0, [], sg0),
  (.iconst (-1), 24, 14, 0, 0, (-1), [], sg0),
  (.ireturn, 25, 15, 0, 0, 0, [], sg0),
  (.nop, 26, 16, 0, 0, 0, [], sg0)]
set_option maxRecDepth 100000 in
theorem okX8_leastOf : Chk sgX8_leastOf kX8_leastOf := ⟨by decide +kernel, And.intro sgSX8_has trivial, tb_l2 [(5, 133)] (by decide +kernel) (by decide +kernel), nw_l2 [] (by decide +kernel) (by decide +kernel), by decide +kernel⟩
set_option maxRecDepth 100000 in
def kX8_behind : List Row := [(.iload_n 1, 0, 1, 0, 0, 0, [], sg0),
  (.iconst 0, 1, 2, 0, 0, 0, [], sg0),
  (.aload_n 0, 2, 3, 0, 0, 0, [], sg0),
  (.getfield 87, 3, 4, 8, 3, 0, [], sg0),
  (.invokestatic 76, 6, 5, 0, 0, 0, [], sgX8_in),
  (.ifCond .ne 6, 9, 6, 8, 0, 0, [], sg0),
  (.bipush (-5), 12, 7, 0, 0, (-5), [], sg0),
  (.ireturn, 14, 8, 0, 0, 0, [], sg0),
  (.iload_n 2, 15, 9, 0, 0, 0, [], sg0),
  (.iconst 0, 16, 10, 0, 0, 0, [], sg0),
  (.iconst 3, 17, 11, 0, 0, 3, [], sg0),
  (.invokestatic 76, 18, 12, 0, 0, 0, [], sgX8_in),
  (.ifCond .ne 6, 21, 13, 15, 0, 0, [], sg0),
  (.bipush (-7), 24, 14, 0, 0, (-7), [], sg0),
  (.ireturn, 26, 15, 0, 0, 0, [], sg0),
  (.aload_n 0, 27, 16, 0, 0, 0, [], sg0),
  (.invokevirtual 205, 28, 17, 8, 0, 0, [], sgX8_reads),
  (.aload_n 0, 31, 18, 0, 0, 0, [], sg0),
  (.iload_n 1, 32, 19, 0, 0, 0, [], sg0),
  (.invokevirtual 208, 33, 20, 8, 0, 0, [], sgX8_worldsOf),
  (.lstore_n 3, 36, 21, 0, 0, 0, [], sg0),
  (.iload_n 2, 37, 22, 0, 0, 0, [], sg0),
  (.ifCond .ne 10, 38, 23, 26, 0, 0, [], sg0),
  (.lload_n 3, 41, 24, 0, 0, 0, [], sg0),
  (.invokestatic 215, 42, 25, 0, 0, 0, [], sgX8_bitsOf),
  (.goto 31, 45, 26, 40, 0, 0, [], sg0),
  (.iload_n 2, 48, 27, 0, 0, 0, [], sg0),
  (.iconst 1, 49, 28, 0, 0, 1, [], sg0),
  (.if_icmp .ne 10, 50, 29, 32, 0, 0, [], sg0),
  (.lload_n 3, 53, 30, 0, 0, 0, [], sg0),
  (.invokestatic 219, 54, 31, 0, 0, 0, [], sgX8_allIn),
  (.goto 19, 57, 32, 40, 0, 0, [], sg0),
  (.iload_n 2, 60, 33, 0, 0, 0, [], sg0),
  (.iconst 2, 61, 34, 0, 0, 2, [], sg0),
  (.if_icmp .ne 10, 62, 35, 38, 0, 0, [], sg0),
  (.lload_n 3, 65, 36, 0, 0, 0, [], sg0),
  (.invokestatic 222, 66, 37, 0, 0, 0, [], sgX8_noneIn),
  (.goto 7, 69, 38, 40, 0, 0, [], sg0),
  (.lload_n 3, 72, 39, 0, 0, 0, [], sg0),
  (.invokestatic 225, 73, 40, 0, 0, 0, [], sgX8_leastOf),
  (.ireturn, 76, 41, 0, 0, 0, [], sg0),
  (.nop, 77, 42, 0, 0, 0, [], sg0)]
set_option maxRecDepth 100000 in
theorem okX8_behind : Chk sgX8_behind kX8_behind := ⟨by decide +kernel, And.intro sgSX8_in (And.intro sgSX8_in (And.intro sgVX8_reads (And.intro sgVX8_worldsOf (And.intro sgSX8_bitsOf (And.intro sgSX8_allIn (And.intro sgSX8_noneIn (And.intro sgSX8_leastOf trivial))))))), tb_l2 [(4, 137), (4, 95), (4, 95), (5, 101), (5, 105), (5, 130), (5, 136), (5, 139), (5, 142)] (by decide +kernel) (by decide +kernel), nw_l2 [] (by decide +kernel) (by decide +kernel), by decide +kernel⟩
set_option maxRecDepth 100000 in
def kX8_cannot : List Row := [(.aload_n 0, 0, 1, 0, 0, 0, [], sg0),
  (.invokevirtual 205, 1, 2, 8, 0, 0, [], sgX8_reads),
  (.iconst 0, 4, 3, 0, 0, 0, [], sg0),
  (.istore_n 1, 5, 4, 0, 0, 0, [], sg0),
  (.iload_n 1, 6, 5, 0, 0, 0, [], sg0),
  (.aload_n 0, 7, 6, 0, 0, 0, [], sg0),
  (.getfield 87, 8, 7, 8, 3, 0, [], sg0),
  (.if_icmp .ge 23, 11, 8, 20, 0, 0, [], sg0),
  (.aload_n 0, 14, 9, 0, 0, 0, [], sg0),
  (.iload_n 1, 15, 10, 0, 0, 0, [], sg0),
  (.iconst 1, 16, 11, 0, 0, 1, [], sg0),
  (.iadd, 17, 12, 0, 0, 0, [], sg0),
  (.invokevirtual 208, 18, 13, 8, 0, 0, [], sgX8_worldsOf),
  (.lconst 0, 21, 14, 0, 0, 0, [], sg0),
  (.lcmp, 22, 15, 0, 0, 0, [], sg0),
  (.ifCond .ne 5, 23, 16, 18, 0, 0, [], sg0),
  (.iload_n 1, 26, 17, 0, 0, 0, [], sg0),
  (.ireturn, 27, 18, 0, 0, 0, [], sg0),
  (.iinc 1 1, 28, 19, 0, 0, 1, [], sg0),
  (.goto (-25), 31, 20, 4, 0, 0, [], sg0),
  (.iconst (-1), 34, 21, 0, 0, (-1), [], sg0),
  (.ireturn, 35, 22, 0, 0, 0, [], sg0),
  (.nop, 36, 23, 0, 0, 0, [], sg0)]
set_option maxRecDepth 100000 in
theorem okX8_cannot : Chk sgX8_cannot kX8_cannot := ⟨by decide +kernel, And.intro sgVX8_reads (And.intro sgVX8_worldsOf trivial), tb_l2 [(5, 101), (4, 137), (5, 105)] (by decide +kernel) (by decide +kernel), nw_l2 [] (by decide +kernel) (by decide +kernel), by decide +kernel⟩
set_option maxRecDepth 100000 in
def kX8_findsFitting : List Row := [(.aload_n 0, 0, 1, 0, 0, 0, [], sg0),
  (.invokevirtual 205, 1, 2, 8, 0, 0, [], sgX8_reads),
  (.iconst 0, 4, 3, 0, 0, 0, [], sg0),
  (.istore_n 1, 5, 4, 0, 0, 0, [], sg0),
  (.iload_n 1, 6, 5, 0, 0, 0, [], sg0),
  (.aload_n 0, 7, 6, 0, 0, 0, [], sg0),
  (.getfield 87, 8, 7, 8, 3, 0, [], sg0),
  (.if_icmp .ge 20, 11, 8, 17, 0, 0, [], sg0),
  (.aload_n 0, 14, 9, 0, 0, 0, [], sg0),
  (.getfield 62, 15, 10, 8, 33, 0, [], sg0),
  (.iload_n 1, 18, 11, 0, 0, 0, [], sg0),
  (.aload_n 0, 19, 12, 0, 0, 0, [], sg0),
  (.iload_n 1, 20, 13, 0, 0, 0, [], sg0),
  (.invokevirtual 202, 21, 14, 8, 0, 0, [], sgX8_fitsSaying),
  (.lastore, 24, 15, 0, 0, 0, [], sg0),
  (.iinc 1 1, 25, 16, 0, 0, 1, [], sg0),
  (.goto (-22), 28, 17, 4, 0, 0, [], sg0),
  (.return_, 31, 18, 0, 0, 0, [], sg0),
  (.nop, 32, 19, 0, 0, 0, [], sg0)]
set_option maxRecDepth 100000 in
theorem okX8_findsFitting : Chk sgX8_findsFitting kX8_findsFitting := ⟨by decide +kernel, And.intro sgVX8_reads (And.intro sgVX8_fitsSaying trivial), tb_l2 [(5, 101), (4, 137), (4, 167), (5, 113)] (by decide +kernel) (by decide +kernel), nw_l2 [] (by decide +kernel) (by decide +kernel), by decide +kernel⟩
set_option maxRecDepth 100000 in
def kX8_without : List Row := [(.aload_n 0, 0, 1, 0, 0, 0, [], sg0),
  (.aload_n 0, 1, 2, 0, 0, 0, [], sg0),
  (.getfield 90, 2, 3, 8, 10, 0, [], sg0),
  (.invokevirtual 198, 5, 4, 8, 0, 0, [], sgX8_once),
  (.lstore_n 2, 8, 5, 0, 0, 0, [], sg0),
  (.iconst 0, 9, 6, 0, 0, 0, [], sg0),
  (.istore 4, 10, 7, 0, 0, 0, [], sg0),
  (.iload 4, 12, 8, 0, 0, 0, [], sg0),
  (.aload_n 0, 14, 9, 0, 0, 0, [], sg0),
  (.getfield 87, 15, 10, 8, 3, 0, [], sg0),
  (.if_icmp .ge 35, 18, 11, 29, 0, 0, [], sg0),
  (.lload_n 2, 21, 12, 0, 0, 0, [], sg0),
  (.iload_n 1, 22, 13, 0, 0, 0, [], sg0),
  (.iload 4, 23, 14, 0, 0, 0, [], sg0),
  (.ishr, 25, 15, 0, 0, 0, [], sg0),
  (.iconst 1, 26, 16, 0, 0, 1, [], sg0),
  (.iand, 27, 17, 0, 0, 0, [], sg0),
  (.iconst 1, 28, 18, 0, 0, 1, [], sg0),
  (.if_icmp .ne 9, 29, 19, 21, 0, 0, [], sg0),
  (.ldc2_w 179, 32, 20, 0, 0, 4294967295, [], sg0),
  (.goto 10, 35, 21, 25, 0, 0, [], sg0),
  (.aload_n 0, 38, 22, 0, 0, 0, [], sg0),
  (.getfield 62, 39, 23, 8, 33, 0, [], sg0),
  (.iload 4, 42, 24, 0, 0, 0, [], sg0),
  (.laload, 44, 25, 0, 0, 0, [], sg0),
  (.land, 45, 26, 0, 0, 0, [], sg0),
  (.lstore_n 2, 46, 27, 0, 0, 0, [], sg0),
  (.iinc 4 1, 47, 28, 0, 0, 1, [], sg0),
  (.goto (-38), 50, 29, 7, 0, 0, [], sg0),
  (.lload_n 2, 53, 30, 0, 0, 0, [], sg0),
  (.lreturn, 54, 31, 0, 0, 0, [], sg0),
  (.nop, 55, 32, 0, 0, 0, [], sg0)]
set_option maxRecDepth 100000 in
theorem okX8_without : Chk sgX8_without kX8_without := ⟨by decide +kernel, And.intro sgVX8_once trivial, tb_l2 [(4, 144), (5, 109), (4, 137), (5, 61), (4, 167)] (by decide +kernel) (by decide +kernel), nw_l2 [] (by decide +kernel) (by decide +kernel), by decide +kernel⟩
set_option maxRecDepth 100000 in
def kX8_lies : List Row := [(.aload_n 0, 0, 1, 0, 0, 0, [], sg0),
  (.invokevirtual 228, 1, 2, 8, 0, 0, [], sgX8_findsFitting),
  (.iconst 0, 4, 3, 0, 0, 0, [], sg0),
  (.istore_n 1, 5, 4, 0, 0, 0, [], sg0),
  (.iconst 0, 6, 5, 0, 0, 0, [], sg0),
  (.istore_n 2, 7, 6, 0, 0, 0, [], sg0),
  (.iload_n 2, 8, 7, 0, 0, 0, [], sg0),
  (.aload_n 0, 9, 8, 0, 0, 0, [], sg0),
  (.getfield 87, 10, 9, 8, 3, 0, [], sg0),
  (.if_icmp .ge 41, 13, 10, 34, 0, 0, [], sg0),
  (.aload_n 0, 16, 11, 0, 0, 0, [], sg0),
  (.iconst 0, 17, 12, 0, 0, 0, [], sg0),
  (.invokevirtual 231, 18, 13, 8, 0, 0, [], sgX8_without),
  (.lconst 0, 21, 14, 0, 0, 0, [], sg0),
  (.lcmp, 22, 15, 0, 0, 0, [], sg0),
  (.ifCond .ne 31, 23, 16, 34, 0, 0, [], sg0),
  (.iload_n 1, 26, 17, 0, 0, 0, [], sg0),
  (.aload_n 0, 27, 18, 0, 0, 0, [], sg0),
  (.iconst 1, 28, 19, 0, 0, 1, [], sg0),
  (.iload_n 2, 29, 20, 0, 0, 0, [], sg0),
  (.ishl, 30, 21, 0, 0, 0, [], sg0),
  (.invokevirtual 231, 31, 22, 8, 0, 0, [], sgX8_without),
  (.lconst 0, 34, 23, 0, 0, 0, [], sg0),
  (.lcmp, 35, 24, 0, 0, 0, [], sg0),
  (.ifCond .eq 9, 36, 25, 29, 0, 0, [], sg0),
  (.iconst 1, 39, 26, 0, 0, 1, [], sg0),
  (.iload_n 2, 40, 27, 0, 0, 0, [], sg0),
  (.ishl, 41, 28, 0, 0, 0, [], sg0),
  (.goto 4, 42, 29, 30, 0, 0, [], sg0),
  (.iconst 0, 45, 30, 0, 0, 0, [], sg0),
  (.ior, 46, 31, 0, 0, 0, [], sg0),
  (.istore_n 1, 47, 32, 0, 0, 0, [], sg0),
  (.iinc 2 1, 48, 33, 0, 0, 1, [], sg0),
  (.goto (-43), 51, 34, 6, 0, 0, [], sg0),
  (.iload_n 1, 54, 35, 0, 0, 0, [], sg0),
  (.ireturn, 55, 36, 0, 0, 0, [], sg0),
  (.nop, 56, 37, 0, 0, 0, [], sg0)]
set_option maxRecDepth 100000 in
theorem okX8_lies : Chk sgX8_lies kX8_lies := ⟨by decide +kernel, And.intro sgVX8_findsFitting (And.intro sgVX8_without (And.intro sgVX8_without trivial)), tb_l2 [(5, 153), (4, 137), (5, 157), (5, 157)] (by decide +kernel) (by decide +kernel), nw_l2 [] (by decide +kernel) (by decide +kernel), by decide +kernel⟩
set_option maxRecDepth 100000 in
def kX8_least : List Row := [(.iload_n 1, 0, 1, 0, 0, 0, [], sg0),
  (.iconst 0, 1, 2, 0, 0, 0, [], sg0),
  (.iconst 1, 2, 3, 0, 0, 1, [], sg0),
  (.invokestatic 76, 3, 4, 0, 0, 0, [], sgX8_in),
  (.ifCond .ne 6, 6, 5, 7, 0, 0, [], sg0),
  (.bipush (-2), 9, 6, 0, 0, (-2), [], sg0),
  (.ireturn, 11, 7, 0, 0, 0, [], sg0),
  (.aload_n 0, 12, 8, 0, 0, 0, [], sg0),
  (.invokevirtual 228, 13, 9, 8, 0, 0, [], sgX8_findsFitting),
  (.iconst (-1), 16, 10, 0, 0, (-1), [], sg0),
  (.istore_n 2, 17, 11, 0, 0, 0, [], sg0),
  (.iconst 0, 18, 12, 0, 0, 0, [], sg0),
  (.istore_n 3, 19, 13, 0, 0, 0, [], sg0),
  (.iload_n 3, 20, 14, 0, 0, 0, [], sg0),
  (.iconst 1, 21, 15, 0, 0, 1, [], sg0),
  (.aload_n 0, 22, 16, 0, 0, 0, [], sg0),
  (.getfield 87, 23, 17, 8, 3, 0, [], sg0),
  (.ishl, 26, 18, 0, 0, 0, [], sg0),
  (.if_icmp .ge 55, 27, 19, 47, 0, 0, [], sg0),
  (.iload_n 2, 30, 20, 0, 0, 0, [], sg0),
  (.iconst (-1), 31, 21, 0, 0, (-1), [], sg0),
  (.if_icmp .eq 16, 32, 22, 29, 0, 0, [], sg0),
  (.iload_n 3, 35, 23, 0, 0, 0, [], sg0),
  (.i2l, 36, 24, 0, 0, 0, [], sg0),
  (.invokestatic 215, 37, 25, 0, 0, 0, [], sgX8_bitsOf),
  (.iload_n 2, 40, 26, 0, 0, 0, [], sg0),
  (.i2l, 41, 27, 0, 0, 0, [], sg0),
  (.invokestatic 215, 42, 28, 0, 0, 0, [], sgX8_bitsOf),
  (.if_icmp .ge 7, 45, 29, 31, 0, 0, [], sg0),
  (.iconst 1, 48, 30, 0, 0, 1, [], sg0),
  (.goto 4, 49, 31, 32, 0, 0, [], sg0),
  (.iconst 0, 52, 32, 0, 0, 0, [], sg0),
  (.istore 4, 53, 33, 0, 0, 0, [], sg0),
  (.iload 4, 55, 34, 0, 0, 0, [], sg0),
  (.ifCond .eq 17, 57, 35, 43, 0, 0, [], sg0),
  (.aload_n 0, 60, 36, 0, 0, 0, [], sg0),
  (.iload_n 3, 61, 37, 0, 0, 0, [], sg0),
  (.invokevirtual 231, 62, 38, 8, 0, 0, [], sgX8_without),
  (.lconst 0, 65, 39, 0, 0, 0, [], sg0),
  (.lcmp, 66, 40, 0, 0, 0, [], sg0),
  (.ifCond .eq 7, 67, 41, 43, 0, 0, [], sg0),
  (.iload_n 3, 70, 42, 0, 0, 0, [], sg0),
  (.goto 4, 71, 43, 44, 0, 0, [], sg0),
  (.iload_n 2, 74, 44, 0, 0, 0, [], sg0),
  (.istore_n 2, 75, 45, 0, 0, 0, [], sg0),
  (.iinc 3 1, 76, 46, 0, 0, 1, [], sg0),
  (.goto (-59), 79, 47, 13, 0, 0, [], sg0),
  (.iload_n 1, 82, 48, 0, 0, 0, [], sg0),
  (.iconst 1, 83, 49, 0, 0, 1, [], sg0),
  (.if_icmp .eq 8, 84, 50, 53, 0, 0, [], sg0),
  (.iload_n 2, 87, 51, 0, 0, 0, [], sg0),
  (.iconst (-1), 88, 52, 0, 0, (-1), [], sg0),
  (.if_icmp .ne 7, 89, 53, 55, 0, 0, [], sg0),
  (.iload_n 2, 92, 54, 0, 0, 0, [], sg0),
  (.goto 8, 93, 55, 58, 0, 0, [], sg0),
  (.iload_n 2, 96, 56, 0, 0, 0, [], sg0),
  (.i2l, 97, 57, 0, 0, 0, [], sg0),
  (.invokestatic 215, 98, 58, 0, 0, 0, [], sgX8_bitsOf),
  (.ireturn, 101, 59, 0, 0, 0, [], sg0),
  (.nop, 102, 60, 0, 0, 0, [], sg0)]
set_option maxRecDepth 100000 in
theorem okX8_least : Chk sgX8_least kX8_least := ⟨by decide +kernel, And.intro sgSX8_in (And.intro sgVX8_findsFitting (And.intro sgSX8_bitsOf (And.intro sgSX8_bitsOf (And.intro sgVX8_without (And.intro sgSX8_bitsOf trivial))))), tb_l2 [(4, 95), (5, 153), (4, 137), (5, 130), (5, 130), (5, 157), (5, 130)] (by decide +kernel) (by decide +kernel), nw_l2 [] (by decide +kernel) (by decide +kernel), by decide +kernel⟩
set_option maxRecDepth 100000 in
def kX8_worldsMad : List Row := [(.aload_n 0, 0, 1, 0, 0, 0, [], sg0),
  (.aload_n 0, 1, 2, 0, 0, 0, [], sg0),
  (.getfield 90, 2, 3, 8, 10, 0, [], sg0),
  (.invokevirtual 198, 5, 4, 8, 0, 0, [], sgX8_once),
  (.lstore_n 2, 8, 5, 0, 0, 0, [], sg0),
  (.iconst 0, 9, 6, 0, 0, 0, [], sg0),
  (.istore 4, 10, 7, 0, 0, 0, [], sg0),
  (.iload 4, 12, 8, 0, 0, 0, [], sg0),
  (.aload_n 0, 14, 9, 0, 0, 0, [], sg0),
  (.getfield 87, 15, 10, 8, 3, 0, [], sg0),
  (.if_icmp .ge 93, 18, 11, 66, 0, 0, [], sg0),
  (.aload_n 0, 21, 12, 0, 0, 0, [], sg0),
  (.getfield 16, 22, 13, 8, 4, 0, [], sg0),
  (.iconst 3, 25, 14, 0, 0, 3, [], sg0),
  (.iload 4, 26, 15, 0, 0, 0, [], sg0),
  (.imul, 28, 16, 0, 0, 0, [], sg0),
  (.iaload, 29, 17, 0, 0, 0, [], sg0),
  (.istore 5, 30, 18, 0, 0, 0, [], sg0),
  (.iload_n 1, 32, 19, 0, 0, 0, [], sg0),
  (.iload 5, 33, 20, 0, 0, 0, [], sg0),
  (.ishr, 35, 21, 0, 0, 0, [], sg0),
  (.iconst 1, 36, 22, 0, 0, 1, [], sg0),
  (.iand, 37, 23, 0, 0, 0, [], sg0),
  (.iconst 1, 38, 24, 0, 0, 1, [], sg0),
  (.if_icmp .ne 7, 39, 25, 27, 0, 0, [], sg0),
  (.iconst 1, 42, 26, 0, 0, 1, [], sg0),
  (.goto 4, 43, 27, 28, 0, 0, [], sg0),
  (.iconst 0, 46, 28, 0, 0, 0, [], sg0),
  (.istore 6, 47, 29, 0, 0, 0, [], sg0),
  (.lload_n 2, 49, 30, 0, 0, 0, [], sg0),
  (.aload_n 0, 50, 31, 0, 0, 0, [], sg0),
  (.iload 6, 51, 32, 0, 0, 0, [], sg0),
  (.ifCond .eq 7, 53, 33, 35, 0, 0, [], sg0),
  (.iconst 4, 56, 34, 0, 0, 4, [], sg0),
  (.goto 10, 57, 35, 39, 0, 0, [], sg0),
  (.aload_n 0, 60, 36, 0, 0, 0, [], sg0),
  (.getfield 7, 61, 37, 8, 1, 0, [], sg0),
  (.iload 5, 64, 38, 0, 0, 0, [], sg0),
  (.iaload, 66, 39, 0, 0, 0, [], sg0),
  (.aload_n 0, 67, 40, 0, 0, 0, [], sg0),
  (.getfield 13, 68, 41, 8, 2, 0, [], sg0),
  (.iload 5, 71, 42, 0, 0, 0, [], sg0),
  (.iaload, 73, 43, 0, 0, 0, [], sg0),
  (.iload 5, 74, 44, 0, 0, 0, [], sg0),
  (.aload_n 0, 76, 45, 0, 0, 0, [], sg0),
  (.getfield 16, 77, 46, 8, 4, 0, [], sg0),
  (.iconst 3, 80, 47, 0, 0, 3, [], sg0),
  (.iload 4, 81, 48, 0, 0, 0, [], sg0),
  (.imul, 83, 49, 0, 0, 0, [], sg0),
  (.iconst 1, 84, 50, 0, 0, 1, [], sg0),
  (.iadd, 85, 51, 0, 0, 0, [], sg0),
  (.iaload, 86, 52, 0, 0, 0, [], sg0),
  (.aload_n 0, 87, 53, 0, 0, 0, [], sg0),
  (.getfield 16, 88, 54, 8, 4, 0, [], sg0),
  (.iconst 3, 91, 55, 0, 0, 3, [], sg0),
  (.iload 4, 92, 56, 0, 0, 0, [], sg0),
  (.imul, 94, 57, 0, 0, 0, [], sg0),
  (.iconst 2, 95, 58, 0, 0, 2, [], sg0),
  (.iadd, 96, 59, 0, 0, 0, [], sg0),
  (.iaload, 97, 60, 0, 0, 0, [], sg0),
  (.iload 4, 98, 61, 0, 0, 0, [], sg0),
  (.invokevirtual 190, 100, 62, 8, 0, 0, [], sgX8_canSay),
  (.land, 103, 63, 0, 0, 0, [], sg0),
  (.lstore_n 2, 104, 64, 0, 0, 0, [], sg0),
  (.iinc 4 1, 105, 65, 0, 0, 1, [], sg0),
  (.goto (-96), 108, 66, 7, 0, 0, [], sg0),
  (.lload_n 2, 111, 67, 0, 0, 0, [], sg0),
  (.lreturn, 112, 68, 0, 0, 0, [], sg0),
  (.nop, 113, 69, 0, 0, 0, [], sg0)]
set_option maxRecDepth 100000 in
theorem okX8_worldsMad : Chk sgX8_worldsMad kX8_worldsMad := ⟨by decide +kernel, And.intro sgVX8_once (And.intro sgVX8_canSay trivial), tb_l2 [(4, 144), (5, 109), (4, 137), (4, 138), (4, 135), (4, 136), (4, 138), (4, 138), (5, 121)] (by decide +kernel) (by decide +kernel), nw_l2 [] (by decide +kernel) (by decide +kernel), by decide +kernel⟩
set_option maxRecDepth 100000 in
def kX8_mad : List Row := [(.iload_n 1, 0, 1, 0, 0, 0, [], sg0),
  (.iconst 0, 1, 2, 0, 0, 0, [], sg0),
  (.iconst 1, 2, 3, 0, 0, 1, [], sg0),
  (.invokestatic 76, 3, 4, 0, 0, 0, [], sgX8_in),
  (.ifCond .ne 6, 6, 5, 7, 0, 0, [], sg0),
  (.bipush (-2), 9, 6, 0, 0, (-2), [], sg0),
  (.ireturn, 11, 7, 0, 0, 0, [], sg0),
  (.aload_n 0, 12, 8, 0, 0, 0, [], sg0),
  (.invokevirtual 205, 13, 9, 8, 0, 0, [], sgX8_reads),
  (.iconst (-1), 16, 10, 0, 0, (-1), [], sg0),
  (.istore_n 2, 17, 11, 0, 0, 0, [], sg0),
  (.iconst 0, 18, 12, 0, 0, 0, [], sg0),
  (.istore_n 3, 19, 13, 0, 0, 0, [], sg0),
  (.iload_n 3, 20, 14, 0, 0, 0, [], sg0),
  (.iconst 1, 21, 15, 0, 0, 1, [], sg0),
  (.aload_n 0, 22, 16, 0, 0, 0, [], sg0),
  (.getfield 73, 23, 17, 8, 0, 0, [], sg0),
  (.ishl, 26, 18, 0, 0, 0, [], sg0),
  (.if_icmp .ge 55, 27, 19, 47, 0, 0, [], sg0),
  (.iload_n 2, 30, 20, 0, 0, 0, [], sg0),
  (.iconst (-1), 31, 21, 0, 0, (-1), [], sg0),
  (.if_icmp .eq 16, 32, 22, 29, 0, 0, [], sg0),
  (.iload_n 3, 35, 23, 0, 0, 0, [], sg0),
  (.i2l, 36, 24, 0, 0, 0, [], sg0),
  (.invokestatic 215, 37, 25, 0, 0, 0, [], sgX8_bitsOf),
  (.iload_n 2, 40, 26, 0, 0, 0, [], sg0),
  (.i2l, 41, 27, 0, 0, 0, [], sg0),
  (.invokestatic 215, 42, 28, 0, 0, 0, [], sgX8_bitsOf),
  (.if_icmp .ge 7, 45, 29, 31, 0, 0, [], sg0),
  (.iconst 1, 48, 30, 0, 0, 1, [], sg0),
  (.goto 4, 49, 31, 32, 0, 0, [], sg0),
  (.iconst 0, 52, 32, 0, 0, 0, [], sg0),
  (.istore 4, 53, 33, 0, 0, 0, [], sg0),
  (.iload 4, 55, 34, 0, 0, 0, [], sg0),
  (.ifCond .eq 17, 57, 35, 43, 0, 0, [], sg0),
  (.aload_n 0, 60, 36, 0, 0, 0, [], sg0),
  (.iload_n 3, 61, 37, 0, 0, 0, [], sg0),
  (.invokevirtual 234, 62, 38, 8, 0, 0, [], sgX8_worldsMad),
  (.lconst 0, 65, 39, 0, 0, 0, [], sg0),
  (.lcmp, 66, 40, 0, 0, 0, [], sg0),
  (.ifCond .eq 7, 67, 41, 43, 0, 0, [], sg0),
  (.iload_n 3, 70, 42, 0, 0, 0, [], sg0),
  (.goto 4, 71, 43, 44, 0, 0, [], sg0),
  (.iload_n 2, 74, 44, 0, 0, 0, [], sg0),
  (.istore_n 2, 75, 45, 0, 0, 0, [], sg0),
  (.iinc 3 1, 76, 46, 0, 0, 1, [], sg0),
  (.goto (-59), 79, 47, 13, 0, 0, [], sg0),
  (.iload_n 1, 82, 48, 0, 0, 0, [], sg0),
  (.iconst 1, 83, 49, 0, 0, 1, [], sg0),
  (.if_icmp .eq 8, 84, 50, 53, 0, 0, [], sg0),
  (.iload_n 2, 87, 51, 0, 0, 0, [], sg0),
  (.iconst (-1), 88, 52, 0, 0, (-1), [], sg0),
  (.if_icmp .ne 7, 89, 53, 55, 0, 0, [], sg0),
  (.iload_n 2, 92, 54, 0, 0, 0, [], sg0),
  (.goto 8, 93, 55, 58, 0, 0, [], sg0),
  (.iload_n 2, 96, 56, 0, 0, 0, [], sg0),
  (.i2l, 97, 57, 0, 0, 0, [], sg0),
  (.invokestatic 215, 98, 58, 0, 0, 0, [], sgX8_bitsOf),
  (.ireturn, 101, 59, 0, 0, 0, [], sg0),
  (.nop, 102, 60, 0, 0, 0, [], sg0)]
set_option maxRecDepth 100000 in
theorem okX8_mad : Chk sgX8_mad kX8_mad := ⟨by decide +kernel, And.intro sgSX8_in (And.intro sgVX8_reads (And.intro sgSX8_bitsOf (And.intro sgSX8_bitsOf (And.intro sgVX8_worldsMad (And.intro sgSX8_bitsOf trivial))))), tb_l2 [(4, 95), (5, 101), (4, 134), (5, 130), (5, 130), (5, 169), (5, 130)] (by decide +kernel) (by decide +kernel), nw_l2 [] (by decide +kernel) (by decide +kernel), by decide +kernel⟩
set_option maxRecDepth 100000 in
def kX8_lowest : List Row := [(.lload_n 0, 0, 1, 0, 0, 0, [], sg0),
  (.lconst 0, 1, 2, 0, 0, 0, [], sg0),
  (.lcmp, 2, 3, 0, 0, 0, [], sg0),
  (.ifCond .ne 7, 3, 4, 7, 0, 0, [], sg0),
  (.iload 4, 6, 5, 0, 0, 0, [], sg0),
  (.i2l, 8, 6, 0, 0, 0, [], sg0),
  (.lreturn, 9, 7, 0, 0, 0, [], sg0),
  (.lload_n 0, 10, 8, 0, 0, 0, [], sg0),
  (.lstore 5, 11, 9, 0, 0, 0, [], sg0),
  (.lload_n 2, 13, 10, 0, 0, 0, [], sg0),
  (.lstore 7, 14, 11, 0, 0, 0, [], sg0),
  (.lload 7, 16, 12, 0, 0, 0, [], sg0),
  (.lconst 0, 18, 13, 0, 0, 0, [], sg0),
  (.lcmp, 19, 14, 0, 0, 0, [], sg0),
  (.ifCond .eq 21, 20, 15, 24, 0, 0, [], sg0),
  (.lload 5, 23, 16, 0, 0, 0, [], sg0),
  (.lload 7, 25, 17, 0, 0, 0, [], sg0),
  (.lrem, 27, 18, 0, 0, 0, [], sg0),
  (.lstore 9, 28, 19, 0, 0, 0, [], sg0),
  (.lload 7, 30, 20, 0, 0, 0, [], sg0),
  (.lstore 5, 32, 21, 0, 0, 0, [], sg0),
  (.lload 9, 34, 22, 0, 0, 0, [], sg0),
  (.lstore 7, 36, 23, 0, 0, 0, [], sg0),
  (.goto (-22), 38, 24, 11, 0, 0, [], sg0),
  (.iload 4, 41, 25, 0, 0, 0, [], sg0),
  (.ifCond .ne 7, 43, 26, 28, 0, 0, [], sg0),
  (.lload_n 0, 46, 27, 0, 0, 0, [], sg0),
  (.goto 4, 47, 28, 29, 0, 0, [], sg0),
  (.lload_n 2, 50, 29, 0, 0, 0, [], sg0),
  (.lload 5, 51, 30, 0, 0, 0, [], sg0),
  (.ldiv, 53, 31, 0, 0, 0, [], sg0),
  (.lreturn, 54, 32, 0, 0, 0, [], sg0),
  (.nop, 55, 33, 0, 0, 0, [], sg0)]
set_option maxRecDepth 100000 in
theorem okX8_lowest : Chk sgX8_lowest kX8_lowest := ⟨by decide +kernel, trivial, tb_l2 [] (by decide +kernel) (by decide +kernel), nw_l2 [] (by decide +kernel) (by decide +kernel), by decide +kernel⟩
set_option maxRecDepth 100000 in
def kX8_habit_0 : List Row := [(.aload_n 0, 0, 1, 0, 0, 0, [], sg0),
  (.iload_n 1, 1, 2, 0, 0, 0, [], sg0),
  (.invokevirtual 185, 2, 3, 8, 0, 0, [], sgX8_isSpeaker),
  (.ifCond .eq 19, 5, 4, 12, 0, 0, [], sg0),
  (.iload_n 2, 8, 5, 0, 0, 0, [], sg0),
  (.invokestatic 166, 9, 6, 0, 0, 0, [], sgX8_isWorld),
  (.ifCond .eq 12, 12, 7, 12, 0, 0, [], sg0),
  (.iload_n 3, 15, 8, 0, 0, 0, [], sg0),
  (.iconst 0, 16, 9, 0, 0, 0, [], sg0),
  (.iconst 1, 17, 10, 0, 0, 1, [], sg0),
  (.invokestatic 76, 18, 11, 0, 0, 0, [], sgX8_in),
  (.ifCond .ne 7, 21, 12, 14, 0, 0, [], sg0),
  (.ldc2_w 177, 24, 13, 0, 0, (-4611686018427387904), [], sg0),
  (.lreturn, 27, 14, 0, 0, 0, [], sg0),
  (.aload_n 0, 28, 15, 0, 0, 0, [], sg0),
  (.invokevirtual 205, 29, 16, 8, 0, 0, [], sgX8_reads),
  (.lconst 0, 32, 17, 0, 0, 0, [], sg0),
  (.lstore 4, 33, 18, 0, 0, 0, [], sg0),
  (.lconst 0, 35, 19, 0, 0, 0, [], sg0),
  (.lstore 6, 36, 20, 0, 0, 0, [], sg0),
  (.iconst 0, 38, 21, 0, 0, 0, [], sg0),
  (.istore 8, 39, 22, 0, 0, 0, [], sg0),
  (.iload 8, 41, 23, 0, 0, 0, [], sg0),
  (.aload_n 0, 43, 24, 0, 0, 0, [], sg0),
  (.getfield 87, 44, 25, 8, 3, 0, [], sg0),
  (.if_icmp .ge 150, 47, 26, 116, 0, 0, [], sg0),
  (.aload_n 0, 50, 27, 0, 0, 0, [], sg0),
  (.getfield 16, 51, 28, 8, 4, 0, [], sg0),
  (.iconst 3, 54, 29, 0, 0, 3, [], sg0),
  (.iload 8, 55, 30, 0, 0, 0, [], sg0),
  (.imul, 57, 31, 0, 0, 0, [], sg0),
  (.iconst 1, 58, 32, 0, 0, 1, [], sg0),
  (.iadd, 59, 33, 0, 0, 0, [], sg0),
  (.iaload, 60, 34, 0, 0, 0, [], sg0),
  (.istore 9, 61, 35, 0, 0, 0, [], sg0),
  (.aload_n 0, 63, 36, 0, 0, 0, [], sg0),
  (.getfield 58, 64, 37, 8, 32, 0, [], sg0),
  (.bipush 10, 67, 38, 0, 0, 10, [], sg0),
  (.iload 9, 69, 39, 0, 0, 0, [], sg0),
  (.imul, 71, 40, 0, 0, 0, [], sg0),
  (.iconst 2, 72, 41, 0, 0, 2, [], sg0),
  (.iload_n 1, 73, 42, 0, 0, 0, [], sg0),
  (.imul, 74, 43, 0, 0, 0, [], sg0),
  (.iadd, 75, 44, 0, 0, 0, [], sg0),
  (.aload_n 0, 76, 45, 0, 0, 0, [], sg0),
  (.getfield 16, 77, 46, 8, 4, 0, [], sg0),
  (.iconst 3, 80, 47, 0, 0, 3, [], sg0),
  (.iload 8, 81, 48, 0, 0, 0, [], sg0),
  (.imul, 83, 49, 0, 0, 0, [], sg0),
  (.iconst 2, 84, 50, 0, 0, 2, [], sg0),
  (.iadd, 85, 51, 0, 0, 0, [], sg0),
  (.iaload, 86, 52, 0, 0, 0, [], sg0),
  (.iadd, 87, 53, 0, 0, 0, [], sg0),
  (.laload, 88, 54, 0, 0, 0, [], sg0),
  (.iload_n 2, 89, 55, 0, 0, 0, [], sg0),
  (.invokestatic 83, 90, 56, 0, 0, 0, [], sgX8_has),
  (.istore 10, 93, 57, 0, 0, 0, [], sg0),
  (.aload_n 0, 95, 58, 0, 0, 0, [], sg0),
  (.getfield 58, 96, 59, 8, 32, 0, [], sg0),
  (.bipush 10, 99, 60, 0, 0, 10, [], sg0),
  (.iload 9, 101, 61, 0, 0, 0, [], sg0),
  (.imul, 103, 62, 0, 0, 0, [], sg0),
  (.iconst 2, 104, 63, 0, 0, 2, [], sg0),
  (.iload_n 1, 105, 64, 0, 0, 0, [], sg0),
  (.imul, 106, 65, 0, 0, 0, [], sg0),
  (.iadd, 107, 66, 0, 0, 0, [], sg0),
  (.iconst 1, 108, 67, 0, 0, 1, [], sg0),
  (.iadd, 109, 68, 0, 0, 0, [], sg0),
  (.aload_n 0, 110, 69, 0, 0, 0, [], sg0),
  (.getfield 16, 111, 70, 8, 4, 0, [], sg0),
  (.iconst 3, 114, 71, 0, 0, 3, [], sg0),
  (.iload 8, 115, 72, 0, 0, 0, [], sg0),
  (.imul, 117, 73, 0, 0, 0, [], sg0),
  (.iconst 2, 118, 74, 0, 0, 2, [], sg0),
  (.iadd, 119, 75, 0, 0, 0, [], sg0),
  (.iaload, 120, 76, 0, 0, 0, [], sg0),
  (.isub, 121, 77, 0, 0, 0, [], sg0),
  (.laload, 122, 78, 0, 0, 0, [], sg0),
  (.iload_n 2, 123, 79, 0, 0, 0, [], sg0),
  (.invokestatic 83, 124, 80, 0, 0, 0, [], sgX8_has),
  (.istore 11, 127, 81, 0, 0, 0, [], sg0),
  (.aload_n 0, 129, 82, 0, 0, 0, [], sg0),
  (.getfield 16, 130, 83, 8, 4, 0, [], sg0),
  (.iconst 3, 133, 84, 0, 0, 3, [], sg0),
  (.iload 8, 134, 85, 0, 0, 0, [], sg0),
  (.imul, 136, 86, 0, 0, 0, [], sg0),
  (.iaload, 137, 87, 0, 0, 0, [], sg0),
  (.iload_n 1, 138, 88, 0, 0, 0, [], sg0),
  (.if_icmp .ne 14, 139, 89, 94, 0, 0, [], sg0),
  (.iload 10, 142, 90, 0, 0, 0, [], sg0),
  (.iload 11, 144, 91, 0, 0, 0, [], sg0),
  (.if_icmp .eq 7, 146, 92, 94, 0, 0, [], sg0),
  (.iconst 1, 149, 93, 0, 0, 1, [], sg0),
  (.goto 4, 150, 94, 95, 0, 0, [], sg0),
  (.iconst 0, 153, 95, 0, 0, 0, [], sg0),
  (.istore 12, 154, 96, 0, 0, 0, [], sg0),
  (.lload 6, 156, 97, 0, 0, 0, [], sg0),
  (.iload 12, 158, 98, 0, 0, 0, [], sg0),
  (.ifCond .eq 7, 160, 99, 101, 0, 0, [], sg0),
  (.lconst 1, 163, 100, 0, 0, 1, [], sg0)]
set_option maxRecDepth 100000 in
def kX8_habit_1 : List Row := [(.goto 4, 164, 101, 102, 0, 0, [], sg0),
  (.lconst 0, 167, 102, 0, 0, 0, [], sg0),
  (.ladd, 168, 103, 0, 0, 0, [], sg0),
  (.lstore 6, 169, 104, 0, 0, 0, [], sg0),
  (.lload 4, 171, 105, 0, 0, 0, [], sg0),
  (.iload 12, 173, 106, 0, 0, 0, [], sg0),
  (.ifCond .eq 12, 175, 107, 111, 0, 0, [], sg0),
  (.iload 10, 178, 108, 0, 0, 0, [], sg0),
  (.ifCond .eq 7, 180, 109, 111, 0, 0, [], sg0),
  (.lconst 1, 183, 110, 0, 0, 1, [], sg0),
  (.goto 4, 184, 111, 112, 0, 0, [], sg0),
  (.lconst 0, 187, 112, 0, 0, 0, [], sg0),
  (.ladd, 188, 113, 0, 0, 0, [], sg0),
  (.lstore 4, 189, 114, 0, 0, 0, [], sg0),
  (.iinc 8 1, 191, 115, 0, 0, 1, [], sg0),
  (.goto (-153), 194, 116, 22, 0, 0, [], sg0),
  (.lload 6, 197, 117, 0, 0, 0, [], sg0),
  (.lconst 0, 199, 118, 0, 0, 0, [], sg0),
  (.lcmp, 200, 119, 0, 0, 0, [], sg0),
  (.ifCond .ne 9, 201, 120, 122, 0, 0, [], sg0),
  (.ldc2_w 177, 204, 121, 0, 0, (-4611686018427387904), [], sg0),
  (.goto 11, 207, 122, 126, 0, 0, [], sg0),
  (.lload 4, 210, 123, 0, 0, 0, [], sg0),
  (.lload 6, 212, 124, 0, 0, 0, [], sg0),
  (.iload_n 3, 214, 125, 0, 0, 0, [], sg0),
  (.invokestatic 237, 215, 126, 0, 0, 0, [], sgX8_lowest),
  (.lreturn, 218, 127, 0, 0, 0, [], sg0),
  (.nop, 219, 128, 0, 0, 0, [], sg0)]
def kX8_habit : List Row := kX8_habit_0 ++ kX8_habit_1
set_option maxRecDepth 100000 in
theorem rX8_habit_0 : linE sgX8_habit kX8_habit (nxPc (kX8_habit_1)) 0 kX8_habit_0 = true := by decide +kernel
set_option maxRecDepth 100000 in
theorem rX8_habit_1 : linB sgX8_habit kX8_habit 100 kX8_habit_1 = true := by decide +kernel
set_option maxRecDepth 100000 in
theorem okX8_habit : Chk sgX8_habit kX8_habit := ⟨(linB_app rX8_habit_0 (rX8_habit_1)), And.intro sgVX8_isSpeaker (And.intro sgSX8_isWorld (And.intro sgSX8_in (And.intro sgVX8_reads (And.intro sgSX8_has (And.intro sgSX8_has (And.intro sgSX8_lowest trivial)))))), tb_l2 [(5, 73), (5, 31), (4, 95), (5, 56), (5, 101), (4, 137), (4, 138), (4, 166), (4, 138), (5, 133), (4, 166), (4, 138), (5, 133), (4, 138), (5, 56), (5, 177)] (by decide +kernel) (by decide +kernel), nw_l2 [] (by decide +kernel) (by decide +kernel), by decide +kernel⟩
set_option maxRecDepth 100000 in
def kX8_kinds : List Row := [(.aload_n 0, 0, 1, 0, 0, 0, [], sg0),
  (.iload_n 1, 1, 2, 0, 0, 0, [], sg0),
  (.invokevirtual 185, 2, 3, 8, 0, 0, [], sgX8_isSpeaker),
  (.ifCond .eq 10, 5, 4, 7, 0, 0, [], sg0),
  (.iload_n 2, 8, 5, 0, 0, 0, [], sg0),
  (.invokestatic 166, 9, 6, 0, 0, 0, [], sgX8_isWorld),
  (.ifCond .ne 6, 12, 7, 9, 0, 0, [], sg0),
  (.bipush (-5), 15, 8, 0, 0, (-5), [], sg0),
  (.ireturn, 17, 9, 0, 0, 0, [], sg0),
  (.aload_n 0, 18, 10, 0, 0, 0, [], sg0),
  (.invokevirtual 205, 19, 11, 8, 0, 0, [], sgX8_reads),
  (.iconst 0, 22, 12, 0, 0, 0, [], sg0),
  (.istore_n 3, 23, 13, 0, 0, 0, [], sg0),
  (.iconst 0, 24, 14, 0, 0, 0, [], sg0),
  (.istore 4, 25, 15, 0, 0, 0, [], sg0),
  (.iload 4, 27, 16, 0, 0, 0, [], sg0),
  (.bipush 6, 29, 17, 0, 0, 6, [], sg0),
  (.if_icmp .ge 127, 31, 18, 88, 0, 0, [], sg0),
  (.iconst 1, 34, 19, 0, 0, 1, [], sg0),
  (.istore 5, 35, 20, 0, 0, 0, [], sg0),
  (.iconst 0, 37, 21, 0, 0, 0, [], sg0),
  (.istore 6, 38, 22, 0, 0, 0, [], sg0),
  (.iload 6, 40, 23, 0, 0, 0, [], sg0),
  (.aload_n 0, 42, 24, 0, 0, 0, [], sg0),
  (.getfield 87, 43, 25, 8, 3, 0, [], sg0),
  (.if_icmp .ge 90, 46, 26, 76, 0, 0, [], sg0),
  (.aload_n 0, 49, 27, 0, 0, 0, [], sg0),
  (.getfield 16, 50, 28, 8, 4, 0, [], sg0),
  (.iconst 3, 53, 29, 0, 0, 3, [], sg0),
  (.iload 6, 54, 30, 0, 0, 0, [], sg0),
  (.imul, 56, 31, 0, 0, 0, [], sg0),
  (.iaload, 57, 32, 0, 0, 0, [], sg0),
  (.iload_n 1, 58, 33, 0, 0, 0, [], sg0),
  (.if_icmp .ne 7, 59, 34, 36, 0, 0, [], sg0),
  (.iconst 1, 62, 35, 0, 0, 1, [], sg0),
  (.goto 4, 63, 36, 37, 0, 0, [], sg0),
  (.iconst 0, 66, 37, 0, 0, 0, [], sg0),
  (.istore 7, 67, 38, 0, 0, 0, [], sg0),
  (.iload 5, 69, 39, 0, 0, 0, [], sg0),
  (.ifCond .eq 56, 71, 40, 72, 0, 0, [], sg0),
  (.iload 7, 74, 41, 0, 0, 0, [], sg0),
  (.ifCond .eq 47, 76, 42, 70, 0, 0, [], sg0),
  (.aload_n 0, 79, 43, 0, 0, 0, [], sg0),
  (.iload 4, 80, 44, 0, 0, 0, [], sg0),
  (.aload_n 0, 82, 45, 0, 0, 0, [], sg0),
  (.getfield 13, 83, 46, 8, 2, 0, [], sg0),
  (.iload_n 1, 86, 47, 0, 0, 0, [], sg0),
  (.iaload, 87, 48, 0, 0, 0, [], sg0),
  (.iload_n 1, 88, 49, 0, 0, 0, [], sg0),
  (.aload_n 0, 89, 50, 0, 0, 0, [], sg0),
  (.getfield 16, 90, 51, 8, 4, 0, [], sg0),
  (.iconst 3, 93, 52, 0, 0, 3, [], sg0),
  (.iload 6, 94, 53, 0, 0, 0, [], sg0),
  (.imul, 96, 54, 0, 0, 0, [], sg0),
  (.iconst 1, 97, 55, 0, 0, 1, [], sg0),
  (.iadd, 98, 56, 0, 0, 0, [], sg0),
  (.iaload, 99, 57, 0, 0, 0, [], sg0),
  (.aload_n 0, 100, 58, 0, 0, 0, [], sg0),
  (.getfield 16, 101, 59, 8, 4, 0, [], sg0),
  (.iconst 3, 104, 60, 0, 0, 3, [], sg0),
  (.iload 6, 105, 61, 0, 0, 0, [], sg0),
  (.imul, 107, 62, 0, 0, 0, [], sg0),
  (.iconst 2, 108, 63, 0, 0, 2, [], sg0),
  (.iadd, 109, 64, 0, 0, 0, [], sg0),
  (.iaload, 110, 65, 0, 0, 0, [], sg0),
  (.iload 6, 111, 66, 0, 0, 0, [], sg0),
  (.invokevirtual 190, 113, 67, 8, 0, 0, [], sgX8_canSay),
  (.iload_n 2, 116, 68, 0, 0, 0, [], sg0),
  (.invokestatic 83, 117, 69, 0, 0, 0, [], sgX8_has),
  (.ifCond .eq 7, 120, 70, 72, 0, 0, [], sg0),
  (.iconst 1, 123, 71, 0, 0, 1, [], sg0),
  (.goto 4, 124, 72, 73, 0, 0, [], sg0),
  (.iconst 0, 127, 73, 0, 0, 0, [], sg0),
  (.istore 5, 128, 74, 0, 0, 0, [], sg0),
  (.iinc 6 1, 130, 75, 0, 0, 1, [], sg0),
  (.goto (-93), 133, 76, 22, 0, 0, [], sg0),
  (.iload_n 3, 136, 77, 0, 0, 0, [], sg0),
  (.iload 5, 137, 78, 0, 0, 0, [], sg0),
  (.ifCond .eq 10, 139, 79, 83, 0, 0, [], sg0),
  (.iconst 1, 142, 80, 0, 0, 1, [], sg0),
  (.iload 4, 143, 81, 0, 0, 0, [], sg0),
  (.ishl, 145, 82, 0, 0, 0, [], sg0),
  (.goto 4, 146, 83, 84, 0, 0, [], sg0),
  (.iconst 0, 149, 84, 0, 0, 0, [], sg0),
  (.ior, 150, 85, 0, 0, 0, [], sg0),
  (.istore_n 3, 151, 86, 0, 0, 0, [], sg0),
  (.iinc 4 1, 152, 87, 0, 0, 1, [], sg0),
  (.goto (-128), 155, 88, 15, 0, 0, [], sg0),
  (.iload_n 3, 158, 89, 0, 0, 0, [], sg0),
  (.ireturn, 159, 90, 0, 0, 0, [], sg0),
  (.nop, 160, 91, 0, 0, 0, [], sg0)]
set_option maxRecDepth 100000 in
theorem okX8_kinds : Chk sgX8_kinds kX8_kinds := ⟨by decide +kernel, And.intro sgVX8_isSpeaker (And.intro sgSX8_isWorld (And.intro sgVX8_reads (And.intro sgVX8_canSay (And.intro sgSX8_has trivial)))), tb_l2 [(5, 73), (5, 31), (5, 101), (4, 137), (4, 138), (4, 136), (4, 138), (4, 138), (5, 121), (5, 133)] (by decide +kernel) (by decide +kernel), nw_l2 [] (by decide +kernel) (by decide +kernel), by decide +kernel⟩
set_option maxRecDepth 100000 in
def kX8_worstOf : List Row := [(.lload_n 1, 0, 1, 0, 0, 0, [], sg0),
  (.aload_n 0, 1, 2, 0, 0, 0, [], sg0),
  (.iload_n 3, 2, 3, 0, 0, 0, [], sg0),
  (.iload 4, 3, 4, 0, 0, 0, [], sg0),
  (.iconst 0, 5, 5, 0, 0, 0, [], sg0),
  (.iload 5, 6, 6, 0, 0, 0, [], sg0),
  (.invokevirtual 194, 8, 7, 8, 0, 0, [], sgX8_fits),
  (.land, 11, 8, 0, 0, 0, [], sg0),
  (.invokestatic 215, 12, 9, 0, 0, 0, [], sgX8_bitsOf),
  (.istore 6, 15, 10, 0, 0, 0, [], sg0),
  (.lload_n 1, 17, 11, 0, 0, 0, [], sg0),
  (.aload_n 0, 18, 12, 0, 0, 0, [], sg0),
  (.iload_n 3, 19, 13, 0, 0, 0, [], sg0),
  (.iload 4, 20, 14, 0, 0, 0, [], sg0),
  (.iconst 1, 22, 15, 0, 0, 1, [], sg0),
  (.iload 5, 23, 16, 0, 0, 0, [], sg0),
  (.invokevirtual 194, 25, 17, 8, 0, 0, [], sgX8_fits),
  (.land, 28, 18, 0, 0, 0, [], sg0),
  (.invokestatic 215, 29, 19, 0, 0, 0, [], sgX8_bitsOf),
  (.istore 7, 32, 20, 0, 0, 0, [], sg0),
  (.iload 6, 34, 21, 0, 0, 0, [], sg0),
  (.iload 7, 36, 22, 0, 0, 0, [], sg0),
  (.if_icmp .le 8, 38, 23, 25, 0, 0, [], sg0),
  (.iload 6, 41, 24, 0, 0, 0, [], sg0),
  (.goto 5, 43, 25, 26, 0, 0, [], sg0),
  (.iload 7, 46, 26, 0, 0, 0, [], sg0),
  (.ireturn, 48, 27, 0, 0, 0, [], sg0),
  (.nop, 49, 28, 0, 0, 0, [], sg0)]
set_option maxRecDepth 100000 in
theorem okX8_worstOf : Chk sgX8_worstOf kX8_worstOf := ⟨by decide +kernel, And.intro sgVX8_fits (And.intro sgSX8_bitsOf (And.intro sgVX8_fits (And.intro sgSX8_bitsOf trivial))), tb_l2 [(5, 117), (5, 130), (5, 117), (5, 130)] (by decide +kernel) (by decide +kernel), nw_l2 [] (by decide +kernel) (by decide +kernel), by decide +kernel⟩
set_option maxRecDepth 100000 in
def kX8_findsQuestion : List Row := [(.aload_n 0, 0, 1, 0, 0, 0, [], sg0),
  (.iconst (-1), 1, 2, 0, 0, (-1), [], sg0),
  (.putfield 241, 2, 3, 8, 34, 0, [], sg0),
  (.aload_n 0, 5, 4, 0, 0, 0, [], sg0),
  (.iconst (-1), 6, 5, 0, 0, (-1), [], sg0),
  (.putfield 244, 7, 6, 8, 35, 0, [], sg0),
  (.aload_n 0, 10, 7, 0, 0, 0, [], sg0),
  (.iconst (-1), 11, 8, 0, 0, (-1), [], sg0),
  (.putfield 247, 12, 9, 8, 36, 0, [], sg0),
  (.iconst 0, 15, 10, 0, 0, 0, [], sg0),
  (.istore 4, 16, 11, 0, 0, 0, [], sg0),
  (.iload 4, 18, 12, 0, 0, 0, [], sg0),
  (.aload_n 0, 20, 13, 0, 0, 0, [], sg0),
  (.getfield 73, 21, 14, 8, 0, 0, [], sg0),
  (.aload_n 0, 24, 15, 0, 0, 0, [], sg0),
  (.getfield 80, 25, 16, 8, 9, 0, [], sg0),
  (.imul, 28, 17, 0, 0, 0, [], sg0),
  (.if_icmp .ge 161, 29, 18, 96, 0, 0, [], sg0),
  (.iload 4, 32, 19, 0, 0, 0, [], sg0),
  (.aload_n 0, 34, 20, 0, 0, 0, [], sg0),
  (.getfield 80, 35, 21, 8, 9, 0, [], sg0),
  (.idiv, 38, 22, 0, 0, 0, [], sg0),
  (.istore 5, 39, 23, 0, 0, 0, [], sg0),
  (.iload 4, 41, 24, 0, 0, 0, [], sg0),
  (.aload_n 0, 43, 25, 0, 0, 0, [], sg0),
  (.getfield 80, 44, 26, 8, 9, 0, [], sg0),
  (.irem, 47, 27, 0, 0, 0, [], sg0),
  (.istore 6, 48, 28, 0, 0, 0, [], sg0),
  (.aload_n 0, 50, 29, 0, 0, 0, [], sg0),
  (.lload_n 1, 51, 30, 0, 0, 0, [], sg0),
  (.iload 5, 52, 31, 0, 0, 0, [], sg0),
  (.iload 6, 54, 32, 0, 0, 0, [], sg0),
  (.iload_n 3, 56, 33, 0, 0, 0, [], sg0),
  (.invokevirtual 250, 57, 34, 8, 0, 0, [], sgX8_worstOf),
  (.istore 7, 60, 35, 0, 0, 0, [], sg0),
  (.aload_n 0, 62, 36, 0, 0, 0, [], sg0),
  (.getfield 241, 63, 37, 8, 34, 0, [], sg0),
  (.iconst (-1), 66, 38, 0, 0, (-1), [], sg0),
  (.if_icmp .eq 12, 67, 39, 43, 0, 0, [], sg0),
  (.iload 7, 70, 40, 0, 0, 0, [], sg0),
  (.aload_n 0, 72, 41, 0, 0, 0, [], sg0),
  (.getfield 244, 73, 42, 8, 35, 0, [], sg0),
  (.if_icmp .gt 108, 76, 43, 94, 0, 0, [], sg0),
  (.aload_n 0, 79, 44, 0, 0, 0, [], sg0),
  (.iconst 2, 80, 45, 0, 0, 2, [], sg0),
  (.iload 6, 81, 46, 0, 0, 0, [], sg0),
  (.iconst 0, 83, 47, 0, 0, 0, [], sg0),
  (.iload 5, 84, 48, 0, 0, 0, [], sg0),
  (.invokevirtual 169, 86, 49, 8, 0, 0, [], sgX8_saysOf),
  (.istore 8, 89, 50, 0, 0, 0, [], sg0),
  (.aload_n 0, 91, 51, 0, 0, 0, [], sg0),
  (.getfield 241, 92, 52, 8, 34, 0, [], sg0),
  (.iconst (-1), 95, 53, 0, 0, (-1), [], sg0),
  (.if_icmp .eq 21, 96, 54, 62, 0, 0, [], sg0),
  (.iload 7, 99, 55, 0, 0, 0, [], sg0),
  (.aload_n 0, 101, 56, 0, 0, 0, [], sg0),
  (.getfield 244, 102, 57, 8, 35, 0, [], sg0),
  (.if_icmp .lt 12, 105, 58, 62, 0, 0, [], sg0),
  (.iload 8, 108, 59, 0, 0, 0, [], sg0),
  (.aload_n 0, 110, 60, 0, 0, 0, [], sg0),
  (.getfield 247, 111, 61, 8, 36, 0, [], sg0),
  (.if_icmp .ge 7, 114, 62, 64, 0, 0, [], sg0),
  (.iconst 1, 117, 63, 0, 0, 1, [], sg0),
  (.goto 4, 118, 64, 65, 0, 0, [], sg0),
  (.iconst 0, 121, 65, 0, 0, 0, [], sg0),
  (.istore 9, 122, 66, 0, 0, 0, [], sg0),
  (.aload_n 0, 124, 67, 0, 0, 0, [], sg0),
  (.iload 9, 125, 68, 0, 0, 0, [], sg0),
  (.ifCond .eq 14, 127, 69, 75, 0, 0, [], sg0),
  (.bipush 10, 130, 70, 0, 0, 10, [], sg0),
  (.iload 5, 132, 71, 0, 0, 0, [], sg0),
  (.imul, 134, 72, 0, 0, 0, [], sg0),
  (.iload 6, 135, 73, 0, 0, 0, [], sg0),
  (.iadd, 137, 74, 0, 0, 0, [], sg0),
  (.goto 7, 138, 75, 77, 0, 0, [], sg0),
  (.aload_n 0, 141, 76, 0, 0, 0, [], sg0),
  (.getfield 241, 142, 77, 8, 34, 0, [], sg0),
  (.putfield 241, 145, 78, 8, 34, 0, [], sg0),
  (.aload_n 0, 148, 79, 0, 0, 0, [], sg0),
  (.iload 9, 149, 80, 0, 0, 0, [], sg0),
  (.ifCond .eq 8, 151, 81, 83, 0, 0, [], sg0),
  (.iload 7, 154, 82, 0, 0, 0, [], sg0),
  (.goto 7, 156, 83, 85, 0, 0, [], sg0),
  (.aload_n 0, 159, 84, 0, 0, 0, [], sg0),
  (.getfield 244, 160, 85, 8, 35, 0, [], sg0),
  (.putfield 244, 163, 86, 8, 35, 0, [], sg0),
  (.aload_n 0, 166, 87, 0, 0, 0, [], sg0),
  (.iload 9, 167, 88, 0, 0, 0, [], sg0),
  (.ifCond .eq 8, 169, 89, 91, 0, 0, [], sg0),
  (.iload 8, 172, 90, 0, 0, 0, [], sg0),
  (.goto 7, 174, 91, 93, 0, 0, [], sg0),
  (.aload_n 0, 177, 92, 0, 0, 0, [], sg0),
  (.getfield 247, 178, 93, 8, 36, 0, [], sg0),
  (.putfield 247, 181, 94, 8, 36, 0, [], sg0),
  (.iinc 4 1, 184, 95, 0, 0, 1, [], sg0),
  (.goto (-169), 187, 96, 11, 0, 0, [], sg0),
  (.return_, 190, 97, 0, 0, 0, [], sg0),
  (.nop, 191, 98, 0, 0, 0, [], sg0)]
set_option maxRecDepth 100000 in
theorem okX8_findsQuestion : Chk sgX8_findsQuestion kX8_findsQuestion := ⟨by decide +kernel, And.intro sgVX8_worstOf (And.intro sgVX8_saysOf trivial), tb_l2 [(4, 168), (4, 169), (4, 170), (4, 134), (4, 143), (4, 143), (4, 143), (5, 192), (4, 168), (4, 169), (5, 34), (4, 168), (4, 169), (4, 170), (4, 168), (4, 168), (4, 169), (4, 169), (4, 170), (4, 170)] (by decide +kernel) (by decide +kernel), nw_l2 [] (by decide +kernel) (by decide +kernel), by decide +kernel⟩
set_option maxRecDepth 100000 in
def kX8_ask : List Row := [(.iload_n 1, 0, 1, 0, 0, 0, [], sg0),
  (.iconst 0, 1, 2, 0, 0, 0, [], sg0),
  (.iconst 2, 2, 3, 0, 0, 2, [], sg0),
  (.invokestatic 76, 3, 4, 0, 0, 0, [], sgX8_in),
  (.ifCond .ne 6, 6, 5, 7, 0, 0, [], sg0),
  (.bipush (-2), 9, 6, 0, 0, (-2), [], sg0),
  (.ireturn, 11, 7, 0, 0, 0, [], sg0),
  (.aload_n 0, 12, 8, 0, 0, 0, [], sg0),
  (.aload_n 0, 13, 9, 0, 0, 0, [], sg0),
  (.invokevirtual 211, 14, 10, 8, 0, 0, [], sgX8_worldsNow),
  (.aload_n 0, 17, 11, 0, 0, 0, [], sg0),
  (.getfield 87, 18, 12, 8, 3, 0, [], sg0),
  (.invokevirtual 254, 21, 13, 8, 0, 0, [], sgX8_findsQuestion),
  (.iload_n 1, 24, 14, 0, 0, 0, [], sg0),
  (.ifCond .ne 10, 25, 15, 18, 0, 0, [], sg0),
  (.aload_n 0, 28, 16, 0, 0, 0, [], sg0),
  (.getfield 241, 29, 17, 8, 34, 0, [], sg0),
  (.goto 19, 32, 18, 26, 0, 0, [], sg0),
  (.iload_n 1, 35, 19, 0, 0, 0, [], sg0),
  (.iconst 1, 36, 20, 0, 0, 1, [], sg0),
  (.if_icmp .ne 10, 37, 21, 24, 0, 0, [], sg0),
  (.aload_n 0, 40, 22, 0, 0, 0, [], sg0),
  (.getfield 244, 41, 23, 8, 35, 0, [], sg0),
  (.goto 7, 44, 24, 26, 0, 0, [], sg0),
  (.aload_n 0, 47, 25, 0, 0, 0, [], sg0),
  (.getfield 247, 48, 26, 8, 36, 0, [], sg0),
  (.ireturn, 51, 27, 0, 0, 0, [], sg0),
  (.nop, 52, 28, 0, 0, 0, [], sg0)]
set_option maxRecDepth 100000 in
theorem okX8_ask : Chk sgX8_ask kX8_ask := ⟨by decide +kernel, And.intro sgSX8_in (And.intro sgVX8_worldsNow (And.intro sgVX8_findsQuestion trivial)), tb_l2 [(4, 95), (5, 97), (4, 137), (5, 188), (4, 168), (4, 169), (4, 170)] (by decide +kernel) (by decide +kernel), nw_l2 [] (by decide +kernel) (by decide +kernel), by decide +kernel⟩
set_option maxRecDepth 100000 in
def kX8_worstBehind : List Row := [(.aload_n 0, 0, 1, 0, 0, 0, [], sg0),
  (.lload_n 1, 1, 2, 0, 0, 0, [], sg0),
  (.aload_n 0, 2, 3, 0, 0, 0, [], sg0),
  (.getfield 87, 3, 4, 8, 3, 0, [], sg0),
  (.iconst 1, 6, 5, 0, 0, 1, [], sg0),
  (.iadd, 7, 6, 0, 0, 0, [], sg0),
  (.invokevirtual 254, 8, 7, 8, 0, 0, [], sgX8_findsQuestion),
  (.aload_n 0, 11, 8, 0, 0, 0, [], sg0),
  (.getfield 244, 12, 9, 8, 35, 0, [], sg0),
  (.ireturn, 15, 10, 0, 0, 0, [], sg0),
  (.nop, 16, 11, 0, 0, 0, [], sg0)]
set_option maxRecDepth 100000 in
theorem okX8_worstBehind : Chk sgX8_worstBehind kX8_worstBehind := ⟨by decide +kernel, And.intro sgVX8_findsQuestion trivial, tb_l2 [(4, 137), (5, 188), (4, 169)] (by decide +kernel) (by decide +kernel), nw_l2 [] (by decide +kernel) (by decide +kernel), by decide +kernel⟩
set_option maxRecDepth 100000 in
def kX8_two_ : List Row := [(.iload_n 1, 0, 1, 0, 0, 0, [], sg0),
  (.iconst 0, 1, 2, 0, 0, 0, [], sg0),
  (.iconst 1, 2, 3, 0, 0, 1, [], sg0),
  (.invokestatic 76, 3, 4, 0, 0, 0, [], sgX8_in),
  (.ifCond .ne 6, 6, 5, 7, 0, 0, [], sg0),
  (.bipush (-2), 9, 6, 0, 0, (-2), [], sg0),
  (.ireturn, 11, 7, 0, 0, 0, [], sg0),
  (.aload_n 0, 12, 8, 0, 0, 0, [], sg0),
  (.invokevirtual 211, 13, 9, 8, 0, 0, [], sgX8_worldsNow),
  (.lstore_n 2, 16, 10, 0, 0, 0, [], sg0),
  (.iconst (-1), 17, 11, 0, 0, (-1), [], sg0),
  (.istore 4, 18, 12, 0, 0, 0, [], sg0),
  (.iconst (-1), 20, 13, 0, 0, (-1), [], sg0),
  (.istore 5, 21, 14, 0, 0, 0, [], sg0),
  (.iconst 0, 23, 15, 0, 0, 0, [], sg0),
  (.istore 6, 24, 16, 0, 0, 0, [], sg0),
  (.iload 6, 26, 17, 0, 0, 0, [], sg0),
  (.aload_n 0, 28, 18, 0, 0, 0, [], sg0),
  (.getfield 73, 29, 19, 8, 0, 0, [], sg0),
  (.aload_n 0, 32, 20, 0, 0, 0, [], sg0),
  (.getfield 80, 33, 21, 8, 9, 0, [], sg0),
  (.imul, 36, 22, 0, 0, 0, [], sg0),
  (.if_icmp .ge 135, 37, 23, 90, 0, 0, [], sg0),
  (.iload 6, 40, 24, 0, 0, 0, [], sg0),
  (.aload_n 0, 42, 25, 0, 0, 0, [], sg0),
  (.getfield 80, 43, 26, 8, 9, 0, [], sg0),
  (.idiv, 46, 27, 0, 0, 0, [], sg0),
  (.istore 7, 47, 28, 0, 0, 0, [], sg0),
  (.iload 6, 49, 29, 0, 0, 0, [], sg0),
  (.aload_n 0, 51, 30, 0, 0, 0, [], sg0),
  (.getfield 80, 52, 31, 8, 9, 0, [], sg0),
  (.irem, 55, 32, 0, 0, 0, [], sg0),
  (.istore 8, 56, 33, 0, 0, 0, [], sg0),
  (.aload_n 0, 58, 34, 0, 0, 0, [], sg0),
  (.lload_n 2, 59, 35, 0, 0, 0, [], sg0),
  (.aload_n 0, 60, 36, 0, 0, 0, [], sg0),
  (.iload 7, 61, 37, 0, 0, 0, [], sg0),
  (.iload 8, 63, 38, 0, 0, 0, [], sg0),
  (.iconst 0, 65, 39, 0, 0, 0, [], sg0),
  (.aload_n 0, 66, 40, 0, 0, 0, [], sg0),
  (.getfield 87, 67, 41, 8, 3, 0, [], sg0),
  (.invokevirtual 194, 70, 42, 8, 0, 0, [], sgX8_fits),
  (.land, 73, 43, 0, 0, 0, [], sg0),
  (.invokevirtual 258, 74, 44, 8, 0, 0, [], sgX8_worstBehind),
  (.istore 9, 77, 45, 0, 0, 0, [], sg0),
  (.aload_n 0, 79, 46, 0, 0, 0, [], sg0),
  (.lload_n 2, 80, 47, 0, 0, 0, [], sg0),
  (.aload_n 0, 81, 48, 0, 0, 0, [], sg0),
  (.iload 7, 82, 49, 0, 0, 0, [], sg0),
  (.iload 8, 84, 50, 0, 0, 0, [], sg0),
  (.iconst 1, 86, 51, 0, 0, 1, [], sg0),
  (.aload_n 0, 87, 52, 0, 0, 0, [], sg0),
  (.getfield 87, 88, 53, 8, 3, 0, [], sg0),
  (.invokevirtual 194, 91, 54, 8, 0, 0, [], sgX8_fits),
  (.land, 94, 55, 0, 0, 0, [], sg0),
  (.invokevirtual 258, 95, 56, 8, 0, 0, [], sgX8_worstBehind),
  (.istore 10, 98, 57, 0, 0, 0, [], sg0),
  (.iload 9, 100, 58, 0, 0, 0, [], sg0),
  (.iload 10, 102, 59, 0, 0, 0, [], sg0),
  (.if_icmp .le 8, 104, 60, 62, 0, 0, [], sg0),
  (.iload 9, 107, 61, 0, 0, 0, [], sg0),
  (.goto 5, 109, 62, 63, 0, 0, [], sg0),
  (.iload 10, 112, 63, 0, 0, 0, [], sg0),
  (.istore 11, 114, 64, 0, 0, 0, [], sg0),
  (.iload 4, 116, 65, 0, 0, 0, [], sg0),
  (.iconst (-1), 118, 66, 0, 0, (-1), [], sg0),
  (.if_icmp .eq 10, 119, 67, 70, 0, 0, [], sg0),
  (.iload 11, 122, 68, 0, 0, 0, [], sg0),
  (.iload 5, 124, 69, 0, 0, 0, [], sg0),
  (.if_icmp .ge 14, 126, 70, 76, 0, 0, [], sg0),
  (.bipush 10, 129, 71, 0, 0, 10, [], sg0),
  (.iload 7, 131, 72, 0, 0, 0, [], sg0),
  (.imul, 133, 73, 0, 0, 0, [], sg0),
  (.iload 8, 134, 74, 0, 0, 0, [], sg0),
  (.iadd, 136, 75, 0, 0, 0, [], sg0),
  (.goto 5, 137, 76, 77, 0, 0, [], sg0),
  (.iload 4, 140, 77, 0, 0, 0, [], sg0),
  (.istore 4, 142, 78, 0, 0, 0, [], sg0),
  (.iload 5, 144, 79, 0, 0, 0, [], sg0),
  (.iconst (-1), 146, 80, 0, 0, (-1), [], sg0),
  (.if_icmp .eq 10, 147, 81, 84, 0, 0, [], sg0),
  (.iload 11, 150, 82, 0, 0, 0, [], sg0),
  (.iload 5, 152, 83, 0, 0, 0, [], sg0),
  (.if_icmp .ge 8, 154, 84, 86, 0, 0, [], sg0),
  (.iload 11, 157, 85, 0, 0, 0, [], sg0),
  (.goto 5, 159, 86, 87, 0, 0, [], sg0),
  (.iload 5, 162, 87, 0, 0, 0, [], sg0),
  (.istore 5, 164, 88, 0, 0, 0, [], sg0),
  (.iinc 6 1, 166, 89, 0, 0, 1, [], sg0),
  (.goto (-143), 169, 90, 16, 0, 0, [], sg0),
  (.iload_n 1, 172, 91, 0, 0, 0, [], sg0),
  (.ifCond .ne 8, 173, 92, 94, 0, 0, [], sg0),
  (.iload 4, 176, 93, 0, 0, 0, [], sg0),
  (.goto 5, 178, 94, 95, 0, 0, [], sg0),
  (.iload 5, 181, 95, 0, 0, 0, [], sg0),
  (.ireturn, 183, 96, 0, 0, 0, [], sg0),
  (.nop, 184, 97, 0, 0, 0, [], sg0)]
set_option maxRecDepth 100000 in
theorem okX8_two_ : Chk sgX8_two_ kX8_two_ := ⟨by decide +kernel, And.intro sgSX8_in (And.intro sgVX8_worldsNow (And.intro sgVX8_fits (And.intro sgVX8_worstBehind (And.intro sgVX8_fits (And.intro sgVX8_worstBehind trivial))))), tb_l2 [(4, 95), (5, 97), (4, 134), (4, 143), (4, 143), (4, 143), (4, 137), (5, 117), (5, 200), (4, 137), (5, 117), (5, 200)] (by decide +kernel) (by decide +kernel), nw_l2 [] (by decide +kernel) (by decide +kernel), by decide +kernel⟩
set_option maxRecDepth 100000 in
def kX8_parts : List Row := [(.aload_n 0, 0, 1, 0, 0, 0, [], sg0),
  (.iload_n 1, 1, 2, 0, 0, 0, [], sg0),
  (.invokevirtual 185, 2, 3, 8, 0, 0, [], sgX8_isSpeaker),
  (.ifCond .eq 20, 5, 4, 13, 0, 0, [], sg0),
  (.aload_n 0, 8, 5, 0, 0, 0, [], sg0),
  (.iload_n 2, 9, 6, 0, 0, 0, [], sg0),
  (.invokevirtual 163, 10, 7, 8, 0, 0, [], sgX8_isOfTexts),
  (.ifCond .eq 12, 13, 8, 13, 0, 0, [], sg0),
  (.iload_n 3, 16, 9, 0, 0, 0, [], sg0),
  (.iconst 0, 17, 10, 0, 0, 0, [], sg0),
  (.iconst 3, 18, 11, 0, 0, 3, [], sg0),
  (.invokestatic 76, 19, 12, 0, 0, 0, [], sgX8_in),
  (.ifCond .ne 7, 22, 13, 15, 0, 0, [], sg0),
  (.ldc2_w 177, 25, 14, 0, 0, (-4611686018427387904), [], sg0),
  (.lreturn, 28, 15, 0, 0, 0, [], sg0),
  (.aload_n 0, 29, 16, 0, 0, 0, [], sg0),
  (.invokevirtual 211, 30, 17, 8, 0, 0, [], sgX8_worldsNow),
  (.lstore 4, 33, 18, 0, 0, 0, [], sg0),
  (.aload_n 0, 35, 19, 0, 0, 0, [], sg0),
  (.iload_n 1, 36, 20, 0, 0, 0, [], sg0),
  (.iload_n 2, 37, 21, 0, 0, 0, [], sg0),
  (.iconst 0, 38, 22, 0, 0, 0, [], sg0),
  (.aload_n 0, 39, 23, 0, 0, 0, [], sg0),
  (.getfield 87, 40, 24, 8, 3, 0, [], sg0),
  (.invokevirtual 194, 43, 25, 8, 0, 0, [], sgX8_fits),
  (.lstore 6, 46, 26, 0, 0, 0, [], sg0),
  (.aload_n 0, 48, 27, 0, 0, 0, [], sg0),
  (.iload_n 1, 49, 28, 0, 0, 0, [], sg0),
  (.iload_n 2, 50, 29, 0, 0, 0, [], sg0),
  (.iconst 1, 51, 30, 0, 0, 1, [], sg0),
  (.aload_n 0, 52, 31, 0, 0, 0, [], sg0),
  (.getfield 87, 53, 32, 8, 3, 0, [], sg0),
  (.invokevirtual 194, 56, 33, 8, 0, 0, [], sgX8_fits),
  (.lstore 8, 59, 34, 0, 0, 0, [], sg0),
  (.lload 4, 61, 35, 0, 0, 0, [], sg0),
  (.iload_n 3, 63, 36, 0, 0, 0, [], sg0),
  (.ifCond .ne 8, 64, 37, 39, 0, 0, [], sg0),
  (.lload 6, 67, 38, 0, 0, 0, [], sg0),
  (.goto 39, 69, 39, 58, 0, 0, [], sg0),
  (.iload_n 3, 72, 40, 0, 0, 0, [], sg0),
  (.iconst 1, 73, 41, 0, 0, 1, [], sg0),
  (.if_icmp .ne 8, 74, 42, 44, 0, 0, [], sg0),
  (.lload 8, 77, 43, 0, 0, 0, [], sg0),
  (.goto 29, 79, 44, 58, 0, 0, [], sg0),
  (.iload_n 3, 82, 45, 0, 0, 0, [], sg0),
  (.iconst 2, 83, 46, 0, 0, 2, [], sg0),
  (.if_icmp .ne 19, 84, 47, 55, 0, 0, [], sg0),
  (.lload 6, 87, 48, 0, 0, 0, [], sg0),
  (.ldc2_w 188, 89, 49, 0, 0, (-1), [], sg0),
  (.lxor, 92, 50, 0, 0, 0, [], sg0),
  (.lload 8, 93, 51, 0, 0, 0, [], sg0),
  (.ldc2_w 188, 95, 52, 0, 0, (-1), [], sg0),
  (.lxor, 98, 53, 0, 0, 0, [], sg0),
  (.land, 99, 54, 0, 0, 0, [], sg0),
  (.goto 8, 100, 55, 58, 0, 0, [], sg0),
  (.lload 6, 103, 56, 0, 0, 0, [], sg0),
  (.lload 8, 105, 57, 0, 0, 0, [], sg0),
  (.land, 107, 58, 0, 0, 0, [], sg0),
  (.land, 108, 59, 0, 0, 0, [], sg0),
  (.lreturn, 109, 60, 0, 0, 0, [], sg0),
  (.nop, 110, 61, 0, 0, 0, [], sg0)]
set_option maxRecDepth 100000 in
theorem okX8_parts : Chk sgX8_parts kX8_parts := ⟨by decide +kernel, And.intro sgVX8_isSpeaker (And.intro sgVX8_isOfTexts (And.intro sgSX8_in (And.intro sgVX8_worldsNow (And.intro sgVX8_fits (And.intro sgVX8_fits trivial))))), tb_l2 [(5, 73), (5, 27), (4, 95), (5, 56), (5, 97), (4, 137), (5, 117), (4, 137), (5, 117), (5, 125), (5, 125)] (by decide +kernel) (by decide +kernel), nw_l2 [] (by decide +kernel) (by decide +kernel), by decide +kernel⟩
set_option maxRecDepth 100000 in
def kX8_isSure : List Row := [(.lload_n 0, 0, 1, 0, 0, 0, [], sg0),
  (.invokestatic 219, 1, 2, 0, 0, 0, [], sgX8_allIn),
  (.iload_n 2, 4, 3, 0, 0, 0, [], sg0),
  (.ishr, 5, 4, 0, 0, 0, [], sg0),
  (.iconst 1, 6, 5, 0, 0, 1, [], sg0),
  (.iand, 7, 6, 0, 0, 0, [], sg0),
  (.iconst 1, 8, 7, 0, 0, 1, [], sg0),
  (.if_icmp .eq 15, 9, 8, 16, 0, 0, [], sg0),
  (.lload_n 0, 12, 9, 0, 0, 0, [], sg0),
  (.invokestatic 222, 13, 10, 0, 0, 0, [], sgX8_noneIn),
  (.iload_n 2, 16, 11, 0, 0, 0, [], sg0),
  (.ishr, 17, 12, 0, 0, 0, [], sg0),
  (.iconst 1, 18, 13, 0, 0, 1, [], sg0),
  (.iand, 19, 14, 0, 0, 0, [], sg0),
  (.iconst 1, 20, 15, 0, 0, 1, [], sg0),
  (.if_icmp .ne 7, 21, 16, 18, 0, 0, [], sg0),
  (.iconst 1, 24, 17, 0, 0, 1, [], sg0),
  (.goto 4, 25, 18, 19, 0, 0, [], sg0),
  (.iconst 0, 28, 19, 0, 0, 0, [], sg0),
  (.ireturn, 29, 20, 0, 0, 0, [], sg0),
  (.nop, 30, 21, 0, 0, 0, [], sg0)]
set_option maxRecDepth 100000 in
theorem okX8_isSure : Chk sgX8_isSure kX8_isSure := ⟨by decide +kernel, And.intro sgSX8_allIn (And.intro sgSX8_noneIn trivial), tb_l2 [(5, 136), (5, 139)] (by decide +kernel) (by decide +kernel), nw_l2 [] (by decide +kernel) (by decide +kernel), by decide +kernel⟩
set_option maxRecDepth 100000 in
def kX8_hide : List Row := [(.aload_n 0, 0, 1, 0, 0, 0, [], sg0),
  (.iload_n 1, 1, 2, 0, 0, 0, [], sg0),
  (.invokevirtual 185, 2, 3, 8, 0, 0, [], sgX8_isSpeaker),
  (.ifCond .eq 19, 5, 4, 12, 0, 0, [], sg0),
  (.iload_n 2, 8, 5, 0, 0, 0, [], sg0),
  (.invokestatic 166, 9, 6, 0, 0, 0, [], sgX8_isWorld),
  (.ifCond .eq 12, 12, 7, 12, 0, 0, [], sg0),
  (.iload_n 3, 15, 8, 0, 0, 0, [], sg0),
  (.iconst 0, 16, 9, 0, 0, 0, [], sg0),
  (.iconst 4, 17, 10, 0, 0, 4, [], sg0),
  (.invokestatic 76, 18, 11, 0, 0, 0, [], sgX8_in),
  (.ifCond .ne 6, 21, 12, 14, 0, 0, [], sg0),
  (.bipush (-5), 24, 13, 0, 0, (-5), [], sg0),
  (.ireturn, 26, 14, 0, 0, 0, [], sg0),
  (.aload_n 0, 27, 15, 0, 0, 0, [], sg0),
  (.invokevirtual 211, 28, 16, 8, 0, 0, [], sgX8_worldsNow),
  (.lstore 4, 31, 17, 0, 0, 0, [], sg0),
  (.iconst 0, 33, 18, 0, 0, 0, [], sg0),
  (.istore 6, 34, 19, 0, 0, 0, [], sg0),
  (.iconst 0, 36, 20, 0, 0, 0, [], sg0),
  (.istore 7, 37, 21, 0, 0, 0, [], sg0),
  (.iload 7, 39, 22, 0, 0, 0, [], sg0),
  (.iconst 2, 41, 23, 0, 0, 2, [], sg0),
  (.aload_n 0, 42, 24, 0, 0, 0, [], sg0),
  (.getfield 80, 43, 25, 8, 9, 0, [], sg0),
  (.imul, 46, 26, 0, 0, 0, [], sg0),
  (.if_icmp .ge 62, 47, 27, 59, 0, 0, [], sg0),
  (.aload_n 0, 50, 28, 0, 0, 0, [], sg0),
  (.iload_n 1, 51, 29, 0, 0, 0, [], sg0),
  (.iload 7, 52, 30, 0, 0, 0, [], sg0),
  (.iconst 2, 54, 31, 0, 0, 2, [], sg0),
  (.idiv, 55, 32, 0, 0, 0, [], sg0),
  (.iload 7, 56, 33, 0, 0, 0, [], sg0),
  (.iconst 2, 58, 34, 0, 0, 2, [], sg0),
  (.irem, 59, 35, 0, 0, 0, [], sg0),
  (.aload_n 0, 60, 36, 0, 0, 0, [], sg0),
  (.getfield 87, 61, 37, 8, 3, 0, [], sg0),
  (.invokevirtual 194, 64, 38, 8, 0, 0, [], sgX8_fits),
  (.lstore 8, 67, 39, 0, 0, 0, [], sg0),
  (.iload 6, 69, 40, 0, 0, 0, [], sg0),
  (.lload 8, 71, 41, 0, 0, 0, [], sg0),
  (.iload_n 2, 73, 42, 0, 0, 0, [], sg0),
  (.invokestatic 83, 74, 43, 0, 0, 0, [], sgX8_has),
  (.ifCond .eq 22, 77, 44, 54, 0, 0, [], sg0),
  (.lload 4, 80, 45, 0, 0, 0, [], sg0),
  (.lload 8, 82, 46, 0, 0, 0, [], sg0),
  (.land, 84, 47, 0, 0, 0, [], sg0),
  (.iload_n 3, 85, 48, 0, 0, 0, [], sg0),
  (.invokestatic 261, 86, 49, 0, 0, 0, [], sgX8_isSure),
  (.ifCond .ne 10, 89, 50, 54, 0, 0, [], sg0),
  (.iconst 1, 92, 51, 0, 0, 1, [], sg0),
  (.iload 7, 93, 52, 0, 0, 0, [], sg0),
  (.ishl, 95, 53, 0, 0, 0, [], sg0),
  (.goto 4, 96, 54, 55, 0, 0, [], sg0),
  (.iconst 0, 99, 55, 0, 0, 0, [], sg0),
  (.ior, 100, 56, 0, 0, 0, [], sg0),
  (.istore 6, 101, 57, 0, 0, 0, [], sg0),
  (.iinc 7 1, 103, 58, 0, 0, 1, [], sg0),
  (.goto (-67), 106, 59, 21, 0, 0, [], sg0),
  (.iload 6, 109, 60, 0, 0, 0, [], sg0),
  (.ireturn, 111, 61, 0, 0, 0, [], sg0),
  (.nop, 112, 62, 0, 0, 0, [], sg0)]
set_option maxRecDepth 100000 in
theorem okX8_hide : Chk sgX8_hide kX8_hide := ⟨by decide +kernel, And.intro sgVX8_isSpeaker (And.intro sgSX8_isWorld (And.intro sgSX8_in (And.intro sgVX8_worldsNow (And.intro sgVX8_fits (And.intro sgSX8_has (And.intro sgSX8_isSure trivial)))))), tb_l2 [(5, 73), (5, 31), (4, 95), (5, 97), (4, 143), (4, 137), (5, 117), (5, 133), (5, 212)] (by decide +kernel) (by decide +kernel), nw_l2 [] (by decide +kernel) (by decide +kernel), by decide +kernel⟩
set_option maxRecDepth 100000 in
def kX8_same : List Row := [(.aload_n 0, 0, 1, 0, 0, 0, [], sg0),
  (.iload_n 1, 1, 2, 0, 0, 0, [], sg0),
  (.invokevirtual 163, 2, 3, 8, 0, 0, [], sgX8_isOfTexts),
  (.ifCond .eq 11, 5, 4, 8, 0, 0, [], sg0),
  (.aload_n 0, 8, 5, 0, 0, 0, [], sg0),
  (.iload_n 2, 9, 6, 0, 0, 0, [], sg0),
  (.invokevirtual 163, 10, 7, 8, 0, 0, [], sgX8_isOfTexts),
  (.ifCond .ne 6, 13, 8, 10, 0, 0, [], sg0),
  (.bipush (-5), 16, 9, 0, 0, (-5), [], sg0),
  (.ireturn, 18, 10, 0, 0, 0, [], sg0),
  (.iload_n 3, 19, 11, 0, 0, 0, [], sg0),
  (.iconst 0, 20, 12, 0, 0, 0, [], sg0),
  (.iconst 1, 21, 13, 0, 0, 1, [], sg0),
  (.invokestatic 76, 22, 14, 0, 0, 0, [], sgX8_in),
  (.ifCond .ne 6, 25, 15, 17, 0, 0, [], sg0),
  (.bipush (-7), 28, 16, 0, 0, (-7), [], sg0),
  (.ireturn, 30, 17, 0, 0, 0, [], sg0),
  (.aload_n 0, 31, 18, 0, 0, 0, [], sg0),
  (.invokevirtual 211, 32, 19, 8, 0, 0, [], sgX8_worldsNow),
  (.lstore 4, 35, 20, 0, 0, 0, [], sg0),
  (.aload_n 0, 37, 21, 0, 0, 0, [], sg0),
  (.iload_n 1, 38, 22, 0, 0, 0, [], sg0),
  (.invokevirtual 198, 39, 23, 8, 0, 0, [], sgX8_once),
  (.aload_n 0, 42, 24, 0, 0, 0, [], sg0),
  (.iload_n 2, 43, 25, 0, 0, 0, [], sg0),
  (.invokevirtual 198, 44, 26, 8, 0, 0, [], sgX8_once),
  (.lxor, 47, 27, 0, 0, 0, [], sg0),
  (.lstore 6, 48, 28, 0, 0, 0, [], sg0),
  (.iload_n 3, 50, 29, 0, 0, 0, [], sg0),
  (.ifCond .ne 11, 51, 30, 34, 0, 0, [], sg0),
  (.lload 6, 54, 31, 0, 0, 0, [], sg0),
  (.lload 4, 56, 32, 0, 0, 0, [], sg0),
  (.land, 58, 33, 0, 0, 0, [], sg0),
  (.goto 5, 59, 34, 35, 0, 0, [], sg0),
  (.lload 6, 62, 35, 0, 0, 0, [], sg0),
  (.lconst 0, 64, 36, 0, 0, 0, [], sg0),
  (.lcmp, 65, 37, 0, 0, 0, [], sg0),
  (.ifCond .ne 7, 66, 38, 40, 0, 0, [], sg0),
  (.iconst 1, 69, 39, 0, 0, 1, [], sg0),
  (.goto 4, 70, 40, 41, 0, 0, [], sg0),
  (.iconst 0, 73, 41, 0, 0, 0, [], sg0),
  (.ireturn, 74, 42, 0, 0, 0, [], sg0),
  (.nop, 75, 43, 0, 0, 0, [], sg0)]
set_option maxRecDepth 100000 in
theorem okX8_same : Chk sgX8_same kX8_same := ⟨by decide +kernel, And.intro sgVX8_isOfTexts (And.intro sgVX8_isOfTexts (And.intro sgSX8_in (And.intro sgVX8_worldsNow (And.intro sgVX8_once (And.intro sgVX8_once trivial))))), tb_l2 [(5, 27), (5, 27), (4, 95), (5, 97), (5, 109), (5, 109)] (by decide +kernel) (by decide +kernel), nw_l2 [] (by decide +kernel) (by decide +kernel), by decide +kernel⟩
set_option maxRecDepth 100000 in
def kX8_claims : List Row := [(.aload_n 0, 0, 1, 0, 0, 0, [], sg0),
  (.iload_n 1, 1, 2, 0, 0, 0, [], sg0),
  (.invokevirtual 163, 2, 3, 8, 0, 0, [], sgX8_isOfTexts),
  (.ifCond .ne 6, 5, 4, 6, 0, 0, [], sg0),
  (.bipush (-5), 8, 5, 0, 0, (-5), [], sg0),
  (.ireturn, 10, 6, 0, 0, 0, [], sg0),
  (.aload_n 0, 11, 7, 0, 0, 0, [], sg0),
  (.invokevirtual 211, 12, 8, 8, 0, 0, [], sgX8_worldsNow),
  (.aload_n 0, 15, 9, 0, 0, 0, [], sg0),
  (.iload_n 1, 16, 10, 0, 0, 0, [], sg0),
  (.invokevirtual 198, 17, 11, 8, 0, 0, [], sgX8_once),
  (.land, 20, 12, 0, 0, 0, [], sg0),
  (.lstore_n 2, 21, 13, 0, 0, 0, [], sg0),
  (.iconst 0, 22, 14, 0, 0, 0, [], sg0),
  (.istore 4, 23, 15, 0, 0, 0, [], sg0),
  (.iconst 0, 25, 16, 0, 0, 0, [], sg0),
  (.istore 5, 26, 17, 0, 0, 0, [], sg0),
  (.iload 5, 28, 18, 0, 0, 0, [], sg0),
  (.aload_n 0, 30, 19, 0, 0, 0, [], sg0),
  (.getfield 80, 31, 20, 8, 9, 0, [], sg0),
  (.if_icmp .ge 39, 34, 21, 41, 0, 0, [], sg0),
  (.iload 4, 37, 22, 0, 0, 0, [], sg0),
  (.lload_n 2, 39, 23, 0, 0, 0, [], sg0),
  (.aload_n 0, 40, 24, 0, 0, 0, [], sg0),
  (.iload 5, 41, 25, 0, 0, 0, [], sg0),
  (.invokevirtual 198, 43, 26, 8, 0, 0, [], sgX8_once),
  (.ldc2_w 188, 46, 27, 0, 0, (-1), [], sg0),
  (.lxor, 49, 28, 0, 0, 0, [], sg0),
  (.land, 50, 29, 0, 0, 0, [], sg0),
  (.lconst 0, 51, 30, 0, 0, 0, [], sg0),
  (.lcmp, 52, 31, 0, 0, 0, [], sg0),
  (.ifCond .ne 10, 53, 32, 36, 0, 0, [], sg0),
  (.iconst 1, 56, 33, 0, 0, 1, [], sg0),
  (.iload 5, 57, 34, 0, 0, 0, [], sg0),
  (.ishl, 59, 35, 0, 0, 0, [], sg0),
  (.goto 4, 60, 36, 37, 0, 0, [], sg0),
  (.iconst 0, 63, 37, 0, 0, 0, [], sg0),
  (.ior, 64, 38, 0, 0, 0, [], sg0),
  (.istore 4, 65, 39, 0, 0, 0, [], sg0),
  (.iinc 5 1, 67, 40, 0, 0, 1, [], sg0),
  (.goto (-42), 70, 41, 17, 0, 0, [], sg0),
  (.iload 4, 73, 42, 0, 0, 0, [], sg0),
  (.ireturn, 75, 43, 0, 0, 0, [], sg0),
  (.nop, 76, 44, 0, 0, 0, [], sg0)]
set_option maxRecDepth 100000 in
theorem okX8_claims : Chk sgX8_claims kX8_claims := ⟨by decide +kernel, And.intro sgVX8_isOfTexts (And.intro sgVX8_worldsNow (And.intro sgVX8_once (And.intro sgVX8_once trivial))), tb_l2 [(5, 27), (5, 97), (5, 109), (4, 143), (5, 109), (5, 125)] (by decide +kernel) (by decide +kernel), nw_l2 [] (by decide +kernel) (by decide +kernel), by decide +kernel⟩
set_option maxRecDepth 100000 in
def kX8_settles : List Row := [(.iconst 0, 0, 1, 0, 0, 0, [], sg0),
  (.istore 4, 1, 2, 0, 0, 0, [], sg0),
  (.iload 4, 3, 3, 0, 0, 0, [], sg0),
  (.sipush 1024, 5, 4, 0, 0, 1024, [], sg0),
  (.if_icmp .ge 127, 8, 5, 66, 0, 0, [], sg0),
  (.iload 4, 11, 6, 0, 0, 0, [], sg0),
  (.bipush 32, 13, 7, 0, 0, 32, [], sg0),
  (.idiv, 15, 8, 0, 0, 0, [], sg0),
  (.istore 5, 16, 9, 0, 0, 0, [], sg0),
  (.iload 4, 18, 10, 0, 0, 0, [], sg0),
  (.bipush 32, 20, 11, 0, 0, 32, [], sg0),
  (.irem, 22, 12, 0, 0, 0, [], sg0),
  (.istore 6, 23, 13, 0, 0, 0, [], sg0),
  (.iload 5, 25, 14, 0, 0, 0, [], sg0),
  (.iload 6, 27, 15, 0, 0, 0, [], sg0),
  (.if_icmp .ge 21, 29, 16, 24, 0, 0, [], sg0),
  (.lload_n 1, 32, 17, 0, 0, 0, [], sg0),
  (.iload 5, 33, 18, 0, 0, 0, [], sg0),
  (.invokestatic 83, 35, 19, 0, 0, 0, [], sgX8_has),
  (.ifCond .eq 12, 38, 20, 24, 0, 0, [], sg0),
  (.lload_n 1, 41, 21, 0, 0, 0, [], sg0),
  (.iload 6, 42, 22, 0, 0, 0, [], sg0),
  (.invokestatic 83, 44, 23, 0, 0, 0, [], sgX8_has),
  (.ifCond .ne 7, 47, 24, 26, 0, 0, [], sg0),
  (.iconst 1, 50, 25, 0, 0, 1, [], sg0),
  (.goto 4, 51, 26, 27, 0, 0, [], sg0),
  (.iconst 0, 54, 27, 0, 0, 0, [], sg0),
  (.istore 7, 55, 28, 0, 0, 0, [], sg0),
  (.iconst 0, 57, 29, 0, 0, 0, [], sg0),
  (.istore 8, 58, 30, 0, 0, 0, [], sg0),
  (.iload 8, 60, 31, 0, 0, 0, [], sg0),
  (.aload_n 0, 62, 32, 0, 0, 0, [], sg0),
  (.getfield 80, 63, 33, 8, 9, 0, [], sg0),
  (.if_icmp .ge 56, 66, 34, 60, 0, 0, [], sg0),
  (.iload 7, 69, 35, 0, 0, 0, [], sg0),
  (.ifCond .ne 51, 71, 36, 60, 0, 0, [], sg0),
  (.iload_n 3, 74, 37, 0, 0, 0, [], sg0),
  (.iload 8, 75, 38, 0, 0, 0, [], sg0),
  (.ishr, 77, 39, 0, 0, 0, [], sg0),
  (.iconst 1, 78, 40, 0, 0, 1, [], sg0),
  (.iand, 79, 41, 0, 0, 0, [], sg0),
  (.iconst 1, 80, 42, 0, 0, 1, [], sg0),
  (.if_icmp .ne 32, 81, 43, 56, 0, 0, [], sg0),
  (.aload_n 0, 84, 44, 0, 0, 0, [], sg0),
  (.iload 8, 85, 45, 0, 0, 0, [], sg0),
  (.invokevirtual 198, 87, 46, 8, 0, 0, [], sgX8_once),
  (.iload 5, 90, 47, 0, 0, 0, [], sg0),
  (.invokestatic 83, 92, 48, 0, 0, 0, [], sgX8_has),
  (.aload_n 0, 95, 49, 0, 0, 0, [], sg0),
  (.iload 8, 96, 50, 0, 0, 0, [], sg0),
  (.invokevirtual 198, 98, 51, 8, 0, 0, [], sgX8_once),
  (.iload 6, 101, 52, 0, 0, 0, [], sg0),
  (.invokestatic 83, 103, 53, 0, 0, 0, [], sgX8_has),
  (.if_icmp .eq 7, 106, 54, 56, 0, 0, [], sg0),
  (.iconst 1, 109, 55, 0, 0, 1, [], sg0),
  (.goto 4, 110, 56, 57, 0, 0, [], sg0),
  (.iconst 0, 113, 57, 0, 0, 0, [], sg0),
  (.istore 7, 114, 58, 0, 0, 0, [], sg0),
  (.iinc 8 1, 116, 59, 0, 0, 1, [], sg0),
  (.goto (-59), 119, 60, 30, 0, 0, [], sg0),
  (.iload 7, 122, 61, 0, 0, 0, [], sg0),
  (.ifCond .ne 5, 124, 62, 64, 0, 0, [], sg0),
  (.iconst 0, 127, 63, 0, 0, 0, [], sg0),
  (.ireturn, 128, 64, 0, 0, 0, [], sg0),
  (.iinc 4 1, 129, 65, 0, 0, 1, [], sg0),
  (.goto (-129), 132, 66, 2, 0, 0, [], sg0),
  (.iconst 1, 135, 67, 0, 0, 1, [], sg0),
  (.ireturn, 136, 68, 0, 0, 0, [], sg0),
  (.nop, 137, 69, 0, 0, 0, [], sg0)]
set_option maxRecDepth 100000 in
theorem okX8_settles : Chk sgX8_settles kX8_settles := ⟨by decide +kernel, And.intro sgSX8_has (And.intro sgSX8_has (And.intro sgVX8_once (And.intro sgSX8_has (And.intro sgVX8_once (And.intro sgSX8_has trivial))))), tb_l2 [(5, 133), (5, 133), (4, 143), (5, 109), (5, 133), (5, 109), (5, 133)] (by decide +kernel) (by decide +kernel), nw_l2 [] (by decide +kernel) (by decide +kernel), by decide +kernel⟩
set_option maxRecDepth 100000 in
def kX8_settle : List Row := [(.iload_n 1, 0, 1, 0, 0, 0, [], sg0),
  (.iconst 0, 1, 2, 0, 0, 0, [], sg0),
  (.iconst 1, 2, 3, 0, 0, 1, [], sg0),
  (.invokestatic 76, 3, 4, 0, 0, 0, [], sgX8_in),
  (.ifCond .ne 6, 6, 5, 7, 0, 0, [], sg0),
  (.bipush (-2), 9, 6, 0, 0, (-2), [], sg0),
  (.ireturn, 11, 7, 0, 0, 0, [], sg0),
  (.aload_n 0, 12, 8, 0, 0, 0, [], sg0),
  (.invokevirtual 211, 13, 9, 8, 0, 0, [], sgX8_worldsNow),
  (.lstore_n 2, 16, 10, 0, 0, 0, [], sg0),
  (.iconst (-1), 17, 11, 0, 0, (-1), [], sg0),
  (.istore 4, 18, 12, 0, 0, 0, [], sg0),
  (.iconst 0, 20, 13, 0, 0, 0, [], sg0),
  (.istore 5, 21, 14, 0, 0, 0, [], sg0),
  (.iload 5, 23, 15, 0, 0, 0, [], sg0),
  (.iconst 1, 25, 16, 0, 0, 1, [], sg0),
  (.aload_n 0, 26, 17, 0, 0, 0, [], sg0),
  (.getfield 80, 27, 18, 8, 9, 0, [], sg0),
  (.ishl, 30, 19, 0, 0, 0, [], sg0),
  (.if_icmp .ge 61, 31, 20, 47, 0, 0, [], sg0),
  (.iload 4, 34, 21, 0, 0, 0, [], sg0),
  (.iconst (-1), 36, 22, 0, 0, (-1), [], sg0),
  (.if_icmp .eq 18, 37, 23, 30, 0, 0, [], sg0),
  (.iload 5, 40, 24, 0, 0, 0, [], sg0),
  (.i2l, 42, 25, 0, 0, 0, [], sg0),
  (.invokestatic 215, 43, 26, 0, 0, 0, [], sgX8_bitsOf),
  (.iload 4, 46, 27, 0, 0, 0, [], sg0),
  (.i2l, 48, 28, 0, 0, 0, [], sg0),
  (.invokestatic 215, 49, 29, 0, 0, 0, [], sgX8_bitsOf),
  (.if_icmp .ge 7, 52, 30, 32, 0, 0, [], sg0),
  (.iconst 1, 55, 31, 0, 0, 1, [], sg0),
  (.goto 4, 56, 32, 33, 0, 0, [], sg0),
  (.iconst 0, 59, 33, 0, 0, 0, [], sg0),
  (.istore 6, 60, 34, 0, 0, 0, [], sg0),
  (.iload 6, 62, 35, 0, 0, 0, [], sg0),
  (.ifCond .eq 18, 64, 36, 43, 0, 0, [], sg0),
  (.aload_n 0, 67, 37, 0, 0, 0, [], sg0),
  (.lload_n 2, 68, 38, 0, 0, 0, [], sg0),
  (.iload 5, 69, 39, 0, 0, 0, [], sg0),
  (.invokevirtual 264, 71, 40, 8, 0, 0, [], sgX8_settles),
  (.ifCond .eq 8, 74, 41, 43, 0, 0, [], sg0),
  (.iload 5, 77, 42, 0, 0, 0, [], sg0),
  (.goto 5, 79, 43, 44, 0, 0, [], sg0),
  (.iload 4, 82, 44, 0, 0, 0, [], sg0),
  (.istore 4, 84, 45, 0, 0, 0, [], sg0),
  (.iinc 5 1, 86, 46, 0, 0, 1, [], sg0),
  (.goto (-66), 89, 47, 14, 0, 0, [], sg0),
  (.iload_n 1, 92, 48, 0, 0, 0, [], sg0),
  (.iconst 1, 93, 49, 0, 0, 1, [], sg0),
  (.if_icmp .eq 9, 94, 50, 53, 0, 0, [], sg0),
  (.iload 4, 97, 51, 0, 0, 0, [], sg0),
  (.iconst (-1), 99, 52, 0, 0, (-1), [], sg0),
  (.if_icmp .ne 8, 100, 53, 55, 0, 0, [], sg0),
  (.iload 4, 103, 54, 0, 0, 0, [], sg0),
  (.goto 9, 105, 55, 58, 0, 0, [], sg0),
  (.iload 4, 108, 56, 0, 0, 0, [], sg0),
  (.i2l, 110, 57, 0, 0, 0, [], sg0),
  (.invokestatic 215, 111, 58, 0, 0, 0, [], sgX8_bitsOf),
  (.ireturn, 114, 59, 0, 0, 0, [], sg0),
  (.nop, 115, 60, 0, 0, 0, [], sg0)]
set_option maxRecDepth 100000 in
theorem okX8_settle : Chk sgX8_settle kX8_settle := ⟨by decide +kernel, And.intro sgSX8_in (And.intro sgVX8_worldsNow (And.intro sgSX8_bitsOf (And.intro sgSX8_bitsOf (And.intro sgVX8_settles (And.intro sgSX8_bitsOf trivial))))), tb_l2 [(4, 95), (5, 97), (4, 143), (5, 130), (5, 130), (5, 227), (5, 130)] (by decide +kernel) (by decide +kernel), nw_l2 [] (by decide +kernel) (by decide +kernel), by decide +kernel⟩
set_option maxRecDepth 100000 in
def kX8_thrice : List Row := [(.aload_n 0, 0, 1, 0, 0, 0, [], sg0),
  (.iload_n 1, 1, 2, 0, 0, 0, [], sg0),
  (.invokevirtual 163, 2, 3, 8, 0, 0, [], sgX8_isOfTexts),
  (.ifCond .eq 19, 5, 4, 12, 0, 0, [], sg0),
  (.aload_n 0, 8, 5, 0, 0, 0, [], sg0),
  (.iload_n 2, 9, 6, 0, 0, 0, [], sg0),
  (.invokevirtual 163, 10, 7, 8, 0, 0, [], sgX8_isOfTexts),
  (.ifCond .eq 11, 13, 8, 12, 0, 0, [], sg0),
  (.aload_n 0, 16, 9, 0, 0, 0, [], sg0),
  (.iload_n 3, 17, 10, 0, 0, 0, [], sg0),
  (.invokevirtual 163, 18, 11, 8, 0, 0, [], sgX8_isOfTexts),
  (.ifCond .ne 7, 21, 12, 14, 0, 0, [], sg0),
  (.ldc2_w 177, 24, 13, 0, 0, (-4611686018427387904), [], sg0),
  (.lreturn, 27, 14, 0, 0, 0, [], sg0),
  (.aload_n 0, 28, 15, 0, 0, 0, [], sg0),
  (.invokevirtual 211, 29, 16, 8, 0, 0, [], sgX8_worldsNow),
  (.lstore 4, 32, 17, 0, 0, 0, [], sg0),
  (.aload_n 0, 34, 18, 0, 0, 0, [], sg0),
  (.iload_n 1, 35, 19, 0, 0, 0, [], sg0),
  (.invokevirtual 198, 36, 20, 8, 0, 0, [], sgX8_once),
  (.lstore 6, 39, 21, 0, 0, 0, [], sg0),
  (.aload_n 0, 41, 22, 0, 0, 0, [], sg0),
  (.iload_n 2, 42, 23, 0, 0, 0, [], sg0),
  (.invokevirtual 198, 43, 24, 8, 0, 0, [], sgX8_once),
  (.lstore 8, 46, 25, 0, 0, 0, [], sg0),
  (.aload_n 0, 48, 26, 0, 0, 0, [], sg0),
  (.iload_n 3, 49, 27, 0, 0, 0, [], sg0),
  (.invokevirtual 198, 50, 28, 8, 0, 0, [], sgX8_once),
  (.lstore 10, 53, 29, 0, 0, 0, [], sg0),
  (.lload 4, 55, 30, 0, 0, 0, [], sg0),
  (.lload 6, 57, 31, 0, 0, 0, [], sg0),
  (.lload 8, 59, 32, 0, 0, 0, [], sg0),
  (.ldc2_w 188, 61, 33, 0, 0, (-1), [], sg0),
  (.lxor, 64, 34, 0, 0, 0, [], sg0),
  (.land, 65, 35, 0, 0, 0, [], sg0),
  (.lload 10, 66, 36, 0, 0, 0, [], sg0),
  (.ldc2_w 188, 68, 37, 0, 0, (-1), [], sg0),
  (.lxor, 71, 38, 0, 0, 0, [], sg0),
  (.land, 72, 39, 0, 0, 0, [], sg0),
  (.lload 8, 73, 40, 0, 0, 0, [], sg0),
  (.lload 6, 75, 41, 0, 0, 0, [], sg0),
  (.ldc2_w 188, 77, 42, 0, 0, (-1), [], sg0),
  (.lxor, 80, 43, 0, 0, 0, [], sg0),
  (.land, 81, 44, 0, 0, 0, [], sg0),
  (.lload 10, 82, 45, 0, 0, 0, [], sg0),
  (.ldc2_w 188, 84, 46, 0, 0, (-1), [], sg0),
  (.lxor, 87, 47, 0, 0, 0, [], sg0),
  (.land, 88, 48, 0, 0, 0, [], sg0),
  (.lor, 89, 49, 0, 0, 0, [], sg0),
  (.lload 10, 90, 50, 0, 0, 0, [], sg0),
  (.lload 6, 92, 51, 0, 0, 0, [], sg0),
  (.ldc2_w 188, 94, 52, 0, 0, (-1), [], sg0),
  (.lxor, 97, 53, 0, 0, 0, [], sg0),
  (.land, 98, 54, 0, 0, 0, [], sg0),
  (.lload 8, 99, 55, 0, 0, 0, [], sg0),
  (.ldc2_w 188, 101, 56, 0, 0, (-1), [], sg0),
  (.lxor, 104, 57, 0, 0, 0, [], sg0),
  (.land, 105, 58, 0, 0, 0, [], sg0),
  (.lor, 106, 59, 0, 0, 0, [], sg0),
  (.land, 107, 60, 0, 0, 0, [], sg0),
  (.lreturn, 108, 61, 0, 0, 0, [], sg0),
  (.nop, 109, 62, 0, 0, 0, [], sg0)]
set_option maxRecDepth 100000 in
theorem okX8_thrice : Chk sgX8_thrice kX8_thrice := ⟨by decide +kernel, And.intro sgVX8_isOfTexts (And.intro sgVX8_isOfTexts (And.intro sgVX8_isOfTexts (And.intro sgVX8_worldsNow (And.intro sgVX8_once (And.intro sgVX8_once (And.intro sgVX8_once trivial)))))), tb_l2 [(5, 27), (5, 27), (5, 27), (5, 56), (5, 97), (5, 109), (5, 109), (5, 109), (5, 125), (5, 125), (5, 125), (5, 125), (5, 125), (5, 125)] (by decide +kernel) (by decide +kernel), nw_l2 [] (by decide +kernel) (by decide +kernel), by decide +kernel⟩
set_option maxRecDepth 100000 in
def kX8_many : List Row := [(.iload_n 1, 0, 1, 0, 0, 0, [], sg0),
  (.iconst 0, 1, 2, 0, 0, 0, [], sg0),
  (.bipush 7, 2, 3, 0, 0, 7, [], sg0),
  (.invokestatic 76, 4, 4, 0, 0, 0, [], sgX8_in),
  (.ifCond .ne 6, 7, 5, 7, 0, 0, [], sg0),
  (.bipush (-2), 10, 6, 0, 0, (-2), [], sg0),
  (.ireturn, 12, 7, 0, 0, 0, [], sg0),
  (.aload_n 0, 13, 8, 0, 0, 0, [], sg0),
  (.invokevirtual 211, 14, 9, 8, 0, 0, [], sgX8_worldsNow),
  (.lstore_n 2, 17, 10, 0, 0, 0, [], sg0),
  (.iconst (-1), 18, 11, 0, 0, (-1), [], sg0),
  (.istore 4, 19, 12, 0, 0, 0, [], sg0),
  (.iconst (-1), 21, 13, 0, 0, (-1), [], sg0),
  (.istore 5, 22, 14, 0, 0, 0, [], sg0),
  (.iconst 0, 24, 15, 0, 0, 0, [], sg0),
  (.istore 6, 25, 16, 0, 0, 0, [], sg0),
  (.iconst 0, 27, 17, 0, 0, 0, [], sg0),
  (.istore 7, 28, 18, 0, 0, 0, [], sg0),
  (.iload 7, 30, 19, 0, 0, 0, [], sg0),
  (.bipush 32, 32, 20, 0, 0, 32, [], sg0),
  (.if_icmp .ge 82, 34, 21, 59, 0, 0, [], sg0),
  (.lload_n 2, 37, 22, 0, 0, 0, [], sg0),
  (.iload 7, 38, 23, 0, 0, 0, [], sg0),
  (.invokestatic 83, 40, 24, 0, 0, 0, [], sgX8_has),
  (.ifCond .eq 67, 43, 25, 57, 0, 0, [], sg0),
  (.iload 7, 46, 26, 0, 0, 0, [], sg0),
  (.i2l, 48, 27, 0, 0, 0, [], sg0),
  (.invokestatic 215, 49, 28, 0, 0, 0, [], sgX8_bitsOf),
  (.istore 8, 52, 29, 0, 0, 0, [], sg0),
  (.iload 4, 54, 30, 0, 0, 0, [], sg0),
  (.iconst (-1), 56, 31, 0, 0, (-1), [], sg0),
  (.if_icmp .eq 10, 57, 32, 35, 0, 0, [], sg0),
  (.iload 8, 60, 33, 0, 0, 0, [], sg0),
  (.iload 4, 62, 34, 0, 0, 0, [], sg0),
  (.if_icmp .ge 8, 64, 35, 37, 0, 0, [], sg0),
  (.iload 8, 67, 36, 0, 0, 0, [], sg0),
  (.goto 5, 69, 37, 38, 0, 0, [], sg0),
  (.iload 4, 72, 38, 0, 0, 0, [], sg0),
  (.istore 4, 74, 39, 0, 0, 0, [], sg0),
  (.iload 8, 76, 40, 0, 0, 0, [], sg0),
  (.iload 5, 78, 41, 0, 0, 0, [], sg0),
  (.if_icmp .le 8, 80, 42, 44, 0, 0, [], sg0),
  (.iload 8, 83, 43, 0, 0, 0, [], sg0),
  (.goto 5, 85, 44, 45, 0, 0, [], sg0),
  (.iload 5, 88, 45, 0, 0, 0, [], sg0),
  (.istore 5, 90, 46, 0, 0, 0, [], sg0),
  (.iload 6, 92, 47, 0, 0, 0, [], sg0),
  (.iload 8, 94, 48, 0, 0, 0, [], sg0),
  (.iload_n 1, 96, 49, 0, 0, 0, [], sg0),
  (.iconst 2, 97, 50, 0, 0, 2, [], sg0),
  (.isub, 98, 51, 0, 0, 0, [], sg0),
  (.if_icmp .ne 7, 99, 52, 54, 0, 0, [], sg0),
  (.iconst 1, 102, 53, 0, 0, 1, [], sg0),
  (.goto 4, 103, 54, 55, 0, 0, [], sg0),
  (.iconst 0, 106, 55, 0, 0, 0, [], sg0),
  (.iadd, 107, 56, 0, 0, 0, [], sg0),
  (.istore 6, 108, 57, 0, 0, 0, [], sg0),
  (.iinc 7 1, 110, 58, 0, 0, 1, [], sg0),
  (.goto (-83), 113, 59, 18, 0, 0, [], sg0),
  (.iload 4, 116, 60, 0, 0, 0, [], sg0),
  (.iconst (-1), 118, 61, 0, 0, (-1), [], sg0),
  (.if_icmp .ne 7, 119, 62, 64, 0, 0, [], sg0),
  (.iconst (-1), 122, 63, 0, 0, (-1), [], sg0),
  (.goto 24, 123, 64, 74, 0, 0, [], sg0),
  (.iload_n 1, 126, 65, 0, 0, 0, [], sg0),
  (.ifCond .ne 8, 127, 66, 68, 0, 0, [], sg0),
  (.iload 4, 130, 67, 0, 0, 0, [], sg0),
  (.goto 15, 132, 68, 74, 0, 0, [], sg0),
  (.iload_n 1, 135, 69, 0, 0, 0, [], sg0),
  (.iconst 1, 136, 70, 0, 0, 1, [], sg0),
  (.if_icmp .ne 8, 137, 71, 73, 0, 0, [], sg0),
  (.iload 5, 140, 72, 0, 0, 0, [], sg0),
  (.goto 5, 142, 73, 74, 0, 0, [], sg0),
  (.iload 6, 145, 74, 0, 0, 0, [], sg0),
  (.ireturn, 147, 75, 0, 0, 0, [], sg0),
  (.nop, 148, 76, 0, 0, 0, [], sg0)]
set_option maxRecDepth 100000 in
theorem okX8_many : Chk sgX8_many kX8_many := ⟨by decide +kernel, And.intro sgSX8_in (And.intro sgVX8_worldsNow (And.intro sgSX8_has (And.intro sgSX8_bitsOf trivial))), tb_l2 [(4, 95), (5, 97), (5, 133), (5, 130)] (by decide +kernel) (by decide +kernel), nw_l2 [] (by decide +kernel) (by decide +kernel), by decide +kernel⟩
set_option maxRecDepth 100000 in
def kX8_isRow : List Row := [(.aload_n 0, 0, 1, 0, 0, 0, [], sg0),
  (.getfield 40, 1, 2, 8, 19, 0, [], sg0),
  (.iload_n 1, 4, 3, 0, 0, 0, [], sg0),
  (.iaload, 5, 4, 0, 0, 0, [], sg0),
  (.istore 4, 6, 5, 0, 0, 0, [], sg0),
  (.aload_n 0, 8, 6, 0, 0, 0, [], sg0),
  (.getfield 40, 9, 7, 8, 19, 0, [], sg0),
  (.iload_n 1, 12, 8, 0, 0, 0, [], sg0),
  (.iconst 1, 13, 9, 0, 0, 1, [], sg0),
  (.iadd, 14, 10, 0, 0, 0, [], sg0),
  (.iaload, 15, 11, 0, 0, 0, [], sg0),
  (.istore 5, 16, 12, 0, 0, 0, [], sg0),
  (.aload_n 0, 18, 13, 0, 0, 0, [], sg0),
  (.getfield 40, 19, 14, 8, 19, 0, [], sg0),
  (.iload_n 1, 22, 15, 0, 0, 0, [], sg0),
  (.iconst 2, 23, 16, 0, 0, 2, [], sg0),
  (.iadd, 24, 17, 0, 0, 0, [], sg0),
  (.iaload, 25, 18, 0, 0, 0, [], sg0),
  (.istore 6, 26, 19, 0, 0, 0, [], sg0),
  (.aload_n 0, 28, 20, 0, 0, 0, [], sg0),
  (.iload 4, 29, 21, 0, 0, 0, [], sg0),
  (.invokevirtual 185, 31, 22, 8, 0, 0, [], sgX8_isSpeaker),
  (.ifCond .eq 44, 34, 23, 43, 0, 0, [], sg0),
  (.aload_n 0, 37, 24, 0, 0, 0, [], sg0),
  (.iload 5, 38, 25, 0, 0, 0, [], sg0),
  (.invokevirtual 163, 40, 26, 8, 0, 0, [], sgX8_isOfTexts),
  (.ifCond .eq 35, 43, 27, 43, 0, 0, [], sg0),
  (.iload 6, 46, 28, 0, 0, 0, [], sg0),
  (.iconst 0, 48, 29, 0, 0, 0, [], sg0),
  (.iconst 1, 49, 30, 0, 0, 1, [], sg0),
  (.invokestatic 76, 50, 31, 0, 0, 0, [], sgX8_in),
  (.ifCond .eq 25, 53, 32, 43, 0, 0, [], sg0),
  (.aload_n 0, 56, 33, 0, 0, 0, [], sg0),
  (.iload 4, 57, 34, 0, 0, 0, [], sg0),
  (.iload 5, 59, 35, 0, 0, 0, [], sg0),
  (.iload 6, 61, 36, 0, 0, 0, [], sg0),
  (.iload_n 2, 63, 37, 0, 0, 0, [], sg0),
  (.invokevirtual 194, 64, 38, 8, 0, 0, [], sgX8_fits),
  (.iload_n 3, 67, 39, 0, 0, 0, [], sg0),
  (.invokestatic 83, 68, 40, 0, 0, 0, [], sgX8_has),
  (.ifCond .eq 7, 71, 41, 43, 0, 0, [], sg0),
  (.iconst 1, 74, 42, 0, 0, 1, [], sg0),
  (.goto 4, 75, 43, 44, 0, 0, [], sg0),
  (.iconst 0, 78, 44, 0, 0, 0, [], sg0),
  (.ireturn, 79, 45, 0, 0, 0, [], sg0),
  (.nop, 80, 46, 0, 0, 0, [], sg0)]
set_option maxRecDepth 100000 in
theorem okX8_isRow : Chk sgX8_isRow kX8_isRow := ⟨by decide +kernel, And.intro sgVX8_isSpeaker (And.intro sgVX8_isOfTexts (And.intro sgSX8_in (And.intro sgVX8_fits (And.intro sgSX8_has trivial)))), tb_l2 [(4, 153), (4, 153), (4, 153), (5, 73), (5, 27), (4, 95), (5, 117), (5, 133)] (by decide +kernel) (by decide +kernel), nw_l2 [] (by decide +kernel) (by decide +kernel), by decide +kernel⟩
set_option maxRecDepth 100000 in
def kX8_judge : List Row := [(.iload_n 1, 0, 1, 0, 0, 0, [], sg0),
  (.iconst 0, 1, 2, 0, 0, 0, [], sg0),
  (.iconst 3, 2, 3, 0, 0, 3, [], sg0),
  (.invokestatic 76, 3, 4, 0, 0, 0, [], sgX8_in),
  (.ifCond .ne 6, 6, 5, 7, 0, 0, [], sg0),
  (.bipush (-2), 9, 6, 0, 0, (-2), [], sg0),
  (.ireturn, 11, 7, 0, 0, 0, [], sg0),
  (.aload_n 0, 12, 8, 0, 0, 0, [], sg0),
  (.getfield 34, 13, 9, 8, 17, 0, [], sg0),
  (.iload_n 1, 16, 10, 0, 0, 0, [], sg0),
  (.iaload, 17, 11, 0, 0, 0, [], sg0),
  (.iconst (-1), 18, 12, 0, 0, (-1), [], sg0),
  (.if_icmp .ne 6, 19, 13, 15, 0, 0, [], sg0),
  (.bipush (-11), 22, 14, 0, 0, (-11), [], sg0),
  (.ireturn, 24, 15, 0, 0, 0, [], sg0),
  (.aload_n 0, 25, 16, 0, 0, 0, [], sg0),
  (.getfield 37, 26, 17, 8, 18, 0, [], sg0),
  (.iload_n 1, 29, 18, 0, 0, 0, [], sg0),
  (.iaload, 30, 19, 0, 0, 0, [], sg0),
  (.iconst 3, 31, 20, 0, 0, 3, [], sg0),
  (.irem, 32, 21, 0, 0, 0, [], sg0),
  (.ifCond .eq 6, 33, 22, 24, 0, 0, [], sg0),
  (.bipush (-2), 36, 23, 0, 0, (-2), [], sg0),
  (.ireturn, 38, 24, 0, 0, 0, [], sg0),
  (.iload_n 2, 39, 25, 0, 0, 0, [], sg0),
  (.invokestatic 166, 40, 26, 0, 0, 0, [], sgX8_isWorld),
  (.ifCond .ne 6, 43, 27, 29, 0, 0, [], sg0),
  (.bipush (-5), 46, 28, 0, 0, (-5), [], sg0),
  (.ireturn, 48, 29, 0, 0, 0, [], sg0),
  (.aload_n 0, 49, 30, 0, 0, 0, [], sg0),
  (.invokevirtual 205, 50, 31, 8, 0, 0, [], sgX8_reads),
  (.iconst 0, 53, 32, 0, 0, 0, [], sg0),
  (.istore_n 3, 54, 33, 0, 0, 0, [], sg0),
  (.iload_n 3, 55, 34, 0, 0, 0, [], sg0),
  (.aload_n 0, 56, 35, 0, 0, 0, [], sg0),
  (.getfield 37, 57, 36, 8, 18, 0, [], sg0),
  (.iload_n 1, 60, 37, 0, 0, 0, [], sg0),
  (.iaload, 61, 38, 0, 0, 0, [], sg0),
  (.iconst 3, 62, 39, 0, 0, 3, [], sg0),
  (.idiv, 63, 40, 0, 0, 0, [], sg0),
  (.if_icmp .ge 28, 64, 41, 57, 0, 0, [], sg0),
  (.aload_n 0, 67, 42, 0, 0, 0, [], sg0),
  (.bipush 40, 68, 43, 0, 0, 40, [], sg0),
  (.iload_n 1, 70, 44, 0, 0, 0, [], sg0),
  (.imul, 71, 45, 0, 0, 0, [], sg0),
  (.iconst 3, 72, 46, 0, 0, 3, [], sg0),
  (.iload_n 3, 73, 47, 0, 0, 0, [], sg0),
  (.imul, 74, 48, 0, 0, 0, [], sg0),
  (.iadd, 75, 49, 0, 0, 0, [], sg0),
  (.iload_n 3, 76, 50, 0, 0, 0, [], sg0),
  (.iload_n 2, 77, 51, 0, 0, 0, [], sg0),
  (.invokevirtual 267, 78, 52, 8, 0, 0, [], sgX8_isRow),
  (.ifCond .ne 5, 81, 53, 55, 0, 0, [], sg0),
  (.iload_n 3, 84, 54, 0, 0, 0, [], sg0),
  (.ireturn, 85, 55, 0, 0, 0, [], sg0),
  (.iinc 3 1, 86, 56, 0, 0, 1, [], sg0),
  (.goto (-34), 89, 57, 33, 0, 0, [], sg0),
  (.iconst (-1), 92, 58, 0, 0, (-1), [], sg0),
  (.ireturn, 93, 59, 0, 0, 0, [], sg0),
  (.nop, 94, 60, 0, 0, 0, [], sg0)]
set_option maxRecDepth 100000 in
theorem okX8_judge : Chk sgX8_judge kX8_judge := ⟨by decide +kernel, And.intro sgSX8_in (And.intro sgSX8_isWorld (And.intro sgVX8_reads (And.intro sgVX8_isRow trivial))), tb_l2 [(4, 95), (4, 151), (4, 152), (5, 31), (5, 101), (4, 152), (6, 3)] (by decide +kernel) (by decide +kernel), nw_l2 [] (by decide +kernel) (by decide +kernel), by decide +kernel⟩
set_option maxRecDepth 100000 in
def kX8_film : List Row := [(.iload_n 1, 0, 1, 0, 0, 0, [], sg0),
  (.iconst 0, 1, 2, 0, 0, 0, [], sg0),
  (.iconst 3, 2, 3, 0, 0, 3, [], sg0),
  (.invokestatic 76, 3, 4, 0, 0, 0, [], sgX8_in),
  (.ifCond .ne 6, 6, 5, 7, 0, 0, [], sg0),
  (.bipush (-2), 9, 6, 0, 0, (-2), [], sg0),
  (.ireturn, 11, 7, 0, 0, 0, [], sg0),
  (.aload_n 0, 12, 8, 0, 0, 0, [], sg0),
  (.getfield 34, 13, 9, 8, 17, 0, [], sg0),
  (.iload_n 1, 16, 10, 0, 0, 0, [], sg0),
  (.iconst 2, 17, 11, 0, 0, 2, [], sg0),
  (.iastore, 18, 12, 0, 0, 0, [], sg0),
  (.aload_n 0, 19, 13, 0, 0, 0, [], sg0),
  (.getfield 37, 20, 14, 8, 18, 0, [], sg0),
  (.iload_n 1, 23, 15, 0, 0, 0, [], sg0),
  (.iconst 3, 24, 16, 0, 0, 3, [], sg0),
  (.aload_n 0, 25, 17, 0, 0, 0, [], sg0),
  (.getfield 87, 26, 18, 8, 3, 0, [], sg0),
  (.imul, 29, 19, 0, 0, 0, [], sg0),
  (.iastore, 30, 20, 0, 0, 0, [], sg0),
  (.iconst 0, 31, 21, 0, 0, 0, [], sg0),
  (.istore_n 2, 32, 22, 0, 0, 0, [], sg0),
  (.iload_n 2, 33, 23, 0, 0, 0, [], sg0),
  (.bipush 40, 34, 24, 0, 0, 40, [], sg0),
  (.if_icmp .ge 40, 36, 25, 47, 0, 0, [], sg0),
  (.aload_n 0, 39, 26, 0, 0, 0, [], sg0),
  (.getfield 40, 40, 27, 8, 19, 0, [], sg0),
  (.bipush 40, 43, 28, 0, 0, 40, [], sg0),
  (.iload_n 1, 45, 29, 0, 0, 0, [], sg0),
  (.imul, 46, 30, 0, 0, 0, [], sg0),
  (.iload_n 2, 47, 31, 0, 0, 0, [], sg0),
  (.iadd, 48, 32, 0, 0, 0, [], sg0),
  (.iload_n 2, 49, 33, 0, 0, 0, [], sg0),
  (.iconst 3, 50, 34, 0, 0, 3, [], sg0),
  (.aload_n 0, 51, 35, 0, 0, 0, [], sg0),
  (.getfield 87, 52, 36, 8, 3, 0, [], sg0),
  (.imul, 55, 37, 0, 0, 0, [], sg0),
  (.if_icmp .ge 12, 56, 38, 43, 0, 0, [], sg0),
  (.aload_n 0, 59, 39, 0, 0, 0, [], sg0),
  (.getfield 16, 60, 40, 8, 4, 0, [], sg0),
  (.iload_n 2, 63, 41, 0, 0, 0, [], sg0),
  (.iaload, 64, 42, 0, 0, 0, [], sg0),
  (.goto 4, 65, 43, 44, 0, 0, [], sg0),
  (.iconst 0, 68, 44, 0, 0, 0, [], sg0),
  (.iastore, 69, 45, 0, 0, 0, [], sg0),
  (.iinc 2 1, 70, 46, 0, 0, 1, [], sg0),
  (.goto (-40), 73, 47, 22, 0, 0, [], sg0),
  (.aload_n 0, 76, 48, 0, 0, 0, [], sg0),
  (.getfield 87, 77, 49, 8, 3, 0, [], sg0),
  (.ireturn, 80, 50, 0, 0, 0, [], sg0),
  (.nop, 81, 51, 0, 0, 0, [], sg0)]
set_option maxRecDepth 100000 in
theorem okX8_film : Chk sgX8_film kX8_film := ⟨by decide +kernel, And.intro sgSX8_in trivial, tb_l2 [(4, 95), (4, 151), (4, 152), (4, 137), (4, 153), (4, 137), (4, 138), (4, 137)] (by decide +kernel) (by decide +kernel), nw_l2 [] (by decide +kernel) (by decide +kernel), by decide +kernel⟩
set_option maxRecDepth 100000 in
def kX8_worldAt : List Row := [(.iload_n 2, 0, 1, 0, 0, 0, [], sg0),
  (.istore_n 3, 1, 2, 0, 0, 0, [], sg0),
  (.iconst 0, 2, 3, 0, 0, 0, [], sg0),
  (.istore 4, 3, 4, 0, 0, 0, [], sg0),
  (.iload 4, 5, 5, 0, 0, 0, [], sg0),
  (.bipush 32, 7, 6, 0, 0, 32, [], sg0),
  (.if_icmp .ge 28, 9, 7, 18, 0, 0, [], sg0),
  (.lload_n 0, 12, 8, 0, 0, 0, [], sg0),
  (.iload 4, 13, 9, 0, 0, 0, [], sg0),
  (.invokestatic 83, 15, 10, 0, 0, 0, [], sgX8_has),
  (.ifCond .eq 13, 18, 11, 16, 0, 0, [], sg0),
  (.iload_n 3, 21, 12, 0, 0, 0, [], sg0),
  (.ifCond .ne 6, 22, 13, 15, 0, 0, [], sg0),
  (.iload 4, 25, 14, 0, 0, 0, [], sg0),
  (.ireturn, 27, 15, 0, 0, 0, [], sg0),
  (.iinc 3 (-1), 28, 16, 0, 0, (-1), [], sg0),
  (.iinc 4 1, 31, 17, 0, 0, 1, [], sg0),
  (.goto (-29), 34, 18, 4, 0, 0, [], sg0),
  (.iconst (-1), 37, 19, 0, 0, (-1), [], sg0),
  (.ireturn, 38, 20, 0, 0, 0, [], sg0),
  (.nop, 39, 21, 0, 0, 0, [], sg0)]
set_option maxRecDepth 100000 in
theorem okX8_worldAt : Chk sgX8_worldAt kX8_worldAt := ⟨by decide +kernel, And.intro sgSX8_has trivial, tb_l2 [(5, 133)] (by decide +kernel) (by decide +kernel), nw_l2 [] (by decide +kernel) (by decide +kernel), by decide +kernel⟩
set_option maxRecDepth 100000 in
def kX8_asksBy : List Row := [(.iload_n 3, 0, 1, 0, 0, 0, [], sg0),
  (.i2l, 1, 2, 0, 0, 0, [], sg0),
  (.lconst 1, 2, 3, 0, 0, 1, [], sg0),
  (.ladd, 3, 4, 0, 0, 0, [], sg0),
  (.ldc2_w 270, 4, 5, 0, 0, 48271, [], sg0),
  (.lmul, 7, 6, 0, 0, 0, [], sg0),
  (.ldc2_w 272, 8, 7, 0, 0, 2147483647, [], sg0),
  (.lrem, 11, 8, 0, 0, 0, [], sg0),
  (.lstore 4, 12, 9, 0, 0, 0, [], sg0),
  (.lload_n 1, 14, 10, 0, 0, 0, [], sg0),
  (.lload 4, 15, 11, 0, 0, 0, [], sg0),
  (.lload_n 1, 17, 12, 0, 0, 0, [], sg0),
  (.invokestatic 215, 18, 13, 0, 0, 0, [], sgX8_bitsOf),
  (.i2l, 21, 14, 0, 0, 0, [], sg0),
  (.lrem, 22, 15, 0, 0, 0, [], sg0),
  (.l2i, 23, 16, 0, 0, 0, [], sg0),
  (.invokestatic 274, 24, 17, 0, 0, 0, [], sgX8_worldAt),
  (.istore 6, 27, 18, 0, 0, 0, [], sg0),
  (.lload_n 1, 29, 19, 0, 0, 0, [], sg0),
  (.lstore 7, 30, 20, 0, 0, 0, [], sg0),
  (.iconst 0, 32, 21, 0, 0, 0, [], sg0),
  (.istore 9, 33, 22, 0, 0, 0, [], sg0),
  (.lload 7, 35, 23, 0, 0, 0, [], sg0),
  (.invokestatic 215, 37, 24, 0, 0, 0, [], sgX8_bitsOf),
  (.iconst 1, 40, 25, 0, 0, 1, [], sg0),
  (.if_icmp .le 175, 41, 26, 111, 0, 0, [], sg0),
  (.iload 9, 44, 27, 0, 0, 0, [], sg0),
  (.bipush 6, 46, 28, 0, 0, 6, [], sg0),
  (.if_icmp .ge 168, 48, 29, 111, 0, 0, [], sg0),
  (.aload_n 0, 51, 30, 0, 0, 0, [], sg0),
  (.getfield 73, 52, 31, 8, 0, 0, [], sg0),
  (.ifCond .le 161, 55, 32, 111, 0, 0, [], sg0),
  (.aload_n 0, 58, 33, 0, 0, 0, [], sg0),
  (.lload 7, 59, 34, 0, 0, 0, [], sg0),
  (.aload_n 0, 61, 35, 0, 0, 0, [], sg0),
  (.getfield 87, 62, 36, 8, 3, 0, [], sg0),
  (.iload 9, 65, 37, 0, 0, 0, [], sg0),
  (.iadd, 67, 38, 0, 0, 0, [], sg0),
  (.invokevirtual 254, 68, 39, 8, 0, 0, [], sgX8_findsQuestion),
  (.aload_n 0, 71, 40, 0, 0, 0, [], sg0),
  (.aload_n 0, 72, 41, 0, 0, 0, [], sg0),
  (.getfield 241, 73, 42, 8, 34, 0, [], sg0),
  (.bipush 10, 76, 43, 0, 0, 10, [], sg0),
  (.idiv, 78, 44, 0, 0, 0, [], sg0),
  (.aload_n 0, 79, 45, 0, 0, 0, [], sg0),
  (.getfield 241, 80, 46, 8, 34, 0, [], sg0),
  (.bipush 10, 83, 47, 0, 0, 10, [], sg0),
  (.irem, 85, 48, 0, 0, 0, [], sg0),
  (.iconst 0, 86, 49, 0, 0, 0, [], sg0),
  (.aload_n 0, 87, 50, 0, 0, 0, [], sg0),
  (.getfield 87, 88, 51, 8, 3, 0, [], sg0),
  (.iload 9, 91, 52, 0, 0, 0, [], sg0),
  (.iadd, 93, 53, 0, 0, 0, [], sg0),
  (.invokevirtual 194, 94, 54, 8, 0, 0, [], sgX8_fits),
  (.lstore 10, 97, 55, 0, 0, 0, [], sg0),
  (.aload_n 0, 99, 56, 0, 0, 0, [], sg0),
  (.aload_n 0, 100, 57, 0, 0, 0, [], sg0),
  (.getfield 241, 101, 58, 8, 34, 0, [], sg0),
  (.bipush 10, 104, 59, 0, 0, 10, [], sg0),
  (.idiv, 106, 60, 0, 0, 0, [], sg0),
  (.aload_n 0, 107, 61, 0, 0, 0, [], sg0),
  (.getfield 241, 108, 62, 8, 34, 0, [], sg0),
  (.bipush 10, 111, 63, 0, 0, 10, [], sg0),
  (.irem, 113, 64, 0, 0, 0, [], sg0),
  (.iconst 1, 114, 65, 0, 0, 1, [], sg0),
  (.aload_n 0, 115, 66, 0, 0, 0, [], sg0),
  (.getfield 87, 116, 67, 8, 3, 0, [], sg0),
  (.iload 9, 119, 68, 0, 0, 0, [], sg0),
  (.iadd, 121, 69, 0, 0, 0, [], sg0),
  (.invokevirtual 194, 122, 70, 8, 0, 0, [], sgX8_fits),
  (.lstore 12, 125, 71, 0, 0, 0, [], sg0),
  (.lload 4, 127, 72, 0, 0, 0, [], sg0),
  (.ldc2_w 270, 129, 73, 0, 0, 48271, [], sg0),
  (.lmul, 132, 74, 0, 0, 0, [], sg0),
  (.ldc2_w 272, 133, 75, 0, 0, 2147483647, [], sg0),
  (.lrem, 136, 76, 0, 0, 0, [], sg0),
  (.lstore 4, 137, 77, 0, 0, 0, [], sg0),
  (.lload 10, 139, 78, 0, 0, 0, [], sg0),
  (.iload 6, 141, 79, 0, 0, 0, [], sg0),
  (.invokestatic 83, 143, 80, 0, 0, 0, [], sgX8_has),
  (.ifCond .eq 28, 146, 81, 93, 0, 0, [], sg0),
  (.lload 12, 149, 82, 0, 0, 0, [], sg0),
  (.iload 6, 151, 83, 0, 0, 0, [], sg0),
  (.invokestatic 83, 153, 84, 0, 0, 0, [], sgX8_has),
  (.ifCond .eq 14, 156, 85, 91, 0, 0, [], sg0),
  (.lload 4, 159, 86, 0, 0, 0, [], sg0),
  (.ldc2_w 278, 161, 87, 0, 0, 2, [], sg0),
  (.lrem, 164, 88, 0, 0, 0, [], sg0),
  (.lconst 0, 165, 89, 0, 0, 0, [], sg0),
  (.lcmp, 166, 90, 0, 0, 0, [], sg0),
  (.ifCond .ne 7, 167, 91, 93, 0, 0, [], sg0),
  (.iconst 1, 170, 92, 0, 0, 1, [], sg0),
  (.goto 4, 171, 93, 94, 0, 0, [], sg0),
  (.iconst 0, 174, 94, 0, 0, 0, [], sg0),
  (.istore 14, 175, 95, 0, 0, 0, [], sg0),
  (.lload 7, 177, 96, 0, 0, 0, [], sg0),
  (.iload 14, 179, 97, 0, 0, 0, [], sg0),
  (.ifCond .eq 8, 181, 98, 100, 0, 0, [], sg0),
  (.lload 10, 184, 99, 0, 0, 0, [], sg0),
  (.goto 21, 186, 100, 107, 0, 0, [], sg0),
  (.lload 12, 189, 101, 0, 0, 0, [], sg0),
  (.iload 6, 191, 102, 0, 0, 0, [], sg0),
  (.invokestatic 83, 193, 103, 0, 0, 0, [], sgX8_has),
  (.ifCond .eq 8, 196, 104, 106, 0, 0, [], sg0),
  (.lload 12, 199, 105, 0, 0, 0, [], sg0),
  (.goto 6, 201, 106, 107, 0, 0, [], sg0),
  (.ldc2_w 179, 204, 107, 0, 0, 4294967295, [], sg0),
  (.land, 207, 108, 0, 0, 0, [], sg0),
  (.lstore 7, 208, 109, 0, 0, 0, [], sg0),
  (.iinc 9 1, 210, 110, 0, 0, 1, [], sg0),
  (.goto (-178), 213, 111, 22, 0, 0, [], sg0),
  (.iload 9, 216, 112, 0, 0, 0, [], sg0),
  (.ireturn, 218, 113, 0, 0, 0, [], sg0),
  (.nop, 219, 114, 0, 0, 0, [], sg0)]
set_option maxRecDepth 100000 in
theorem okX8_asksBy : Chk sgX8_asksBy kX8_asksBy := ⟨by decide +kernel, And.intro sgSX8_bitsOf (And.intro sgSX8_worldAt (And.intro sgSX8_bitsOf (And.intro sgVX8_findsQuestion (And.intro sgVX8_fits (And.intro sgVX8_fits (And.intro sgSX8_has (And.intro sgSX8_has (And.intro sgSX8_has trivial)))))))), tb_l2 [(6, 20), (6, 21), (5, 130), (6, 22), (5, 130), (4, 134), (4, 137), (5, 188), (4, 168), (4, 168), (4, 137), (5, 117), (4, 168), (4, 168), (4, 137), (5, 117), (6, 20), (6, 21), (5, 133), (5, 133), (6, 25), (5, 133), (5, 61)] (by decide +kernel) (by decide +kernel), nw_l2 [] (by decide +kernel) (by decide +kernel), by decide +kernel⟩
set_option maxRecDepth 100000 in
def kX8_drawn : List Row := [(.iload_n 1, 0, 1, 0, 0, 0, [], sg0),
  (.iconst 0, 1, 2, 0, 0, 0, [], sg0),
  (.ldc_w 280, 2, 3, 0, 0, 99999, [], sg0),
  (.invokestatic 76, 5, 4, 0, 0, 0, [], sgX8_in),
  (.ifCond .ne 6, 8, 5, 7, 0, 0, [], sg0),
  (.bipush (-2), 11, 6, 0, 0, (-2), [], sg0),
  (.ireturn, 13, 7, 0, 0, 0, [], sg0),
  (.aload_n 0, 14, 8, 0, 0, 0, [], sg0),
  (.invokevirtual 211, 15, 9, 8, 0, 0, [], sgX8_worldsNow),
  (.lstore_n 2, 18, 10, 0, 0, 0, [], sg0),
  (.lload_n 2, 19, 11, 0, 0, 0, [], sg0),
  (.lconst 0, 20, 12, 0, 0, 0, [], sg0),
  (.lcmp, 21, 13, 0, 0, 0, [], sg0),
  (.ifCond .ne 7, 22, 14, 16, 0, 0, [], sg0),
  (.iconst (-1), 25, 15, 0, 0, (-1), [], sg0),
  (.goto 9, 26, 16, 20, 0, 0, [], sg0),
  (.aload_n 0, 29, 17, 0, 0, 0, [], sg0),
  (.lload_n 2, 30, 18, 0, 0, 0, [], sg0),
  (.iload_n 1, 31, 19, 0, 0, 0, [], sg0),
  (.invokevirtual 281, 32, 20, 8, 0, 0, [], sgX8_asksBy),
  (.ireturn, 35, 21, 0, 0, 0, [], sg0),
  (.nop, 36, 22, 0, 0, 0, [], sg0)]
set_option maxRecDepth 100000 in
theorem okX8_drawn : Chk sgX8_drawn kX8_drawn := ⟨by decide +kernel, And.intro sgSX8_in (And.intro sgVX8_worldsNow (And.intro sgVX8_asksBy trivial)), tb_l2 [(6, 15), (4, 95), (5, 97), (6, 16)] (by decide +kernel) (by decide +kernel), nw_l2 [] (by decide +kernel) (by decide +kernel), by decide +kernel⟩
set_option maxRecDepth 100000 in
def kX8_mean : List Row := [(.iload_n 1, 0, 1, 0, 0, 0, [], sg0),
  (.iconst 0, 1, 2, 0, 0, 0, [], sg0),
  (.ldc_w 280, 2, 3, 0, 0, 99999, [], sg0),
  (.invokestatic 76, 5, 4, 0, 0, 0, [], sgX8_in),
  (.ifCond .eq 22, 8, 5, 15, 0, 0, [], sg0),
  (.iload_n 2, 11, 6, 0, 0, 0, [], sg0),
  (.iconst 1, 12, 7, 0, 0, 1, [], sg0),
  (.bipush 10, 13, 8, 0, 0, 10, [], sg0),
  (.invokestatic 76, 15, 9, 0, 0, 0, [], sgX8_in),
  (.ifCond .eq 12, 18, 10, 15, 0, 0, [], sg0),
  (.iload_n 3, 21, 11, 0, 0, 0, [], sg0),
  (.iconst 0, 22, 12, 0, 0, 0, [], sg0),
  (.iconst 1, 23, 13, 0, 0, 1, [], sg0),
  (.invokestatic 76, 24, 14, 0, 0, 0, [], sgX8_in),
  (.ifCond .ne 7, 27, 15, 17, 0, 0, [], sg0),
  (.ldc2_w 177, 30, 16, 0, 0, (-4611686018427387904), [], sg0),
  (.lreturn, 33, 17, 0, 0, 0, [], sg0),
  (.aload_n 0, 34, 18, 0, 0, 0, [], sg0),
  (.invokevirtual 211, 35, 19, 8, 0, 0, [], sgX8_worldsNow),
  (.lstore 4, 38, 20, 0, 0, 0, [], sg0),
  (.lload 4, 40, 21, 0, 0, 0, [], sg0),
  (.lconst 0, 42, 22, 0, 0, 0, [], sg0),
  (.lcmp, 43, 23, 0, 0, 0, [], sg0),
  (.ifCond .ne 7, 44, 24, 26, 0, 0, [], sg0),
  (.ldc2_w 177, 47, 25, 0, 0, (-4611686018427387904), [], sg0),
  (.lreturn, 50, 26, 0, 0, 0, [], sg0),
  (.lconst 0, 51, 27, 0, 0, 0, [], sg0),
  (.lstore 6, 52, 28, 0, 0, 0, [], sg0),
  (.iconst 0, 54, 29, 0, 0, 0, [], sg0),
  (.istore 8, 55, 30, 0, 0, 0, [], sg0),
  (.iload 8, 57, 31, 0, 0, 0, [], sg0),
  (.iload_n 2, 59, 32, 0, 0, 0, [], sg0),
  (.if_icmp .ge 25, 60, 33, 45, 0, 0, [], sg0),
  (.lload 6, 63, 34, 0, 0, 0, [], sg0),
  (.aload_n 0, 65, 35, 0, 0, 0, [], sg0),
  (.lload 4, 66, 36, 0, 0, 0, [], sg0),
  (.iload_n 1, 68, 37, 0, 0, 0, [], sg0),
  (.iload 8, 69, 38, 0, 0, 0, [], sg0),
  (.iadd, 71, 39, 0, 0, 0, [], sg0),
  (.invokevirtual 281, 72, 40, 8, 0, 0, [], sgX8_asksBy),
  (.i2l, 75, 41, 0, 0, 0, [], sg0),
  (.ladd, 76, 42, 0, 0, 0, [], sg0),
  (.lstore 6, 77, 43, 0, 0, 0, [], sg0),
  (.iinc 8 1, 79, 44, 0, 0, 1, [], sg0),
  (.goto (-25), 82, 45, 30, 0, 0, [], sg0),
  (.lload 6, 85, 46, 0, 0, 0, [], sg0),
  (.iload_n 2, 87, 47, 0, 0, 0, [], sg0),
  (.i2l, 88, 48, 0, 0, 0, [], sg0),
  (.iload_n 3, 89, 49, 0, 0, 0, [], sg0),
  (.invokestatic 237, 90, 50, 0, 0, 0, [], sgX8_lowest),
  (.lreturn, 93, 51, 0, 0, 0, [], sg0),
  (.nop, 94, 52, 0, 0, 0, [], sg0)]
set_option maxRecDepth 100000 in
theorem okX8_mean : Chk sgX8_mean kX8_mean := ⟨by decide +kernel, And.intro sgSX8_in (And.intro sgSX8_in (And.intro sgSX8_in (And.intro sgVX8_worldsNow (And.intro sgVX8_asksBy (And.intro sgSX8_lowest trivial))))), tb_l2 [(6, 15), (4, 95), (4, 95), (4, 95), (5, 56), (5, 97), (5, 56), (6, 16), (5, 177)] (by decide +kernel) (by decide +kernel), nw_l2 [] (by decide +kernel) (by decide +kernel), by decide +kernel⟩
set_option maxRecDepth 100000 in
def kX8_image : List Row := [(.aload_n 0, 0, 1, 0, 0, 0, [], sg0),
  (.iconst 1, 1, 2, 0, 0, 1, [], sg0),
  (.putfield 284, 2, 3, 8, 11, 0, [], sg0),
  (.aload_n 0, 5, 4, 0, 0, 0, [], sg0),
  (.aload_n 0, 6, 5, 0, 0, 0, [], sg0),
  (.getfield 73, 7, 6, 8, 0, 0, [], sg0),
  (.putfield 288, 10, 7, 8, 12, 0, [], sg0),
  (.aload_n 0, 13, 8, 0, 0, 0, [], sg0),
  (.aload_n 0, 14, 9, 0, 0, 0, [], sg0),
  (.getfield 87, 15, 10, 8, 3, 0, [], sg0),
  (.putfield 291, 18, 11, 8, 13, 0, [], sg0),
  (.aload_n 0, 21, 12, 0, 0, 0, [], sg0),
  (.aload_n 0, 22, 13, 0, 0, 0, [], sg0),
  (.getfield 90, 23, 14, 8, 10, 0, [], sg0),
  (.putfield 294, 26, 15, 8, 14, 0, [], sg0),
  (.iconst 0, 29, 16, 0, 0, 0, [], sg0),
  (.istore_n 1, 30, 17, 0, 0, 0, [], sg0),
  (.iload_n 1, 31, 18, 0, 0, 0, [], sg0),
  (.iconst 5, 32, 19, 0, 0, 5, [], sg0),
  (.if_icmp .ge 35, 33, 20, 40, 0, 0, [], sg0),
  (.aload_n 0, 36, 21, 0, 0, 0, [], sg0),
  (.getfield 28, 37, 22, 8, 15, 0, [], sg0),
  (.iload_n 1, 40, 23, 0, 0, 0, [], sg0),
  (.aload_n 0, 41, 24, 0, 0, 0, [], sg0),
  (.getfield 7, 42, 25, 8, 1, 0, [], sg0),
  (.iload_n 1, 45, 26, 0, 0, 0, [], sg0),
  (.iaload, 46, 27, 0, 0, 0, [], sg0),
  (.iastore, 47, 28, 0, 0, 0, [], sg0),
  (.aload_n 0, 48, 29, 0, 0, 0, [], sg0),
  (.getfield 28, 49, 30, 8, 15, 0, [], sg0),
  (.iconst 5, 52, 31, 0, 0, 5, [], sg0),
  (.iload_n 1, 53, 32, 0, 0, 0, [], sg0),
  (.iadd, 54, 33, 0, 0, 0, [], sg0),
  (.aload_n 0, 55, 34, 0, 0, 0, [], sg0),
  (.getfield 13, 56, 35, 8, 2, 0, [], sg0),
  (.iload_n 1, 59, 36, 0, 0, 0, [], sg0),
  (.iaload, 60, 37, 0, 0, 0, [], sg0),
  (.iastore, 61, 38, 0, 0, 0, [], sg0),
  (.iinc 1 1, 62, 39, 0, 0, 1, [], sg0),
  (.goto (-34), 65, 40, 17, 0, 0, [], sg0),
  (.iconst 0, 68, 41, 0, 0, 0, [], sg0),
  (.istore_n 1, 69, 42, 0, 0, 0, [], sg0),
  (.iload_n 1, 70, 43, 0, 0, 0, [], sg0),
  (.bipush 36, 71, 44, 0, 0, 36, [], sg0),
  (.if_icmp .ge 21, 73, 45, 55, 0, 0, [], sg0),
  (.aload_n 0, 76, 46, 0, 0, 0, [], sg0),
  (.getfield 31, 77, 47, 8, 16, 0, [], sg0),
  (.iload_n 1, 80, 48, 0, 0, 0, [], sg0),
  (.aload_n 0, 81, 49, 0, 0, 0, [], sg0),
  (.getfield 16, 82, 50, 8, 4, 0, [], sg0),
  (.iload_n 1, 85, 51, 0, 0, 0, [], sg0),
  (.iaload, 86, 52, 0, 0, 0, [], sg0),
  (.iastore, 87, 53, 0, 0, 0, [], sg0),
  (.iinc 1 1, 88, 54, 0, 0, 1, [], sg0),
  (.goto (-21), 91, 55, 42, 0, 0, [], sg0),
  (.aload_n 0, 94, 56, 0, 0, 0, [], sg0),
  (.getfield 87, 95, 57, 8, 3, 0, [], sg0),
  (.ireturn, 98, 58, 0, 0, 0, [], sg0),
  (.nop, 99, 59, 0, 0, 0, [], sg0)]
set_option maxRecDepth 100000 in
theorem okX8_image : Chk sgX8_image kX8_image := ⟨by decide +kernel, trivial, tb_l2 [(4, 145), (4, 134), (4, 146), (4, 137), (4, 147), (4, 144), (4, 148), (4, 149), (4, 135), (4, 149), (4, 136), (4, 150), (4, 138), (4, 137)] (by decide +kernel) (by decide +kernel), nw_l2 [] (by decide +kernel) (by decide +kernel), by decide +kernel⟩
set_option maxRecDepth 100000 in
def kX8_back : List Row := [(.aload_n 0, 0, 1, 0, 0, 0, [], sg0),
  (.getfield 284, 1, 2, 8, 11, 0, [], sg0),
  (.ifCond .ne 6, 4, 3, 5, 0, 0, [], sg0),
  (.bipush (-3), 7, 4, 0, 0, (-3), [], sg0),
  (.ireturn, 9, 5, 0, 0, 0, [], sg0),
  (.aload_n 0, 10, 6, 0, 0, 0, [], sg0),
  (.aload_n 0, 11, 7, 0, 0, 0, [], sg0),
  (.getfield 288, 12, 8, 8, 12, 0, [], sg0),
  (.putfield 73, 15, 9, 8, 0, 0, [], sg0),
  (.aload_n 0, 18, 10, 0, 0, 0, [], sg0),
  (.aload_n 0, 19, 11, 0, 0, 0, [], sg0),
  (.getfield 291, 20, 12, 8, 13, 0, [], sg0),
  (.putfield 87, 23, 13, 8, 3, 0, [], sg0),
  (.aload_n 0, 26, 14, 0, 0, 0, [], sg0),
  (.aload_n 0, 27, 15, 0, 0, 0, [], sg0),
  (.getfield 294, 28, 16, 8, 14, 0, [], sg0),
  (.putfield 90, 31, 17, 8, 10, 0, [], sg0),
  (.iconst 0, 34, 18, 0, 0, 0, [], sg0),
  (.istore_n 1, 35, 19, 0, 0, 0, [], sg0),
  (.iload_n 1, 36, 20, 0, 0, 0, [], sg0),
  (.iconst 5, 37, 21, 0, 0, 5, [], sg0),
  (.if_icmp .ge 35, 38, 22, 42, 0, 0, [], sg0),
  (.aload_n 0, 41, 23, 0, 0, 0, [], sg0),
  (.getfield 7, 42, 24, 8, 1, 0, [], sg0),
  (.iload_n 1, 45, 25, 0, 0, 0, [], sg0),
  (.aload_n 0, 46, 26, 0, 0, 0, [], sg0),
  (.getfield 28, 47, 27, 8, 15, 0, [], sg0),
  (.iload_n 1, 50, 28, 0, 0, 0, [], sg0),
  (.iaload, 51, 29, 0, 0, 0, [], sg0),
  (.iastore, 52, 30, 0, 0, 0, [], sg0),
  (.aload_n 0, 53, 31, 0, 0, 0, [], sg0),
  (.getfield 13, 54, 32, 8, 2, 0, [], sg0),
  (.iload_n 1, 57, 33, 0, 0, 0, [], sg0),
  (.aload_n 0, 58, 34, 0, 0, 0, [], sg0),
  (.getfield 28, 59, 35, 8, 15, 0, [], sg0),
  (.iconst 5, 62, 36, 0, 0, 5, [], sg0),
  (.iload_n 1, 63, 37, 0, 0, 0, [], sg0),
  (.iadd, 64, 38, 0, 0, 0, [], sg0),
  (.iaload, 65, 39, 0, 0, 0, [], sg0),
  (.iastore, 66, 40, 0, 0, 0, [], sg0),
  (.iinc 1 1, 67, 41, 0, 0, 1, [], sg0),
  (.goto (-34), 70, 42, 19, 0, 0, [], sg0),
  (.iconst 0, 73, 43, 0, 0, 0, [], sg0),
  (.istore_n 1, 74, 44, 0, 0, 0, [], sg0),
  (.iload_n 1, 75, 45, 0, 0, 0, [], sg0),
  (.bipush 36, 76, 46, 0, 0, 36, [], sg0),
  (.if_icmp .ge 21, 78, 47, 57, 0, 0, [], sg0),
  (.aload_n 0, 81, 48, 0, 0, 0, [], sg0),
  (.getfield 16, 82, 49, 8, 4, 0, [], sg0),
  (.iload_n 1, 85, 50, 0, 0, 0, [], sg0),
  (.aload_n 0, 86, 51, 0, 0, 0, [], sg0),
  (.getfield 31, 87, 52, 8, 16, 0, [], sg0),
  (.iload_n 1, 90, 53, 0, 0, 0, [], sg0),
  (.iaload, 91, 54, 0, 0, 0, [], sg0),
  (.iastore, 92, 55, 0, 0, 0, [], sg0),
  (.iinc 1 1, 93, 56, 0, 0, 1, [], sg0),
  (.goto (-21), 96, 57, 44, 0, 0, [], sg0),
  (.aload_n 0, 99, 58, 0, 0, 0, [], sg0),
  (.getfield 87, 100, 59, 8, 3, 0, [], sg0),
  (.ireturn, 103, 60, 0, 0, 0, [], sg0),
  (.nop, 104, 61, 0, 0, 0, [], sg0)]
set_option maxRecDepth 100000 in
theorem okX8_back : Chk sgX8_back kX8_back := ⟨by decide +kernel, trivial, tb_l2 [(4, 145), (4, 146), (4, 134), (4, 147), (4, 137), (4, 148), (4, 144), (4, 135), (4, 149), (4, 136), (4, 149), (4, 138), (4, 150), (4, 137)] (by decide +kernel) (by decide +kernel), nw_l2 [] (by decide +kernel) (by decide +kernel), by decide +kernel⟩
set_option maxRecDepth 100000 in
def kX8_sheet : List Row := [(.iload_n 1, 0, 1, 0, 0, 0, [], sg0),
  (.iconst 0, 1, 2, 0, 0, 0, [], sg0),
  (.iconst 3, 2, 3, 0, 0, 3, [], sg0),
  (.invokestatic 76, 3, 4, 0, 0, 0, [], sgX8_in),
  (.ifCond .eq 23, 6, 5, 16, 0, 0, [], sg0),
  (.iload_n 2, 9, 6, 0, 0, 0, [], sg0),
  (.iconst (-1), 10, 7, 0, 0, (-1), [], sg0),
  (.iconst 2, 11, 8, 0, 0, 2, [], sg0),
  (.invokestatic 76, 12, 9, 0, 0, 0, [], sgX8_in),
  (.ifCond .eq 14, 15, 10, 16, 0, 0, [], sg0),
  (.iload_n 2, 18, 11, 0, 0, 0, [], sg0),
  (.iconst (-1), 19, 12, 0, 0, (-1), [], sg0),
  (.if_icmp .eq 12, 20, 13, 18, 0, 0, [], sg0),
  (.iload_n 3, 23, 14, 0, 0, 0, [], sg0),
  (.bipush 40, 24, 15, 0, 0, 40, [], sg0),
  (.if_icmp .le 6, 26, 16, 18, 0, 0, [], sg0),
  (.bipush (-2), 29, 17, 0, 0, (-2), [], sg0),
  (.ireturn, 31, 18, 0, 0, 0, [], sg0),
  (.iload_n 2, 32, 19, 0, 0, 0, [], sg0),
  (.iconst (-1), 33, 20, 0, 0, (-1), [], sg0),
  (.if_icmp .eq 10, 34, 21, 25, 0, 0, [], sg0),
  (.iload_n 3, 37, 22, 0, 0, 0, [], sg0),
  (.ifCond .ge 6, 38, 23, 25, 0, 0, [], sg0),
  (.bipush (-14), 41, 24, 0, 0, (-14), [], sg0),
  (.ireturn, 43, 25, 0, 0, 0, [], sg0),
  (.aload_n 0, 44, 26, 0, 0, 0, [], sg0),
  (.getfield 34, 45, 27, 8, 17, 0, [], sg0),
  (.iload_n 1, 48, 28, 0, 0, 0, [], sg0),
  (.iload_n 2, 49, 29, 0, 0, 0, [], sg0),
  (.iastore, 50, 30, 0, 0, 0, [], sg0),
  (.aload_n 0, 51, 31, 0, 0, 0, [], sg0),
  (.getfield 37, 52, 32, 8, 18, 0, [], sg0),
  (.iload_n 1, 55, 33, 0, 0, 0, [], sg0),
  (.iload_n 2, 56, 34, 0, 0, 0, [], sg0),
  (.iconst (-1), 57, 35, 0, 0, (-1), [], sg0),
  (.if_icmp .ne 7, 58, 36, 38, 0, 0, [], sg0),
  (.iconst 0, 61, 37, 0, 0, 0, [], sg0),
  (.goto 4, 62, 38, 39, 0, 0, [], sg0),
  (.iload_n 3, 65, 39, 0, 0, 0, [], sg0),
  (.iastore, 66, 40, 0, 0, 0, [], sg0),
  (.iconst 0, 67, 41, 0, 0, 0, [], sg0),
  (.istore 4, 68, 42, 0, 0, 0, [], sg0),
  (.iload 4, 70, 43, 0, 0, 0, [], sg0),
  (.bipush 40, 72, 44, 0, 0, 40, [], sg0),
  (.if_icmp .ge 22, 74, 45, 56, 0, 0, [], sg0),
  (.aload_n 0, 77, 46, 0, 0, 0, [], sg0),
  (.getfield 40, 78, 47, 8, 19, 0, [], sg0),
  (.bipush 40, 81, 48, 0, 0, 40, [], sg0),
  (.iload_n 1, 83, 49, 0, 0, 0, [], sg0),
  (.imul, 84, 50, 0, 0, 0, [], sg0),
  (.iload 4, 85, 51, 0, 0, 0, [], sg0),
  (.iadd, 87, 52, 0, 0, 0, [], sg0),
  (.iconst 0, 88, 53, 0, 0, 0, [], sg0),
  (.iastore, 89, 54, 0, 0, 0, [], sg0),
  (.iinc 4 1, 90, 55, 0, 0, 1, [], sg0),
  (.goto (-23), 93, 56, 42, 0, 0, [], sg0),
  (.iconst 1, 96, 57, 0, 0, 1, [], sg0),
  (.ireturn, 97, 58, 0, 0, 0, [], sg0),
  (.nop, 98, 59, 0, 0, 0, [], sg0)]
set_option maxRecDepth 100000 in
theorem okX8_sheet : Chk sgX8_sheet kX8_sheet := ⟨by decide +kernel, And.intro sgSX8_in (And.intro sgSX8_in trivial), tb_l2 [(4, 95), (4, 95), (4, 151), (4, 152), (4, 153)] (by decide +kernel) (by decide +kernel), nw_l2 [] (by decide +kernel) (by decide +kernel), by decide +kernel⟩
set_option maxRecDepth 100000 in
def kX8_cell : List Row := [(.iload_n 1, 0, 1, 0, 0, 0, [], sg0),
  (.iconst 0, 1, 2, 0, 0, 0, [], sg0),
  (.iconst 3, 2, 3, 0, 0, 3, [], sg0),
  (.invokestatic 76, 3, 4, 0, 0, 0, [], sgX8_in),
  (.ifCond .ne 6, 6, 5, 7, 0, 0, [], sg0),
  (.bipush (-2), 9, 6, 0, 0, (-2), [], sg0),
  (.ireturn, 11, 7, 0, 0, 0, [], sg0),
  (.aload_n 0, 12, 8, 0, 0, 0, [], sg0),
  (.getfield 34, 13, 9, 8, 17, 0, [], sg0),
  (.iload_n 1, 16, 10, 0, 0, 0, [], sg0),
  (.iaload, 17, 11, 0, 0, 0, [], sg0),
  (.iconst (-1), 18, 12, 0, 0, (-1), [], sg0),
  (.if_icmp .ne 6, 19, 13, 15, 0, 0, [], sg0),
  (.bipush (-11), 22, 14, 0, 0, (-11), [], sg0),
  (.ireturn, 24, 15, 0, 0, 0, [], sg0),
  (.iload_n 2, 25, 16, 0, 0, 0, [], sg0),
  (.iconst 0, 26, 17, 0, 0, 0, [], sg0),
  (.aload_n 0, 27, 18, 0, 0, 0, [], sg0),
  (.getfield 37, 28, 19, 8, 18, 0, [], sg0),
  (.iload_n 1, 31, 20, 0, 0, 0, [], sg0),
  (.iaload, 32, 21, 0, 0, 0, [], sg0),
  (.iconst 1, 33, 22, 0, 0, 1, [], sg0),
  (.isub, 34, 23, 0, 0, 0, [], sg0),
  (.invokestatic 76, 35, 24, 0, 0, 0, [], sgX8_in),
  (.ifCond .ne 6, 38, 25, 27, 0, 0, [], sg0),
  (.bipush (-12), 41, 26, 0, 0, (-12), [], sg0),
  (.ireturn, 43, 27, 0, 0, 0, [], sg0),
  (.aload_n 0, 44, 28, 0, 0, 0, [], sg0),
  (.getfield 40, 45, 29, 8, 19, 0, [], sg0),
  (.bipush 40, 48, 30, 0, 0, 40, [], sg0),
  (.iload_n 1, 50, 31, 0, 0, 0, [], sg0),
  (.imul, 51, 32, 0, 0, 0, [], sg0),
  (.iload_n 2, 52, 33, 0, 0, 0, [], sg0),
  (.iadd, 53, 34, 0, 0, 0, [], sg0),
  (.aload_n 0, 54, 35, 0, 0, 0, [], sg0),
  (.getfield 34, 55, 36, 8, 17, 0, [], sg0),
  (.iload_n 1, 58, 37, 0, 0, 0, [], sg0),
  (.iaload, 59, 38, 0, 0, 0, [], sg0),
  (.ifCond .ne 8, 60, 39, 42, 0, 0, [], sg0),
  (.iload_n 3, 63, 40, 0, 0, 0, [], sg0),
  (.i2b, 64, 41, 0, 0, 0, [], sg0),
  (.goto 19, 65, 42, 52, 0, 0, [], sg0),
  (.aload_n 0, 68, 43, 0, 0, 0, [], sg0),
  (.getfield 34, 69, 44, 8, 17, 0, [], sg0),
  (.iload_n 1, 72, 45, 0, 0, 0, [], sg0),
  (.iaload, 73, 46, 0, 0, 0, [], sg0),
  (.iconst 1, 74, 47, 0, 0, 1, [], sg0),
  (.if_icmp .ne 8, 75, 48, 51, 0, 0, [], sg0),
  (.iload_n 3, 78, 49, 0, 0, 0, [], sg0),
  (.i2s, 79, 50, 0, 0, 0, [], sg0),
  (.goto 4, 80, 51, 52, 0, 0, [], sg0),
  (.iload_n 3, 83, 52, 0, 0, 0, [], sg0),
  (.iastore, 84, 53, 0, 0, 0, [], sg0),
  (.iconst 1, 85, 54, 0, 0, 1, [], sg0),
  (.ireturn, 86, 55, 0, 0, 0, [], sg0),
  (.nop, 87, 56, 0, 0, 0, [], sg0)]
set_option maxRecDepth 100000 in
theorem okX8_cell : Chk sgX8_cell kX8_cell := ⟨by decide +kernel, And.intro sgSX8_in (And.intro sgSX8_in trivial), tb_l2 [(4, 95), (4, 151), (4, 152), (4, 95), (4, 153), (4, 151), (4, 151)] (by decide +kernel) (by decide +kernel), nw_l2 [] (by decide +kernel) (by decide +kernel), by decide +kernel⟩
set_option maxRecDepth 100000 in
def kX8_copy : List Row := [(.iload_n 1, 0, 1, 0, 0, 0, [], sg0),
  (.iconst 0, 1, 2, 0, 0, 0, [], sg0),
  (.iconst 3, 2, 3, 0, 0, 3, [], sg0),
  (.invokestatic 76, 3, 4, 0, 0, 0, [], sgX8_in),
  (.ifCond .eq 12, 6, 5, 10, 0, 0, [], sg0),
  (.iload_n 3, 9, 6, 0, 0, 0, [], sg0),
  (.iconst 0, 10, 7, 0, 0, 0, [], sg0),
  (.iconst 3, 11, 8, 0, 0, 3, [], sg0),
  (.invokestatic 76, 12, 9, 0, 0, 0, [], sgX8_in),
  (.ifCond .ne 6, 15, 10, 12, 0, 0, [], sg0),
  (.bipush (-2), 18, 11, 0, 0, (-2), [], sg0),
  (.ireturn, 20, 12, 0, 0, 0, [], sg0),
  (.aload_n 0, 21, 13, 0, 0, 0, [], sg0),
  (.getfield 34, 22, 14, 8, 17, 0, [], sg0),
  (.iload_n 1, 25, 15, 0, 0, 0, [], sg0),
  (.iaload, 26, 16, 0, 0, 0, [], sg0),
  (.iconst (-1), 27, 17, 0, 0, (-1), [], sg0),
  (.if_icmp .eq 13, 28, 18, 24, 0, 0, [], sg0),
  (.aload_n 0, 31, 19, 0, 0, 0, [], sg0),
  (.getfield 34, 32, 20, 8, 17, 0, [], sg0),
  (.iload_n 3, 35, 21, 0, 0, 0, [], sg0),
  (.iaload, 36, 22, 0, 0, 0, [], sg0),
  (.iconst (-1), 37, 23, 0, 0, (-1), [], sg0),
  (.if_icmp .ne 6, 38, 24, 26, 0, 0, [], sg0),
  (.bipush (-11), 41, 25, 0, 0, (-11), [], sg0),
  (.ireturn, 43, 26, 0, 0, 0, [], sg0),
  (.aload_n 0, 44, 27, 0, 0, 0, [], sg0),
  (.getfield 34, 45, 28, 8, 17, 0, [], sg0),
  (.iload_n 1, 48, 29, 0, 0, 0, [], sg0),
  (.iaload, 49, 30, 0, 0, 0, [], sg0),
  (.aload_n 0, 50, 31, 0, 0, 0, [], sg0),
  (.getfield 34, 51, 32, 8, 17, 0, [], sg0),
  (.iload_n 3, 54, 33, 0, 0, 0, [], sg0),
  (.iaload, 55, 34, 0, 0, 0, [], sg0),
  (.if_icmp .eq 6, 56, 35, 37, 0, 0, [], sg0),
  (.bipush (-13), 59, 36, 0, 0, (-13), [], sg0),
  (.ireturn, 61, 37, 0, 0, 0, [], sg0),
  (.iload 5, 62, 38, 0, 0, 0, [], sg0),
  (.ifCond .lt 60, 64, 39, 71, 0, 0, [], sg0),
  (.iload_n 2, 67, 40, 0, 0, 0, [], sg0),
  (.ifCond .lt 56, 68, 41, 71, 0, 0, [], sg0),
  (.iload 4, 71, 42, 0, 0, 0, [], sg0),
  (.ifCond .lt 51, 73, 43, 71, 0, 0, [], sg0),
  (.iload_n 2, 76, 44, 0, 0, 0, [], sg0),
  (.aload_n 0, 77, 45, 0, 0, 0, [], sg0),
  (.getfield 37, 78, 46, 8, 18, 0, [], sg0),
  (.iload_n 1, 81, 47, 0, 0, 0, [], sg0),
  (.iaload, 82, 48, 0, 0, 0, [], sg0),
  (.if_icmp .gt 41, 83, 49, 71, 0, 0, [], sg0),
  (.iload 4, 86, 50, 0, 0, 0, [], sg0),
  (.aload_n 0, 88, 51, 0, 0, 0, [], sg0),
  (.getfield 37, 89, 52, 8, 18, 0, [], sg0),
  (.iload_n 3, 92, 53, 0, 0, 0, [], sg0),
  (.iaload, 93, 54, 0, 0, 0, [], sg0),
  (.if_icmp .gt 30, 94, 55, 71, 0, 0, [], sg0),
  (.iload 5, 97, 56, 0, 0, 0, [], sg0),
  (.aload_n 0, 99, 57, 0, 0, 0, [], sg0),
  (.getfield 37, 100, 58, 8, 18, 0, [], sg0),
  (.iload_n 1, 103, 59, 0, 0, 0, [], sg0),
  (.iaload, 104, 60, 0, 0, 0, [], sg0),
  (.iload_n 2, 105, 61, 0, 0, 0, [], sg0),
  (.isub, 106, 62, 0, 0, 0, [], sg0),
  (.if_icmp .gt 17, 107, 63, 71, 0, 0, [], sg0),
  (.iload 5, 110, 64, 0, 0, 0, [], sg0),
  (.aload_n 0, 112, 65, 0, 0, 0, [], sg0),
  (.getfield 37, 113, 66, 8, 18, 0, [], sg0),
  (.iload_n 3, 116, 67, 0, 0, 0, [], sg0),
  (.iaload, 117, 68, 0, 0, 0, [], sg0),
  (.iload 4, 118, 69, 0, 0, 0, [], sg0),
  (.isub, 120, 70, 0, 0, 0, [], sg0),
  (.if_icmp .le 6, 121, 71, 73, 0, 0, [], sg0),
  (.bipush (-12), 124, 72, 0, 0, (-12), [], sg0),
  (.ireturn, 126, 73, 0, 0, 0, [], sg0),
  (.bipush 40, 127, 74, 0, 0, 40, [], sg0),
  (.iload_n 1, 129, 75, 0, 0, 0, [], sg0),
  (.imul, 130, 76, 0, 0, 0, [], sg0),
  (.iload_n 2, 131, 77, 0, 0, 0, [], sg0),
  (.iadd, 132, 78, 0, 0, 0, [], sg0),
  (.istore 6, 133, 79, 0, 0, 0, [], sg0),
  (.bipush 40, 135, 80, 0, 0, 40, [], sg0),
  (.iload_n 3, 137, 81, 0, 0, 0, [], sg0),
  (.imul, 138, 82, 0, 0, 0, [], sg0),
  (.iload 4, 139, 83, 0, 0, 0, [], sg0),
  (.iadd, 141, 84, 0, 0, 0, [], sg0),
  (.istore 7, 142, 85, 0, 0, 0, [], sg0),
  (.iconst 0, 144, 86, 0, 0, 0, [], sg0),
  (.istore 8, 145, 87, 0, 0, 0, [], sg0),
  (.iload 8, 147, 88, 0, 0, 0, [], sg0),
  (.iload 5, 149, 89, 0, 0, 0, [], sg0),
  (.if_icmp .ge 50, 151, 90, 115, 0, 0, [], sg0),
  (.iload 6, 154, 91, 0, 0, 0, [], sg0),
  (.iload 7, 156, 92, 0, 0, 0, [], sg0),
  (.if_icmp .ge 13, 158, 93, 99, 0, 0, [], sg0),
  (.iload 5, 161, 94, 0, 0, 0, [], sg0),
  (.iconst 1, 163, 95, 0, 0, 1, [], sg0),
  (.isub, 164, 96, 0, 0, 0, [], sg0),
  (.iload 8, 165, 97, 0, 0, 0, [], sg0),
  (.isub, 167, 98, 0, 0, 0, [], sg0),
  (.goto 5, 168, 99, 100, 0, 0, [], sg0),
  (.iload 8, 171, 100, 0, 0, 0, [], sg0),
  (.istore 9, 173, 101, 0, 0, 0, [], sg0),
  (.aload_n 0, 175, 102, 0, 0, 0, [], sg0),
  (.getfield 40, 176, 103, 8, 19, 0, [], sg0),
  (.iload 7, 179, 104, 0, 0, 0, [], sg0),
  (.iload 9, 181, 105, 0, 0, 0, [], sg0),
  (.iadd, 183, 106, 0, 0, 0, [], sg0),
  (.aload_n 0, 184, 107, 0, 0, 0, [], sg0),
  (.getfield 40, 185, 108, 8, 19, 0, [], sg0),
  (.iload 6, 188, 109, 0, 0, 0, [], sg0),
  (.iload 9, 190, 110, 0, 0, 0, [], sg0),
  (.iadd, 192, 111, 0, 0, 0, [], sg0),
  (.iaload, 193, 112, 0, 0, 0, [], sg0),
  (.iastore, 194, 113, 0, 0, 0, [], sg0),
  (.iinc 8 1, 195, 114, 0, 0, 1, [], sg0),
  (.goto (-51), 198, 115, 87, 0, 0, [], sg0),
  (.iload 5, 201, 116, 0, 0, 0, [], sg0),
  (.ireturn, 203, 117, 0, 0, 0, [], sg0),
  (.nop, 204, 118, 0, 0, 0, [], sg0)]
set_option maxRecDepth 100000 in
theorem okX8_copy : Chk sgX8_copy kX8_copy := ⟨by decide +kernel, And.intro sgSX8_in (And.intro sgSX8_in trivial), tb_l2 [(4, 95), (4, 95), (4, 151), (4, 151), (4, 151), (4, 151), (4, 152), (4, 152), (4, 152), (4, 152), (4, 153), (4, 153)] (by decide +kernel) (by decide +kernel), nw_l2 [] (by decide +kernel) (by decide +kernel), by decide +kernel⟩
set_option maxRecDepth 100000 in
def kX8_sayingsBy : List Row := [(.iload_n 1, 0, 1, 0, 0, 0, [], sg0),
  (.iconst 0, 1, 2, 0, 0, 0, [], sg0),
  (.iconst 3, 2, 3, 0, 0, 3, [], sg0),
  (.invokestatic 76, 3, 4, 0, 0, 0, [], sgX8_in),
  (.ifCond .eq 23, 6, 5, 15, 0, 0, [], sg0),
  (.iload_n 2, 9, 6, 0, 0, 0, [], sg0),
  (.iconst 0, 10, 7, 0, 0, 0, [], sg0),
  (.iconst 2, 11, 8, 0, 0, 2, [], sg0),
  (.invokestatic 76, 12, 9, 0, 0, 0, [], sgX8_in),
  (.ifCond .eq 14, 15, 10, 15, 0, 0, [], sg0),
  (.iload 4, 18, 11, 0, 0, 0, [], sg0),
  (.iconst 0, 20, 12, 0, 0, 0, [], sg0),
  (.bipush 12, 21, 13, 0, 0, 12, [], sg0),
  (.invokestatic 76, 23, 14, 0, 0, 0, [], sgX8_in),
  (.ifCond .ne 6, 26, 15, 17, 0, 0, [], sg0),
  (.bipush (-2), 29, 16, 0, 0, (-2), [], sg0),
  (.ireturn, 31, 17, 0, 0, 0, [], sg0),
  (.aload_n 0, 32, 18, 0, 0, 0, [], sg0),
  (.getfield 34, 33, 19, 8, 17, 0, [], sg0),
  (.iload_n 1, 36, 20, 0, 0, 0, [], sg0),
  (.iaload, 37, 21, 0, 0, 0, [], sg0),
  (.iconst (-1), 38, 22, 0, 0, (-1), [], sg0),
  (.if_icmp .ne 6, 39, 23, 25, 0, 0, [], sg0),
  (.bipush (-11), 42, 24, 0, 0, (-11), [], sg0),
  (.ireturn, 44, 25, 0, 0, 0, [], sg0),
  (.aload_n 0, 45, 26, 0, 0, 0, [], sg0),
  (.getfield 34, 46, 27, 8, 17, 0, [], sg0),
  (.iload_n 1, 49, 28, 0, 0, 0, [], sg0),
  (.iaload, 50, 29, 0, 0, 0, [], sg0),
  (.iload_n 2, 51, 30, 0, 0, 0, [], sg0),
  (.if_icmp .eq 6, 52, 31, 33, 0, 0, [], sg0),
  (.bipush (-13), 55, 32, 0, 0, (-13), [], sg0),
  (.ireturn, 57, 33, 0, 0, 0, [], sg0),
  (.iconst 0, 58, 34, 0, 0, 0, [], sg0),
  (.istore 5, 59, 35, 0, 0, 0, [], sg0),
  (.iconst 0, 61, 36, 0, 0, 0, [], sg0),
  (.istore 6, 62, 37, 0, 0, 0, [], sg0),
  (.iload 6, 64, 38, 0, 0, 0, [], sg0),
  (.iload 4, 66, 39, 0, 0, 0, [], sg0),
  (.if_icmp .ge 94, 68, 40, 94, 0, 0, [], sg0),
  (.iload_n 3, 71, 41, 0, 0, 0, [], sg0),
  (.iconst 3, 72, 42, 0, 0, 3, [], sg0),
  (.iload 6, 73, 43, 0, 0, 0, [], sg0),
  (.imul, 75, 44, 0, 0, 0, [], sg0),
  (.iadd, 76, 45, 0, 0, 0, [], sg0),
  (.istore 7, 77, 46, 0, 0, 0, [], sg0),
  (.iload_n 3, 79, 47, 0, 0, 0, [], sg0),
  (.ifCond .lt 22, 80, 48, 59, 0, 0, [], sg0),
  (.iload 7, 83, 49, 0, 0, 0, [], sg0),
  (.iload_n 3, 85, 50, 0, 0, 0, [], sg0),
  (.if_icmp .lt 16, 86, 51, 59, 0, 0, [], sg0),
  (.iload 7, 89, 52, 0, 0, 0, [], sg0),
  (.aload_n 0, 91, 53, 0, 0, 0, [], sg0),
  (.getfield 37, 92, 54, 8, 18, 0, [], sg0),
  (.iload_n 1, 95, 55, 0, 0, 0, [], sg0),
  (.iaload, 96, 56, 0, 0, 0, [], sg0),
  (.iconst 3, 97, 57, 0, 0, 3, [], sg0),
  (.isub, 98, 58, 0, 0, 0, [], sg0),
  (.if_icmp .le 6, 99, 59, 61, 0, 0, [], sg0),
  (.bipush (-12), 102, 60, 0, 0, (-12), [], sg0),
  (.ireturn, 104, 61, 0, 0, 0, [], sg0),
  (.bipush 40, 105, 62, 0, 0, 40, [], sg0),
  (.iload_n 1, 107, 63, 0, 0, 0, [], sg0),
  (.imul, 108, 64, 0, 0, 0, [], sg0),
  (.iload 7, 109, 65, 0, 0, 0, [], sg0),
  (.iadd, 111, 66, 0, 0, 0, [], sg0),
  (.istore 8, 112, 67, 0, 0, 0, [], sg0),
  (.iload 5, 114, 68, 0, 0, 0, [], sg0),
  (.aload_n 0, 116, 69, 0, 0, 0, [], sg0),
  (.aload_n 0, 117, 70, 0, 0, 0, [], sg0),
  (.getfield 40, 118, 71, 8, 19, 0, [], sg0),
  (.iload 8, 121, 72, 0, 0, 0, [], sg0),
  (.iaload, 123, 73, 0, 0, 0, [], sg0),
  (.aload_n 0, 124, 74, 0, 0, 0, [], sg0),
  (.getfield 40, 125, 75, 8, 19, 0, [], sg0),
  (.iload 8, 128, 76, 0, 0, 0, [], sg0),
  (.iconst 1, 130, 77, 0, 0, 1, [], sg0),
  (.iadd, 131, 78, 0, 0, 0, [], sg0),
  (.iaload, 132, 79, 0, 0, 0, [], sg0),
  (.aload_n 0, 133, 80, 0, 0, 0, [], sg0),
  (.getfield 40, 134, 81, 8, 19, 0, [], sg0),
  (.iload 8, 137, 82, 0, 0, 0, [], sg0),
  (.iconst 2, 139, 83, 0, 0, 2, [], sg0),
  (.iadd, 140, 84, 0, 0, 0, [], sg0),
  (.iaload, 141, 85, 0, 0, 0, [], sg0),
  (.invokevirtual 297, 142, 86, 8, 0, 0, [], sgX8_say),
  (.ifCond .lt 7, 145, 87, 89, 0, 0, [], sg0),
  (.iconst 1, 148, 88, 0, 0, 1, [], sg0),
  (.goto 4, 149, 89, 90, 0, 0, [], sg0),
  (.iconst 0, 152, 90, 0, 0, 0, [], sg0),
  (.iadd, 153, 91, 0, 0, 0, [], sg0),
  (.istore 5, 154, 92, 0, 0, 0, [], sg0),
  (.iinc 6 1, 156, 93, 0, 0, 1, [], sg0),
  (.goto (-95), 159, 94, 37, 0, 0, [], sg0),
  (.iload 5, 162, 95, 0, 0, 0, [], sg0),
  (.ireturn, 164, 96, 0, 0, 0, [], sg0),
  (.nop, 165, 97, 0, 0, 0, [], sg0)]
set_option maxRecDepth 100000 in
theorem okX8_sayingsBy : Chk sgX8_sayingsBy kX8_sayingsBy := ⟨by decide +kernel, And.intro sgSX8_in (And.intro sgSX8_in (And.intro sgSX8_in (And.intro sgVX8_say trivial))), tb_l2 [(4, 95), (4, 95), (4, 95), (4, 151), (4, 151), (4, 152), (4, 153), (4, 153), (4, 153), (6, 54)] (by decide +kernel) (by decide +kernel), nw_l2 [] (by decide +kernel) (by decide +kernel), by decide +kernel⟩
set_option maxRecDepth 100000 in
def kX8_isUnder : List Row := [(.iload_n 1, 0, 1, 0, 0, 0, [], sg0),
  (.ifCond .eq 28, 1, 2, 17, 0, 0, [], sg0),
  (.iload_n 0, 4, 3, 0, 0, 0, [], sg0),
  (.iload_n 1, 5, 4, 0, 0, 0, [], sg0),
  (.if_icmp .eq 23, 6, 5, 17, 0, 0, [], sg0),
  (.iload_n 1, 9, 6, 0, 0, 0, [], sg0),
  (.iconst 1, 10, 7, 0, 0, 1, [], sg0),
  (.if_icmp .ne 8, 11, 8, 11, 0, 0, [], sg0),
  (.iload_n 0, 14, 9, 0, 0, 0, [], sg0),
  (.iconst 3, 15, 10, 0, 0, 3, [], sg0),
  (.if_icmp .eq 13, 16, 11, 17, 0, 0, [], sg0),
  (.iload_n 1, 19, 12, 0, 0, 0, [], sg0),
  (.iconst 2, 20, 13, 0, 0, 2, [], sg0),
  (.if_icmp .ne 12, 21, 14, 19, 0, 0, [], sg0),
  (.iload_n 0, 24, 15, 0, 0, 0, [], sg0),
  (.iconst 5, 25, 16, 0, 0, 5, [], sg0),
  (.if_icmp .ne 7, 26, 17, 19, 0, 0, [], sg0),
  (.iconst 1, 29, 18, 0, 0, 1, [], sg0),
  (.goto 4, 30, 19, 20, 0, 0, [], sg0),
  (.iconst 0, 33, 20, 0, 0, 0, [], sg0),
  (.ireturn, 34, 21, 0, 0, 0, [], sg0),
  (.nop, 35, 22, 0, 0, 0, [], sg0)]
set_option maxRecDepth 100000 in
theorem okX8_isUnder : Chk sgX8_isUnder kX8_isUnder := ⟨by decide +kernel, trivial, tb_l2 [] (by decide +kernel) (by decide +kernel), nw_l2 [] (by decide +kernel) (by decide +kernel), by decide +kernel⟩
set_option maxRecDepth 100000 in
def kX8_taken : List Row := [(.iload_n 2, 0, 1, 0, 0, 0, [], sg0),
  (.iconst 0, 1, 2, 0, 0, 0, [], sg0),
  (.bipush 6, 2, 3, 0, 0, 6, [], sg0),
  (.invokestatic 76, 4, 4, 0, 0, 0, [], sgX8_in),
  (.ifCond .ne 6, 7, 5, 7, 0, 0, [], sg0),
  (.bipush (-2), 10, 6, 0, 0, (-2), [], sg0),
  (.ireturn, 12, 7, 0, 0, 0, [], sg0),
  (.iload_n 1, 13, 8, 0, 0, 0, [], sg0),
  (.iconst 0, 14, 9, 0, 0, 0, [], sg0),
  (.bipush 16, 15, 10, 0, 0, 16, [], sg0),
  (.invokestatic 76, 17, 11, 0, 0, 0, [], sgX8_in),
  (.ifCond .ne 6, 20, 12, 14, 0, 0, [], sg0),
  (.bipush (-12), 23, 13, 0, 0, (-12), [], sg0),
  (.ireturn, 25, 14, 0, 0, 0, [], sg0),
  (.iload_n 1, 26, 15, 0, 0, 0, [], sg0),
  (.bipush 12, 27, 16, 0, 0, 12, [], sg0),
  (.if_icmp .ge 38, 29, 17, 37, 0, 0, [], sg0),
  (.iload_n 1, 32, 18, 0, 0, 0, [], sg0),
  (.aload_n 0, 33, 19, 0, 0, 0, [], sg0),
  (.getfield 87, 34, 20, 8, 3, 0, [], sg0),
  (.if_icmp .lt 8, 37, 21, 23, 0, 0, [], sg0),
  (.bipush (-11), 40, 22, 0, 0, (-11), [], sg0),
  (.goto 24, 42, 23, 36, 0, 0, [], sg0),
  (.iload_n 2, 45, 24, 0, 0, 0, [], sg0),
  (.bipush 6, 46, 25, 0, 0, 6, [], sg0),
  (.if_icmp .ne 16, 48, 26, 35, 0, 0, [], sg0),
  (.aload_n 0, 51, 27, 0, 0, 0, [], sg0),
  (.getfield 16, 52, 28, 8, 4, 0, [], sg0),
  (.iconst 3, 55, 29, 0, 0, 3, [], sg0),
  (.iload_n 1, 56, 30, 0, 0, 0, [], sg0),
  (.imul, 57, 31, 0, 0, 0, [], sg0),
  (.iconst 2, 58, 32, 0, 0, 2, [], sg0),
  (.iadd, 59, 33, 0, 0, 0, [], sg0),
  (.iaload, 60, 34, 0, 0, 0, [], sg0),
  (.goto 5, 61, 35, 36, 0, 0, [], sg0),
  (.bipush (-13), 64, 36, 0, 0, (-13), [], sg0),
  (.ireturn, 66, 37, 0, 0, 0, [], sg0),
  (.iload_n 1, 67, 38, 0, 0, 0, [], sg0),
  (.bipush 12, 68, 39, 0, 0, 12, [], sg0),
  (.isub, 70, 40, 0, 0, 0, [], sg0),
  (.aload_n 0, 71, 41, 0, 0, 0, [], sg0),
  (.getfield 73, 72, 42, 8, 0, 0, [], sg0),
  (.if_icmp .lt 8, 75, 43, 45, 0, 0, [], sg0),
  (.bipush (-11), 78, 44, 0, 0, (-11), [], sg0),
  (.goto 34, 80, 45, 62, 0, 0, [], sg0),
  (.iload_n 2, 83, 46, 0, 0, 0, [], sg0),
  (.bipush 6, 84, 47, 0, 0, 6, [], sg0),
  (.if_icmp .ge 26, 86, 48, 61, 0, 0, [], sg0),
  (.aload_n 0, 89, 49, 0, 0, 0, [], sg0),
  (.getfield 7, 90, 50, 8, 1, 0, [], sg0),
  (.iload_n 1, 93, 51, 0, 0, 0, [], sg0),
  (.bipush 12, 94, 52, 0, 0, 12, [], sg0),
  (.isub, 96, 53, 0, 0, 0, [], sg0),
  (.iaload, 97, 54, 0, 0, 0, [], sg0),
  (.iload_n 2, 98, 55, 0, 0, 0, [], sg0),
  (.invokestatic 300, 99, 56, 0, 0, 0, [], sgX8_isUnder),
  (.ifCond .eq 10, 102, 57, 61, 0, 0, [], sg0),
  (.iload_n 1, 105, 58, 0, 0, 0, [], sg0),
  (.bipush 12, 106, 59, 0, 0, 12, [], sg0),
  (.isub, 108, 60, 0, 0, 0, [], sg0),
  (.goto 5, 109, 61, 62, 0, 0, [], sg0),
  (.bipush (-13), 112, 62, 0, 0, (-13), [], sg0),
  (.ireturn, 114, 63, 0, 0, 0, [], sg0),
  (.nop, 115, 64, 0, 0, 0, [], sg0)]
set_option maxRecDepth 100000 in
theorem okX8_taken : Chk sgX8_taken kX8_taken := ⟨by decide +kernel, And.intro sgSX8_in (And.intro sgSX8_in (And.intro sgSX8_isUnder trivial)), tb_l2 [(4, 95), (4, 95), (4, 137), (4, 138), (4, 134), (4, 135), (6, 59)] (by decide +kernel) (by decide +kernel), nw_l2 [] (by decide +kernel) (by decide +kernel), by decide +kernel⟩
end
section
set_option maxRecDepth 100000 in
def kL_law_0 : List Row := [(.new 7, 0, 1, 7, 0, 0, [], sg0),
  (.dup, 3, 2, 0, 0, 0, [], sg0),
  (.invokespecial 9, 4, 3, 0, 0, 0, [], sgX7_init),
  (.astore_n 1, 7, 4, 0, 0, 0, [], sg0),
  (.new 10, 8, 5, 8, 0, 0, [], sg0),
  (.dup, 11, 6, 0, 0, 0, [], sg0),
  (.invokespecial 12, 12, 7, 0, 0, 0, [], sgX8_init),
  (.astore_n 2, 15, 8, 0, 0, 0, [], sg0),
  (.iconst 0, 16, 9, 0, 0, 0, [], sg0),
  (.istore_n 3, 17, 10, 0, 0, 0, [], sg0),
  (.iload_n 3, 18, 11, 0, 0, 0, [], sg0),
  (.aload_n 0, 19, 12, 0, 0, 0, [], sg0),
  (.arraylength, 20, 13, 0, 0, 0, [], sg0),
  (.bipush 7, 21, 14, 0, 0, 7, [], sg0),
  (.isub, 23, 15, 0, 0, 0, [], sg0),
  (.if_icmp .gt 1499, 24, 16, 1081, 0, 0, [], sg0),
  (.aload_n 0, 27, 17, 0, 0, 0, [], sg0),
  (.iload_n 3, 28, 18, 0, 0, 0, [], sg0),
  (.iaload, 29, 19, 0, 0, 0, [], sg0),
  (.bipush 63, 30, 20, 0, 0, 63, [], sg0),
  (.iand, 32, 21, 0, 0, 0, [], sg0),
  (.tableswitch 1484 0 40 #[179, 202, 277, 290, 313, 366, 399, 422, 455, 498, 531, 574, 587, 620, 633, 666, 679, 692, 715, 738, 781, 814, 837, 860, 903, 946, 989, 1012, 1035, 1078, 1101, 1134, 1157, 1180, 1223, 1236, 1249, 1292, 1335, 1398, 1451], 33, 22, 1079, 0, 0, [22, 39, 106, 113, 130, 177, 204, 221, 248, 285, 312, 349, 356, 383, 390, 417, 424, 431, 448, 465, 502, 529, 546, 563, 600, 637, 674, 691, 708, 745, 762, 789, 806, 823, 860, 867, 874, 911, 948, 1005, 1052], sg0),
  (.aload_n 1, 212, 23, 0, 0, 0, [], sg0),
  (.aload_n 0, 213, 24, 0, 0, 0, [], sg0),
  (.iload_n 3, 214, 25, 0, 0, 0, [], sg0),
  (.iconst 1, 215, 26, 0, 0, 1, [], sg0),
  (.iadd, 216, 27, 0, 0, 0, [], sg0),
  (.iaload, 217, 28, 0, 0, 0, [], sg0),
  (.invokevirtual 13, 218, 29, 7, 0, 0, [], sgX7_count),
  (.pop, 221, 30, 0, 0, 0, [], sg0),
  (.aload_n 2, 222, 31, 0, 0, 0, [], sg0),
  (.aload_n 0, 223, 32, 0, 0, 0, [], sg0),
  (.iload_n 3, 224, 33, 0, 0, 0, [], sg0),
  (.iconst 1, 225, 34, 0, 0, 1, [], sg0),
  (.iadd, 226, 35, 0, 0, 0, [], sg0),
  (.iaload, 227, 36, 0, 0, 0, [], sg0),
  (.invokevirtual 17, 228, 37, 8, 0, 0, [], sgX8_count),
  (.pop, 231, 38, 0, 0, 0, [], sg0),
  (.goto 1285, 232, 39, 1079, 0, 0, [], sg0),
  (.aload_n 1, 235, 40, 0, 0, 0, [], sg0),
  (.aload_n 0, 236, 41, 0, 0, 0, [], sg0),
  (.iload_n 3, 237, 42, 0, 0, 0, [], sg0),
  (.iconst 1, 238, 43, 0, 0, 1, [], sg0),
  (.iadd, 239, 44, 0, 0, 0, [], sg0),
  (.iaload, 240, 45, 0, 0, 0, [], sg0),
  (.aload_n 0, 241, 46, 0, 0, 0, [], sg0),
  (.iload_n 3, 242, 47, 0, 0, 0, [], sg0),
  (.iconst 2, 243, 48, 0, 0, 2, [], sg0),
  (.iadd, 244, 49, 0, 0, 0, [], sg0),
  (.iaload, 245, 50, 0, 0, 0, [], sg0),
  (.aload_n 0, 246, 51, 0, 0, 0, [], sg0),
  (.iload_n 3, 247, 52, 0, 0, 0, [], sg0),
  (.iconst 3, 248, 53, 0, 0, 3, [], sg0),
  (.iadd, 249, 54, 0, 0, 0, [], sg0),
  (.iaload, 250, 55, 0, 0, 0, [], sg0),
  (.aload_n 0, 251, 56, 0, 0, 0, [], sg0),
  (.iload_n 3, 252, 57, 0, 0, 0, [], sg0),
  (.iconst 4, 253, 58, 0, 0, 4, [], sg0),
  (.iadd, 254, 59, 0, 0, 0, [], sg0),
  (.iaload, 255, 60, 0, 0, 0, [], sg0),
  (.aload_n 0, 256, 61, 0, 0, 0, [], sg0),
  (.iload_n 3, 257, 62, 0, 0, 0, [], sg0),
  (.iconst 5, 258, 63, 0, 0, 5, [], sg0),
  (.iadd, 259, 64, 0, 0, 0, [], sg0),
  (.iaload, 260, 65, 0, 0, 0, [], sg0),
  (.aload_n 0, 261, 66, 0, 0, 0, [], sg0),
  (.iload_n 3, 262, 67, 0, 0, 0, [], sg0),
  (.bipush 6, 263, 68, 0, 0, 6, [], sg0),
  (.iadd, 265, 69, 0, 0, 0, [], sg0),
  (.iaload, 266, 70, 0, 0, 0, [], sg0),
  (.invokevirtual 18, 267, 71, 7, 0, 0, [], sgX7_feed),
  (.pop, 270, 72, 0, 0, 0, [], sg0),
  (.aload_n 2, 271, 73, 0, 0, 0, [], sg0),
  (.aload_n 0, 272, 74, 0, 0, 0, [], sg0),
  (.iload_n 3, 273, 75, 0, 0, 0, [], sg0),
  (.iconst 1, 274, 76, 0, 0, 1, [], sg0),
  (.iadd, 275, 77, 0, 0, 0, [], sg0),
  (.iaload, 276, 78, 0, 0, 0, [], sg0),
  (.aload_n 0, 277, 79, 0, 0, 0, [], sg0),
  (.iload_n 3, 278, 80, 0, 0, 0, [], sg0),
  (.iconst 2, 279, 81, 0, 0, 2, [], sg0),
  (.iadd, 280, 82, 0, 0, 0, [], sg0),
  (.iaload, 281, 83, 0, 0, 0, [], sg0),
  (.aload_n 0, 282, 84, 0, 0, 0, [], sg0),
  (.iload_n 3, 283, 85, 0, 0, 0, [], sg0),
  (.iconst 3, 284, 86, 0, 0, 3, [], sg0),
  (.iadd, 285, 87, 0, 0, 0, [], sg0),
  (.iaload, 286, 88, 0, 0, 0, [], sg0),
  (.aload_n 0, 287, 89, 0, 0, 0, [], sg0),
  (.iload_n 3, 288, 90, 0, 0, 0, [], sg0),
  (.iconst 4, 289, 91, 0, 0, 4, [], sg0),
  (.iadd, 290, 92, 0, 0, 0, [], sg0),
  (.iaload, 291, 93, 0, 0, 0, [], sg0),
  (.aload_n 0, 292, 94, 0, 0, 0, [], sg0),
  (.iload_n 3, 293, 95, 0, 0, 0, [], sg0),
  (.iconst 5, 294, 96, 0, 0, 5, [], sg0),
  (.iadd, 295, 97, 0, 0, 0, [], sg0),
  (.iaload, 296, 98, 0, 0, 0, [], sg0),
  (.aload_n 0, 297, 99, 0, 0, 0, [], sg0),
  (.iload_n 3, 298, 100, 0, 0, 0, [], sg0)]
set_option maxRecDepth 100000 in
def kL_law_1 : List Row := [(.bipush 6, 299, 101, 0, 0, 6, [], sg0),
  (.iadd, 301, 102, 0, 0, 0, [], sg0),
  (.iaload, 302, 103, 0, 0, 0, [], sg0),
  (.invokevirtual 22, 303, 104, 8, 0, 0, [], sgX8_feed),
  (.pop, 306, 105, 0, 0, 0, [], sg0),
  (.goto 1210, 307, 106, 1079, 0, 0, [], sg0),
  (.aload_n 1, 310, 107, 0, 0, 0, [], sg0),
  (.invokevirtual 23, 311, 108, 7, 0, 0, [], sgX7_text),
  (.pop, 314, 109, 0, 0, 0, [], sg0),
  (.aload_n 2, 315, 110, 0, 0, 0, [], sg0),
  (.invokevirtual 27, 316, 111, 8, 0, 0, [], sgX8_text),
  (.pop, 319, 112, 0, 0, 0, [], sg0),
  (.goto 1197, 320, 113, 1079, 0, 0, [], sg0),
  (.aload_n 1, 323, 114, 0, 0, 0, [], sg0),
  (.aload_n 0, 324, 115, 0, 0, 0, [], sg0),
  (.iload_n 3, 325, 116, 0, 0, 0, [], sg0),
  (.iconst 1, 326, 117, 0, 0, 1, [], sg0),
  (.iadd, 327, 118, 0, 0, 0, [], sg0),
  (.iaload, 328, 119, 0, 0, 0, [], sg0),
  (.invokevirtual 28, 329, 120, 7, 0, 0, [], sgX7_force),
  (.pop, 332, 121, 0, 0, 0, [], sg0),
  (.aload_n 2, 333, 122, 0, 0, 0, [], sg0),
  (.aload_n 0, 334, 123, 0, 0, 0, [], sg0),
  (.iload_n 3, 335, 124, 0, 0, 0, [], sg0),
  (.iconst 1, 336, 125, 0, 0, 1, [], sg0),
  (.iadd, 337, 126, 0, 0, 0, [], sg0),
  (.iaload, 338, 127, 0, 0, 0, [], sg0),
  (.invokevirtual 31, 339, 128, 8, 0, 0, [], sgX8_force),
  (.pop, 342, 129, 0, 0, 0, [], sg0),
  (.goto 1174, 343, 130, 1079, 0, 0, [], sg0),
  (.aload_n 1, 346, 131, 0, 0, 0, [], sg0),
  (.aload_n 0, 347, 132, 0, 0, 0, [], sg0),
  (.iload_n 3, 348, 133, 0, 0, 0, [], sg0),
  (.iconst 1, 349, 134, 0, 0, 1, [], sg0),
  (.iadd, 350, 135, 0, 0, 0, [], sg0),
  (.iaload, 351, 136, 0, 0, 0, [], sg0),
  (.aload_n 0, 352, 137, 0, 0, 0, [], sg0),
  (.iload_n 3, 353, 138, 0, 0, 0, [], sg0),
  (.iconst 2, 354, 139, 0, 0, 2, [], sg0),
  (.iadd, 355, 140, 0, 0, 0, [], sg0),
  (.iaload, 356, 141, 0, 0, 0, [], sg0),
  (.aload_n 0, 357, 142, 0, 0, 0, [], sg0),
  (.iload_n 3, 358, 143, 0, 0, 0, [], sg0),
  (.iconst 3, 359, 144, 0, 0, 3, [], sg0),
  (.iadd, 360, 145, 0, 0, 0, [], sg0),
  (.iaload, 361, 146, 0, 0, 0, [], sg0),
  (.aload_n 0, 362, 147, 0, 0, 0, [], sg0),
  (.iload_n 3, 363, 148, 0, 0, 0, [], sg0),
  (.iconst 4, 364, 149, 0, 0, 4, [], sg0),
  (.iadd, 365, 150, 0, 0, 0, [], sg0),
  (.iaload, 366, 151, 0, 0, 0, [], sg0),
  (.invokevirtual 32, 367, 152, 7, 0, 0, [], sgX7_asks),
  (.pop, 370, 153, 0, 0, 0, [], sg0),
  (.aload_n 2, 371, 154, 0, 0, 0, [], sg0),
  (.aload_n 0, 372, 155, 0, 0, 0, [], sg0),
  (.iload_n 3, 373, 156, 0, 0, 0, [], sg0),
  (.iconst 1, 374, 157, 0, 0, 1, [], sg0),
  (.iadd, 375, 158, 0, 0, 0, [], sg0),
  (.iaload, 376, 159, 0, 0, 0, [], sg0),
  (.aload_n 0, 377, 160, 0, 0, 0, [], sg0),
  (.iload_n 3, 378, 161, 0, 0, 0, [], sg0),
  (.iconst 2, 379, 162, 0, 0, 2, [], sg0),
  (.iadd, 380, 163, 0, 0, 0, [], sg0),
  (.iaload, 381, 164, 0, 0, 0, [], sg0),
  (.aload_n 0, 382, 165, 0, 0, 0, [], sg0),
  (.iload_n 3, 383, 166, 0, 0, 0, [], sg0),
  (.iconst 3, 384, 167, 0, 0, 3, [], sg0),
  (.iadd, 385, 168, 0, 0, 0, [], sg0),
  (.iaload, 386, 169, 0, 0, 0, [], sg0),
  (.aload_n 0, 387, 170, 0, 0, 0, [], sg0),
  (.iload_n 3, 388, 171, 0, 0, 0, [], sg0),
  (.iconst 4, 389, 172, 0, 0, 4, [], sg0),
  (.iadd, 390, 173, 0, 0, 0, [], sg0),
  (.iaload, 391, 174, 0, 0, 0, [], sg0),
  (.invokevirtual 36, 392, 175, 8, 0, 0, [], sgX8_asks),
  (.pop, 395, 176, 0, 0, 0, [], sg0),
  (.goto 1121, 396, 177, 1079, 0, 0, [], sg0),
  (.aload_n 1, 399, 178, 0, 0, 0, [], sg0),
  (.aload_n 0, 400, 179, 0, 0, 0, [], sg0),
  (.iload_n 3, 401, 180, 0, 0, 0, [], sg0),
  (.iconst 1, 402, 181, 0, 0, 1, [], sg0),
  (.iadd, 403, 182, 0, 0, 0, [], sg0),
  (.iaload, 404, 183, 0, 0, 0, [], sg0),
  (.aload_n 0, 405, 184, 0, 0, 0, [], sg0),
  (.iload_n 3, 406, 185, 0, 0, 0, [], sg0),
  (.iconst 2, 407, 186, 0, 0, 2, [], sg0),
  (.iadd, 408, 187, 0, 0, 0, [], sg0),
  (.iaload, 409, 188, 0, 0, 0, [], sg0),
  (.invokevirtual 37, 410, 189, 7, 0, 0, [], sgX7_means),
  (.pop2, 413, 190, 0, 0, 0, [], sg0),
  (.aload_n 2, 414, 191, 0, 0, 0, [], sg0),
  (.aload_n 0, 415, 192, 0, 0, 0, [], sg0),
  (.iload_n 3, 416, 193, 0, 0, 0, [], sg0),
  (.iconst 1, 417, 194, 0, 0, 1, [], sg0),
  (.iadd, 418, 195, 0, 0, 0, [], sg0),
  (.iaload, 419, 196, 0, 0, 0, [], sg0),
  (.aload_n 0, 420, 197, 0, 0, 0, [], sg0),
  (.iload_n 3, 421, 198, 0, 0, 0, [], sg0),
  (.iconst 2, 422, 199, 0, 0, 2, [], sg0),
  (.iadd, 423, 200, 0, 0, 0, [], sg0)]
set_option maxRecDepth 100000 in
def kL_law_2 : List Row := [(.iaload, 424, 201, 0, 0, 0, [], sg0),
  (.invokevirtual 41, 425, 202, 8, 0, 0, [], sgX8_means),
  (.pop2, 428, 203, 0, 0, 0, [], sg0),
  (.goto 1088, 429, 204, 1079, 0, 0, [], sg0),
  (.aload_n 1, 432, 205, 0, 0, 0, [], sg0),
  (.aload_n 0, 433, 206, 0, 0, 0, [], sg0),
  (.iload_n 3, 434, 207, 0, 0, 0, [], sg0),
  (.iconst 1, 435, 208, 0, 0, 1, [], sg0),
  (.iadd, 436, 209, 0, 0, 0, [], sg0),
  (.iaload, 437, 210, 0, 0, 0, [], sg0),
  (.invokevirtual 42, 438, 211, 7, 0, 0, [], sgX7_pairs),
  (.pop, 441, 212, 0, 0, 0, [], sg0),
  (.aload_n 2, 442, 213, 0, 0, 0, [], sg0),
  (.aload_n 0, 443, 214, 0, 0, 0, [], sg0),
  (.iload_n 3, 444, 215, 0, 0, 0, [], sg0),
  (.iconst 1, 445, 216, 0, 0, 1, [], sg0),
  (.iadd, 446, 217, 0, 0, 0, [], sg0),
  (.iaload, 447, 218, 0, 0, 0, [], sg0),
  (.invokevirtual 45, 448, 219, 8, 0, 0, [], sgX8_pairs),
  (.pop, 451, 220, 0, 0, 0, [], sg0),
  (.goto 1065, 452, 221, 1079, 0, 0, [], sg0),
  (.aload_n 1, 455, 222, 0, 0, 0, [], sg0),
  (.aload_n 0, 456, 223, 0, 0, 0, [], sg0),
  (.iload_n 3, 457, 224, 0, 0, 0, [], sg0),
  (.iconst 1, 458, 225, 0, 0, 1, [], sg0),
  (.iadd, 459, 226, 0, 0, 0, [], sg0),
  (.iaload, 460, 227, 0, 0, 0, [], sg0),
  (.aload_n 0, 461, 228, 0, 0, 0, [], sg0),
  (.iload_n 3, 462, 229, 0, 0, 0, [], sg0),
  (.iconst 2, 463, 230, 0, 0, 2, [], sg0),
  (.iadd, 464, 231, 0, 0, 0, [], sg0),
  (.iaload, 465, 232, 0, 0, 0, [], sg0),
  (.invokevirtual 46, 466, 233, 7, 0, 0, [], sgX7_speaker),
  (.pop, 469, 234, 0, 0, 0, [], sg0),
  (.aload_n 2, 470, 235, 0, 0, 0, [], sg0),
  (.aload_n 0, 471, 236, 0, 0, 0, [], sg0),
  (.iload_n 3, 472, 237, 0, 0, 0, [], sg0),
  (.iconst 1, 473, 238, 0, 0, 1, [], sg0),
  (.iadd, 474, 239, 0, 0, 0, [], sg0),
  (.iaload, 475, 240, 0, 0, 0, [], sg0),
  (.aload_n 0, 476, 241, 0, 0, 0, [], sg0),
  (.iload_n 3, 477, 242, 0, 0, 0, [], sg0),
  (.iconst 2, 478, 243, 0, 0, 2, [], sg0),
  (.iadd, 479, 244, 0, 0, 0, [], sg0),
  (.iaload, 480, 245, 0, 0, 0, [], sg0),
  (.invokevirtual 50, 481, 246, 8, 0, 0, [], sgX8_speaker),
  (.pop, 484, 247, 0, 0, 0, [], sg0),
  (.goto 1032, 485, 248, 1079, 0, 0, [], sg0),
  (.aload_n 1, 488, 249, 0, 0, 0, [], sg0),
  (.aload_n 0, 489, 250, 0, 0, 0, [], sg0),
  (.iload_n 3, 490, 251, 0, 0, 0, [], sg0),
  (.iconst 1, 491, 252, 0, 0, 1, [], sg0),
  (.iadd, 492, 253, 0, 0, 0, [], sg0),
  (.iaload, 493, 254, 0, 0, 0, [], sg0),
  (.aload_n 0, 494, 255, 0, 0, 0, [], sg0),
  (.iload_n 3, 495, 256, 0, 0, 0, [], sg0),
  (.iconst 2, 496, 257, 0, 0, 2, [], sg0),
  (.iadd, 497, 258, 0, 0, 0, [], sg0),
  (.iaload, 498, 259, 0, 0, 0, [], sg0),
  (.aload_n 0, 499, 260, 0, 0, 0, [], sg0),
  (.iload_n 3, 500, 261, 0, 0, 0, [], sg0),
  (.iconst 3, 501, 262, 0, 0, 3, [], sg0),
  (.iadd, 502, 263, 0, 0, 0, [], sg0),
  (.iaload, 503, 264, 0, 0, 0, [], sg0),
  (.invokevirtual 51, 504, 265, 7, 0, 0, [], sgX7_turn),
  (.pop, 507, 266, 0, 0, 0, [], sg0),
  (.aload_n 2, 508, 267, 0, 0, 0, [], sg0),
  (.aload_n 0, 509, 268, 0, 0, 0, [], sg0),
  (.iload_n 3, 510, 269, 0, 0, 0, [], sg0),
  (.iconst 1, 511, 270, 0, 0, 1, [], sg0),
  (.iadd, 512, 271, 0, 0, 0, [], sg0),
  (.iaload, 513, 272, 0, 0, 0, [], sg0),
  (.aload_n 0, 514, 273, 0, 0, 0, [], sg0),
  (.iload_n 3, 515, 274, 0, 0, 0, [], sg0),
  (.iconst 2, 516, 275, 0, 0, 2, [], sg0),
  (.iadd, 517, 276, 0, 0, 0, [], sg0),
  (.iaload, 518, 277, 0, 0, 0, [], sg0),
  (.aload_n 0, 519, 278, 0, 0, 0, [], sg0),
  (.iload_n 3, 520, 279, 0, 0, 0, [], sg0),
  (.iconst 3, 521, 280, 0, 0, 3, [], sg0),
  (.iadd, 522, 281, 0, 0, 0, [], sg0),
  (.iaload, 523, 282, 0, 0, 0, [], sg0),
  (.invokevirtual 55, 524, 283, 8, 0, 0, [], sgX8_turn),
  (.pop, 527, 284, 0, 0, 0, [], sg0),
  (.goto 989, 528, 285, 1079, 0, 0, [], sg0),
  (.aload_n 1, 531, 286, 0, 0, 0, [], sg0),
  (.aload_n 0, 532, 287, 0, 0, 0, [], sg0),
  (.iload_n 3, 533, 288, 0, 0, 0, [], sg0),
  (.iconst 1, 534, 289, 0, 0, 1, [], sg0),
  (.iadd, 535, 290, 0, 0, 0, [], sg0),
  (.iaload, 536, 291, 0, 0, 0, [], sg0),
  (.aload_n 0, 537, 292, 0, 0, 0, [], sg0),
  (.iload_n 3, 538, 293, 0, 0, 0, [], sg0),
  (.iconst 2, 539, 294, 0, 0, 2, [], sg0),
  (.iadd, 540, 295, 0, 0, 0, [], sg0),
  (.iaload, 541, 296, 0, 0, 0, [], sg0),
  (.invokevirtual 56, 542, 297, 7, 0, 0, [], sgX7_told),
  (.pop, 545, 298, 0, 0, 0, [], sg0),
  (.aload_n 2, 546, 299, 0, 0, 0, [], sg0),
  (.aload_n 0, 547, 300, 0, 0, 0, [], sg0)]
set_option maxRecDepth 100000 in
def kL_law_3 : List Row := [(.iload_n 3, 548, 301, 0, 0, 0, [], sg0),
  (.iconst 1, 549, 302, 0, 0, 1, [], sg0),
  (.iadd, 550, 303, 0, 0, 0, [], sg0),
  (.iaload, 551, 304, 0, 0, 0, [], sg0),
  (.aload_n 0, 552, 305, 0, 0, 0, [], sg0),
  (.iload_n 3, 553, 306, 0, 0, 0, [], sg0),
  (.iconst 2, 554, 307, 0, 0, 2, [], sg0),
  (.iadd, 555, 308, 0, 0, 0, [], sg0),
  (.iaload, 556, 309, 0, 0, 0, [], sg0),
  (.invokevirtual 59, 557, 310, 8, 0, 0, [], sgX8_told),
  (.pop, 560, 311, 0, 0, 0, [], sg0),
  (.goto 956, 561, 312, 1079, 0, 0, [], sg0),
  (.aload_n 1, 564, 313, 0, 0, 0, [], sg0),
  (.aload_n 0, 565, 314, 0, 0, 0, [], sg0),
  (.iload_n 3, 566, 315, 0, 0, 0, [], sg0),
  (.iconst 1, 567, 316, 0, 0, 1, [], sg0),
  (.iadd, 568, 317, 0, 0, 0, [], sg0),
  (.iaload, 569, 318, 0, 0, 0, [], sg0),
  (.aload_n 0, 570, 319, 0, 0, 0, [], sg0),
  (.iload_n 3, 571, 320, 0, 0, 0, [], sg0),
  (.iconst 2, 572, 321, 0, 0, 2, [], sg0),
  (.iadd, 573, 322, 0, 0, 0, [], sg0),
  (.iaload, 574, 323, 0, 0, 0, [], sg0),
  (.aload_n 0, 575, 324, 0, 0, 0, [], sg0),
  (.iload_n 3, 576, 325, 0, 0, 0, [], sg0),
  (.iconst 3, 577, 326, 0, 0, 3, [], sg0),
  (.iadd, 578, 327, 0, 0, 0, [], sg0),
  (.iaload, 579, 328, 0, 0, 0, [], sg0),
  (.invokevirtual 60, 580, 329, 7, 0, 0, [], sgX7_say),
  (.pop, 583, 330, 0, 0, 0, [], sg0),
  (.aload_n 2, 584, 331, 0, 0, 0, [], sg0),
  (.aload_n 0, 585, 332, 0, 0, 0, [], sg0),
  (.iload_n 3, 586, 333, 0, 0, 0, [], sg0),
  (.iconst 1, 587, 334, 0, 0, 1, [], sg0),
  (.iadd, 588, 335, 0, 0, 0, [], sg0),
  (.iaload, 589, 336, 0, 0, 0, [], sg0),
  (.aload_n 0, 590, 337, 0, 0, 0, [], sg0),
  (.iload_n 3, 591, 338, 0, 0, 0, [], sg0),
  (.iconst 2, 592, 339, 0, 0, 2, [], sg0),
  (.iadd, 593, 340, 0, 0, 0, [], sg0),
  (.iaload, 594, 341, 0, 0, 0, [], sg0),
  (.aload_n 0, 595, 342, 0, 0, 0, [], sg0),
  (.iload_n 3, 596, 343, 0, 0, 0, [], sg0),
  (.iconst 3, 597, 344, 0, 0, 3, [], sg0),
  (.iadd, 598, 345, 0, 0, 0, [], sg0),
  (.iaload, 599, 346, 0, 0, 0, [], sg0),
  (.invokevirtual 63, 600, 347, 8, 0, 0, [], sgX8_say),
  (.pop, 603, 348, 0, 0, 0, [], sg0),
  (.goto 913, 604, 349, 1079, 0, 0, [], sg0),
  (.aload_n 1, 607, 350, 0, 0, 0, [], sg0),
  (.invokevirtual 64, 608, 351, 7, 0, 0, [], sgX7_unsay),
  (.pop, 611, 352, 0, 0, 0, [], sg0),
  (.aload_n 2, 612, 353, 0, 0, 0, [], sg0),
  (.invokevirtual 67, 613, 354, 8, 0, 0, [], sgX8_unsay),
  (.pop, 616, 355, 0, 0, 0, [], sg0),
  (.goto 900, 617, 356, 1079, 0, 0, [], sg0),
  (.aload_n 1, 620, 357, 0, 0, 0, [], sg0),
  (.aload_n 0, 621, 358, 0, 0, 0, [], sg0),
  (.iload_n 3, 622, 359, 0, 0, 0, [], sg0),
  (.iconst 1, 623, 360, 0, 0, 1, [], sg0),
  (.iadd, 624, 361, 0, 0, 0, [], sg0),
  (.iaload, 625, 362, 0, 0, 0, [], sg0),
  (.aload_n 0, 626, 363, 0, 0, 0, [], sg0),
  (.iload_n 3, 627, 364, 0, 0, 0, [], sg0),
  (.iconst 2, 628, 365, 0, 0, 2, [], sg0),
  (.iadd, 629, 366, 0, 0, 0, [], sg0),
  (.iaload, 630, 367, 0, 0, 0, [], sg0),
  (.invokevirtual 68, 631, 368, 7, 0, 0, [], sgX7_said),
  (.pop, 634, 369, 0, 0, 0, [], sg0),
  (.aload_n 2, 635, 370, 0, 0, 0, [], sg0),
  (.aload_n 0, 636, 371, 0, 0, 0, [], sg0),
  (.iload_n 3, 637, 372, 0, 0, 0, [], sg0),
  (.iconst 1, 638, 373, 0, 0, 1, [], sg0),
  (.iadd, 639, 374, 0, 0, 0, [], sg0),
  (.iaload, 640, 375, 0, 0, 0, [], sg0),
  (.aload_n 0, 641, 376, 0, 0, 0, [], sg0),
  (.iload_n 3, 642, 377, 0, 0, 0, [], sg0),
  (.iconst 2, 643, 378, 0, 0, 2, [], sg0),
  (.iadd, 644, 379, 0, 0, 0, [], sg0),
  (.iaload, 645, 380, 0, 0, 0, [], sg0),
  (.invokevirtual 71, 646, 381, 8, 0, 0, [], sgX8_said),
  (.pop, 649, 382, 0, 0, 0, [], sg0),
  (.goto 867, 650, 383, 1079, 0, 0, [], sg0),
  (.aload_n 1, 653, 384, 0, 0, 0, [], sg0),
  (.invokevirtual 72, 654, 385, 7, 0, 0, [], sgX7_worlds),
  (.pop2, 657, 386, 0, 0, 0, [], sg0),
  (.aload_n 2, 658, 387, 0, 0, 0, [], sg0),
  (.invokevirtual 76, 659, 388, 8, 0, 0, [], sgX8_worlds),
  (.pop2, 662, 389, 0, 0, 0, [], sg0),
  (.goto 854, 663, 390, 1079, 0, 0, [], sg0),
  (.aload_n 1, 666, 391, 0, 0, 0, [], sg0),
  (.aload_n 0, 667, 392, 0, 0, 0, [], sg0),
  (.iload_n 3, 668, 393, 0, 0, 0, [], sg0),
  (.iconst 1, 669, 394, 0, 0, 1, [], sg0),
  (.iadd, 670, 395, 0, 0, 0, [], sg0),
  (.iaload, 671, 396, 0, 0, 0, [], sg0),
  (.aload_n 0, 672, 397, 0, 0, 0, [], sg0),
  (.iload_n 3, 673, 398, 0, 0, 0, [], sg0),
  (.iconst 2, 674, 399, 0, 0, 2, [], sg0),
  (.iadd, 675, 400, 0, 0, 0, [], sg0)]
set_option maxRecDepth 100000 in
def kL_law_4 : List Row := [(.iaload, 676, 401, 0, 0, 0, [], sg0),
  (.invokevirtual 77, 677, 402, 7, 0, 0, [], sgX7_behind),
  (.pop, 680, 403, 0, 0, 0, [], sg0),
  (.aload_n 2, 681, 404, 0, 0, 0, [], sg0),
  (.aload_n 0, 682, 405, 0, 0, 0, [], sg0),
  (.iload_n 3, 683, 406, 0, 0, 0, [], sg0),
  (.iconst 1, 684, 407, 0, 0, 1, [], sg0),
  (.iadd, 685, 408, 0, 0, 0, [], sg0),
  (.iaload, 686, 409, 0, 0, 0, [], sg0),
  (.aload_n 0, 687, 410, 0, 0, 0, [], sg0),
  (.iload_n 3, 688, 411, 0, 0, 0, [], sg0),
  (.iconst 2, 689, 412, 0, 0, 2, [], sg0),
  (.iadd, 690, 413, 0, 0, 0, [], sg0),
  (.iaload, 691, 414, 0, 0, 0, [], sg0),
  (.invokevirtual 80, 692, 415, 8, 0, 0, [], sgX8_behind),
  (.pop, 695, 416, 0, 0, 0, [], sg0),
  (.goto 821, 696, 417, 1079, 0, 0, [], sg0),
  (.aload_n 1, 699, 418, 0, 0, 0, [], sg0),
  (.invokevirtual 81, 700, 419, 7, 0, 0, [], sgX7_cannot),
  (.pop, 703, 420, 0, 0, 0, [], sg0),
  (.aload_n 2, 704, 421, 0, 0, 0, [], sg0),
  (.invokevirtual 84, 705, 422, 8, 0, 0, [], sgX8_cannot),
  (.pop, 708, 423, 0, 0, 0, [], sg0),
  (.goto 808, 709, 424, 1079, 0, 0, [], sg0),
  (.aload_n 1, 712, 425, 0, 0, 0, [], sg0),
  (.invokevirtual 85, 713, 426, 7, 0, 0, [], sgX7_lies),
  (.pop, 716, 427, 0, 0, 0, [], sg0),
  (.aload_n 2, 717, 428, 0, 0, 0, [], sg0),
  (.invokevirtual 88, 718, 429, 8, 0, 0, [], sgX8_lies),
  (.pop, 721, 430, 0, 0, 0, [], sg0),
  (.goto 795, 722, 431, 1079, 0, 0, [], sg0),
  (.aload_n 1, 725, 432, 0, 0, 0, [], sg0),
  (.aload_n 0, 726, 433, 0, 0, 0, [], sg0),
  (.iload_n 3, 727, 434, 0, 0, 0, [], sg0),
  (.iconst 1, 728, 435, 0, 0, 1, [], sg0),
  (.iadd, 729, 436, 0, 0, 0, [], sg0),
  (.iaload, 730, 437, 0, 0, 0, [], sg0),
  (.invokevirtual 89, 731, 438, 7, 0, 0, [], sgX7_least),
  (.pop, 734, 439, 0, 0, 0, [], sg0),
  (.aload_n 2, 735, 440, 0, 0, 0, [], sg0),
  (.aload_n 0, 736, 441, 0, 0, 0, [], sg0),
  (.iload_n 3, 737, 442, 0, 0, 0, [], sg0),
  (.iconst 1, 738, 443, 0, 0, 1, [], sg0),
  (.iadd, 739, 444, 0, 0, 0, [], sg0),
  (.iaload, 740, 445, 0, 0, 0, [], sg0),
  (.invokevirtual 92, 741, 446, 8, 0, 0, [], sgX8_least),
  (.pop, 744, 447, 0, 0, 0, [], sg0),
  (.goto 772, 745, 448, 1079, 0, 0, [], sg0),
  (.aload_n 1, 748, 449, 0, 0, 0, [], sg0),
  (.aload_n 0, 749, 450, 0, 0, 0, [], sg0),
  (.iload_n 3, 750, 451, 0, 0, 0, [], sg0),
  (.iconst 1, 751, 452, 0, 0, 1, [], sg0),
  (.iadd, 752, 453, 0, 0, 0, [], sg0),
  (.iaload, 753, 454, 0, 0, 0, [], sg0),
  (.invokevirtual 93, 754, 455, 7, 0, 0, [], sgX7_mad),
  (.pop, 757, 456, 0, 0, 0, [], sg0),
  (.aload_n 2, 758, 457, 0, 0, 0, [], sg0),
  (.aload_n 0, 759, 458, 0, 0, 0, [], sg0),
  (.iload_n 3, 760, 459, 0, 0, 0, [], sg0),
  (.iconst 1, 761, 460, 0, 0, 1, [], sg0),
  (.iadd, 762, 461, 0, 0, 0, [], sg0),
  (.iaload, 763, 462, 0, 0, 0, [], sg0),
  (.invokevirtual 96, 764, 463, 8, 0, 0, [], sgX8_mad),
  (.pop, 767, 464, 0, 0, 0, [], sg0),
  (.goto 749, 768, 465, 1079, 0, 0, [], sg0),
  (.aload_n 1, 771, 466, 0, 0, 0, [], sg0),
  (.aload_n 0, 772, 467, 0, 0, 0, [], sg0),
  (.iload_n 3, 773, 468, 0, 0, 0, [], sg0),
  (.iconst 1, 774, 469, 0, 0, 1, [], sg0),
  (.iadd, 775, 470, 0, 0, 0, [], sg0),
  (.iaload, 776, 471, 0, 0, 0, [], sg0),
  (.aload_n 0, 777, 472, 0, 0, 0, [], sg0),
  (.iload_n 3, 778, 473, 0, 0, 0, [], sg0),
  (.iconst 2, 779, 474, 0, 0, 2, [], sg0),
  (.iadd, 780, 475, 0, 0, 0, [], sg0),
  (.iaload, 781, 476, 0, 0, 0, [], sg0),
  (.aload_n 0, 782, 477, 0, 0, 0, [], sg0),
  (.iload_n 3, 783, 478, 0, 0, 0, [], sg0),
  (.iconst 3, 784, 479, 0, 0, 3, [], sg0),
  (.iadd, 785, 480, 0, 0, 0, [], sg0),
  (.iaload, 786, 481, 0, 0, 0, [], sg0),
  (.invokevirtual 97, 787, 482, 7, 0, 0, [], sgX7_habit),
  (.pop2, 790, 483, 0, 0, 0, [], sg0),
  (.aload_n 2, 791, 484, 0, 0, 0, [], sg0),
  (.aload_n 0, 792, 485, 0, 0, 0, [], sg0),
  (.iload_n 3, 793, 486, 0, 0, 0, [], sg0),
  (.iconst 1, 794, 487, 0, 0, 1, [], sg0),
  (.iadd, 795, 488, 0, 0, 0, [], sg0),
  (.iaload, 796, 489, 0, 0, 0, [], sg0),
  (.aload_n 0, 797, 490, 0, 0, 0, [], sg0),
  (.iload_n 3, 798, 491, 0, 0, 0, [], sg0),
  (.iconst 2, 799, 492, 0, 0, 2, [], sg0),
  (.iadd, 800, 493, 0, 0, 0, [], sg0),
  (.iaload, 801, 494, 0, 0, 0, [], sg0),
  (.aload_n 0, 802, 495, 0, 0, 0, [], sg0),
  (.iload_n 3, 803, 496, 0, 0, 0, [], sg0),
  (.iconst 3, 804, 497, 0, 0, 3, [], sg0),
  (.iadd, 805, 498, 0, 0, 0, [], sg0),
  (.iaload, 806, 499, 0, 0, 0, [], sg0),
  (.invokevirtual 101, 807, 500, 8, 0, 0, [], sgX8_habit)]
set_option maxRecDepth 100000 in
def kL_law_5 : List Row := [(.pop2, 810, 501, 0, 0, 0, [], sg0),
  (.goto 706, 811, 502, 1079, 0, 0, [], sg0),
  (.aload_n 1, 814, 503, 0, 0, 0, [], sg0),
  (.aload_n 0, 815, 504, 0, 0, 0, [], sg0),
  (.iload_n 3, 816, 505, 0, 0, 0, [], sg0),
  (.iconst 1, 817, 506, 0, 0, 1, [], sg0),
  (.iadd, 818, 507, 0, 0, 0, [], sg0),
  (.iaload, 819, 508, 0, 0, 0, [], sg0),
  (.aload_n 0, 820, 509, 0, 0, 0, [], sg0),
  (.iload_n 3, 821, 510, 0, 0, 0, [], sg0),
  (.iconst 2, 822, 511, 0, 0, 2, [], sg0),
  (.iadd, 823, 512, 0, 0, 0, [], sg0),
  (.iaload, 824, 513, 0, 0, 0, [], sg0),
  (.invokevirtual 102, 825, 514, 7, 0, 0, [], sgX7_kinds),
  (.pop, 828, 515, 0, 0, 0, [], sg0),
  (.aload_n 2, 829, 516, 0, 0, 0, [], sg0),
  (.aload_n 0, 830, 517, 0, 0, 0, [], sg0),
  (.iload_n 3, 831, 518, 0, 0, 0, [], sg0),
  (.iconst 1, 832, 519, 0, 0, 1, [], sg0),
  (.iadd, 833, 520, 0, 0, 0, [], sg0),
  (.iaload, 834, 521, 0, 0, 0, [], sg0),
  (.aload_n 0, 835, 522, 0, 0, 0, [], sg0),
  (.iload_n 3, 836, 523, 0, 0, 0, [], sg0),
  (.iconst 2, 837, 524, 0, 0, 2, [], sg0),
  (.iadd, 838, 525, 0, 0, 0, [], sg0),
  (.iaload, 839, 526, 0, 0, 0, [], sg0),
  (.invokevirtual 105, 840, 527, 8, 0, 0, [], sgX8_kinds),
  (.pop, 843, 528, 0, 0, 0, [], sg0),
  (.goto 673, 844, 529, 1079, 0, 0, [], sg0),
  (.aload_n 1, 847, 530, 0, 0, 0, [], sg0),
  (.aload_n 0, 848, 531, 0, 0, 0, [], sg0),
  (.iload_n 3, 849, 532, 0, 0, 0, [], sg0),
  (.iconst 1, 850, 533, 0, 0, 1, [], sg0),
  (.iadd, 851, 534, 0, 0, 0, [], sg0),
  (.iaload, 852, 535, 0, 0, 0, [], sg0),
  (.invokevirtual 106, 853, 536, 7, 0, 0, [], sgX7_ask),
  (.pop, 856, 537, 0, 0, 0, [], sg0),
  (.aload_n 2, 857, 538, 0, 0, 0, [], sg0),
  (.aload_n 0, 858, 539, 0, 0, 0, [], sg0),
  (.iload_n 3, 859, 540, 0, 0, 0, [], sg0),
  (.iconst 1, 860, 541, 0, 0, 1, [], sg0),
  (.iadd, 861, 542, 0, 0, 0, [], sg0),
  (.iaload, 862, 543, 0, 0, 0, [], sg0),
  (.invokevirtual 109, 863, 544, 8, 0, 0, [], sgX8_ask),
  (.pop, 866, 545, 0, 0, 0, [], sg0),
  (.goto 650, 867, 546, 1079, 0, 0, [], sg0),
  (.aload_n 1, 870, 547, 0, 0, 0, [], sg0),
  (.aload_n 0, 871, 548, 0, 0, 0, [], sg0),
  (.iload_n 3, 872, 549, 0, 0, 0, [], sg0),
  (.iconst 1, 873, 550, 0, 0, 1, [], sg0),
  (.iadd, 874, 551, 0, 0, 0, [], sg0),
  (.iaload, 875, 552, 0, 0, 0, [], sg0),
  (.invokevirtual 110, 876, 553, 7, 0, 0, [], sgX7_two),
  (.pop, 879, 554, 0, 0, 0, [], sg0),
  (.aload_n 2, 880, 555, 0, 0, 0, [], sg0),
  (.aload_n 0, 881, 556, 0, 0, 0, [], sg0),
  (.iload_n 3, 882, 557, 0, 0, 0, [], sg0),
  (.iconst 1, 883, 558, 0, 0, 1, [], sg0),
  (.iadd, 884, 559, 0, 0, 0, [], sg0),
  (.iaload, 885, 560, 0, 0, 0, [], sg0),
  (.invokevirtual 113, 886, 561, 8, 0, 0, [], sgX8_two_),
  (.pop, 889, 562, 0, 0, 0, [], sg0),
  (.goto 627, 890, 563, 1079, 0, 0, [], sg0),
  (.aload_n 1, 893, 564, 0, 0, 0, [], sg0),
  (.aload_n 0, 894, 565, 0, 0, 0, [], sg0),
  (.iload_n 3, 895, 566, 0, 0, 0, [], sg0),
  (.iconst 1, 896, 567, 0, 0, 1, [], sg0),
  (.iadd, 897, 568, 0, 0, 0, [], sg0),
  (.iaload, 898, 569, 0, 0, 0, [], sg0),
  (.aload_n 0, 899, 570, 0, 0, 0, [], sg0),
  (.iload_n 3, 900, 571, 0, 0, 0, [], sg0),
  (.iconst 2, 901, 572, 0, 0, 2, [], sg0),
  (.iadd, 902, 573, 0, 0, 0, [], sg0),
  (.iaload, 903, 574, 0, 0, 0, [], sg0),
  (.aload_n 0, 904, 575, 0, 0, 0, [], sg0),
  (.iload_n 3, 905, 576, 0, 0, 0, [], sg0),
  (.iconst 3, 906, 577, 0, 0, 3, [], sg0),
  (.iadd, 907, 578, 0, 0, 0, [], sg0),
  (.iaload, 908, 579, 0, 0, 0, [], sg0),
  (.invokevirtual 114, 909, 580, 7, 0, 0, [], sgX7_parts),
  (.pop2, 912, 581, 0, 0, 0, [], sg0),
  (.aload_n 2, 913, 582, 0, 0, 0, [], sg0),
  (.aload_n 0, 914, 583, 0, 0, 0, [], sg0),
  (.iload_n 3, 915, 584, 0, 0, 0, [], sg0),
  (.iconst 1, 916, 585, 0, 0, 1, [], sg0),
  (.iadd, 917, 586, 0, 0, 0, [], sg0),
  (.iaload, 918, 587, 0, 0, 0, [], sg0),
  (.aload_n 0, 919, 588, 0, 0, 0, [], sg0),
  (.iload_n 3, 920, 589, 0, 0, 0, [], sg0),
  (.iconst 2, 921, 590, 0, 0, 2, [], sg0),
  (.iadd, 922, 591, 0, 0, 0, [], sg0),
  (.iaload, 923, 592, 0, 0, 0, [], sg0),
  (.aload_n 0, 924, 593, 0, 0, 0, [], sg0),
  (.iload_n 3, 925, 594, 0, 0, 0, [], sg0),
  (.iconst 3, 926, 595, 0, 0, 3, [], sg0),
  (.iadd, 927, 596, 0, 0, 0, [], sg0),
  (.iaload, 928, 597, 0, 0, 0, [], sg0),
  (.invokevirtual 117, 929, 598, 8, 0, 0, [], sgX8_parts),
  (.pop2, 932, 599, 0, 0, 0, [], sg0),
  (.goto 584, 933, 600, 1079, 0, 0, [], sg0)]
set_option maxRecDepth 100000 in
def kL_law_6 : List Row := [(.aload_n 1, 936, 601, 0, 0, 0, [], sg0),
  (.aload_n 0, 937, 602, 0, 0, 0, [], sg0),
  (.iload_n 3, 938, 603, 0, 0, 0, [], sg0),
  (.iconst 1, 939, 604, 0, 0, 1, [], sg0),
  (.iadd, 940, 605, 0, 0, 0, [], sg0),
  (.iaload, 941, 606, 0, 0, 0, [], sg0),
  (.aload_n 0, 942, 607, 0, 0, 0, [], sg0),
  (.iload_n 3, 943, 608, 0, 0, 0, [], sg0),
  (.iconst 2, 944, 609, 0, 0, 2, [], sg0),
  (.iadd, 945, 610, 0, 0, 0, [], sg0),
  (.iaload, 946, 611, 0, 0, 0, [], sg0),
  (.aload_n 0, 947, 612, 0, 0, 0, [], sg0),
  (.iload_n 3, 948, 613, 0, 0, 0, [], sg0),
  (.iconst 3, 949, 614, 0, 0, 3, [], sg0),
  (.iadd, 950, 615, 0, 0, 0, [], sg0),
  (.iaload, 951, 616, 0, 0, 0, [], sg0),
  (.invokevirtual 118, 952, 617, 7, 0, 0, [], sgX7_hide),
  (.pop, 955, 618, 0, 0, 0, [], sg0),
  (.aload_n 2, 956, 619, 0, 0, 0, [], sg0),
  (.aload_n 0, 957, 620, 0, 0, 0, [], sg0),
  (.iload_n 3, 958, 621, 0, 0, 0, [], sg0),
  (.iconst 1, 959, 622, 0, 0, 1, [], sg0),
  (.iadd, 960, 623, 0, 0, 0, [], sg0),
  (.iaload, 961, 624, 0, 0, 0, [], sg0),
  (.aload_n 0, 962, 625, 0, 0, 0, [], sg0),
  (.iload_n 3, 963, 626, 0, 0, 0, [], sg0),
  (.iconst 2, 964, 627, 0, 0, 2, [], sg0),
  (.iadd, 965, 628, 0, 0, 0, [], sg0),
  (.iaload, 966, 629, 0, 0, 0, [], sg0),
  (.aload_n 0, 967, 630, 0, 0, 0, [], sg0),
  (.iload_n 3, 968, 631, 0, 0, 0, [], sg0),
  (.iconst 3, 969, 632, 0, 0, 3, [], sg0),
  (.iadd, 970, 633, 0, 0, 0, [], sg0),
  (.iaload, 971, 634, 0, 0, 0, [], sg0),
  (.invokevirtual 121, 972, 635, 8, 0, 0, [], sgX8_hide),
  (.pop, 975, 636, 0, 0, 0, [], sg0),
  (.goto 541, 976, 637, 1079, 0, 0, [], sg0),
  (.aload_n 1, 979, 638, 0, 0, 0, [], sg0),
  (.aload_n 0, 980, 639, 0, 0, 0, [], sg0),
  (.iload_n 3, 981, 640, 0, 0, 0, [], sg0),
  (.iconst 1, 982, 641, 0, 0, 1, [], sg0),
  (.iadd, 983, 642, 0, 0, 0, [], sg0),
  (.iaload, 984, 643, 0, 0, 0, [], sg0),
  (.aload_n 0, 985, 644, 0, 0, 0, [], sg0),
  (.iload_n 3, 986, 645, 0, 0, 0, [], sg0),
  (.iconst 2, 987, 646, 0, 0, 2, [], sg0),
  (.iadd, 988, 647, 0, 0, 0, [], sg0),
  (.iaload, 989, 648, 0, 0, 0, [], sg0),
  (.aload_n 0, 990, 649, 0, 0, 0, [], sg0),
  (.iload_n 3, 991, 650, 0, 0, 0, [], sg0),
  (.iconst 3, 992, 651, 0, 0, 3, [], sg0),
  (.iadd, 993, 652, 0, 0, 0, [], sg0),
  (.iaload, 994, 653, 0, 0, 0, [], sg0),
  (.invokevirtual 122, 995, 654, 7, 0, 0, [], sgX7_same),
  (.pop, 998, 655, 0, 0, 0, [], sg0),
  (.aload_n 2, 999, 656, 0, 0, 0, [], sg0),
  (.aload_n 0, 1000, 657, 0, 0, 0, [], sg0),
  (.iload_n 3, 1001, 658, 0, 0, 0, [], sg0),
  (.iconst 1, 1002, 659, 0, 0, 1, [], sg0),
  (.iadd, 1003, 660, 0, 0, 0, [], sg0),
  (.iaload, 1004, 661, 0, 0, 0, [], sg0),
  (.aload_n 0, 1005, 662, 0, 0, 0, [], sg0),
  (.iload_n 3, 1006, 663, 0, 0, 0, [], sg0),
  (.iconst 2, 1007, 664, 0, 0, 2, [], sg0),
  (.iadd, 1008, 665, 0, 0, 0, [], sg0),
  (.iaload, 1009, 666, 0, 0, 0, [], sg0),
  (.aload_n 0, 1010, 667, 0, 0, 0, [], sg0),
  (.iload_n 3, 1011, 668, 0, 0, 0, [], sg0),
  (.iconst 3, 1012, 669, 0, 0, 3, [], sg0),
  (.iadd, 1013, 670, 0, 0, 0, [], sg0),
  (.iaload, 1014, 671, 0, 0, 0, [], sg0),
  (.invokevirtual 125, 1015, 672, 8, 0, 0, [], sgX8_same),
  (.pop, 1018, 673, 0, 0, 0, [], sg0),
  (.goto 498, 1019, 674, 1079, 0, 0, [], sg0),
  (.aload_n 1, 1022, 675, 0, 0, 0, [], sg0),
  (.aload_n 0, 1023, 676, 0, 0, 0, [], sg0),
  (.iload_n 3, 1024, 677, 0, 0, 0, [], sg0),
  (.iconst 1, 1025, 678, 0, 0, 1, [], sg0),
  (.iadd, 1026, 679, 0, 0, 0, [], sg0),
  (.iaload, 1027, 680, 0, 0, 0, [], sg0),
  (.invokevirtual 126, 1028, 681, 7, 0, 0, [], sgX7_claims),
  (.pop, 1031, 682, 0, 0, 0, [], sg0),
  (.aload_n 2, 1032, 683, 0, 0, 0, [], sg0),
  (.aload_n 0, 1033, 684, 0, 0, 0, [], sg0),
  (.iload_n 3, 1034, 685, 0, 0, 0, [], sg0),
  (.iconst 1, 1035, 686, 0, 0, 1, [], sg0),
  (.iadd, 1036, 687, 0, 0, 0, [], sg0),
  (.iaload, 1037, 688, 0, 0, 0, [], sg0),
  (.invokevirtual 129, 1038, 689, 8, 0, 0, [], sgX8_claims),
  (.pop, 1041, 690, 0, 0, 0, [], sg0),
  (.goto 475, 1042, 691, 1079, 0, 0, [], sg0),
  (.aload_n 1, 1045, 692, 0, 0, 0, [], sg0),
  (.aload_n 0, 1046, 693, 0, 0, 0, [], sg0),
  (.iload_n 3, 1047, 694, 0, 0, 0, [], sg0),
  (.iconst 1, 1048, 695, 0, 0, 1, [], sg0),
  (.iadd, 1049, 696, 0, 0, 0, [], sg0),
  (.iaload, 1050, 697, 0, 0, 0, [], sg0),
  (.invokevirtual 130, 1051, 698, 7, 0, 0, [], sgX7_settle),
  (.pop, 1054, 699, 0, 0, 0, [], sg0),
  (.aload_n 2, 1055, 700, 0, 0, 0, [], sg0)]
set_option maxRecDepth 100000 in
def kL_law_7 : List Row := [(.aload_n 0, 1056, 701, 0, 0, 0, [], sg0),
  (.iload_n 3, 1057, 702, 0, 0, 0, [], sg0),
  (.iconst 1, 1058, 703, 0, 0, 1, [], sg0),
  (.iadd, 1059, 704, 0, 0, 0, [], sg0),
  (.iaload, 1060, 705, 0, 0, 0, [], sg0),
  (.invokevirtual 133, 1061, 706, 8, 0, 0, [], sgX8_settle),
  (.pop, 1064, 707, 0, 0, 0, [], sg0),
  (.goto 452, 1065, 708, 1079, 0, 0, [], sg0),
  (.aload_n 1, 1068, 709, 0, 0, 0, [], sg0),
  (.aload_n 0, 1069, 710, 0, 0, 0, [], sg0),
  (.iload_n 3, 1070, 711, 0, 0, 0, [], sg0),
  (.iconst 1, 1071, 712, 0, 0, 1, [], sg0),
  (.iadd, 1072, 713, 0, 0, 0, [], sg0),
  (.iaload, 1073, 714, 0, 0, 0, [], sg0),
  (.aload_n 0, 1074, 715, 0, 0, 0, [], sg0),
  (.iload_n 3, 1075, 716, 0, 0, 0, [], sg0),
  (.iconst 2, 1076, 717, 0, 0, 2, [], sg0),
  (.iadd, 1077, 718, 0, 0, 0, [], sg0),
  (.iaload, 1078, 719, 0, 0, 0, [], sg0),
  (.aload_n 0, 1079, 720, 0, 0, 0, [], sg0),
  (.iload_n 3, 1080, 721, 0, 0, 0, [], sg0),
  (.iconst 3, 1081, 722, 0, 0, 3, [], sg0),
  (.iadd, 1082, 723, 0, 0, 0, [], sg0),
  (.iaload, 1083, 724, 0, 0, 0, [], sg0),
  (.invokevirtual 134, 1084, 725, 7, 0, 0, [], sgX7_thrice),
  (.pop2, 1087, 726, 0, 0, 0, [], sg0),
  (.aload_n 2, 1088, 727, 0, 0, 0, [], sg0),
  (.aload_n 0, 1089, 728, 0, 0, 0, [], sg0),
  (.iload_n 3, 1090, 729, 0, 0, 0, [], sg0),
  (.iconst 1, 1091, 730, 0, 0, 1, [], sg0),
  (.iadd, 1092, 731, 0, 0, 0, [], sg0),
  (.iaload, 1093, 732, 0, 0, 0, [], sg0),
  (.aload_n 0, 1094, 733, 0, 0, 0, [], sg0),
  (.iload_n 3, 1095, 734, 0, 0, 0, [], sg0),
  (.iconst 2, 1096, 735, 0, 0, 2, [], sg0),
  (.iadd, 1097, 736, 0, 0, 0, [], sg0),
  (.iaload, 1098, 737, 0, 0, 0, [], sg0),
  (.aload_n 0, 1099, 738, 0, 0, 0, [], sg0),
  (.iload_n 3, 1100, 739, 0, 0, 0, [], sg0),
  (.iconst 3, 1101, 740, 0, 0, 3, [], sg0),
  (.iadd, 1102, 741, 0, 0, 0, [], sg0),
  (.iaload, 1103, 742, 0, 0, 0, [], sg0),
  (.invokevirtual 137, 1104, 743, 8, 0, 0, [], sgX8_thrice),
  (.pop2, 1107, 744, 0, 0, 0, [], sg0),
  (.goto 409, 1108, 745, 1079, 0, 0, [], sg0),
  (.aload_n 1, 1111, 746, 0, 0, 0, [], sg0),
  (.aload_n 0, 1112, 747, 0, 0, 0, [], sg0),
  (.iload_n 3, 1113, 748, 0, 0, 0, [], sg0),
  (.iconst 1, 1114, 749, 0, 0, 1, [], sg0),
  (.iadd, 1115, 750, 0, 0, 0, [], sg0),
  (.iaload, 1116, 751, 0, 0, 0, [], sg0),
  (.invokevirtual 138, 1117, 752, 7, 0, 0, [], sgX7_many),
  (.pop, 1120, 753, 0, 0, 0, [], sg0),
  (.aload_n 2, 1121, 754, 0, 0, 0, [], sg0),
  (.aload_n 0, 1122, 755, 0, 0, 0, [], sg0),
  (.iload_n 3, 1123, 756, 0, 0, 0, [], sg0),
  (.iconst 1, 1124, 757, 0, 0, 1, [], sg0),
  (.iadd, 1125, 758, 0, 0, 0, [], sg0),
  (.iaload, 1126, 759, 0, 0, 0, [], sg0),
  (.invokevirtual 141, 1127, 760, 8, 0, 0, [], sgX8_many),
  (.pop, 1130, 761, 0, 0, 0, [], sg0),
  (.goto 386, 1131, 762, 1079, 0, 0, [], sg0),
  (.aload_n 1, 1134, 763, 0, 0, 0, [], sg0),
  (.aload_n 0, 1135, 764, 0, 0, 0, [], sg0),
  (.iload_n 3, 1136, 765, 0, 0, 0, [], sg0),
  (.iconst 1, 1137, 766, 0, 0, 1, [], sg0),
  (.iadd, 1138, 767, 0, 0, 0, [], sg0),
  (.iaload, 1139, 768, 0, 0, 0, [], sg0),
  (.aload_n 0, 1140, 769, 0, 0, 0, [], sg0),
  (.iload_n 3, 1141, 770, 0, 0, 0, [], sg0),
  (.iconst 2, 1142, 771, 0, 0, 2, [], sg0),
  (.iadd, 1143, 772, 0, 0, 0, [], sg0),
  (.iaload, 1144, 773, 0, 0, 0, [], sg0),
  (.invokevirtual 142, 1145, 774, 7, 0, 0, [], sgX7_judge),
  (.pop, 1148, 775, 0, 0, 0, [], sg0),
  (.aload_n 2, 1149, 776, 0, 0, 0, [], sg0),
  (.aload_n 0, 1150, 777, 0, 0, 0, [], sg0),
  (.iload_n 3, 1151, 778, 0, 0, 0, [], sg0),
  (.iconst 1, 1152, 779, 0, 0, 1, [], sg0),
  (.iadd, 1153, 780, 0, 0, 0, [], sg0),
  (.iaload, 1154, 781, 0, 0, 0, [], sg0),
  (.aload_n 0, 1155, 782, 0, 0, 0, [], sg0),
  (.iload_n 3, 1156, 783, 0, 0, 0, [], sg0),
  (.iconst 2, 1157, 784, 0, 0, 2, [], sg0),
  (.iadd, 1158, 785, 0, 0, 0, [], sg0),
  (.iaload, 1159, 786, 0, 0, 0, [], sg0),
  (.invokevirtual 145, 1160, 787, 8, 0, 0, [], sgX8_judge),
  (.pop, 1163, 788, 0, 0, 0, [], sg0),
  (.goto 353, 1164, 789, 1079, 0, 0, [], sg0),
  (.aload_n 1, 1167, 790, 0, 0, 0, [], sg0),
  (.aload_n 0, 1168, 791, 0, 0, 0, [], sg0),
  (.iload_n 3, 1169, 792, 0, 0, 0, [], sg0),
  (.iconst 1, 1170, 793, 0, 0, 1, [], sg0),
  (.iadd, 1171, 794, 0, 0, 0, [], sg0),
  (.iaload, 1172, 795, 0, 0, 0, [], sg0),
  (.invokevirtual 146, 1173, 796, 7, 0, 0, [], sgX7_film),
  (.pop, 1176, 797, 0, 0, 0, [], sg0),
  (.aload_n 2, 1177, 798, 0, 0, 0, [], sg0),
  (.aload_n 0, 1178, 799, 0, 0, 0, [], sg0),
  (.iload_n 3, 1179, 800, 0, 0, 0, [], sg0)]
set_option maxRecDepth 100000 in
def kL_law_8 : List Row := [(.iconst 1, 1180, 801, 0, 0, 1, [], sg0),
  (.iadd, 1181, 802, 0, 0, 0, [], sg0),
  (.iaload, 1182, 803, 0, 0, 0, [], sg0),
  (.invokevirtual 149, 1183, 804, 8, 0, 0, [], sgX8_film),
  (.pop, 1186, 805, 0, 0, 0, [], sg0),
  (.goto 330, 1187, 806, 1079, 0, 0, [], sg0),
  (.aload_n 1, 1190, 807, 0, 0, 0, [], sg0),
  (.aload_n 0, 1191, 808, 0, 0, 0, [], sg0),
  (.iload_n 3, 1192, 809, 0, 0, 0, [], sg0),
  (.iconst 1, 1193, 810, 0, 0, 1, [], sg0),
  (.iadd, 1194, 811, 0, 0, 0, [], sg0),
  (.iaload, 1195, 812, 0, 0, 0, [], sg0),
  (.invokevirtual 150, 1196, 813, 7, 0, 0, [], sgX7_drawn),
  (.pop, 1199, 814, 0, 0, 0, [], sg0),
  (.aload_n 2, 1200, 815, 0, 0, 0, [], sg0),
  (.aload_n 0, 1201, 816, 0, 0, 0, [], sg0),
  (.iload_n 3, 1202, 817, 0, 0, 0, [], sg0),
  (.iconst 1, 1203, 818, 0, 0, 1, [], sg0),
  (.iadd, 1204, 819, 0, 0, 0, [], sg0),
  (.iaload, 1205, 820, 0, 0, 0, [], sg0),
  (.invokevirtual 153, 1206, 821, 8, 0, 0, [], sgX8_drawn),
  (.pop, 1209, 822, 0, 0, 0, [], sg0),
  (.goto 307, 1210, 823, 1079, 0, 0, [], sg0),
  (.aload_n 1, 1213, 824, 0, 0, 0, [], sg0),
  (.aload_n 0, 1214, 825, 0, 0, 0, [], sg0),
  (.iload_n 3, 1215, 826, 0, 0, 0, [], sg0),
  (.iconst 1, 1216, 827, 0, 0, 1, [], sg0),
  (.iadd, 1217, 828, 0, 0, 0, [], sg0),
  (.iaload, 1218, 829, 0, 0, 0, [], sg0),
  (.aload_n 0, 1219, 830, 0, 0, 0, [], sg0),
  (.iload_n 3, 1220, 831, 0, 0, 0, [], sg0),
  (.iconst 2, 1221, 832, 0, 0, 2, [], sg0),
  (.iadd, 1222, 833, 0, 0, 0, [], sg0),
  (.iaload, 1223, 834, 0, 0, 0, [], sg0),
  (.aload_n 0, 1224, 835, 0, 0, 0, [], sg0),
  (.iload_n 3, 1225, 836, 0, 0, 0, [], sg0),
  (.iconst 3, 1226, 837, 0, 0, 3, [], sg0),
  (.iadd, 1227, 838, 0, 0, 0, [], sg0),
  (.iaload, 1228, 839, 0, 0, 0, [], sg0),
  (.invokevirtual 154, 1229, 840, 7, 0, 0, [], sgX7_mean),
  (.pop2, 1232, 841, 0, 0, 0, [], sg0),
  (.aload_n 2, 1233, 842, 0, 0, 0, [], sg0),
  (.aload_n 0, 1234, 843, 0, 0, 0, [], sg0),
  (.iload_n 3, 1235, 844, 0, 0, 0, [], sg0),
  (.iconst 1, 1236, 845, 0, 0, 1, [], sg0),
  (.iadd, 1237, 846, 0, 0, 0, [], sg0),
  (.iaload, 1238, 847, 0, 0, 0, [], sg0),
  (.aload_n 0, 1239, 848, 0, 0, 0, [], sg0),
  (.iload_n 3, 1240, 849, 0, 0, 0, [], sg0),
  (.iconst 2, 1241, 850, 0, 0, 2, [], sg0),
  (.iadd, 1242, 851, 0, 0, 0, [], sg0),
  (.iaload, 1243, 852, 0, 0, 0, [], sg0),
  (.aload_n 0, 1244, 853, 0, 0, 0, [], sg0),
  (.iload_n 3, 1245, 854, 0, 0, 0, [], sg0),
  (.iconst 3, 1246, 855, 0, 0, 3, [], sg0),
  (.iadd, 1247, 856, 0, 0, 0, [], sg0),
  (.iaload, 1248, 857, 0, 0, 0, [], sg0),
  (.invokevirtual 157, 1249, 858, 8, 0, 0, [], sgX8_mean),
  (.pop2, 1252, 859, 0, 0, 0, [], sg0),
  (.goto 264, 1253, 860, 1079, 0, 0, [], sg0),
  (.aload_n 1, 1256, 861, 0, 0, 0, [], sg0),
  (.invokevirtual 158, 1257, 862, 7, 0, 0, [], sgX7_image),
  (.pop, 1260, 863, 0, 0, 0, [], sg0),
  (.aload_n 2, 1261, 864, 0, 0, 0, [], sg0),
  (.invokevirtual 161, 1262, 865, 8, 0, 0, [], sgX8_image),
  (.pop, 1265, 866, 0, 0, 0, [], sg0),
  (.goto 251, 1266, 867, 1079, 0, 0, [], sg0),
  (.aload_n 1, 1269, 868, 0, 0, 0, [], sg0),
  (.invokevirtual 162, 1270, 869, 7, 0, 0, [], sgX7_back),
  (.pop, 1273, 870, 0, 0, 0, [], sg0),
  (.aload_n 2, 1274, 871, 0, 0, 0, [], sg0),
  (.invokevirtual 165, 1275, 872, 8, 0, 0, [], sgX8_back),
  (.pop, 1278, 873, 0, 0, 0, [], sg0),
  (.goto 238, 1279, 874, 1079, 0, 0, [], sg0),
  (.aload_n 1, 1282, 875, 0, 0, 0, [], sg0),
  (.aload_n 0, 1283, 876, 0, 0, 0, [], sg0),
  (.iload_n 3, 1284, 877, 0, 0, 0, [], sg0),
  (.iconst 1, 1285, 878, 0, 0, 1, [], sg0),
  (.iadd, 1286, 879, 0, 0, 0, [], sg0),
  (.iaload, 1287, 880, 0, 0, 0, [], sg0),
  (.aload_n 0, 1288, 881, 0, 0, 0, [], sg0),
  (.iload_n 3, 1289, 882, 0, 0, 0, [], sg0),
  (.iconst 2, 1290, 883, 0, 0, 2, [], sg0),
  (.iadd, 1291, 884, 0, 0, 0, [], sg0),
  (.iaload, 1292, 885, 0, 0, 0, [], sg0),
  (.aload_n 0, 1293, 886, 0, 0, 0, [], sg0),
  (.iload_n 3, 1294, 887, 0, 0, 0, [], sg0),
  (.iconst 3, 1295, 888, 0, 0, 3, [], sg0),
  (.iadd, 1296, 889, 0, 0, 0, [], sg0),
  (.iaload, 1297, 890, 0, 0, 0, [], sg0),
  (.invokevirtual 166, 1298, 891, 7, 0, 0, [], sgX7_sheet),
  (.aload_n 2, 1301, 892, 0, 0, 0, [], sg0),
  (.aload_n 0, 1302, 893, 0, 0, 0, [], sg0),
  (.iload_n 3, 1303, 894, 0, 0, 0, [], sg0),
  (.iconst 1, 1304, 895, 0, 0, 1, [], sg0),
  (.iadd, 1305, 896, 0, 0, 0, [], sg0),
  (.iaload, 1306, 897, 0, 0, 0, [], sg0),
  (.aload_n 0, 1307, 898, 0, 0, 0, [], sg0),
  (.iload_n 3, 1308, 899, 0, 0, 0, [], sg0),
  (.iconst 2, 1309, 900, 0, 0, 2, [], sg0)]
set_option maxRecDepth 100000 in
def kL_law_9 : List Row := [(.iadd, 1310, 901, 0, 0, 0, [], sg0),
  (.iaload, 1311, 902, 0, 0, 0, [], sg0),
  (.aload_n 0, 1312, 903, 0, 0, 0, [], sg0),
  (.iload_n 3, 1313, 904, 0, 0, 0, [], sg0),
  (.iconst 3, 1314, 905, 0, 0, 3, [], sg0),
  (.iadd, 1315, 906, 0, 0, 0, [], sg0),
  (.iaload, 1316, 907, 0, 0, 0, [], sg0),
  (.invokevirtual 169, 1317, 908, 8, 0, 0, [], sgX8_sheet),
  (.if_icmp .eq 197, 1320, 909, 1079, 0, 0, [], sg0),
  (.iconst 0, 1323, 910, 0, 0, 0, [], sg0),
  (.ireturn, 1324, 911, 0, 0, 0, [], sg0),
  (.aload_n 1, 1325, 912, 0, 0, 0, [], sg0),
  (.aload_n 0, 1326, 913, 0, 0, 0, [], sg0),
  (.iload_n 3, 1327, 914, 0, 0, 0, [], sg0),
  (.iconst 1, 1328, 915, 0, 0, 1, [], sg0),
  (.iadd, 1329, 916, 0, 0, 0, [], sg0),
  (.iaload, 1330, 917, 0, 0, 0, [], sg0),
  (.aload_n 0, 1331, 918, 0, 0, 0, [], sg0),
  (.iload_n 3, 1332, 919, 0, 0, 0, [], sg0),
  (.iconst 2, 1333, 920, 0, 0, 2, [], sg0),
  (.iadd, 1334, 921, 0, 0, 0, [], sg0),
  (.iaload, 1335, 922, 0, 0, 0, [], sg0),
  (.aload_n 0, 1336, 923, 0, 0, 0, [], sg0),
  (.iload_n 3, 1337, 924, 0, 0, 0, [], sg0),
  (.iconst 3, 1338, 925, 0, 0, 3, [], sg0),
  (.iadd, 1339, 926, 0, 0, 0, [], sg0),
  (.iaload, 1340, 927, 0, 0, 0, [], sg0),
  (.invokevirtual 170, 1341, 928, 7, 0, 0, [], sgX7_cell),
  (.pop, 1344, 929, 0, 0, 0, [], sg0),
  (.aload_n 2, 1345, 930, 0, 0, 0, [], sg0),
  (.aload_n 0, 1346, 931, 0, 0, 0, [], sg0),
  (.iload_n 3, 1347, 932, 0, 0, 0, [], sg0),
  (.iconst 1, 1348, 933, 0, 0, 1, [], sg0),
  (.iadd, 1349, 934, 0, 0, 0, [], sg0),
  (.iaload, 1350, 935, 0, 0, 0, [], sg0),
  (.aload_n 0, 1351, 936, 0, 0, 0, [], sg0),
  (.iload_n 3, 1352, 937, 0, 0, 0, [], sg0),
  (.iconst 2, 1353, 938, 0, 0, 2, [], sg0),
  (.iadd, 1354, 939, 0, 0, 0, [], sg0),
  (.iaload, 1355, 940, 0, 0, 0, [], sg0),
  (.aload_n 0, 1356, 941, 0, 0, 0, [], sg0),
  (.iload_n 3, 1357, 942, 0, 0, 0, [], sg0),
  (.iconst 3, 1358, 943, 0, 0, 3, [], sg0),
  (.iadd, 1359, 944, 0, 0, 0, [], sg0),
  (.iaload, 1360, 945, 0, 0, 0, [], sg0),
  (.invokevirtual 173, 1361, 946, 8, 0, 0, [], sgX8_cell),
  (.pop, 1364, 947, 0, 0, 0, [], sg0),
  (.goto 152, 1365, 948, 1079, 0, 0, [], sg0),
  (.aload_n 1, 1368, 949, 0, 0, 0, [], sg0),
  (.aload_n 0, 1369, 950, 0, 0, 0, [], sg0),
  (.iload_n 3, 1370, 951, 0, 0, 0, [], sg0),
  (.iconst 1, 1371, 952, 0, 0, 1, [], sg0),
  (.iadd, 1372, 953, 0, 0, 0, [], sg0),
  (.iaload, 1373, 954, 0, 0, 0, [], sg0),
  (.aload_n 0, 1374, 955, 0, 0, 0, [], sg0),
  (.iload_n 3, 1375, 956, 0, 0, 0, [], sg0),
  (.iconst 2, 1376, 957, 0, 0, 2, [], sg0),
  (.iadd, 1377, 958, 0, 0, 0, [], sg0),
  (.iaload, 1378, 959, 0, 0, 0, [], sg0),
  (.aload_n 0, 1379, 960, 0, 0, 0, [], sg0),
  (.iload_n 3, 1380, 961, 0, 0, 0, [], sg0),
  (.iconst 3, 1381, 962, 0, 0, 3, [], sg0),
  (.iadd, 1382, 963, 0, 0, 0, [], sg0),
  (.iaload, 1383, 964, 0, 0, 0, [], sg0),
  (.aload_n 0, 1384, 965, 0, 0, 0, [], sg0),
  (.iload_n 3, 1385, 966, 0, 0, 0, [], sg0),
  (.iconst 4, 1386, 967, 0, 0, 4, [], sg0),
  (.iadd, 1387, 968, 0, 0, 0, [], sg0),
  (.iaload, 1388, 969, 0, 0, 0, [], sg0),
  (.aload_n 0, 1389, 970, 0, 0, 0, [], sg0),
  (.iload_n 3, 1390, 971, 0, 0, 0, [], sg0),
  (.iconst 5, 1391, 972, 0, 0, 5, [], sg0),
  (.iadd, 1392, 973, 0, 0, 0, [], sg0),
  (.iaload, 1393, 974, 0, 0, 0, [], sg0),
  (.invokevirtual 174, 1394, 975, 7, 0, 0, [], sgX7_copy),
  (.pop, 1397, 976, 0, 0, 0, [], sg0),
  (.aload_n 2, 1398, 977, 0, 0, 0, [], sg0),
  (.aload_n 0, 1399, 978, 0, 0, 0, [], sg0),
  (.iload_n 3, 1400, 979, 0, 0, 0, [], sg0),
  (.iconst 1, 1401, 980, 0, 0, 1, [], sg0),
  (.iadd, 1402, 981, 0, 0, 0, [], sg0),
  (.iaload, 1403, 982, 0, 0, 0, [], sg0),
  (.aload_n 0, 1404, 983, 0, 0, 0, [], sg0),
  (.iload_n 3, 1405, 984, 0, 0, 0, [], sg0),
  (.iconst 2, 1406, 985, 0, 0, 2, [], sg0),
  (.iadd, 1407, 986, 0, 0, 0, [], sg0),
  (.iaload, 1408, 987, 0, 0, 0, [], sg0),
  (.aload_n 0, 1409, 988, 0, 0, 0, [], sg0),
  (.iload_n 3, 1410, 989, 0, 0, 0, [], sg0),
  (.iconst 3, 1411, 990, 0, 0, 3, [], sg0),
  (.iadd, 1412, 991, 0, 0, 0, [], sg0),
  (.iaload, 1413, 992, 0, 0, 0, [], sg0),
  (.aload_n 0, 1414, 993, 0, 0, 0, [], sg0),
  (.iload_n 3, 1415, 994, 0, 0, 0, [], sg0),
  (.iconst 4, 1416, 995, 0, 0, 4, [], sg0),
  (.iadd, 1417, 996, 0, 0, 0, [], sg0),
  (.iaload, 1418, 997, 0, 0, 0, [], sg0),
  (.aload_n 0, 1419, 998, 0, 0, 0, [], sg0),
  (.iload_n 3, 1420, 999, 0, 0, 0, [], sg0),
  (.iconst 5, 1421, 1000, 0, 0, 5, [], sg0)]
set_option maxRecDepth 100000 in
def kL_law_10 : List Row := [(.iadd, 1422, 1001, 0, 0, 0, [], sg0),
  (.iaload, 1423, 1002, 0, 0, 0, [], sg0),
  (.invokevirtual 178, 1424, 1003, 8, 0, 0, [], sgX8_copy),
  (.pop, 1427, 1004, 0, 0, 0, [], sg0),
  (.goto 89, 1428, 1005, 1079, 0, 0, [], sg0),
  (.aload_n 1, 1431, 1006, 0, 0, 0, [], sg0),
  (.aload_n 0, 1432, 1007, 0, 0, 0, [], sg0),
  (.iload_n 3, 1433, 1008, 0, 0, 0, [], sg0),
  (.iconst 1, 1434, 1009, 0, 0, 1, [], sg0),
  (.iadd, 1435, 1010, 0, 0, 0, [], sg0),
  (.iaload, 1436, 1011, 0, 0, 0, [], sg0),
  (.aload_n 0, 1437, 1012, 0, 0, 0, [], sg0),
  (.iload_n 3, 1438, 1013, 0, 0, 0, [], sg0),
  (.iconst 2, 1439, 1014, 0, 0, 2, [], sg0),
  (.iadd, 1440, 1015, 0, 0, 0, [], sg0),
  (.iaload, 1441, 1016, 0, 0, 0, [], sg0),
  (.aload_n 0, 1442, 1017, 0, 0, 0, [], sg0),
  (.iload_n 3, 1443, 1018, 0, 0, 0, [], sg0),
  (.iconst 3, 1444, 1019, 0, 0, 3, [], sg0),
  (.iadd, 1445, 1020, 0, 0, 0, [], sg0),
  (.iaload, 1446, 1021, 0, 0, 0, [], sg0),
  (.aload_n 0, 1447, 1022, 0, 0, 0, [], sg0),
  (.iload_n 3, 1448, 1023, 0, 0, 0, [], sg0),
  (.iconst 4, 1449, 1024, 0, 0, 4, [], sg0),
  (.iadd, 1450, 1025, 0, 0, 0, [], sg0),
  (.iaload, 1451, 1026, 0, 0, 0, [], sg0),
  (.invokevirtual 179, 1452, 1027, 7, 0, 0, [], sgX7_sayingsBy),
  (.pop, 1455, 1028, 0, 0, 0, [], sg0),
  (.aload_n 2, 1456, 1029, 0, 0, 0, [], sg0),
  (.aload_n 0, 1457, 1030, 0, 0, 0, [], sg0),
  (.iload_n 3, 1458, 1031, 0, 0, 0, [], sg0),
  (.iconst 1, 1459, 1032, 0, 0, 1, [], sg0),
  (.iadd, 1460, 1033, 0, 0, 0, [], sg0),
  (.iaload, 1461, 1034, 0, 0, 0, [], sg0),
  (.aload_n 0, 1462, 1035, 0, 0, 0, [], sg0),
  (.iload_n 3, 1463, 1036, 0, 0, 0, [], sg0),
  (.iconst 2, 1464, 1037, 0, 0, 2, [], sg0),
  (.iadd, 1465, 1038, 0, 0, 0, [], sg0),
  (.iaload, 1466, 1039, 0, 0, 0, [], sg0),
  (.aload_n 0, 1467, 1040, 0, 0, 0, [], sg0),
  (.iload_n 3, 1468, 1041, 0, 0, 0, [], sg0),
  (.iconst 3, 1469, 1042, 0, 0, 3, [], sg0),
  (.iadd, 1470, 1043, 0, 0, 0, [], sg0),
  (.iaload, 1471, 1044, 0, 0, 0, [], sg0),
  (.aload_n 0, 1472, 1045, 0, 0, 0, [], sg0),
  (.iload_n 3, 1473, 1046, 0, 0, 0, [], sg0),
  (.iconst 4, 1474, 1047, 0, 0, 4, [], sg0),
  (.iadd, 1475, 1048, 0, 0, 0, [], sg0),
  (.iaload, 1476, 1049, 0, 0, 0, [], sg0),
  (.invokevirtual 182, 1477, 1050, 8, 0, 0, [], sgX8_sayingsBy),
  (.pop, 1480, 1051, 0, 0, 0, [], sg0),
  (.goto 36, 1481, 1052, 1079, 0, 0, [], sg0),
  (.aload_n 1, 1484, 1053, 0, 0, 0, [], sg0),
  (.aload_n 0, 1485, 1054, 0, 0, 0, [], sg0),
  (.iload_n 3, 1486, 1055, 0, 0, 0, [], sg0),
  (.iconst 1, 1487, 1056, 0, 0, 1, [], sg0),
  (.iadd, 1488, 1057, 0, 0, 0, [], sg0),
  (.iaload, 1489, 1058, 0, 0, 0, [], sg0),
  (.aload_n 0, 1490, 1059, 0, 0, 0, [], sg0),
  (.iload_n 3, 1491, 1060, 0, 0, 0, [], sg0),
  (.iconst 2, 1492, 1061, 0, 0, 2, [], sg0),
  (.iadd, 1493, 1062, 0, 0, 0, [], sg0),
  (.iaload, 1494, 1063, 0, 0, 0, [], sg0),
  (.invokevirtual 183, 1495, 1064, 7, 0, 0, [], sgX7_taken),
  (.pop, 1498, 1065, 0, 0, 0, [], sg0),
  (.aload_n 2, 1499, 1066, 0, 0, 0, [], sg0),
  (.aload_n 0, 1500, 1067, 0, 0, 0, [], sg0),
  (.iload_n 3, 1501, 1068, 0, 0, 0, [], sg0),
  (.iconst 1, 1502, 1069, 0, 0, 1, [], sg0),
  (.iadd, 1503, 1070, 0, 0, 0, [], sg0),
  (.iaload, 1504, 1071, 0, 0, 0, [], sg0),
  (.aload_n 0, 1505, 1072, 0, 0, 0, [], sg0),
  (.iload_n 3, 1506, 1073, 0, 0, 0, [], sg0),
  (.iconst 2, 1507, 1074, 0, 0, 2, [], sg0),
  (.iadd, 1508, 1075, 0, 0, 0, [], sg0),
  (.iaload, 1509, 1076, 0, 0, 0, [], sg0),
  (.invokevirtual 186, 1510, 1077, 8, 0, 0, [], sgX8_taken),
  (.pop, 1513, 1078, 0, 0, 0, [], sg0),
  (.goto 3, 1514, 1079, 1079, 0, 0, [], sg0),
  (.iinc 3 7, 1517, 1080, 0, 0, 7, [], sg0),
  (.goto (-1502), 1520, 1081, 10, 0, 0, [], sg0),
  (.iconst 1, 1523, 1082, 0, 0, 1, [], sg0),
  (.ireturn, 1524, 1083, 0, 0, 0, [], sg0),
  (.nop, 1525, 1084, 0, 0, 0, [], sg0)]
def kL_law : List Row := kL_law_0 ++ (kL_law_1 ++ (kL_law_2 ++ (kL_law_3 ++ (kL_law_4 ++ (kL_law_5 ++ (kL_law_6 ++ (kL_law_7 ++ (kL_law_8 ++ (kL_law_9 ++ kL_law_10)))))))))
set_option maxRecDepth 100000 in
theorem rL_law_0 : linE sgL_law kL_law (nxPc (kL_law_1 ++ (kL_law_2 ++ (kL_law_3 ++ (kL_law_4 ++ (kL_law_5 ++ (kL_law_6 ++ (kL_law_7 ++ (kL_law_8 ++ (kL_law_9 ++ kL_law_10)))))))))) 0 kL_law_0 = true := by decide +kernel
set_option maxRecDepth 100000 in
theorem rL_law_1 : linE sgL_law kL_law (nxPc (kL_law_2 ++ (kL_law_3 ++ (kL_law_4 ++ (kL_law_5 ++ (kL_law_6 ++ (kL_law_7 ++ (kL_law_8 ++ (kL_law_9 ++ kL_law_10))))))))) 100 kL_law_1 = true := by decide +kernel
set_option maxRecDepth 100000 in
theorem rL_law_2 : linE sgL_law kL_law (nxPc (kL_law_3 ++ (kL_law_4 ++ (kL_law_5 ++ (kL_law_6 ++ (kL_law_7 ++ (kL_law_8 ++ (kL_law_9 ++ kL_law_10)))))))) 200 kL_law_2 = true := by decide +kernel
set_option maxRecDepth 100000 in
theorem rL_law_3 : linE sgL_law kL_law (nxPc (kL_law_4 ++ (kL_law_5 ++ (kL_law_6 ++ (kL_law_7 ++ (kL_law_8 ++ (kL_law_9 ++ kL_law_10))))))) 300 kL_law_3 = true := by decide +kernel
set_option maxRecDepth 100000 in
theorem rL_law_4 : linE sgL_law kL_law (nxPc (kL_law_5 ++ (kL_law_6 ++ (kL_law_7 ++ (kL_law_8 ++ (kL_law_9 ++ kL_law_10)))))) 400 kL_law_4 = true := by decide +kernel
set_option maxRecDepth 100000 in
theorem rL_law_5 : linE sgL_law kL_law (nxPc (kL_law_6 ++ (kL_law_7 ++ (kL_law_8 ++ (kL_law_9 ++ kL_law_10))))) 500 kL_law_5 = true := by decide +kernel
set_option maxRecDepth 100000 in
theorem rL_law_6 : linE sgL_law kL_law (nxPc (kL_law_7 ++ (kL_law_8 ++ (kL_law_9 ++ kL_law_10)))) 600 kL_law_6 = true := by decide +kernel
set_option maxRecDepth 100000 in
theorem rL_law_7 : linE sgL_law kL_law (nxPc (kL_law_8 ++ (kL_law_9 ++ kL_law_10))) 700 kL_law_7 = true := by decide +kernel
set_option maxRecDepth 100000 in
theorem rL_law_8 : linE sgL_law kL_law (nxPc (kL_law_9 ++ kL_law_10)) 800 kL_law_8 = true := by decide +kernel
set_option maxRecDepth 100000 in
theorem rL_law_9 : linE sgL_law kL_law (nxPc (kL_law_10)) 900 kL_law_9 = true := by decide +kernel
set_option maxRecDepth 100000 in
theorem rL_law_10 : linB sgL_law kL_law 1000 kL_law_10 = true := by decide +kernel
set_option maxRecDepth 100000 in
theorem okL_law : Chk sgL_law kL_law := ⟨(linB_app rL_law_0 (linB_app rL_law_1 (linB_app rL_law_2 (linB_app rL_law_3 (linB_app rL_law_4 (linB_app rL_law_5 (linB_app rL_law_6 (linB_app rL_law_7 (linB_app rL_law_8 (linB_app rL_law_9 (rL_law_10))))))))))), And.intro sgIX7_init (And.intro sgIX8_init (And.intro sgVX7_count (And.intro sgVX8_count (And.intro sgVX7_feed (And.intro sgVX8_feed (And.intro sgVX7_text (And.intro sgVX8_text (And.intro sgVX7_force (And.intro sgVX8_force (And.intro sgVX7_asks (And.intro sgVX8_asks (And.intro sgVX7_means (And.intro sgVX8_means (And.intro sgVX7_pairs (And.intro sgVX8_pairs (And.intro sgVX7_speaker (And.intro sgVX8_speaker (And.intro sgVX7_turn (And.intro sgVX8_turn (And.intro sgVX7_told (And.intro sgVX8_told (And.intro sgVX7_say (And.intro sgVX8_say (And.intro sgVX7_unsay (And.intro sgVX8_unsay (And.intro sgVX7_said (And.intro sgVX8_said (And.intro sgVX7_worlds (And.intro sgVX8_worlds (And.intro sgVX7_behind (And.intro sgVX8_behind (And.intro sgVX7_cannot (And.intro sgVX8_cannot (And.intro sgVX7_lies (And.intro sgVX8_lies (And.intro sgVX7_least (And.intro sgVX8_least (And.intro sgVX7_mad (And.intro sgVX8_mad (And.intro sgVX7_habit (And.intro sgVX8_habit (And.intro sgVX7_kinds (And.intro sgVX8_kinds (And.intro sgVX7_ask (And.intro sgVX8_ask (And.intro sgVX7_two (And.intro sgVX8_two_ (And.intro sgVX7_parts (And.intro sgVX8_parts (And.intro sgVX7_hide (And.intro sgVX8_hide (And.intro sgVX7_same (And.intro sgVX8_same (And.intro sgVX7_claims (And.intro sgVX8_claims (And.intro sgVX7_settle (And.intro sgVX8_settle (And.intro sgVX7_thrice (And.intro sgVX8_thrice (And.intro sgVX7_many (And.intro sgVX8_many (And.intro sgVX7_judge (And.intro sgVX8_judge (And.intro sgVX7_film (And.intro sgVX8_film (And.intro sgVX7_drawn (And.intro sgVX8_drawn (And.intro sgVX7_mean (And.intro sgVX8_mean (And.intro sgVX7_image (And.intro sgVX8_image (And.intro sgVX7_back (And.intro sgVX8_back (And.intro sgVX7_sheet (And.intro sgVX8_sheet (And.intro sgVX7_cell (And.intro sgVX8_cell (And.intro sgVX7_copy (And.intro sgVX8_copy (And.intro sgVX7_sayingsBy (And.intro sgVX8_sayingsBy (And.intro sgVX7_taken (And.intro sgVX8_taken trivial))))))))))))))))))))))))))))))))))))))))))))))))))))))))))))))))))))))))))))))))))), tb_l2 [(1, 16), (1, 17), (1, 1), (1, 18), (4, 81), (4, 82), (1, 9), (4, 83), (1, 218), (5, 7), (1, 222), (5, 11), (1, 234), (5, 18), (2, 181), (5, 19), (2, 192), (5, 23), (2, 209), (5, 48), (2, 218), (5, 57), (2, 222), (5, 62), (2, 237), (5, 69), (3, 6), (5, 77), (3, 10), (5, 81), (3, 18), (5, 85), (3, 22), (5, 89), (3, 31), (5, 93), (3, 73), (5, 126), (3, 94), (5, 145), (3, 98), (5, 149), (3, 106), (5, 161), (3, 117), (5, 165), (3, 125), (5, 173), (3, 135), (5, 180), (3, 143), (5, 184), (3, 164), (5, 196), (3, 172), (5, 204), (3, 176), (5, 208), (3, 180), (5, 215), (3, 184), (5, 219), (3, 188), (5, 223), (3, 200), (5, 231), (3, 204), (5, 235), (3, 209), (5, 239), (3, 226), (6, 7), (3, 238), (6, 11), (4, 17), (6, 26), (4, 21), (6, 30), (4, 30), (6, 34), (4, 34), (6, 38), (4, 38), (6, 42), (4, 47), (6, 46), (4, 61), (6, 50), (4, 66), (6, 55)] (by decide +kernel) (by decide +kernel), nw_l2 [] (by decide +kernel) (by decide +kernel), by decide +kernel⟩
end
section
abbrev PP : Type := Nat → LO → List Value → AH → Nat → Nat → Prop
abbrev PK : Type := List Value → Prop
def iU (f : Int32 → Int32) : List Value → PK → Prop
  | .int x :: r, K => K (.int (f x) :: r)
  | _, _ => False
def iB (f : Int32 → Int32 → Int32) : List Value → PK → Prop
  | .int y :: .int x :: r, K => K (.int (f x y) :: r)
  | _, _ => False
def iD (f : Int32 → Int32 → Int32) : List Value → PK → Prop
  | .int y :: .int x :: r, K => ¬ y = 0 ∧ K (.int (f x y) :: r)
  | _, _ => False
def jB (f : Int64 → Int64 → Int64) : List Value → PK → Prop
  | .long y :: .long x :: r, K => K (.long (f x y) :: r)
  | _, _ => False
def jD (f : Int64 → Int64 → Int64) : List Value → PK → Prop
  | .long y :: .long x :: r, K => ¬ y = 0 ∧ K (.long (f x y) :: r)
  | _, _ => False
def jS (f : Int64 → Int32 → Int64) : List Value → PK → Prop
  | .int y :: .long x :: r, K => K (.long (f x y) :: r)
  | _, _ => False
def jC : List Value → PK → Prop
  | .long y :: .long x :: r, K => K (.int (lg_cmp x y) :: r)
  | _, _ => False
def ijU : List Value → PK → Prop
  | .int x :: r, K => K (.long x.toInt64 :: r)
  | _, _ => False
def jiU : List Value → PK → Prop
  | .long x :: r, K => K (.int x.toInt32 :: r)
  | _, _ => False
def icC (q : Int32 → Int32 → Prop) : List Value → PK → PK → Prop
  | .int y :: .int x :: r, T, F => (q x y → T r) ∧ (¬ q x y → F r)
  | _, _, _ => False
def izC (q : Int32 → Prop) : List Value → PK → PK → Prop
  | .int x :: r, T, F => (q x → T r) ∧ (¬ q x → F r)
  | _, _, _ => False
def rfN : List Value → PK → Prop
  | .ref _ :: r, K => K r
  | _, _ => False
def ldI (ls : LO) (j : Nat) (K : Value → Prop) : Prop := match ls[j]? with
  | some (some (.int x)) => K (.int x)
  | _ => False
def ldL (ls : LO) (j : Nat) (K : Value → Prop) : Prop := match ls[j]? with
  | some (some (.long x)) => K (.long x)
  | _ => False
def ldA (ls : LO) (j : Nat) (K : Value → Prop) : Prop := match ls[j]? with
  | some (some (.ref x)) => K (.ref x)
  | _ => False
def stO : LO → Nat → Value → (LO → Prop) → Prop
  | [], _, _, _ => False
  | _ :: r, 0, v, K => K (some v :: r)
  | x :: r, j + 1, v, K => match j, x with
    | 0, some (.long _) => False
    | 0, some (.double _) => False
    | _, _ => stO r j v (fun r' => K (x :: r'))
def stT : LO → Nat → Value → (LO → Prop) → Prop
  | [], _, _, _ => False
  | _ :: r, 0, v, K => match r with
    | [] => False
    | _ :: r' => K (some v :: none :: r')
  | x :: r, j + 1, v, K => match j, x with
    | 0, some (.long _) => False
    | 0, some (.double _) => False
    | _, _ => stT r j v (fun r' => K (x :: r'))
def stI (ls : LO) (j : Nat) (st : List Value) (K : LO → List Value → Prop) : Prop := match st with
  | .int x :: r => stO ls j (.int x) (fun ls' => K ls' r)
  | _ => False
def stA (ls : LO) (j : Nat) (st : List Value) (K : LO → List Value → Prop) : Prop := match st with
  | .ref x :: r => stO ls j (.ref x) (fun ls' => K ls' r)
  | _ => False
def stL (ls : LO) (j : Nat) (st : List Value) (K : LO → List Value → Prop) : Prop := match st with
  | .long x :: r => stT ls j (.long x) (fun ls' => K ls' r)
  | _ => False
/-- a cell put in place of another -/
def seH : AH → Nat → AC → (AH → Prop) → Prop
  | [], _, _, _ => False
  | _ :: r, 0, c, K => K (c :: r)
  | x :: r, j + 1, c, K => seH r j c (fun r' => K (x :: r'))
def seV : List Value → Nat → Value → (List Value → Prop) → Prop
  | [], _, _, _ => False
  | _ :: r, 0, c, K => K (c :: r)
  | x :: r, j + 1, c, K => seV r j c (fun r' => K (x :: r'))
def popN : Nat → List Value → List Value → (List Value → List Value → Prop) → Prop
  | 0, acc, st, K => K acc st
  | n + 1, acc, v :: st, K => popN n (v :: acc) st K
  | _ + 1, _, [], _ => False
def catN : List Value → Nat
  | [] => 0
  | v :: r => v.category + catN r
def rOk (n : Nat) : Value → Bool
  | .ref k => Nat.blt k n || Nat.ble 1000 k
  | _ => true
def rOkS (n : Nat) (vs : List Value) : Bool := vs.all (rOk n)
def rOkL (n : Nat) (ls : LO) : Bool := ls.all (fun o => match o with | some v => rOk n v | none => true)
def rOkC (n : Nat) : AC → Bool
  | .inl o => rOkS n o.2
  | .inr _ => true
def rOkH (n : Nat) (hp : AH) : Bool := hp.all (rOkC n)
def swT (x : Int32) : Int → List Nat → (Nat → Prop) → Prop
  | _, [], _ => True
  | lo, t :: ts, K => (x = Int32.ofInt lo → K t) ∧ swT x (lo + 1) ts K
def swL (x : Int32) : List (Int × Int) → List Nat → (Nat → Prop) → Prop
  | a :: as, t :: ts, K => (x = Int32.ofInt a.1 → K t) ∧ swL x as ts K
  | _, _, _ => True
def dfl (ci N : Nat) : List Value := (List.range N).map (fun j => defaultValue ((clTy.getD ci tyX0) j))
def putOk (ty : FieldType) (v : Value) : Prop := match ty, v with
  | .int, .int _ => True
  | .boolean, .int x => x = 0 ∨ x = 1
  | .object _, .ref _ => True
  | .array _, .ref _ => True
  | _, _ => False
def retOk (rt : Option FieldType) (x : Int32) (K : Prop) : Prop := match rt with
  | some .int => K
  | some t => narrow t (.int x) = .int x ∧ K
  | none => False
def rmD (d : Nat) (mc ms : Nat) : Room := { frames := d, cells := mc, slots := ms, locals := 64 * d }
def ctys (tc : Nat → Nat) : List (ClassId × FieldType) := [(tc 0, .int), (tc 1, .long)]
def cV (ad : Nat → Nat) : Value → Value
  | .ref k => .ref (ad k)
  | v => v
def cE (ad tc : Nat → Nat) : AC → va_E
  | .inl o => .inr (o.1, o.2.map (cV ad))
  | .inr (.inl xs) => .inl (tc 0, xs.length, .inl (fun j => xs.getD j 0))
  | .inr (.inr xs) => .inl (tc 1, xs.length, .inr (.inl (fun j => xs.getD j 0)))
def cW (ad tc : Nat → Nat) (hp : AH) : va_W := hp.mapIdx (fun k c => (ad k, cE ad tc c))
/-- a row that is only read -/
def roX (a : Nat) (xs : List Int32) (U : State) (H : Heap) : Prop := ∃ cell : Cell, H[a]? = some cell ∧ U.isArrayOf cell .int ∧ cell.vm ≠ .unknown ∧ xs.length ≤ cell.slots.size ∧ cell.slots.size.toInt32 = Int32.ofNat xs.length ∧ ∀ j : Nat, j < xs.length → cell.slots[j]? = some (.int (xs.getD j 0))
/-- the String constants, and what of the library's own statics their methods read -/
def EFS (xa : Nat → Nat) (A : Nat → Prop) (U : State) : Prop :=
  vk_S 7 lenS bytS (fun i => xa (100 + i)) (fun i => xa (200 + i)) A U U.heap ∧ (∀ (i ix : Nat) (tx : String), sIx[i]? = some ix → sTx[i]? = some tx → vk_R "SaidTwice$Tokens" ix tx (xa (100 + i)) U) ∧ va_Z "java/lang/String" "COMPACT_STRINGS" "Z" (.int 1) A U U.heap ∧
    (va_Z "jdk/internal/util/Preconditions" "SIOOBE_FORMATTER" "Ljava/util/function/BiFunction;" .null A U U.heap ∨ va_Z "jdk/internal/util/Preconditions" "SIOOBE_FORMATTER" "Ljava/util/function/BiFunction;" (.ref (xa 300)) A U U.heap)
/-- what stays: classes, nest words, the static row, rows that are only read -/
def EF (X : List (List Int32)) (D : va_G) (tc xa : Nat → Nat) (A : Nat → Prop) (U : State) : Prop :=
  va_K D vwCl (ctys tc) U ∧ (∀ w ∈ NWL, va_Nw w U) ∧ va_Z "SaidTwice" "SO_IN" "[I" (.ref (xa 0)) A U U.heap ∧ (∀ (j : Nat) (xs : List Int32), X[j]? = some xs → roX (xa j) xs U U.heap ∧ xa j < U.heap.size ∧ ¬ A (xa j)) ∧ EFS xa A U
def sgW (g : Sig) : List Cond := Cond.code (sY g) (sB g) (sL g) (sR g) :: TBL
/-- the addresses that were there stay; of a method that makes no cell, all -/
def adK (n : Nat) (mc : Nat) (ad ad' : Nat → Nat) : Prop := (∀ k, k < n ∨ 1000 ≤ k → ad' k = ad k) ∧ (mc = 0 → ad' = ad)
/-- the world before a method -/
def CPre (X : List (List Int32)) (D : va_G) (tc ad : Nat → Nat) (sz : Nat) (hp : AH) : State → Prop := fun U => U.heap.size = sz ∧ va_P D vwCl (cW ad tc hp) U.heap ∧ va_D (fun _ => True) (cW ad tc hp) ∧ EF X D tc (fun j => ad (1000 + j)) (va_A (cW ad tc hp) sz) U
/-- the world behind it -/
def CPost (mc : Nat) (D : va_G) (tc ad : Nat → Nat) (sz : Nat) (hp : AH) (R : AH → Option Value → Prop) : Array Value → State → Outcome → State → Prop :=
  fun _ st oc t => (∃ (v : Option Value) (hp' : AH) (ad' : Nat → Nat), oc = .returned (v.map (cV ad')) ∧ R hp' v ∧ adK hp.length mc ad ad' ∧ hp.length ≤ hp'.length ∧ va_P D vwCl (cW ad' tc hp') t.heap ∧ va_D (va_A (cW ad tc hp) sz) (cW ad' tc hp')) ∧ va_F (va_A (cW ad tc hp) sz) st t
/-- A CONTRACT: over any heap that holds the picture, the method returns, with R of the picture behind it and the answer -/
def Ctr (l : Launch) (d : Nat) (X : List (List Int32)) (g : Sig) (as : List Value) (hp : AH) (R : AH → Option Value → Prop) : Prop :=
  ∀ (D : va_G) (tc ad : Nat → Nat) (sz : Nat), Met l (sY g) (sgW g) (rmD d (sC g) (sS g)) (va_Pc (as.map (cV ad)) (CPre X D tc ad sz hp)) (CPost (sC g) D tc ad sz hp R) (sC g) (sS g) (va_A (cW ad tc hp) sz)
/-- a row of ints: of those that are only read, or of the cells -/
def rowI (X : List (List Int32)) (hp : AH) (q : Nat) : Option (List Int32) := match Nat.ble 1000 q with
  | true => X[q - 1000]?
  | false => match hp[q]? with
    | some (.inr (.inl xs)) => some xs
    | _ => none
/-- one instruction -/
def stp (l : Launch) (R : Room) (X : List (List Int32)) (g : Sig) (code : List Row) (Q : AH → Option Value → Prop) (P : PP) : PP := fun i ls st hp k n =>
  match code[i]? with
  | none => False
  | some (ins, _, nx, a, b, c, ts, cs) =>
    match ins with
    | .aload_n j => ldA ls j.val (fun v => P nx ls (v :: st) hp k n)
    | .aload j => ldA ls j (fun v => P nx ls (v :: st) hp k n)
    | .iload_n j => ldI ls j.val (fun v => P nx ls (v :: st) hp k n)
    | .iload j => ldI ls j (fun v => P nx ls (v :: st) hp k n)
    | .lload_n j => ldL ls j.val (fun v => P nx ls (v :: st) hp k n)
    | .lload j => ldL ls j (fun v => P nx ls (v :: st) hp k n)
    | .istore_n j => stI ls j.val st (fun ls' r => P nx ls' r hp k n)
    | .istore j => stI ls j st (fun ls' r => P nx ls' r hp k n)
    | .astore_n j => stA ls j.val st (fun ls' r => P nx ls' r hp k n)
    | .astore j => stA ls j st (fun ls' r => P nx ls' r hp k n)
    | .lstore_n j => stL ls j.val st (fun ls' r => P nx ls' r hp k n)
    | .lstore j => stL ls j st (fun ls' r => P nx ls' r hp k n)
    | .iinc j _ => ldI ls j (fun v => match v with
      | .int x => stO ls j (.int (x + Int32.ofInt c)) (fun ls' => P nx ls' st hp k n)
      | _ => False)
    | .iconst _ => P nx ls (.int (Int32.ofInt c) :: st) hp k n
    | .bipush _ => P nx ls (.int (Int32.ofInt c) :: st) hp k n
    | .sipush _ => P nx ls (.int (Int32.ofInt c) :: st) hp k n
    | .lconst _ => P nx ls (.long (Int64.ofInt c) :: st) hp k n
    | .ldc _ => match Nat.beq a 50 with
      | true => P nx ls (.ref (1100 + b) :: st) hp k n
      | false => P nx ls (.int (Int32.ofInt c) :: st) hp k n
    | .ldc_w _ => P nx ls (.int (Int32.ofInt c) :: st) hp k n
    | .ldc2_w _ => P nx ls (.long (Int64.ofInt c) :: st) hp k n
    | .iadd => iB (fun x y => x + y) st (fun r => P nx ls r hp k n)
    | .isub => iB (fun x y => x - y) st (fun r => P nx ls r hp k n)
    | .imul => iB (fun x y => x * y) st (fun r => P nx ls r hp k n)
    | .iand => iB (fun x y => x &&& y) st (fun r => P nx ls r hp k n)
    | .ior => iB (fun x y => x ||| y) st (fun r => P nx ls r hp k n)
    | .ixor => iB (fun x y => x ^^^ y) st (fun r => P nx ls r hp k n)
    | .idiv => iD (fun x y => x / y) st (fun r => P nx ls r hp k n)
    | .irem => iD (fun x y => x - x / y * y) st (fun r => P nx ls r hp k n)
    | .ineg => iU (fun x => -x) st (fun r => P nx ls r hp k n)
    | .ishl => iB (fun x y => x <<< (y &&& 31)) st (fun r => P nx ls r hp k n)
    | .ishr => iB (fun x y => x >>> (y &&& 31)) st (fun r => P nx ls r hp k n)
    | .iushr => iB (fun x y => (x.toUInt32 >>> (y.toUInt32 &&& Int32.toUInt32 31)).toInt32) st (fun r => P nx ls r hp k n)
    | .i2c => iU (fun x => (x.toUInt32 % 65536).toInt32) st (fun r => P nx ls r hp k n)
    | .i2b => iU (fun x => x.toInt8.toInt32) st (fun r => P nx ls r hp k n)
    | .i2s => iU (fun x => x.toInt16.toInt32) st (fun r => P nx ls r hp k n)
    | .i2l => ijU st (fun r => P nx ls r hp k n)
    | .l2i => jiU st (fun r => P nx ls r hp k n)
    | .ladd => jB (fun x y => x + y) st (fun r => P nx ls r hp k n)
    | .lmul => jB (fun x y => x * y) st (fun r => P nx ls r hp k n)
    | .land => jB (fun x y => x &&& y) st (fun r => P nx ls r hp k n)
    | .lor => jB (fun x y => x ||| y) st (fun r => P nx ls r hp k n)
    | .lxor => jB (fun x y => x ^^^ y) st (fun r => P nx ls r hp k n)
    | .ldiv => jD (fun x y => x / y) st (fun r => P nx ls r hp k n)
    | .lrem => jD (fun x y => x - x / y * y) st (fun r => P nx ls r hp k n)
    | .lshl => jS (fun x y => x <<< (y.toInt64 &&& 63)) st (fun r => P nx ls r hp k n)
    | .lshr => jS (fun x y => x >>> (y.toInt64 &&& 63)) st (fun r => P nx ls r hp k n)
    | .lcmp => jC st (fun r => P nx ls r hp k n)
    | .dup => match st with
      | v :: r => v.category = 1 ∧ P nx ls (v :: v :: r) hp k n
      | _ => False
    | .pop => match st with
      | v :: r => v.category = 1 ∧ P nx ls r hp k n
      | _ => False
    | .pop2 => match st with
      | v :: r => v.category = 2 ∧ P nx ls r hp k n
      | _ => False
    | .goto _ => P a ls st hp k n
    | .ifCond .eq _ => izC (fun x => x = 0) st (fun r => P a ls r hp k n) (fun r => P nx ls r hp k n)
    | .ifCond .ne _ => izC (fun x => x = 0) st (fun r => P nx ls r hp k n) (fun r => P a ls r hp k n)
    | .ifCond .lt _ => izC (fun x => x < 0) st (fun r => P a ls r hp k n) (fun r => P nx ls r hp k n)
    | .ifCond .ge _ => izC (fun x => 0 ≤ x) st (fun r => P a ls r hp k n) (fun r => P nx ls r hp k n)
    | .ifCond .gt _ => izC (fun x => 0 < x) st (fun r => P a ls r hp k n) (fun r => P nx ls r hp k n)
    | .ifCond .le _ => izC (fun x => x ≤ 0) st (fun r => P a ls r hp k n) (fun r => P nx ls r hp k n)
    | .if_icmp .eq _ => icC (fun x y => x = y) st (fun r => P a ls r hp k n) (fun r => P nx ls r hp k n)
    | .if_icmp .ne _ => icC (fun x y => x = y) st (fun r => P nx ls r hp k n) (fun r => P a ls r hp k n)
    | .if_icmp .lt _ => icC (fun x y => x < y) st (fun r => P a ls r hp k n) (fun r => P nx ls r hp k n)
    | .if_icmp .ge _ => icC (fun x y => y ≤ x) st (fun r => P a ls r hp k n) (fun r => P nx ls r hp k n)
    | .if_icmp .gt _ => icC (fun x y => y < x) st (fun r => P a ls r hp k n) (fun r => P nx ls r hp k n)
    | .if_icmp .le _ => icC (fun x y => x ≤ y) st (fun r => P a ls r hp k n) (fun r => P nx ls r hp k n)
    | .ifnull _ => rfN st (fun r => P nx ls r hp k n)
    | .ifnonnull _ => rfN st (fun r => P a ls r hp k n)
    | .tableswitch _ lo hi _ => match st with
      | .int x :: r => (x.toInt < lo ∨ hi < x.toInt → P a ls r hp k n) ∧ swT x lo ts (fun t => P t ls r hp k n)
      | _ => False
    | .lookupswitch _ ps => match st with
      | .int x :: r => ((∀ p ∈ ps.toList, ¬ x = Int32.ofInt p.1) → P a ls r hp k n) ∧ swL x ps.toList ts (fun t => P t ls r hp k n)
      | _ => False
    | .arraylength => match st with
      | .ref q :: r => match bytQ q with
        | some i => P nx ls (.int (Int32.ofNat (lenS.getD i 0)) :: r) hp k n
        | none => ∃ xs, rowI X hp q = some xs ∧ P nx ls (.int (Int32.ofNat xs.length) :: r) hp k n
      | _ => False
    | .baload => match st with
      | .int j :: .ref q :: r => match bytQ q with
        | some i => vp_in j (lenS.getD i 0) ∧ P nx ls (.int ((bytS.getD i []).getD j.toNatClampNeg 0) :: r) hp k n
        | none => False
      | _ => False
    | .iaload => match st with
      | .int j :: .ref q :: r => ∃ xs, rowI X hp q = some xs ∧ vp_in j xs.length ∧ P nx ls (.int (xs.getD j.toNatClampNeg 0) :: r) hp k n
      | _ => False
    | .iastore => match st with
      | .int x :: .int j :: .ref q :: r => ∃ xs, hp[q]? = some (AI xs) ∧ vp_in j xs.length ∧ P nx ls r (hp.set q (AI (xs.set j.toNatClampNeg x))) k n
      | _ => False
    | .laload => match st with
      | .int j :: .ref q :: r => ∃ xs, hp[q]? = some (AL xs) ∧ vp_in j xs.length ∧ P nx ls (.long (xs.getD j.toNatClampNeg 0) :: r) hp k n
      | _ => False
    | .lastore => match st with
      | .long x :: .int j :: .ref q :: r => ∃ xs, hp[q]? = some (AL xs) ∧ vp_in j xs.length ∧ P nx ls r (hp.set q (AL (xs.set j.toNatClampNeg x))) k n
      | _ => False
    | .getfield _ => match st with
      | .ref q :: r => match Nat.beq a 50 with
        | true => match strQ q with
          | some i => match Nat.beq b 0 with
            | true => P nx ls (.int 0 :: r) hp k n
            | false => P nx ls (.ref (1200 + i) :: r) hp k n
          | none => False
        | false => match hp[q]? with
          | some (.inl (ci, fs)) => match Nat.beq ci a, fs[b]? with
            | true, some v => P nx ls (v :: r) hp k n
            | _, _ => False
          | _ => False
      | _ => False
    | .putfield _ => match st with
      | v :: .ref q :: r => match hp[q]? with
        | some (.inl (ci, fs)) => match Nat.beq ci a with
          | true => putOk ((clTy.getD a tyX0) b) v ∧ seV fs b v (fun fs' => seH hp q (AO ci fs') (fun hp' => P nx ls r hp' k n))
          | false => False
        | _ => False
      | _ => False
    | .getstatic _ => match Nat.beq a 51, Nat.beq a 52 with
      | true, _ => P nx ls (.int 1 :: st) hp k n
      | false, true => P nx ls (.null :: st) hp k n ∧ P nx ls (.ref 1300 :: st) hp k n
      | false, false => P nx ls (.ref 1000 :: st) hp k n
    | .new _ => match vwCl[a]? with
      | some (_, _, N) => (rOkH hp.length hp && (rOkS hp.length st && rOkL hp.length ls)) = true ∧ (k + 1 ≤ R.cells ∧ n + N ≤ R.slots) ∧ hp.length < 1000 ∧ P nx ls (.ref hp.length :: st) (hp ++ [AO a (dfl a N)]) (k + 1) (n + N)
      | none => False
    | .newarray t => match st with
      | .int x :: r => match t with
        | .int => (rOkH hp.length hp && (rOkS hp.length st && rOkL hp.length ls)) = true ∧ (k + 1 ≤ R.cells ∧ n + x.toNatClampNeg ≤ R.slots) ∧ hp.length < 1000 ∧ (¬ x < 0 ∧ x.toNatClampNeg ≤ 10000) ∧ P nx ls (.ref hp.length :: r) (hp ++ [AI (List.replicate x.toNatClampNeg 0)]) (k + 1) (n + x.toNatClampNeg)
        | .long => (rOkH hp.length hp && (rOkS hp.length st && rOkL hp.length ls)) = true ∧ (k + 1 ≤ R.cells ∧ n + x.toNatClampNeg ≤ R.slots) ∧ hp.length < 1000 ∧ (¬ x < 0 ∧ x.toNatClampNeg ≤ 10000) ∧ P nx ls (.ref hp.length :: r) (hp ++ [AL (List.replicate x.toNatClampNeg 0)]) (k + 1) (n + x.toNatClampNeg)
        | _ => False
      | _ => False
    | .invokevirtual _ => popN (sA cs) [] st (fun as r => match as with
      | .ref q :: _ => match Nat.beq a 50 with
        | true => match strQ q, Nat.ble (catN r) 8, Nat.beq (sC cs) 0 with
          | some _, true, true => ∃ (d' : Nat) (Rq : AH → Option Value → Prop), (d' + 1 ≤ R.frames ∧ 8 + (sL cs + 11) + 64 * d' ≤ R.locals ∧ k + sC cs ≤ R.cells ∧ n + sS cs ≤ R.slots) ∧ Ctr l d' X cs as hp Rq ∧ ∀ hp' v, Rq hp' v → P nx ls (v.toList ++ r) hp' (k + sC cs) (n + sS cs)
          | _, _, _ => False
        | false => match hp[q]? with
          | some (.inl (ci, _)) => match Nat.beq ci a, Nat.ble (catN r) 8, (Nat.beq (sC cs) 0 || (rOkS hp.length r && rOkL hp.length ls)) with
            | true, true, true => ∃ (d' : Nat) (Rq : AH → Option Value → Prop), (d' + 1 ≤ R.frames ∧ 8 + (sL cs + 11) + 64 * d' ≤ R.locals ∧ k + sC cs ≤ R.cells ∧ n + sS cs ≤ R.slots) ∧ Ctr l d' X cs as hp Rq ∧ ∀ hp' v, Rq hp' v → P nx ls (v.toList ++ r) hp' (k + sC cs) (n + sS cs)
            | _, _, _ => False
          | _ => False
      | _ => False)
    | .invokestatic _ => match Nat.beq b 7, Nat.beq b 8 with
      | true, _ => match st with
        | .int y :: .int x :: r => (Nat.ble (catN r) 8 = true ∧ 1 ≤ R.frames ∧ 21 ≤ R.locals) ∧ P nx ls (.int (if x < y then y else x) :: r) hp k n
        | _ => False
      | _, true => match st with
        | .int y :: .int x :: r => (Nat.ble (catN r) 8 = true ∧ 1 ≤ R.frames ∧ 21 ≤ R.locals) ∧ P nx ls (.int (if y < x then y else x) :: r) hp k n
        | _ => False
      | false, false => popN (sA cs) [] st (fun as r => match Nat.ble (catN r) 8, (Nat.beq (sC cs) 0 || (rOkS hp.length r && rOkL hp.length ls)) with
        | true, true => ∃ (d' : Nat) (Rq : AH → Option Value → Prop), (d' + 1 ≤ R.frames ∧ 8 + (sL cs + 11) + 64 * d' ≤ R.locals ∧ k + sC cs ≤ R.cells ∧ n + sS cs ≤ R.slots) ∧ Ctr l d' X cs as hp Rq ∧ ∀ hp' v, Rq hp' v → P nx ls (v.toList ++ r) hp' (k + sC cs) (n + sS cs)
        | _, _ => False)
    | .invokespecial _ => match Nat.beq b 9 with
      | true => match st with
        | .ref _ :: r => match Nat.ble (catN r) 8 with
          | true => (1 ≤ R.frames ∧ 20 ≤ R.locals) ∧ P nx ls r hp k n
          | false => False
        | _ => False
      | false => popN (sA cs) [] st (fun as r => match as with
        | .ref _ :: _ => match Nat.ble (catN r) 8, (Nat.beq (sC cs) 0 || (rOkS hp.length r && rOkL hp.length ls)) with
          | true, true => ∃ (d' : Nat) (Rq : AH → Option Value → Prop), (d' + 1 ≤ R.frames ∧ 8 + (sL cs + 11) + 64 * d' ≤ R.locals ∧ k + sC cs ≤ R.cells ∧ n + sS cs ≤ R.slots) ∧ Ctr l d' X cs as hp Rq ∧ ∀ hp' v, Rq hp' v → P nx ls (v.toList ++ r) hp' (k + sC cs) (n + sS cs)
          | _, _ => False
        | _ => False)
    | .ireturn => match st with
      | .int x :: [] => retOk (sR g) x (Q hp (some (.int x)))
      | _ => False
    | .lreturn => match st with
      | .long x :: [] => sR g = some .long ∧ Q hp (some (.long x))
      | _ => False
    | .return_ => match st with
      | [] => sR g = none ∧ Q hp none
      | _ => False
    | _ => False
/-- many instructions, up to the rows that are cut -/
def run (l : Launch) (R : Room) (X : List (List Int32)) (g : Sig) (code : List Row) (cut : Nat → Bool) (Q : AH → Option Value → Prop) (P : PP) : Nat → PP
  | 0 => P
  | m + 1 => stp l R X g code Q (fun i ls st hp k n => match cut i with
    | true => P i ls st hp k n
    | false => run l R X g code cut Q P m i ls st hp k n)
end
section
theorem nest_warm {w : Cond} (h : isNest w = true) {s U : State} (hW : s.WarmedH U.vm) (hZ : va_Nw w s) : va_Nw w U := by
  cases w <;> first | exact va_Nw.warmF hW hZ | exact va_Nw.warmM hW hZ | (simp [isNest] at h)
theorem nest_same {w : Cond} (h : isNest w = true) {u U : State} (hv : u.vm = U.vm) (hZ : va_Nw w u) : va_Nw w U := by
  cases w <;> first | exact va_Nw.same rfl hv hZ | (simp [isNest] at h)
theorem cW_get {ad tc : Nat → Nat} {hp : AH} {k : Nat} {c : AC} (h : hp[k]? = some c) : (cW ad tc hp)[k]? = some (ad k, cE ad tc c) := by
  simp [cW, h]
theorem cW_len {ad tc : Nat → Nat} {hp : AH} : (cW ad tc hp).length = hp.length := by simp [cW]
theorem cW_set {ad tc : Nat → Nat} {hp : AH} {k : Nat} {c : AC} : (cW ad tc hp).set k (ad k, cE ad tc c) = cW ad tc (hp.set k c) := by
  apply List.ext_getElem?
  intro j
  by_cases hj : k = j
  · subst hj
    by_cases hl : k < hp.length
    · simp [cW, List.getElem?_set, hl]
    · simp [cW, List.getElem?_set, hl]
  · simp [cW, List.getElem?_set, hj]
theorem cV_cat (ad : Nat → Nat) (v : Value) : (cV ad v).category = v.category := by cases v <;> rfl
theorem rOk_cV {n : Nat} {ad ad' : Nat → Nat} (h : ∀ k, k < n ∨ 1000 ≤ k → ad' k = ad k) : ∀ v, rOk n v = true → cV ad' v = cV ad v := by
  intro v hv
  cases v with
  | ref k =>
    simp only [rOk, Bool.or_eq_true] at hv
    have : k < n ∨ 1000 ≤ k := hv.imp (fun q => Nat.blt_eq.mp q) (fun q => Nat.le_of_ble_eq_true q)
    simp [cV, h k this]
  | _ => rfl
theorem rOkS_map {n : Nat} {ad ad' : Nat → Nat} (h : ∀ k, k < n ∨ 1000 ≤ k → ad' k = ad k) (vs : List Value) (hv : rOkS n vs = true) : vs.map (cV ad') = vs.map (cV ad) := by
  apply List.map_congr_left
  intro v hm
  exact rOk_cV h v (List.all_eq_true.mp hv v hm)
theorem rOkH_cW {n : Nat} {ad ad' tc : Nat → Nat} {hp : AH} (h : ∀ k, k < n ∨ 1000 ≤ k → ad' k = ad k) (hn : hp.length = n) (hv : rOkH n hp = true) : cW ad' tc hp = cW ad tc hp := by
  apply List.ext_getElem?
  intro j
  simp only [cW, List.getElem?_mapIdx]
  cases hj : hp[j]? with
  | none => rfl
  | some c =>
    have hl : j < n := by rw [← hn]; exact (List.getElem?_eq_some_iff.mp hj).1
    have hc := List.all_eq_true.mp hv c (List.mem_of_getElem? hj)
    simp only [Option.map_some, h j (Or.inl hl)]
    cases c with
    | inl o => simp only [cE, rOkS_map h o.2 hc]
    | inr q => cases q <;> rfl
/-- the locals -/
def LR (ad : Nat → Nat) (nL : Nat) (al : LO) (ls : Array Slot) : Prop := al.length = nL ∧ ls.size = nL ∧ lv_wf ls ∧ ∀ (j : Nat) (v : Value), al[j]? = some (some v) → ls[j]? = some (.val (cV ad v))
def asL (ad : Nat → Nat) (al : LO) : List (Nat × Value) := (List.range al.length).filterMap (fun j => match al[j]? with
  | some (some v) => some (j, cV ad v)
  | _ => none)
theorem asL_mem {ad : Nat → Nat} {al : LO} {j : Nat} {v : Value} (h : al[j]? = some (some v)) : (j, cV ad v) ∈ asL ad al := by
  refine List.mem_filterMap.mpr ⟨j, List.mem_range.mpr (List.getElem?_eq_some_iff.mp h).1, ?_⟩
  simp [h]
theorem LR.has {ad : Nat → Nat} {nL : Nat} {al : LO} {ls : Array Slot} (h : LR ad nL al ls) : lv_has ls nL (asL ad al) := by
  obtain ⟨h0, h1, h2, h3⟩ := h
  refine ⟨h1, h2, fun q hq => ?_⟩
  obtain ⟨j, -, hj⟩ := List.mem_filterMap.mp hq
  split at hj
  · rename_i v hv
    cases hj
    exact h3 j v hv
  · cases hj
theorem LR.kept {ad ad' : Nat → Nat} {n nL : Nat} {al : LO} {ls : Array Slot} (h : LR ad nL al ls) (ha : ∀ k, k < n ∨ 1000 ≤ k → ad' k = ad k) (ho : rOkL n al = true) : LR ad' nL al ls := by
  refine ⟨h.1, h.2.1, h.2.2.1, fun j v hv => ?_⟩
  have := List.all_eq_true.mp ho (some v) (List.mem_of_getElem? hv)
  rw [rOk_cV ha v this]
  exact h.2.2.2 j v hv
theorem cat_two {x : Option Value} {w : Value} (h1 : ∀ a, ¬ x = some (.long a)) (h2 : ∀ a, ¬ x = some (.double a)) (hx : x = some w) : ¬ w.category = 2 := by
  subst hx
  cases w with
  | long a => exact absurd rfl (h1 a)
  | double a => exact absurd rfl (h2 a)
  | _ => simp [Value.category]
theorem stO_step {K : LO → Prop} {v : Value} {x : Option Value} {r : LO} {j : Nat} (h : stO (x :: r) (j + 1) v K) : stO r j v (fun r' => K (x :: r')) ∧ (j = 0 → ∀ w, x = some w → ¬ w.category = 2) := by
  unfold stO at h
  split at h
  · exact h.elim
  · exact h.elim
  · rename_i h1 h2
    exact ⟨h, fun hj w hx => cat_two (fun a e => h1 a hj e) (fun a e => h2 a hj e) hx⟩
theorem stO_spec {v : Value} : ∀ {al : LO} {j : Nat} {K : LO → Prop}, stO al j v K → j < al.length ∧ K (al.set j (some v)) ∧ ∀ (q : Nat) (w : Value), q + 1 = j → al[q]? = some (some w) → ¬ w.category = 2 := by
  intro al
  induction al with
  | nil => intro j K h; exact h.elim
  | cons x r ih =>
    intro j K h
    cases j with
    | zero => exact ⟨Nat.succ_pos _, h, fun q w e => by omega⟩
    | succ j =>
      have key := stO_step h
      obtain ⟨h1, h2, h3⟩ := ih key.1
      refine ⟨by simpa using h1, h2, fun q w e hq => ?_⟩
      cases q with
      | zero =>
        simp at hq
        exact key.2 (by omega) w hq
      | succ q => exact h3 q w (by omega) (by simpa using hq)
theorem stT_step {K : LO → Prop} {v : Value} {x : Option Value} {r : LO} {j : Nat} (h : stT (x :: r) (j + 1) v K) : stT r j v (fun r' => K (x :: r')) ∧ (j = 0 → ∀ w, x = some w → ¬ w.category = 2) := by
  unfold stT at h
  split at h
  · exact h.elim
  · exact h.elim
  · rename_i h1 h2
    exact ⟨h, fun hj w hx => cat_two (fun a e => h1 a hj e) (fun a e => h2 a hj e) hx⟩
theorem stT_spec {v : Value} : ∀ {al : LO} {j : Nat} {K : LO → Prop}, stT al j v K → j + 1 < al.length ∧ K ((al.set j (some v)).set (j + 1) none) ∧ ∀ (q : Nat) (w : Value), q + 1 = j → al[q]? = some (some w) → ¬ w.category = 2 := by
  intro al
  induction al with
  | nil => intro j K h; exact h.elim
  | cons x r ih =>
    intro j K h
    cases j with
    | zero =>
      cases r with
      | nil => exact h.elim
      | cons y r => exact ⟨by simp, h, fun q w e => by omega⟩
    | succ j =>
      have key := stT_step h
      obtain ⟨h1, h2, h3⟩ := ih key.1
      refine ⟨by simp only [List.length_cons]; omega, h2, fun q w e hq => ?_⟩
      cases q with
      | zero =>
        simp at hq
        exact key.2 (by omega) w hq
      | succ q => exact h3 q w (by omega) (by simpa using hq)
theorem seH_spec {c : AC} : ∀ {hp : AH} {j : Nat} {K : AH → Prop}, seH hp j c K → j < hp.length ∧ K (hp.set j c) := by
  intro hp
  induction hp with
  | nil => intro j K h; exact h.elim
  | cons x r ih =>
    intro j K h
    cases j with
    | zero => exact ⟨Nat.succ_pos _, h⟩
    | succ j =>
      obtain ⟨h1, h2⟩ := ih h
      exact ⟨by simpa using h1, h2⟩
theorem seV_spec {c : Value} : ∀ {hp : List Value} {j : Nat} {K : List Value → Prop}, seV hp j c K → j < hp.length ∧ K (hp.set j c) := by
  intro hp
  induction hp with
  | nil => intro j K h; exact h.elim
  | cons x r ih =>
    intro j K h
    cases j with
    | zero => exact ⟨Nat.succ_pos _, h⟩
    | succ j =>
      obtain ⟨h1, h2⟩ := ih h
      exact ⟨by simpa using h1, h2⟩
theorem popN_spec : ∀ {n : Nat} {acc st : List Value} {K : List Value → List Value → Prop}, popN n acc st K → ∃ as r, as.length = n ∧ st = as.reverse ++ r ∧ K (as ++ acc) r := by
  intro n
  induction n with
  | zero => intro acc st K h; exact ⟨[], st, rfl, rfl, h⟩
  | succ n ih =>
    intro acc st K h
    cases st with
    | nil => exact h.elim
    | cons v st =>
      obtain ⟨as, r, h1, h2, h3⟩ := ih h
      refine ⟨as ++ [v], r, by simp [h1], by simp [h2], by simpa using h3⟩
theorem catN_sum (ad : Nat → Nat) (vs : List Value) : ((vs.map (cV ad)).map fun v => v.category).sum = catN vs := by
  induction vs with
  | nil => rfl
  | cons v r ih => simp only [List.map_cons, List.sum_cons, cV_cat, catN, ih]
/-- stores to the locals -/
theorem LR.st1 {ad : Nat → Nat} {nL i : Nat} {al : LO} {v : Value} {ls' : Array Slot} (h0 : al.length = nL) (hi : i < al.length) (hq : ∀ (q : Nat) (w : Value), q + 1 = i → al[q]? = some (some w) → ¬ w.category = 2)
    (h : lv_has ls' nL ((i, cV ad v) :: (asL ad al).filter (fun q => !(q.1 == i) && !(q.1 + 1 == i && q.2.category == 2)))) : LR ad nL (al.set i (some v)) ls' := by
  refine ⟨by simp [h0], h.1, h.2.1, fun j w hj => ?_⟩
  by_cases e : j = i
  · subst e
    rw [List.getElem?_set_self hi] at hj
    cases hj
    exact h.2.2 _ List.mem_cons_self
  · rw [List.getElem?_set_ne (fun q => e q.symm)] at hj
    refine h.2.2 (j, cV ad w) (List.mem_cons_of_mem _ (List.mem_filter.mpr ⟨asL_mem hj, ?_⟩))
    simp only [Bool.and_eq_true, Bool.not_eq_true', beq_eq_false_iff_ne, ne_eq, Bool.and_eq_false_iff]
    refine ⟨e, ?_⟩
    by_cases e2 : j + 1 = i
    · exact Or.inr (by rw [cV_cat]; exact hq j w e2 hj)
    · exact Or.inl e2
theorem LR.st2 {ad : Nat → Nat} {nL i : Nat} {al : LO} {v : Value} {ls' : Array Slot} (h0 : al.length = nL) (hi : i + 1 < al.length) (hq : ∀ (q : Nat) (w : Value), q + 1 = i → al[q]? = some (some w) → ¬ w.category = 2)
    (h : lv_has ls' nL ((i, cV ad v) :: (asL ad al).filter (fun q => !(q.1 == i) && (!(q.1 == i + 1) && !(q.1 + 1 == i && q.2.category == 2))))) : LR ad nL ((al.set i (some v)).set (i + 1) none) ls' := by
  refine ⟨by simp [h0], h.1, h.2.1, fun j w hj => ?_⟩
  by_cases e1 : j = i + 1
  · subst e1
    rw [List.getElem?_set_self (by simpa using hi)] at hj
    cases hj
  rw [List.getElem?_set_ne (fun q => e1 q.symm)] at hj
  by_cases e : j = i
  · subst e
    rw [List.getElem?_set_self (by omega)] at hj
    cases hj
    exact h.2.2 _ List.mem_cons_self
  · rw [List.getElem?_set_ne (fun q => e q.symm)] at hj
    refine h.2.2 (j, cV ad w) (List.mem_cons_of_mem _ (List.mem_filter.mpr ⟨asL_mem hj, ?_⟩))
    simp only [Bool.and_eq_true, Bool.not_eq_true', beq_eq_false_iff_ne, ne_eq, Bool.and_eq_false_iff]
    refine ⟨e, e1, ?_⟩
    by_cases e2 : j + 1 = i
    · exact Or.inr (by rw [cV_cat]; exact hq j w e2 hj)
    · exact Or.inl e2
end
section
section STEP
variable {p : Program} {l : Launch} {e : Env} {R : Room} {s : State} {m : MethodId} {args : Array Value} {below : List Frame} {meth : Method} {c : Code} {H : Heap} {locs : List Loc} {cells slots : Nat} {Q : State → Prop}
/-- behind a call, whatever it says -/
theorem va_callg {pc : Nat} {ls : Array Slot} {rest st0 : List Value} {A0 A1 : Nat → Prop} {H0 : Heap} {mc ms : Nat} {free : Addr → Prop} {Qa : State → Outcome → State → Prop}
    (hr : va_Run p l e R s m args below meth c H locs cells slots mc ms (F0 m pc ls st0) rest Qa free) (hS : va_S A0 H0 H locs) (hF : ∀ st oc t, Qa st oc t → va_F A1 st t) (hA : ∀ q, A1 q → A0 q) (hf : ∀ q, free q → A0 q)
    (kk : ∀ (v : Option Value) (st₀ t : State) (H1 : Heap) (locs1 : List Loc), st₀.heap = H → t.heap = H1 → Qa st₀ (.returned v) t → va_S A0 H0 H1 locs1 → W p l e R s m args below meth c H1 locs1 (cells + mc) (slots + ms) Q (F0 m (pc + 3) ls (v.toList ++ rest))) : W p l e R s m args below meth c H locs cells slots Q (F0 m pc ls st0) := by
  intro T hT X
  obtain ⟨v, st₀, t, T', L, h0, X', hL, e1, e2, hq, st⟩ := hr T hT X
  obtain ⟨hz, hk⟩ := hF _ _ _ hq
  rw [h0] at hz hk
  obtain ⟨t2, a1, b1⟩ := kk v st₀ t T'.heap (locs ++ L) h0 e1.symm hq
    ⟨Nat.le_trans hS.1 (by rw [e1]; exact hz), fun q h1 h2 => by rw [e1, hk q (Nat.lt_of_lt_of_le h1 hS.1) (fun z => h2 (hA q z))]; exact hS.2.1 q h1 h2, fun q hq => by
      rcases List.mem_append.mp hq with h | h
      · exact hS.2.2 q h
      · exact hf _ (hL q h)⟩ T' rfl X'
  exact ⟨t2, st t2 a1, b1⟩
end STEP
theorem TBL_good {ws : List Cond} (h : ∀ w ∈ ws, w ∈ TBL) : GoodIn TBL ws := fun w hw => ⟨h w hw, good_of_word (tb_good w (h w hw))⟩
theorem NWL_nest : ∀ w ∈ NWL, isNest w = true := fun w h => (List.mem_filter.mp h).2
theorem roX.kept {a : Nat} {xs : List Int32} {U : State} {H H1 : Heap} (h : roX a xs U H) (hq : H1[a]? = H[a]?) : roX a xs U H1 := by
  obtain ⟨c, h1, h2⟩ := h
  exact ⟨c, by rw [hq]; exact h1, h2⟩
theorem roX.moved {a : Nat} {xs : List Int32} {u U : State} {H : Heap} (hvm : u.vm.Alike U.vm) (h : roX a xs u H) : roX a xs U H := by
  obtain ⟨c, h1, h2, h3⟩ := h
  exact ⟨c, h1, State.isArrayOf_alike hvm h2, h3⟩
/-- what stays, at a callee's start -/
theorem EF_call {X : List (List Int32)} {D : va_G} {tc xa : Nat → Nat} {A A' : Nat → Prop} {s U : State} {H : Heap} {locs : List Loc} (h : EF X D tc xa A s) (hS : va_S A s.heap H locs) (hU : U.heap = H) (hW : s.WarmedH U.vm) (hA : ∀ q, A' q → A q) : EF X D tc xa A' U := by
  obtain ⟨h1, h2, h3, h4, h5, h6, h7, h8⟩ := h
  refine ⟨va_K.moved hW.alike h1, fun w hw => nest_warm (NWL_nest w hw) hW (h2 w hw), ?_, fun j xs hj => ?_, ?_, fun i ix tx hi ht => vk_R.warm hW (h6 i ix tx hi ht), ?_, ?_⟩
  · rw [hU]
    exact ((h3.kept (fun a g1 g2 => hS.2.1 a g1 g2)).moved hW.alike).narrow hA
  · obtain ⟨g1, g2, g3⟩ := h4 j xs hj
    rw [hU]
    exact ⟨(g1.kept (hS.2.1 _ g2 g3)).moved hW.alike, Nat.lt_of_lt_of_le g2 hS.1, fun z => g3 (hA _ z)⟩
  · rw [hU]
    exact ((h5.kept (fun a g1 g2 => hS.2.1 a g1 g2)).moved hW.alike).narrow hA
  · rw [hU]
    exact ((h7.kept (fun a g1 g2 => hS.2.1 a g1 g2)).moved hW.alike).narrow hA
  · rw [hU]
    exact h8.imp (fun z => ((z.kept (fun a g1 g2 => hS.2.1 a g1 g2)).moved hW.alike).narrow hA) (fun z => ((z.kept (fun a g1 g2 => hS.2.1 a g1 g2)).moved hW.alike).narrow hA)
theorem EF_same {X : List (List Int32)} {D : va_G} {tc xa : Nat → Nat} {A : Nat → Prop} {u U : State} (h : EF X D tc xa A u) (hh : U.heap = u.heap) (hv : U.vm = u.vm) : EF X D tc xa A U := by
  obtain ⟨h1, h2, h3, h4, h5, h6, h7, h8⟩ := h
  have ha : u.vm.Alike U.vm := by rw [hv]; exact Vm.Alike.refl u.vm
  refine ⟨va_K.moved ha h1, fun w hw => nest_same (NWL_nest w hw) hv.symm (h2 w hw), ?_, fun j xs hj => ?_, by rw [hh]; exact h5.moved ha, fun i ix tx hi ht => vk_R.same hv (h6 i ix tx hi ht), by rw [hh]; exact h7.moved ha, by rw [hh]; exact h8.imp (fun z => z.moved ha) (fun z => z.moved ha)⟩
  · rw [hh]; exact h3.moved ha
  · obtain ⟨g1, g2, g3⟩ := h4 j xs hj
    rw [hh]
    exact ⟨g1.moved ha, g2, g3⟩
theorem CPre_blind {as : List Value} {X : List (List Int32)} {D : va_G} {tc ad : Nat → Nat} {sz : Nat} {hp : AH} : FrameBlind (va_Pc as (CPre X D tc ad sz hp)) := by
  intro a U g mk ⟨h1, h2, h3, h4, h5⟩
  exact ⟨h1, h2, h3, h4, EF_same h5 rfl rfl⟩
theorem va_D_A {A : Nat → Prop} {ws : va_W} {s : State} {H : Heap} {locs : List Loc} (hD : va_D A ws) (hS : va_S A s.heap H locs) (hA : ∀ q, s.heap.size ≤ q → A q) : ∀ q, va_A ws H.size q → A q := by
  intro q h
  rcases h with ⟨k, e, h⟩ | h
  · exact hD.2 k (q, e) h
  · exact hA q (Nat.le_trans hS.1 h)
/-- what holds of a method's activation -/
def AF (X : List (List Int32)) (g : Sig) (p : Program) (s : State) (m : MethodId) (args : Array Value) (meth : Method) (c : Code) (D : va_G) (tc xa : Nat → Nat) (A : Nat → Prop) : Prop :=
  p.tables.exec = Jvm.exec ∧ c.code = sB g ∧ c.maxLocals = sL g ∧ s.vm.findClass (sY g).cls = some m.cls ∧ (∀ w ∈ TBL, w.before args s = true) ∧ ((sY g).name = "<init>" → meth.name = "<init>") ∧ EF X D tc xa A s ∧ ∀ q, s.heap.size ≤ q → A q
def WR (D : va_G) (tc ad : Nat → Nat) (A : Nat → Prop) (s : State) (hp : AH) (H : Heap) (locs : List Loc) : Prop := va_P D vwCl (cW ad tc hp) H ∧ va_D A (cW ad tc hp) ∧ va_S A s.heap H locs
def rtD (g : Sig) (pc : Nat) (v : Option Value) : Prop := match v with
  | none => decode (sB g) pc = .ok (.return_, 1) ∧ sR g = none
  | some (.int x) => decode (sB g) pc = .ok (.ireturn, 1) ∧ ∃ t, sR g = some t ∧ narrow t (.int x) = .int x
  | some (.long _) => decode (sB g) pc = .ok (.lreturn, 1) ∧ sR g = some .long
  | _ => False
/-- a return comes to the end that is sought -/
def RZ (l : Launch) (R : Room) (g : Sig) (Q : AH → Option Value → Prop) (p : Program) (e : Env) (s : State) (m : MethodId) (args : Array Value) (below : List Frame) (meth : Method) (c : Code) (D : va_G) (tc ad0 : Nat → Nat) (n0 : Nat) (A : Nat → Prop) (Z : State → Prop) : Prop :=
  ∀ (v : Option Value) (hp : AH) (ad : Nat → Nat) (H : Heap) (locs : List Loc) (k n pc : Nat) (ls : Array Slot), Q hp v → WR D tc ad A s hp H locs → adK n0 R.cells ad0 ad → n0 ≤ hp.length → k ≤ R.cells → n ≤ R.slots → rtD g pc v → W p l e R s m args below meth c H locs k n Z (F0 m pc ls (v.toList.map (cV ad)))
/-- from here the machine comes to an end that is sought -/
def WP (l : Launch) (R : Room) (X : List (List Int32)) (g : Sig) (code : List Row) (Q : AH → Option Value → Prop) : PP := fun i al st hp k n =>
  ∀ (p : Program) (e : Env) (s : State) (m : MethodId) (args : Array Value) (below : List Frame) (meth : Method) (c : Code) (D : va_G) (tc ad ad0 : Nat → Nat) (n0 : Nat) (A : Nat → Prop) (Z : State → Prop) (H : Heap) (locs : List Loc) (ls : Array Slot),
    AF X g p s m args meth c D tc (fun j => ad0 (1000 + j)) A → RZ l R g Q p e s m args below meth c D tc ad0 n0 A Z → WR D tc ad A s hp H locs → adK n0 R.cells ad0 ad → n0 ≤ hp.length → k ≤ R.cells → n ≤ R.slots → LR ad (sL g) al ls →
      W p l e R s m args below meth c H locs k n Z (F0 m (pcO code i) ls (st.map (cV ad)))
end
section
theorem bd {a b : Prop} [Decidable a] [Decidable b] (h : (decide a && decide b) = true) : a ∧ b := by simpa using h
theorem bt {a : Prop} [Decidable a] {b : Bool} (h : (decide a && b) = true) : a ∧ b = true := by simpa using h
theorem iU_spec {f : Int32 → Int32} {st : List Value} {K : PK} (h : iU f st K) : ∃ x r, st = .int x :: r ∧ K (.int (f x) :: r) := by
  unfold iU at h; split at h
  · exact ⟨_, _, rfl, h⟩
  · exact h.elim
theorem iB_spec {f : Int32 → Int32 → Int32} {st : List Value} {K : PK} (h : iB f st K) : ∃ y x r, st = .int y :: .int x :: r ∧ K (.int (f x y) :: r) := by
  unfold iB at h; split at h
  · exact ⟨_, _, _, rfl, h⟩
  · exact h.elim
theorem iD_spec {f : Int32 → Int32 → Int32} {st : List Value} {K : PK} (h : iD f st K) : ∃ y x r, st = .int y :: .int x :: r ∧ ¬ y = 0 ∧ K (.int (f x y) :: r) := by
  unfold iD at h; split at h
  · exact ⟨_, _, _, rfl, h⟩
  · exact h.elim
theorem jB_spec {f : Int64 → Int64 → Int64} {st : List Value} {K : PK} (h : jB f st K) : ∃ y x r, st = .long y :: .long x :: r ∧ K (.long (f x y) :: r) := by
  unfold jB at h; split at h
  · exact ⟨_, _, _, rfl, h⟩
  · exact h.elim
theorem jD_spec {f : Int64 → Int64 → Int64} {st : List Value} {K : PK} (h : jD f st K) : ∃ y x r, st = .long y :: .long x :: r ∧ ¬ y = 0 ∧ K (.long (f x y) :: r) := by
  unfold jD at h; split at h
  · exact ⟨_, _, _, rfl, h⟩
  · exact h.elim
theorem jS_spec {f : Int64 → Int32 → Int64} {st : List Value} {K : PK} (h : jS f st K) : ∃ y x r, st = .int y :: .long x :: r ∧ K (.long (f x y) :: r) := by
  unfold jS at h; split at h
  · exact ⟨_, _, _, rfl, h⟩
  · exact h.elim
theorem jC_spec {st : List Value} {K : PK} (h : jC st K) : ∃ y x r, st = .long y :: .long x :: r ∧ K (.int (lg_cmp x y) :: r) := by
  unfold jC at h; split at h
  · exact ⟨_, _, _, rfl, h⟩
  · exact h.elim
theorem ijU_spec {st : List Value} {K : PK} (h : ijU st K) : ∃ x r, st = .int x :: r ∧ K (.long x.toInt64 :: r) := by
  unfold ijU at h; split at h
  · exact ⟨_, _, rfl, h⟩
  · exact h.elim
theorem jiU_spec {st : List Value} {K : PK} (h : jiU st K) : ∃ x r, st = .long x :: r ∧ K (.int x.toInt32 :: r) := by
  unfold jiU at h; split at h
  · exact ⟨_, _, rfl, h⟩
  · exact h.elim
theorem icC_spec {q : Int32 → Int32 → Prop} {st : List Value} {T F : PK} (h : icC q st T F) : ∃ y x r, st = .int y :: .int x :: r ∧ (q x y → T r) ∧ (¬ q x y → F r) := by
  unfold icC at h; split at h
  · exact ⟨_, _, _, rfl, h⟩
  · exact h.elim
theorem izC_spec {q : Int32 → Prop} {st : List Value} {T F : PK} (h : izC q st T F) : ∃ x r, st = .int x :: r ∧ (q x → T r) ∧ (¬ q x → F r) := by
  unfold izC at h; split at h
  · exact ⟨_, _, rfl, h⟩
  · exact h.elim
theorem rfN_spec {st : List Value} {K : PK} (h : rfN st K) : ∃ x r, st = .ref x :: r ∧ K r := by
  unfold rfN at h; split at h
  · exact ⟨_, _, rfl, h⟩
  · exact h.elim
theorem ldI_spec {ls : LO} {j : Nat} {K : Value → Prop} (h : ldI ls j K) : ∃ x, ls[j]? = some (some (.int x)) ∧ K (.int x) := by
  unfold ldI at h; split at h
  · rename_i x e; exact ⟨x, e, h⟩
  · exact h.elim
theorem ldL_spec {ls : LO} {j : Nat} {K : Value → Prop} (h : ldL ls j K) : ∃ x, ls[j]? = some (some (.long x)) ∧ K (.long x) := by
  unfold ldL at h; split at h
  · rename_i x e; exact ⟨x, e, h⟩
  · exact h.elim
theorem ldA_spec {ls : LO} {j : Nat} {K : Value → Prop} (h : ldA ls j K) : ∃ x, ls[j]? = some (some (.ref x)) ∧ K (.ref x) := by
  unfold ldA at h; split at h
  · rename_i x e; exact ⟨x, e, h⟩
  · exact h.elim
theorem stI_spec {ls : LO} {j : Nat} {st : List Value} {K : LO → List Value → Prop} (h : stI ls j st K) : ∃ x r, st = .int x :: r ∧ stO ls j (.int x) (fun l => K l r) := by
  unfold stI at h; split at h
  · exact ⟨_, _, rfl, h⟩
  · exact h.elim
theorem stA_spec {ls : LO} {j : Nat} {st : List Value} {K : LO → List Value → Prop} (h : stA ls j st K) : ∃ x r, st = .ref x :: r ∧ stO ls j (.ref x) (fun l => K l r) := by
  unfold stA at h; split at h
  · exact ⟨_, _, rfl, h⟩
  · exact h.elim
theorem stL_spec {ls : LO} {j : Nat} {st : List Value} {K : LO → List Value → Prop} (h : stL ls j st K) : ∃ x r, st = .long x :: r ∧ stT ls j (.long x) (fun l => K l r) := by
  unfold stL at h; split at h
  · exact ⟨_, _, rfl, h⟩
  · exact h.elim

set_option maxHeartbeats 4000000 in
set_option maxRecDepth 100000 in
theorem stp_plain {l : Launch} {R : Room} {X : List (List Int32)} {g : Sig} {code : List Row} {Q : AH → Option Value → Prop} {P : PP} (hC : Chk g code)
    {i : Nat} {al : LO} {st : List Value} {hp : AH} {k n : Nat} {ins : Instr} {pc nx a b : Nat} {cc : Int} {ts : List Nat} {cs : Sig} (hB : rowB g code (ins, pc, nx, a, b, cc, ts, cs) = true) (hT : ∀ w ∈ needT (sY g).cls (ins, pc, nx, a, b, cc, ts, cs), w ∈ TBL)
    (hrow : code[i]? = some (ins, pc, nx, a, b, cc, ts, cs)) (h : stp l R X g code Q P i al st hp k n)
    {p : Program} {e : Env} {s : State} {m : MethodId} {args : Array Value} {below : List Frame} {meth : Method} {c : Code} {D : va_G} {tc ad : Nat → Nat} {A : Nat → Prop} {Z : State → Prop} {H : Heap} {locs : List Loc} {ls : Array Slot}
    (hx : p.tables.exec = Jvm.exec) (hb : c.code = sB g) (hown : s.vm.findClass (sY g).cls = some m.cls) (hts : ∀ w ∈ TBL, w.before args s = true) (hL : LR ad (sL g) al ls)
    (go : ∀ {i' pc' : Nat} {al' : LO} {st' : List Value} {ls' : Array Slot}, pcO code i' = pc' → P i' al' st' hp k n → LR ad (sL g) al' ls' → W p l e R s m args below meth c H locs k n Z (F0 m pc' ls' (st'.map (cV ad))))
    (other : (match ins with
      | .ldc _ | .baload | .arraylength | .iaload | .iastore | .laload | .lastore | .getfield _ | .putfield _ | .getstatic _ | .new _ | .newarray _ | .invokevirtual _ | .invokestatic _ | .invokespecial _ | .ireturn | .lreturn | .return_ | .tableswitch _ _ _ _ | .lookupswitch _ _ => True
      | _ => False) → W p l e R s m args below meth c H locs k n Z (F0 m pc ls (st.map (cV ad)))) :
    W p l e R s m args below meth c H locs k n Z (F0 m pc ls (st.map (cV ad))) := by
  unfold stp at h
  rw [hrow] at h
  dsimp only at h
  have hLh := hL.has
  cases ins
  case aload_n j =>
    obtain ⟨hd, hnx⟩ := bd hB
    obtain ⟨x, hj, h⟩ := ldA_spec h
    refine lv_aload_n hx hb hd rfl (hL.2.2.2 _ _ hj) ?_
    exact go hnx h hL
  case aload j =>
    obtain ⟨hd, hnx⟩ := bd hB
    obtain ⟨x, hj, h⟩ := ldA_spec h
    refine lv_aload hx hb hd (hL.2.2.2 _ _ hj) ?_
    exact go hnx h hL
  case iload_n j =>
    obtain ⟨hd, hnx⟩ := bd hB
    obtain ⟨x, hj, h⟩ := ldI_spec h
    refine lv_iload_n hx hb hd rfl (hL.2.2.2 _ _ hj) ?_
    exact go hnx h hL
  case iload j =>
    obtain ⟨hd, hnx⟩ := bd hB
    obtain ⟨x, hj, h⟩ := ldI_spec h
    refine lv_iload hx hb hd (hL.2.2.2 _ _ hj) ?_
    exact go hnx h hL
  case lload_n j =>
    obtain ⟨hd, hnx⟩ := bd hB
    obtain ⟨x, hj, h⟩ := ldL_spec h
    refine lv_lload_n hx hb hd rfl (hL.2.2.2 _ _ hj) ?_
    exact go hnx h hL
  case lload j =>
    obtain ⟨hd, hnx⟩ := bd hB
    obtain ⟨x, hj, h⟩ := ldL_spec h
    refine lv_lload hx hb hd (hL.2.2.2 _ _ hj) ?_
    exact go hnx h hL
  case istore_n j =>
    obtain ⟨hd, hnx⟩ := bd hB
    obtain ⟨x, r, rfl, h⟩ := stI_spec h
    obtain ⟨h1, h2, h3⟩ := stO_spec h
    refine lv_istore_n hx hb hd rfl hLh (by rw [← hL.1]; exact h1) rfl (fun ls' hl' => ?_)
    exact go hnx h2 (LR.st1 hL.1 h1 h3 hl')
  case istore j =>
    obtain ⟨hd, hnx⟩ := bd hB
    obtain ⟨x, r, rfl, h⟩ := stI_spec h
    obtain ⟨h1, h2, h3⟩ := stO_spec h
    refine lv_istore hx hb hd hLh (by rw [← hL.1]; exact h1) rfl (fun ls' hl' => ?_)
    exact go hnx h2 (LR.st1 hL.1 h1 h3 hl')
  case astore_n j =>
    obtain ⟨hd, hnx⟩ := bd hB
    obtain ⟨x, r, rfl, h⟩ := stA_spec h
    obtain ⟨h1, h2, h3⟩ := stO_spec h
    refine lv_astore_n hx hb hd rfl hLh (by rw [← hL.1]; exact h1) rfl (fun ls' hl' => ?_)
    exact go hnx h2 (LR.st1 hL.1 h1 h3 hl')
  case astore j =>
    obtain ⟨hd, hnx⟩ := bd hB
    obtain ⟨x, r, rfl, h⟩ := stA_spec h
    obtain ⟨h1, h2, h3⟩ := stO_spec h
    refine lv_astore hx hb hd hLh (by rw [← hL.1]; exact h1) rfl (fun ls' hl' => ?_)
    exact go hnx h2 (LR.st1 hL.1 h1 h3 hl')
  case lstore_n j =>
    obtain ⟨hd, hnx⟩ := bd hB
    obtain ⟨x, r, rfl, h⟩ := stL_spec h
    obtain ⟨h1, h2, h3⟩ := stT_spec h
    refine lv_lstore_n hx hb hd rfl hLh (by rw [← hL.1]; exact h1) rfl (fun ls' hl' => ?_)
    exact go hnx h2 (LR.st2 hL.1 h1 h3 hl')
  case lstore j =>
    obtain ⟨hd, hnx⟩ := bd hB
    obtain ⟨x, r, rfl, h⟩ := stL_spec h
    obtain ⟨h1, h2, h3⟩ := stT_spec h
    refine lv_lstore hx hb hd hLh (by rw [← hL.1]; exact h1) rfl (fun ls' hl' => ?_)
    exact go hnx h2 (LR.st2 hL.1 h1 h3 hl')
  case iinc j z =>
    obtain ⟨hd, hz⟩ := bt hB
    obtain ⟨hz, hnx⟩ := bd hz
    obtain ⟨x, hj, h⟩ := ldI_spec h
    obtain ⟨h1, h2, h3⟩ := stO_spec h
    obtain ⟨q, hq⟩ := List.getElem?_of_mem (asL_mem (ad := ad) hj)
    refine lv_iinc (v := x + Int32.ofInt cc) hx hb hd hLh hq (by rw [hz]) (by rw [← hL.1]; exact h1) rfl (fun ls' hl' => ?_)
    exact go hnx h2 (LR.st1 (v := .int (x + Int32.ofInt cc)) hL.1 h1 h3 hl')
  case iconst z =>
    obtain ⟨hd, hz⟩ := bt hB
    obtain ⟨hz, hnx⟩ := bd hz
    refine lv_iconst hx hb hd hz ?_
    exact go hnx h hL
  case bipush z =>
    obtain ⟨hd, hz⟩ := bt hB
    obtain ⟨hz, hnx⟩ := bd hz
    refine lv_bipush hx hb hd hz ?_
    exact go hnx h hL
  case sipush z =>
    obtain ⟨hd, hz⟩ := bt hB
    obtain ⟨hz, hnx⟩ := bd hz
    refine lv_sipush hx hb hd hz ?_
    exact go hnx h hL
  case lconst z =>
    obtain ⟨hd, hz⟩ := bt hB
    obtain ⟨hz, hnx⟩ := bd hz
    refine lv_lconst hx hb hd hz ?_
    exact go hnx h hL
  case ldc_w ix =>
    obtain ⟨hd, hnx⟩ := bd hB
    refine lv_ldcw hx hb hown (hts _ (hT _ List.mem_cons_self)) hd ?_
    exact go hnx h hL
  case ldc2_w ix =>
    obtain ⟨hd, hnx⟩ := bd hB
    refine lv_ldc2 hx hb hown (hts _ (hT _ List.mem_cons_self)) hd ?_
    exact go hnx h hL
  case iadd =>
    obtain ⟨hd, hnx⟩ := bd hB
    obtain ⟨y, x, r, rfl, h⟩ := iB_spec h
    refine lv_iadd hx hb hd ?_
    exact go hnx h hL
  case isub =>
    obtain ⟨hd, hnx⟩ := bd hB
    obtain ⟨y, x, r, rfl, h⟩ := iB_spec h
    refine lv_isub hx hb hd ?_
    exact go hnx h hL
  case imul =>
    obtain ⟨hd, hnx⟩ := bd hB
    obtain ⟨y, x, r, rfl, h⟩ := iB_spec h
    refine lv_imul hx hb hd ?_
    exact go hnx h hL
  case iand =>
    obtain ⟨hd, hnx⟩ := bd hB
    obtain ⟨y, x, r, rfl, h⟩ := iB_spec h
    refine lv_iand hx hb hd ?_
    exact go hnx h hL
  case ior =>
    obtain ⟨hd, hnx⟩ := bd hB
    obtain ⟨y, x, r, rfl, h⟩ := iB_spec h
    refine lv_ior hx hb hd ?_
    exact go hnx h hL
  case ixor =>
    obtain ⟨hd, hnx⟩ := bd hB
    obtain ⟨y, x, r, rfl, h⟩ := iB_spec h
    refine lv_ixor hx hb hd ?_
    exact go hnx h hL
  case ishl =>
    obtain ⟨hd, hnx⟩ := bd hB
    obtain ⟨y, x, r, rfl, h⟩ := iB_spec h
    refine lv_ishl hx hb hd ?_
    exact go hnx h hL
  case ishr =>
    obtain ⟨hd, hnx⟩ := bd hB
    obtain ⟨y, x, r, rfl, h⟩ := iB_spec h
    refine lv_ishr hx hb hd ?_
    exact go hnx h hL
  case iushr =>
    obtain ⟨hd, hnx⟩ := bd hB
    obtain ⟨y, x, r, rfl, h⟩ := iB_spec h
    refine lv_iushr hx hb hd rfl ?_
    exact go hnx h hL
  case idiv =>
    obtain ⟨hd, hnx⟩ := bd hB
    obtain ⟨y, x, r, rfl, hne, h⟩ := iD_spec h
    refine lv_idiv hx hb hd hne ?_
    exact go hnx h hL
  case irem =>
    obtain ⟨hd, hnx⟩ := bd hB
    obtain ⟨y, x, r, rfl, hne, h⟩ := iD_spec h
    refine lv_irem hx hb hd hne ?_
    exact go hnx h hL
  case ineg =>
    obtain ⟨hd, hnx⟩ := bd hB
    obtain ⟨x, r, rfl, h⟩ := iU_spec h
    refine lv_ineg hx hb hd ?_
    exact go hnx h hL
  case i2c =>
    obtain ⟨hd, hnx⟩ := bd hB
    obtain ⟨x, r, rfl, h⟩ := iU_spec h
    refine lv_i2c hx hb hd rfl ?_
    exact go hnx h hL
  case i2b =>
    obtain ⟨hd, hnx⟩ := bd hB
    obtain ⟨x, r, rfl, h⟩ := iU_spec h
    refine lv_i2b hx hb hd rfl ?_
    exact go hnx h hL
  case i2s =>
    obtain ⟨hd, hnx⟩ := bd hB
    obtain ⟨x, r, rfl, h⟩ := iU_spec h
    refine lv_i2s hx hb hd rfl ?_
    exact go hnx h hL
  case i2l =>
    obtain ⟨hd, hnx⟩ := bd hB
    obtain ⟨x, r, rfl, h⟩ := ijU_spec h
    refine lv_i2l hx hb hd rfl ?_
    exact go hnx h hL
  case l2i =>
    obtain ⟨hd, hnx⟩ := bd hB
    obtain ⟨x, r, rfl, h⟩ := jiU_spec h
    refine lv_l2i hx hb hd rfl ?_
    exact go hnx h hL
  case ladd =>
    obtain ⟨hd, hnx⟩ := bd hB
    obtain ⟨y, x, r, rfl, h⟩ := jB_spec h
    refine lv_ladd hx hb hd ?_
    exact go hnx h hL
  case lmul =>
    obtain ⟨hd, hnx⟩ := bd hB
    obtain ⟨y, x, r, rfl, h⟩ := jB_spec h
    refine lv_lmul hx hb hd ?_
    exact go hnx h hL
  case land =>
    obtain ⟨hd, hnx⟩ := bd hB
    obtain ⟨y, x, r, rfl, h⟩ := jB_spec h
    refine lv_land hx hb hd ?_
    exact go hnx h hL
  case lor =>
    obtain ⟨hd, hnx⟩ := bd hB
    obtain ⟨y, x, r, rfl, h⟩ := jB_spec h
    refine lv_lor hx hb hd ?_
    exact go hnx h hL
  case lxor =>
    obtain ⟨hd, hnx⟩ := bd hB
    obtain ⟨y, x, r, rfl, h⟩ := jB_spec h
    refine lv_lxor hx hb hd ?_
    exact go hnx h hL
  case ldiv =>
    obtain ⟨hd, hnx⟩ := bd hB
    obtain ⟨y, x, r, rfl, hne, h⟩ := jD_spec h
    refine lv_ldiv hx hb hd hne ?_
    exact go hnx h hL
  case lrem =>
    obtain ⟨hd, hnx⟩ := bd hB
    obtain ⟨y, x, r, rfl, hne, h⟩ := jD_spec h
    refine lv_lrem hx hb hd hne ?_
    exact go hnx h hL
  case lshl =>
    obtain ⟨hd, hnx⟩ := bd hB
    obtain ⟨y, x, r, rfl, h⟩ := jS_spec h
    refine lv_lshl hx hb hd rfl ?_
    exact go hnx h hL
  case lshr =>
    obtain ⟨hd, hnx⟩ := bd hB
    obtain ⟨y, x, r, rfl, h⟩ := jS_spec h
    refine lv_lshr hx hb hd rfl ?_
    exact go hnx h hL
  case lcmp =>
    obtain ⟨hd, hnx⟩ := bd hB
    obtain ⟨y, x, r, rfl, h⟩ := jC_spec h
    refine W.lcmp hx hb hd ?_
    exact go hnx h hL
  case dup =>
    obtain ⟨hd, hnx⟩ := bd hB
    cases st with
    | nil => exact h.elim
    | cons v r =>
      refine lv_dup hx hb hd (by rw [cV_cat]; exact h.1) ?_
      exact go hnx h.2 hL
  case pop =>
    obtain ⟨hd, hnx⟩ := bd hB
    cases st with
    | nil => exact h.elim
    | cons v r =>
      refine lv_pop hx hb hd (by rw [cV_cat]; exact h.1) ?_
      exact go hnx h.2 hL
  case pop2 =>
    obtain ⟨hd, hnx⟩ := bd hB
    cases st with
    | nil => exact h.elim
    | cons v r =>
      refine lv_pop2_2 hx hb hd (by rw [cV_cat]; exact h.1) ?_
      exact go hnx h.2 hL
  case goto o =>
    obtain ⟨hd, ht⟩ := bd hB
    refine lv_goto hx hb hd ht ?_
    exact go rfl h hL
  case ifnull o =>
    obtain ⟨hd, ht⟩ := bt hB
    obtain ⟨ht, hnx⟩ := bd ht
    obtain ⟨x, r, rfl, h⟩ := rfN_spec h
    refine lv_ifnull hx hb hd ?_
    exact go hnx h hL
  case ifnonnull o =>
    obtain ⟨hd, ht⟩ := bt hB
    obtain ⟨ht, hnx⟩ := bd ht
    obtain ⟨x, r, rfl, h⟩ := rfN_spec h
    refine lv_ifnonnull hx hb hd ht ?_
    exact go rfl h hL
  case ifCond q o =>
    obtain ⟨hd, ht0⟩ := bt hB
    obtain ⟨ht, hnx⟩ := bd ht0
    cases q
    case eq =>
      obtain ⟨x, r, rfl, h1, h2⟩ := izC_spec h
      exact lv_if_eq hx hb hd ht (fun z => go rfl (h1 z) hL) (fun z => go hnx (h2 z) hL)
    case ne =>
      obtain ⟨x, r, rfl, h1, h2⟩ := izC_spec h
      exact lv_if_ne hx hb hd ht (fun z => go rfl (h2 z) hL) (fun z => go hnx (h1 z) hL)
    case lt =>
      obtain ⟨x, r, rfl, h1, h2⟩ := izC_spec h
      exact lv_if_lt hx hb hd ht (fun z => go rfl (h1 z) hL) (fun z => go hnx (h2 z) hL)
    case ge =>
      obtain ⟨x, r, rfl, h1, h2⟩ := izC_spec h
      exact lv_if_ge hx hb hd ht (fun z => go rfl (h1 z) hL) (fun z => go hnx (h2 z) hL)
    case gt =>
      obtain ⟨x, r, rfl, h1, h2⟩ := izC_spec h
      exact lv_if_gt hx hb hd ht (fun z => go rfl (h1 z) hL) (fun z => go hnx (h2 z) hL)
    case le =>
      obtain ⟨x, r, rfl, h1, h2⟩ := izC_spec h
      exact lv_if_le hx hb hd ht (fun z => go rfl (h1 z) hL) (fun z => go hnx (h2 z) hL)
  case if_icmp q o =>
    obtain ⟨hd, ht0⟩ := bt hB
    obtain ⟨ht, hnx⟩ := bd ht0
    cases q
    case eq =>
      obtain ⟨y, x, r, rfl, h1, h2⟩ := icC_spec h
      exact lv_icmp_eq hx hb hd ht (fun z => go rfl (h1 z) hL) (fun z => go hnx (h2 z) hL)
    case ne =>
      obtain ⟨y, x, r, rfl, h1, h2⟩ := icC_spec h
      exact lv_icmp_ne hx hb hd ht (fun z => go rfl (h2 z) hL) (fun z => go hnx (h1 z) hL)
    case lt =>
      obtain ⟨y, x, r, rfl, h1, h2⟩ := icC_spec h
      exact lv_icmp_lt hx hb hd ht (fun z => go rfl (h1 z) hL) (fun z => go hnx (h2 z) hL)
    case ge =>
      obtain ⟨y, x, r, rfl, h1, h2⟩ := icC_spec h
      exact lv_icmp_ge hx hb hd ht (fun z => go rfl (h1 z) hL) (fun z => go hnx (h2 z) hL)
    case gt =>
      obtain ⟨y, x, r, rfl, h1, h2⟩ := icC_spec h
      exact lv_icmp_gt hx hb hd ht (fun z => go rfl (h1 z) hL) (fun z => go hnx (h2 z) hL)
    case le =>
      obtain ⟨y, x, r, rfl, h1, h2⟩ := icC_spec h
      exact lv_icmp_le hx hb hd ht (fun z => go rfl (h1 z) hL) (fun z => go hnx (h2 z) hL)
  all_goals first | exact h.elim | exact other trivial
end
section
theorem iw_X0 : ∀ w ∈ wsX00, w ∈ TBL := fun w h => List.mem_filter.mpr ⟨(by decide +kernel : ∀ w ∈ wsX00, w ∈ lw_tbl) w h, (by decide +kernel : ∀ w ∈ wsX00, goodWord w = true) w h⟩
theorem iw_X1 : ∀ w ∈ wsX10, w ∈ TBL := fun w h => List.mem_filter.mpr ⟨(by decide +kernel : ∀ w ∈ wsX10, w ∈ lw_tbl) w h, (by decide +kernel : ∀ w ∈ wsX10, goodWord w = true) w h⟩
theorem iw_X2 : ∀ w ∈ wsX20, w ∈ TBL := fun w h => List.mem_filter.mpr ⟨(by decide +kernel : ∀ w ∈ wsX20, w ∈ lw_tbl) w h, (by decide +kernel : ∀ w ∈ wsX20, goodWord w = true) w h⟩
theorem iw_X3 : ∀ w ∈ wsX30, w ∈ TBL := fun w h => List.mem_filter.mpr ⟨(by decide +kernel : ∀ w ∈ wsX30, w ∈ lw_tbl) w h, (by decide +kernel : ∀ w ∈ wsX30, goodWord w = true) w h⟩
theorem iw_X4 : ∀ w ∈ wsX40, w ∈ TBL := fun w h => List.mem_filter.mpr ⟨(by decide +kernel : ∀ w ∈ wsX40, w ∈ lw_tbl) w h, (by decide +kernel : ∀ w ∈ wsX40, goodWord w = true) w h⟩
theorem iw_X5 : ∀ w ∈ wsX50, w ∈ TBL := fun w h => List.mem_filter.mpr ⟨(by decide +kernel : ∀ w ∈ wsX50, w ∈ lw_tbl) w h, (by decide +kernel : ∀ w ∈ wsX50, goodWord w = true) w h⟩
theorem iw_X6 : ∀ w ∈ wsX60, w ∈ TBL := fun w h => List.mem_filter.mpr ⟨(by decide +kernel : ∀ w ∈ wsX60, w ∈ lw_tbl) w h, (by decide +kernel : ∀ w ∈ wsX60, goodWord w = true) w h⟩
theorem iw_X7 : ∀ w ∈ wsX70, w ∈ TBL := fun w h => List.mem_filter.mpr ⟨(by decide +kernel : ∀ w ∈ wsX70, w ∈ lw_tbl) w h, (by decide +kernel : ∀ w ∈ wsX70, goodWord w = true) w h⟩
theorem iw_X8 : ∀ w ∈ wsX80, w ∈ TBL := fun w h => List.mem_filter.mpr ⟨(by decide +kernel : ∀ w ∈ wsX80, w ∈ lw_tbl) w h, (by decide +kernel : ∀ w ∈ wsX80, goodWord w = true) w h⟩
theorem cd_all : ∀ a, a < 9 → ∀ b, b < clS a → (clF a b).1 = clN a := by decide +kernel
/-- what holds of a class and its place -/
def clAll (a : Nat) : Prop := (∀ w ∈ u_ws (clN a) (clF a) (clS a), w ∈ TBL) ∧ (∀ k, k < clS a → parseFieldDescriptor (clF a k).2.2.1 = some ((clTy.getD a tyX0) k)) ∧ (∀ x, x < clS a → ∀ y, y < clS a → x ≠ y → (clF a x).2.1 ≠ (clF a y).2.1) ∧ ∀ b, b < clS a → (clF a b).1 = clN a
theorem cl_all {a b : Nat} (h : clOk a b = true) : vwCl[a]? = some (clN a, clF a, clS a) ∧ b < clS a ∧ clAll a := by
  have ha : a < 9 := by
    unfold clOk at h
    cases hq : vwCl[a]? with
    | none => rw [hq] at h; cases h
    | some q => exact (List.getElem?_eq_some_iff.mp hq).1
  have hd := cd_all a ha
  match a, ha with
  | 0, _ => exact ⟨rfl, Nat.blt_eq.mp h, iw_X0, tyX0_ok, nmX0, hd⟩
  | 1, _ => exact ⟨rfl, Nat.blt_eq.mp h, iw_X1, tyX1_ok, nmX1, hd⟩
  | 2, _ => exact ⟨rfl, Nat.blt_eq.mp h, iw_X2, tyX2_ok, nmX2, hd⟩
  | 3, _ => exact ⟨rfl, Nat.blt_eq.mp h, iw_X3, tyX3_ok, nmX3, hd⟩
  | 4, _ => exact ⟨rfl, Nat.blt_eq.mp h, iw_X4, tyX4_ok, nmX4, hd⟩
  | 5, _ => exact ⟨rfl, Nat.blt_eq.mp h, iw_X5, tyX5_ok, nmX5, hd⟩
  | 6, _ => exact ⟨rfl, Nat.blt_eq.mp h, iw_X6, tyX6_ok, nmX6, hd⟩
  | 7, _ => exact ⟨rfl, Nat.blt_eq.mp h, iw_X7, tyX7_ok, nmX7, hd⟩
  | 8, _ => exact ⟨rfl, Nat.blt_eq.mp h, iw_X8, tyX8_ok, nmX8, hd⟩
theorem cE_seI {ad tc : Nat → Nat} {xs : List Int32} {j : Nat} {x : Int32} (h : j < xs.length) : (Sum.inl (tc 0, xs.length, Sum.inl (upd (fun q => xs.getD q 0) j x)) : va_E) = cE ad tc (AI (xs.set j x)) := by
  have e : upd (fun q => xs.getD q 0) j x = fun q => (xs.set j x).getD q 0 := by
    funext q
    unfold upd
    by_cases hq : q = j
    · subst hq
      simp [h]
    · rw [if_neg hq]
      simp [List.getD_eq_getElem?_getD, List.getElem?_set_ne (fun z => hq z.symm)]
  rw [e]
  simp [cE]
theorem putOk_spec {ty : FieldType} {v : Value} (ad : Nat → Nat) (h : putOk ty v) : narrow ty (cV ad v) = cV ad v ∧ fits ty (cV ad v) = true := by
  unfold putOk at h
  split at h
  · exact ⟨rfl, rfl⟩
  · rcases h with rfl | rfl <;> exact ⟨rfl, rfl⟩
  · exact ⟨rfl, rfl⟩
  · exact ⟨rfl, rfl⟩
  · exact h.elim
theorem cV_dfl (ad : Nat → Nat) (a N : Nat) : (dfl a N).map (cV ad) = dfl a N := by
  unfold dfl
  rw [List.map_map]
  apply List.map_congr_left
  intro j _
  show cV ad (defaultValue _) = defaultValue _
  cases (clTy.getD a tyX0) j <;> rfl
theorem cW_push {ad tc : Nat → Nat} {hp : AH} {q : Nat} {x : AC} {z : va_E} (h : rOkH hp.length hp = true) (hz : cE (fun k => if k = hp.length then q else ad k) tc x = z) (hn : hp.length < 1000) : cW (fun k => if k = hp.length then q else ad k) tc (hp ++ [x]) = cW ad tc hp ++ [(q, z)] := by
  have e := rOkH_cW (ad := ad) (ad' := fun k => if k = hp.length then q else ad k) (tc := tc) (n := hp.length) (fun k hk => if_neg (by rcases hk with hk | hk <;> omega)) rfl h
  have : cW (fun k => if k = hp.length then q else ad k) tc (hp ++ [x]) = cW (fun k => if k = hp.length then q else ad k) tc hp ++ [((fun k => if k = hp.length then q else ad k) hp.length, cE (fun k => if k = hp.length then q else ad k) tc x)] := by
    unfold cW
    rw [List.mapIdx_append]
    simp
  rw [this, e, hz]
  simp
theorem cE_seL {ad tc : Nat → Nat} {xs : List Int64} {j : Nat} {x : Int64} (h : j < xs.length) : (Sum.inl (tc 1, xs.length, Sum.inr (Sum.inl (vp_updL (fun q => xs.getD q 0) j x))) : va_E) = cE ad tc (AL (xs.set j x)) := by
  have e : vp_updL (fun q => xs.getD q 0) j x = fun q => (xs.set j x).getD q 0 := by
    funext q
    unfold vp_updL
    by_cases hq : q = j
    · subst hq
      simp [h]
    · rw [if_neg hq]
      simp [List.getD_eq_getElem?_getD, List.getElem?_set_ne (fun z => hq z.symm)]
  rw [e]
  simp [cE]
theorem rep_cellI (cA : ClassId) (N : Nat) : vp_cell cA ((List.replicate N (0 : Int32)).length, Sum.inl (fun j => (List.replicate N (0 : Int32)).getD j 0)) = arrV cA N (fun _ => defaultValue .int) := by
  have e : (fun j => (List.replicate N (0 : Int32)).getD j 0) = fun _ => 0 := by
    funext j
    by_cases h : j < N <;> simp [List.getD_eq_getElem?_getD, List.getElem?_replicate, h]
  rw [e]
  simp [vp_cell, defaultValue]
theorem rep_cellL (cA : ClassId) (N : Nat) : vp_cell cA ((List.replicate N (0 : Int64)).length, Sum.inr (Sum.inl (fun j => (List.replicate N (0 : Int64)).getD j 0))) = arrV cA N (fun _ => defaultValue .long) := by
  have e : (fun j => (List.replicate N (0 : Int64)).getD j 0) = fun _ => 0 := by
    funext j
    by_cases h : j < N <;> simp [List.getD_eq_getElem?_getD, List.getElem?_replicate, h]
  rw [e]
  simp [vp_cell, defaultValue]
theorem swT_spec {x : Int32} {K : Nat → Prop} : ∀ {ts : List Nat} {lo : Int} {j t : Nat}, swT x lo ts K → ts[j]? = some t → x = Int32.ofInt (lo + (j : Int)) → K t := by
  intro ts
  induction ts with
  | nil => intro lo j t h hj; simp at hj
  | cons a r ih =>
    intro lo j t h hj hx
    cases j with
    | zero =>
      simp at hj
      subst hj
      exact h.1 (by rw [hx]; simp)
    | succ j => exact ih h.2 (by simpa using hj) (by rw [hx]; congr 1; omega)
theorem swL_spec {x : Int32} {K : Nat → Prop} {pc : Nat} {code : List Row} {d : Int} {a : Nat} (hd : (pc : Int) + d = (pcO code a : Int)) : ∀ {ps : List (Int × Int)} {ts : List Nat}, ps.map (fun o => (pc : Int) + o.2) = ts.map (fun t => (pcO code t : Int)) → (∀ o ∈ ps, (Int32.ofInt o.1).toInt = o.1) → swL x ps ts K → ((∀ o ∈ ps, ¬ x = Int32.ofInt o.1) → K a) → ∃ (off : Int) (t : Nat), Op.lookupswitch.offset ps d x.toInt = off ∧ (pc : Int) + off = (pcO code t : Int) ∧ K t := by
  intro ps
  induction ps with
  | nil => intro ts h1 h2 h3 h4; exact ⟨d, a, rfl, hd, h4 (fun _ z => by cases z)⟩
  | cons o r ih =>
    intro ts h1 h2 h3 h4
    cases ts with
    | nil => simp at h1
    | cons t ts =>
      simp only [List.map_cons, List.cons.injEq] at h1
      obtain ⟨a0, o0⟩ := o
      rw [Op.lookupswitch.offset_cons]
      by_cases hx : a0 = x.toInt
      · exact ⟨o0, t, if_pos hx, h1.1, h3.1 (by rw [hx]; simp)⟩
      · rw [if_neg hx]
        refine ih h1.2 (fun o ho => h2 o (List.mem_cons_of_mem _ ho)) h3.2 (fun hn => h4 (fun o ho => ?_))
        rcases List.mem_cons.mp ho with rfl | ho
        · intro z
          apply hx
          rw [z]
          exact (h2 _ List.mem_cons_self).symm
        · exact hn o ho
theorem rowI_spec {X : List (List Int32)} {hp : AH} {q : Nat} {xs : List Int32} (h : rowI X hp q = some xs) : (1000 ≤ q ∧ X[q - 1000]? = some xs) ∨ hp[q]? = some (AI xs) := by
  unfold rowI at h
  split at h
  · rename_i hq
    exact Or.inl ⟨Nat.le_of_ble_eq_true hq, h⟩
  · split at h
    · rename_i ys hy
      cases h
      exact Or.inr hy
    · cases h
end
section
theorem sg_good {g : Sig} (h : Cond.code (sY g) (sB g) (sL g) (sR g) ∈ TBL) : GoodIn TBL (sgW g) := TBL_good (fun w hw => (List.mem_cons.mp hw).elim (fun e => by rw [e]; exact h) id)
theorem adK.trans {n0 n1 M mc : Nat} {ad0 ad ad' : Nat → Nat} (h : adK n0 M ad0 ad) (h' : adK n1 mc ad ad') (hn : n0 ≤ n1) (hm : mc ≤ M) : adK n0 M ad0 ad' :=
  ⟨fun k hk => (h'.1 k (hk.imp (fun q => by omega) id)).trans (h.1 k hk), fun hM => (h'.2 (by omega)).trans (h.2 hM)⟩
section CALLS
variable {p : Program} {l : Launch} {e : Env} {R : Room} {s : State} {m : MethodId} {args : Array Value} {below : List Frame} {meth : Method} {c : Code} {H : Heap} {locs : List Loc} {k n : Nat} {Z : State → Prop}
variable {X : List (List Int32)} {g cs : Sig} {D : va_G} {tc ad ad0 : Nat → Nat} {A : Nat → Prop} {hp : AH} {ls : Array Slot} {pc : Nat} {as r st0 : List Value} {Rq : AH → Option Value → Prop} {d' ix : Nat}
theorem call_end {a0 : Array Value} (hrun : va_Run p l e R s m args below meth c H locs k n (sC cs) (sS cs) (F0 m pc ls st0) (r.map (cV ad)) (CPost (sC cs) D tc ad H.size hp Rq a0) (va_A (cW ad tc hp) H.size))
    (hW : WR D tc ad A s hp H locs) (hA : ∀ q, s.heap.size ≤ q → A q)
    (kk : ∀ (v : Option Value) (hp' : AH) (ad' : Nat → Nat) (H' : Heap) (locs' : List Loc), Rq hp' v → adK hp.length (sC cs) ad ad' → hp.length ≤ hp'.length → WR D tc ad' A s hp' H' locs' → W p l e R s m args below meth c H' locs' (k + sC cs) (n + sS cs) Z (F0 m (pc + 3) ls (v.toList.map (cV ad') ++ r.map (cV ad)))) :
    W p l e R s m args below meth c H locs k n Z (F0 m pc ls st0) := by
  obtain ⟨hP, hD, hS⟩ := hW
  have hAA := va_D_A hD hS hA
  refine va_callg hrun hS (fun st oc t h => h.2) hAA hAA (fun v st₀ t H1 locs1 h0 h1 hq hS1 => ?_)
  obtain ⟨⟨w, hp', ad', ho, hR, hak, hln, hP', hD'⟩, -⟩ := hq
  cases ho
  have := kk w hp' ad' H1 locs1 hR hak hln ⟨by rw [← h1]; exact hP', hD'.weaken (fun _ _ _ h => hAA _ h), hS1⟩
  cases w <;> exact this
theorem call_pre (hW : WR D tc ad A s hp H locs) (hA : ∀ q, s.heap.size ≤ q → A q) (hEF : EF X D tc (fun j => ad (1000 + j)) A s) : PreS s H (va_Pc (as.map (cV ad)) (CPre X D tc ad H.size hp)) (as.map (cV ad)) :=
  ⟨CPre_blind, fun U hU hw => ⟨rfl, by rw [hU], by rw [hU]; exact hW.1, hW.2.1.weaken (fun _ _ _ _ => trivial), EF_call hEF hW.2.2 hU hw (va_D_A hW.2.1 hW.2.2 hA)⟩⟩
theorem call_room (hc : catN r ≤ 8) : 2 * (F0 m pc ls st0).monitorRoom + ((r.map (cV ad)).map fun v => v.category).sum ≤ 8 := lv_room (pc := pc) (m := m) (ls := ls) (rest := st0) (by rw [catN_sum]; exact hc)
/-- a static method -/
theorem call_st (hC : Ctr l d' X cs as hp Rq) (S : CallFix p m c (sB g) (sL g) s args TBL (sY g).cls) (hW : WR D tc ad A s hp H locs) (hA : ∀ q, s.heap.size ≤ q → A q) (hEF : EF X D tc (fun j => ad (1000 + j)) A s) (hLs : ls.size = sL g)
    (hd : decode (sB g) pc = .ok (.invokestatic ix, 3)) (hc : catN r ≤ 8) (hn : as.length = sA cs) (hsg : sgOk cs (sA cs) = true) (hT : ∀ w ∈ [Cond.static (sY cs), .initialized (sY cs).cls, .code (sY cs) (sB cs) (sL cs) (sR cs)], w ∈ TBL) {own : String} (hown : own = (sY g).cls) {z : Int}
    (hT0 : z = 0 → Cond.methodLink own ix (sY cs) ∈ TBL) (hN : z = 1 → Cond.methodLinkNest own ix (sY cs) "SaidTwice" ∈ NWL) (hz : z = 0 ∨ z = 1)
    (hR : d' + 1 ≤ R.frames ∧ 8 + (sL cs + 11) + 64 * d' ≤ R.locals ∧ k + sC cs ≤ R.cells ∧ n + sS cs ≤ R.slots)
    (kk : ∀ (v : Option Value) (hp' : AH) (ad' : Nat → Nat) (H' : Heap) (locs' : List Loc), Rq hp' v → adK hp.length (sC cs) ad ad' → hp.length ≤ hp'.length → WR D tc ad' A s hp' H' locs' → W p l e R s m args below meth c H' locs' (k + sC cs) (n + sS cs) Z (F0 m (pc + 3) ls (v.toList.map (cV ad') ++ r.map (cV ad)))) :
    W p l e R s m args below meth c H locs k n Z (F0 m pc ls ((as.reverse ++ r).map (cV ad))) := by
  subst hown
  have hts := S.2.2.2.2
  simp only [sgOk, Bool.and_eq_true, decide_eq_true_eq] at hsg
  have hcode : Cond.code (sY cs) (sB cs) (sL cs) (sR cs) ∈ TBL := hT _ (by simp)
  have hG : GoodIn TBL (sgW cs) := sg_good hcode
  have hini := hts (.initialized (sY cs).cls) (hT _ (by simp))
  have hst := hts (.static (sY cs)) (hT _ (by simp))
  have hstack : (as.reverse ++ r).map (cV ad) = (as.map (cV ad)).reverse ++ r.map (cV ad) := by simp
  have hCS := hC D tc ad H.size
  refine call_end (a0 := (as.map (cV ad)).toArray) ?_ hW hA kk
  rcases hz with rfl | rfl
  · have hlink := hts (.methodLink (sY g).cls ix (sY cs)) (hT0 rfl)
    exact va_runS S hCS ⟨callB_of (sA cs) hts hG rfl rfl rfl hini hlink ⟨hsg.1.1, hsg.1.2, hsg.2⟩ ⟨hR.1, hR.2.1⟩, hst⟩ (call_pre hW hA hEF) rfl (by simp [hn]) hLs hstack (call_room hc) hd ⟨hR.2.2.1, hR.2.2.2⟩
  · have hlink := S
    exact va_runSN S hCS ⟨va_cnB (sA cs) hts hG rfl rfl rfl (hEF.2.1 _ (hN rfl)) hini ⟨hsg.1.1, hsg.1.2, hsg.2⟩ ⟨hR.1, hR.2.1⟩, hst, trivial⟩ (call_pre hW hA hEF) rfl (by simp [hn]) hLs hstack (call_room hc) hd ⟨hR.2.2.1, hR.2.2.2⟩
/-- a method of an object -/
theorem call_vi (hC : Ctr l d' X cs as hp Rq) (S : CallFix p m c (sB g) (sL g) s args TBL (sY g).cls) (hW : WR D tc ad A s hp H locs) (hA : ∀ q, s.heap.size ≤ q → A q) (hEF : EF X D tc (fun j => ad (1000 + j)) A s) (hLs : ls.size = sL g)
    (hd : decode (sB g) pc = .ok (.invokevirtual ix, 3)) (hc : catN r ≤ 8) (hn : as.length = sA cs) {q a : Nat} {as' : List Value} (has : as = .ref q :: as') (hsg : sgOk cs (sA cs - 1) = true) {fs : List Value} (hq : hp[q]? = some (AO a fs)) (hcl : clOk a 0 = true) (hcn : (sY cs).cls = clN a) (hT : ∀ w ∈ [Cond.instanceMethod (sY cs), .selects (clN a) (sY cs) (sY cs), .initialized (sY cs).cls, .code (sY cs) (sB cs) (sL cs) (sR cs)], w ∈ TBL) {own : String} (hown : own = (sY g).cls) {z : Int}
    (hT0 : z = 0 → Cond.methodLink own ix (sY cs) ∈ TBL) (hN : z = 1 → Cond.methodLinkNest own ix (sY cs) "SaidTwice" ∈ NWL) (hz : z = 0 ∨ z = 1)
    (hR : d' + 1 ≤ R.frames ∧ 8 + (sL cs + 11) + 64 * d' ≤ R.locals ∧ k + sC cs ≤ R.cells ∧ n + sS cs ≤ R.slots)
    (kk : ∀ (v : Option Value) (hp' : AH) (ad' : Nat → Nat) (H' : Heap) (locs' : List Loc), Rq hp' v → adK hp.length (sC cs) ad ad' → hp.length ≤ hp'.length → WR D tc ad' A s hp' H' locs' → W p l e R s m args below meth c H' locs' (k + sC cs) (n + sS cs) Z (F0 m (pc + 3) ls (v.toList.map (cV ad') ++ r.map (cV ad)))) :
    W p l e R s m args below meth c H locs k n Z (F0 m pc ls ((as.reverse ++ r).map (cV ad))) := by
  subst hown
  subst has
  have hts := S.2.2.2.2
  simp only [sgOk, Bool.and_eq_true, decide_eq_true_eq] at hsg
  have hcode : Cond.code (sY cs) (sB cs) (sL cs) (sR cs) ∈ TBL := hT _ (by simp)
  have hG : GoodIn TBL (sgW cs) := sg_good hcode
  have hini := hts (.initialized (sY cs).cls) (hT _ (by simp))
  have hin := hts (.instanceMethod (sY cs)) (hT _ (by simp))
  have hse : (Cond.selects (sY cs).cls (sY cs) (sY cs)).before args s = true := by rw [hcn]; exact hts (.selects (clN a) (sY cs) (sY cs)) (hT _ (by simp))
  have hstack : ((Value.ref q :: as').reverse ++ r).map (cV ad) = (as'.map (cV ad)).reverse ++ .ref (ad q) :: r.map (cV ad) := by simp [cV]
  have hCS := hC D tc ad H.size
  obtain ⟨hcl1, -, -⟩ := cl_all hcl
  have hrecv := va_recv hEF.1 hW.1 hcl1 (cW_get (ad := ad) (tc := tc) hq)
  have hpre := call_pre (as := .ref q :: as') hW hA hEF
  have hp' : PreV s H (sY cs).cls (ad q) (va_Pc ((Value.ref q :: as').map (cV ad)) (CPre X D tc ad H.size hp)) (as'.map (cV ad)) := ⟨hpre.1, by rw [hcn]; exact hrecv, hpre.2⟩
  have hn' : as'.length = sA cs - 1 := by simp at hn; omega
  refine call_end (a0 := ((Value.ref q :: as').map (cV ad)).toArray) ?_ hW hA kk
  rcases hz with rfl | rfl
  · have hlink := hts (.methodLink (sY g).cls ix (sY cs)) (hT0 rfl)
    exact va_runV S hCS ⟨callB_of (sA cs - 1) hts hG rfl rfl rfl hini hlink ⟨hsg.1.1, hsg.1.2, hsg.2⟩ ⟨hR.1, hR.2.1⟩, hin, hse⟩ hp' rfl (by simp [hn']) hLs hstack (call_room hc) hd ⟨hR.2.2.1, hR.2.2.2⟩
  · exact va_runVN S hCS ⟨va_cnB (sA cs - 1) hts hG rfl rfl rfl (hEF.2.1 _ (hN rfl)) hini ⟨hsg.1.1, hsg.1.2, hsg.2⟩ ⟨hR.1, hR.2.1⟩, hin, hse⟩ hp' rfl (by simp [hn']) hLs hstack (call_room hc) hd ⟨hR.2.2.1, hR.2.2.2⟩
/-- a method of a String constant -/
theorem call_vs (hC : Ctr l d' X cs as hp Rq) (S : CallFix p m c (sB g) (sL g) s args TBL (sY g).cls) (hW : WR D tc ad A s hp H locs) (hA : ∀ q, s.heap.size ≤ q → A q) (hEF : EF X D tc (fun j => ad (1000 + j)) A s) (hLs : ls.size = sL g)
    (hd : decode (sB g) pc = .ok (.invokevirtual ix, 3)) (hc : catN r ≤ 8) (hn : as.length = sA cs) {q i : Nat} {as' : List Value} (has : as = .ref q :: as') (hsg : sgOk cs (sA cs - 1) = true) (hq : strQ q = some i) (hcn : (sY cs).cls = "java/lang/String") (hT : ∀ w ∈ [Cond.instanceMethod (sY cs), .selects "java/lang/String" (sY cs) (sY cs), .initialized (sY cs).cls, .code (sY cs) (sB cs) (sL cs) (sR cs)], w ∈ TBL) {own : String} (hown : own = (sY g).cls) {z : Int}
    (hT0 : z = 0 → Cond.methodLink own ix (sY cs) ∈ TBL) (hN : z = 1 → Cond.methodLinkNest own ix (sY cs) "SaidTwice" ∈ NWL) (hz : z = 0 ∨ z = 1)
    (hR : d' + 1 ≤ R.frames ∧ 8 + (sL cs + 11) + 64 * d' ≤ R.locals ∧ k + sC cs ≤ R.cells ∧ n + sS cs ≤ R.slots)
    (kk : ∀ (v : Option Value) (hp' : AH) (ad' : Nat → Nat) (H' : Heap) (locs' : List Loc), Rq hp' v → adK hp.length (sC cs) ad ad' → hp.length ≤ hp'.length → WR D tc ad' A s hp' H' locs' → W p l e R s m args below meth c H' locs' (k + sC cs) (n + sS cs) Z (F0 m (pc + 3) ls (v.toList.map (cV ad') ++ r.map (cV ad)))) :
    W p l e R s m args below meth c H locs k n Z (F0 m pc ls ((as.reverse ++ r).map (cV ad))) := by
  subst hown
  subst has
  have hts := S.2.2.2.2
  simp only [sgOk, Bool.and_eq_true, decide_eq_true_eq] at hsg
  have hcode : Cond.code (sY cs) (sB cs) (sL cs) (sR cs) ∈ TBL := hT _ (by simp)
  have hG : GoodIn TBL (sgW cs) := sg_good hcode
  have hini := hts (.initialized (sY cs).cls) (hT _ (by simp))
  have hin := hts (.instanceMethod (sY cs)) (hT _ (by simp))
  have hse : (Cond.selects (sY cs).cls (sY cs) (sY cs)).before args s = true := by rw [hcn]; exact hts (.selects "java/lang/String" (sY cs) (sY cs)) (hT _ (by simp))
  have hstack : ((Value.ref q :: as').reverse ++ r).map (cV ad) = (as'.map (cV ad)).reverse ++ .ref (ad q) :: r.map (cV ad) := by simp [cV]
  have hCS := hC D tc ad H.size
  obtain ⟨eq, hi⟩ := strQ_spec hq
  have hrecv : ∃ cell : Cell, H[ad q]? = some cell ∧ cell.vm.isStatics = false ∧ s.vm.findClass "java/lang/String" = some cell.cls := by
    have z := vk_recv hEF.2.2.2.2.1 hi hW.2.2
    have e1 : 1000 + (100 + i) = q := by omega
    simp only [e1] at z
    exact z
  have hpre := call_pre (as := .ref q :: as') hW hA hEF
  have hp' : PreV s H (sY cs).cls (ad q) (va_Pc ((Value.ref q :: as').map (cV ad)) (CPre X D tc ad H.size hp)) (as'.map (cV ad)) := ⟨hpre.1, by rw [hcn]; exact hrecv, hpre.2⟩
  have hn' : as'.length = sA cs - 1 := by simp at hn; omega
  refine call_end (a0 := ((Value.ref q :: as').map (cV ad)).toArray) ?_ hW hA kk
  rcases hz with rfl | rfl
  · have hlink := hts (.methodLink (sY g).cls ix (sY cs)) (hT0 rfl)
    exact va_runV S hCS ⟨callB_of (sA cs - 1) hts hG rfl rfl rfl hini hlink ⟨hsg.1.1, hsg.1.2, hsg.2⟩ ⟨hR.1, hR.2.1⟩, hin, hse⟩ hp' rfl (by simp [hn']) hLs hstack (call_room hc) hd ⟨hR.2.2.1, hR.2.2.2⟩
  · exact va_runVN S hCS ⟨va_cnB (sA cs - 1) hts hG rfl rfl rfl (hEF.2.1 _ (hN rfl)) hini ⟨hsg.1.1, hsg.1.2, hsg.2⟩ ⟨hR.1, hR.2.1⟩, hin, hse⟩ hp' rfl (by simp [hn']) hLs hstack (call_room hc) hd ⟨hR.2.2.1, hR.2.2.2⟩
/-- a constructor -/
theorem call_sp (hC : Ctr l d' X cs as hp Rq) (S : CallFix p m c (sB g) (sL g) s args TBL (sY g).cls) (hW : WR D tc ad A s hp H locs) (hA : ∀ q, s.heap.size ≤ q → A q) (hEF : EF X D tc (fun j => ad (1000 + j)) A s) (hLs : ls.size = sL g)
    (hd : decode (sB g) pc = .ok (.invokespecial ix, 3)) (hc : catN r ≤ 8) (hn : as.length = sA cs) {q : Nat} {as' : List Value} (has : as = .ref q :: as') (hsg : sgOk cs (sA cs - 1) = true) (hinit : (sY cs).name = "<init>") (hret : sR cs = none) (hT : ∀ w ∈ [Cond.instanceMethod (sY cs), .initialized (sY cs).cls, .code (sY cs) (sB cs) (sL cs) (sR cs)], w ∈ TBL) {own : String} (hown : own = (sY g).cls) {z : Int}
    (hT0 : z = 0 → Cond.methodLink own ix (sY cs) ∈ TBL) (hN : z = 1 → Cond.methodLinkNest own ix (sY cs) "SaidTwice" ∈ NWL) (hz : z = 0 ∨ z = 1)
    (hR : d' + 1 ≤ R.frames ∧ 8 + (sL cs + 11) + 64 * d' ≤ R.locals ∧ k + sC cs ≤ R.cells ∧ n + sS cs ≤ R.slots)
    (kk : ∀ (v : Option Value) (hp' : AH) (ad' : Nat → Nat) (H' : Heap) (locs' : List Loc), Rq hp' v → adK hp.length (sC cs) ad ad' → hp.length ≤ hp'.length → WR D tc ad' A s hp' H' locs' → W p l e R s m args below meth c H' locs' (k + sC cs) (n + sS cs) Z (F0 m (pc + 3) ls (v.toList.map (cV ad') ++ r.map (cV ad)))) :
    W p l e R s m args below meth c H locs k n Z (F0 m pc ls ((as.reverse ++ r).map (cV ad))) := by
  subst hown
  subst has
  have hts := S.2.2.2.2
  simp only [sgOk, Bool.and_eq_true, decide_eq_true_eq] at hsg
  have hcode : Cond.code (sY cs) (sB cs) (sL cs) (sR cs) ∈ TBL := hT _ (by simp)
  have hG : GoodIn TBL (sgW cs) := sg_good hcode
  have hini := hts (.initialized (sY cs).cls) (hT _ (by simp))
  have hin := hts (.instanceMethod (sY cs)) (hT _ (by simp))
  have hstack : ((Value.ref q :: as').reverse ++ r).map (cV ad) = (as'.map (cV ad)).reverse ++ .ref (ad q) :: r.map (cV ad) := by simp [cV]
  have hCS := hC D tc ad H.size
  have hpre := call_pre (as := .ref q :: as') hW hA hEF
  have hn' : as'.length = sA cs - 1 := by simp at hn; omega
  have hwc : sgW cs = Cond.code (sY cs) (sB cs) (sL cs) none :: TBL := by rw [← hret]; rfl
  refine call_end (a0 := ((Value.ref q :: as').map (cV ad)).toArray) ?_ hW hA kk
  rcases hz with rfl | rfl
  · have hlink := hts (.methodLink (sY g).cls ix (sY cs)) (hT0 rfl)
    exact va_runI S hCS ⟨callB_of (sA cs - 1) hts hG hwc rfl rfl hini hlink ⟨hsg.1.1, hsg.1.2, hsg.2⟩ ⟨hR.1, hR.2.1⟩, hinit, hin⟩ hpre rfl (by simp [hn']) hLs hstack (call_room hc) hd ⟨hR.2.2.1, hR.2.2.2⟩
  · exact va_runIN S hCS ⟨va_cnB (sA cs - 1) hts hG hwc rfl rfl (hEF.2.1 _ (hN rfl)) hini ⟨hsg.1.1, hsg.1.2, hsg.2⟩ ⟨hR.1, hR.2.1⟩, hinit, hin⟩ hpre rfl (by simp [hn']) hLs hstack (call_room hc) hd ⟨hR.2.2.1, hR.2.2.2⟩
end CALLS
end
section
theorem sIx_tx {b ix : Nat} (h : sIx[b]? = some ix) : ∃ tx, sTx[b]? = some tx := by
  have hl : b < 7 := (List.getElem?_eq_some_iff.mp h).1
  exact ⟨_, List.getElem?_eq_getElem (show b < sTx.length from hl)⟩
set_option maxHeartbeats 4000000 in
set_option maxRecDepth 100000 in
/-- one instruction: what the abstract machine does, the machine does -/
theorem stp_sound {l : Launch} {R : Room} {X : List (List Int32)} {g : Sig} {code : List Row} {Q : AH → Option Value → Prop} {P : PP} (hC : Chk g code) (hP : ∀ i al st hp k n, P i al st hp k n → WP l R X g code Q i al st hp k n)
    {i : Nat} {al : LO} {st : List Value} {hp : AH} {k n : Nat} (h : stp l R X g code Q P i al st hp k n) : WP l R X g code Q i al st hp k n := by
  intro p e s m args below meth c D tc ad ad0 n0 A Z H locs ls hAF hZ hW hadk hn0 hk hn hL
  cases hrow : code[i]? with
  | none => unfold stp at h; rw [hrow] at h; exact h.elim
  | some row =>
  obtain ⟨ins, pc, nx, a, b, cc, ts, cs⟩ := row
  have hpc : pcO code i = pc := by simp [pcO, hrow]
  rw [hpc]
  have hAF0 := hAF
  obtain ⟨hx, hb, hml, hown, hts, hnm, hEF0, hA⟩ := hAF
  obtain ⟨hPw, hD, hS⟩ := hW
  have hmem := List.mem_of_getElem? hrow
  have hB : rowB g code (ins, pc, nx, a, b, cc, ts, cs) = true := linB_spec (code := code) (pre := []) rfl hC.1 _ hmem
  have hcall := allC_mem hC.2.1 _ hmem
  have hT : ∀ w ∈ needT (sY g).cls (ins, pc, nx, a, b, cc, ts, cs), w ∈ TBL := fun w h => hC.2.2.1 w (List.mem_flatMap.mpr ⟨_, hmem, h⟩)
  have hN : ∀ w ∈ needN (sY g).cls (ins, pc, nx, a, b, cc, ts, cs), w ∈ NWL := fun w h => hC.2.2.2.1 w (List.mem_flatMap.mpr ⟨_, hmem, h⟩)
  have hxa : (fun j => ad (1000 + j)) = (fun j => ad0 (1000 + j)) := by
    funext j
    exact hadk.1 _ (Or.inr (by omega))
  have hEF : EF X D tc (fun j => ad (1000 + j)) A s := by rw [hxa]; exact hEF0
  have hK := hEF.1
  have hstr : ∀ i, i < 7 → va_O "java/lang/String" (ad (1100 + i)) A s s.heap ∧ va_OF "java/lang/String" "coder" "B" (.int 0) (ad (1100 + i)) A s s.heap ∧ va_OF "java/lang/String" "value" "[B" (.ref (ad (1200 + i))) (ad (1100 + i)) A s s.heap ∧ va_T .byte (ad (1200 + i)) (lenS.getD i 0) (fun j => .int ((bytS.getD i []).getD j 0)) A s s.heap := by
    intro i hi
    have z := hEF.2.2.2.2.1.1 i hi
    have e1 : 1000 + (100 + i) = 1100 + i := by omega
    have e2 : 1000 + (200 + i) = 1200 + i := by omega
    simp only [e1, e2] at z
    exact z
  have hstrR : ∀ (i ix : Nat) (tx : String), sIx[i]? = some ix → sTx[i]? = some tx → vk_R "SaidTwice$Tokens" ix tx (ad (1100 + i)) s := by
    intro i ix tx h1 h2
    have z := hEF.2.2.2.2.2.1 i ix tx h1 h2
    have e1 : 1000 + (100 + i) = 1100 + i := by omega
    simp only [e1] at z
    exact z
  have hSf : CallFix p m c (sB g) (sL g) s args TBL (sY g).cls := ⟨hx, hb, hml, hown, hts⟩
  have go : ∀ {i' pc' : Nat} {al' : LO} {st' : List Value} {ls' : Array Slot}, pcO code i' = pc' → P i' al' st' hp k n → LR ad (sL g) al' ls' → W p l e R s m args below meth c H locs k n Z (F0 m pc' ls' (st'.map (cV ad))) := by
    intro i' pc' al' st' ls' hq h1 h2
    subst hq
    exact hP _ _ _ _ _ _ h1 p e s m args below meth c D tc ad ad0 n0 A Z H locs ls' hAF0 hZ ⟨hPw, hD, hS⟩ hadk hn0 hk hn h2
  have goH : ∀ {i' pc' : Nat} {st' : List Value} {hp' : AH} {H' : Heap} {locs' : List Loc}, pcO code i' = pc' → P i' al st' hp' k n → WR D tc ad A s hp' H' locs' → hp'.length = hp.length → W p l e R s m args below meth c H' locs' k n Z (F0 m pc' ls (st'.map (cV ad))) := by
    intro i' pc' st' hp' H' locs' hq h1 h2 h3
    subst hq
    exact hP _ _ _ _ _ _ h1 p e s m args below meth c D tc ad ad0 n0 A Z H' locs' ls hAF0 hZ h2 hadk (by omega) hk hn hL
  have goC : ∀ {as r st' : List Value} {Rq : AH → Option Value → Prop} {pc' : Nat}, (Nat.beq (sC cs) 0 || (rOkS hp.length r && rOkL hp.length al)) = true → k + sC cs ≤ R.cells → n + sS cs ≤ R.slots → pcO code nx = pc' → (∀ hp' v, Rq hp' v → P nx al (v.toList ++ r) hp' (k + sC cs) (n + sS cs)) →
      ∀ (v : Option Value) (hp' : AH) (ad' : Nat → Nat) (H' : Heap) (locs' : List Loc), Rq hp' v → adK hp.length (sC cs) ad ad' → hp.length ≤ hp'.length → WR D tc ad' A s hp' H' locs' → W p l e R s m args below meth c H' locs' (k + sC cs) (n + sS cs) Z (F0 m pc' ls (v.toList.map (cV ad') ++ r.map (cV ad))) := by
    intro as r st' Rq pc' hok hk1 hn1 hq hall v hp' ad' H' locs' hR hak hlen hW'
    subst hq
    have hre : r.map (cV ad') = r.map (cV ad) ∧ LR ad' (sL g) al ls := by
      by_cases h0 : sC cs = 0
      · rw [hak.2 h0]
        exact ⟨rfl, hL⟩
      · simp only [Bool.or_eq_true, Bool.and_eq_true] at hok
        rcases hok with z | ⟨z1, z2⟩
        · exact absurd (Nat.eq_of_beq_eq_true z) h0
        · exact ⟨rOkS_map hak.1 r z1, hL.kept hak.1 z2⟩
    have := hP _ _ _ _ _ _ (hall hp' v hR) p e s m args below meth c D tc ad' ad0 n0 A Z H' locs' ls hAF0 hZ hW' (hadk.trans hak hn0 (by omega)) (by omega) hk1 hn1 hre.2
    rw [List.map_append, hre.1] at this
    exact this
  refine stp_plain (D := D) (tc := tc) (A := A) hC hB hT hrow h hx hb hown hts hL go (fun hoth => ?_)
  unfold stp at h
  rw [hrow] at h
  dsimp only at h
  cases ins
  case ldc ix =>
    try dsimp only at h
    obtain ⟨hd, hq⟩ := bt hB
    simp only [Bool.and_eq_true, decide_eq_true_eq] at hq
    obtain ⟨hm, hnx⟩ := hq
    cases ha : Nat.beq a 50 with
    | true =>
      rw [ha] at h hm
      simp only [Bool.and_eq_true, decide_eq_true_eq] at hm
      obtain ⟨hm1, hm2⟩ := hm
      obtain ⟨tx, htx⟩ := sIx_tx hm1
      have hZs := hstrR b ix tx hm1 htx
      rw [← hm2] at hZs
      exact va_ldcS hx hb hown hZs hd (go hnx h hL)
    | false =>
      rw [ha] at h
      have n50 : ¬ a = 50 := fun z => by subst z; cases ha
      refine lv_ldc hx hb hown (hts (.constant (sY g).cls ix (Int32.ofInt cc)) (hT _ (by simp [needT, n50]))) hd ?_
      exact go hnx h hL
  case baload =>
    try dsimp only at h
    obtain ⟨hd, hnx⟩ := bd hB
    split at h
    · rename_i j q r
      split at h
      · rename_i i0 hq0
        obtain ⟨rfl, hi⟩ := bytQ_spec hq0
        obtain ⟨c1, q1, q2, q3, q4, q5, q6, q7⟩ := (hstr i0 hi).2.2.2.kept hS.2.1
        have hj : j.toNatClampNeg < lenS.getD i0 0 := Nat.not_le.mp fun z => h.1 (Or.inr z)
        exact W.bald (v := .int ((bytS.getD i0 []).getD j.toNatClampNeg 0)) hx hb q1 q2 q3 (fun z => z.elim (fun z => h.1 (Or.inl z)) (fun z => by omega)) (q6 _ hj) rfl rfl hd (go hnx h.2 hL)
      · exact h.elim
    · exact h.elim
  case arraylength =>
    try dsimp only at h
    obtain ⟨hd, hnx⟩ := bd hB
    split at h
    · rename_i q r
      split at h
      · rename_i i0 hq0
        obtain ⟨rfl, hi⟩ := bytQ_spec hq0
        obtain ⟨c1, q1, q2, q3, q4, q5, q6, q7⟩ := (hstr i0 hi).2.2.2.kept hS.2.1
        exact W.alen hx hb q1 q2 q5 rfl rfl hd (go hnx h hL)
      obtain ⟨xs, hxs, h⟩ := h
      rcases rowI_spec hxs with ⟨hq', hxs⟩ | hxs
      · obtain ⟨g1, g2, g3⟩ := hEF.2.2.2.1 _ _ hxs
        have eq1 : 1000 + (q - 1000) = q := Nat.add_sub_of_le hq'
        simp only [eq1] at g1 g2 g3
        obtain ⟨c1, q1, q2, q3, q4, q5, q6⟩ := g1
        exact W.alen hx hb (by rw [hS.2.1 _ g2 g3]; exact q1) q2 q5 rfl rfl hd (go hnx h hL)
      · exact va_alen hx hb hK hPw q 0 (cW_get (ad := ad) (tc := tc) hxs) rfl rfl hd (go hnx h hL)
    · exact h.elim
  case iaload =>
    try dsimp only at h
    obtain ⟨hd, hnx⟩ := bd hB
    split at h
    · rename_i j q r
      obtain ⟨xs, hxs, h⟩ := h
      rcases rowI_spec hxs with ⟨hq', hxs⟩ | hxs
      · obtain ⟨g1, g2, g3⟩ := hEF.2.2.2.1 _ _ hxs
        have eq1 : 1000 + (q - 1000) = q := Nat.add_sub_of_le hq'
        simp only [eq1] at g1 g2 g3
        obtain ⟨c1, q1, q2, q3, q4, q5, q6⟩ := g1
        have hj : j.toNatClampNeg < xs.length := Nat.not_le.mp fun z => h.1 (Or.inr z)
        exact W.iald (v := .int (xs.getD j.toNatClampNeg 0)) hx hb (by rw [hS.2.1 _ g2 g3]; exact q1) q2 q3 (fun z => z.elim (fun z => h.1 (Or.inl z)) (fun z => by omega)) (q6 _ hj) rfl rfl hd (go hnx h.2 hL)
      · exact va_iald hx hb hK hPw q 0 (cW_get (ad := ad) (tc := tc) hxs) rfl h.1 hd (go hnx h.2 hL)
    · exact h.elim
  case laload =>
    try dsimp only at h
    obtain ⟨hd, hnx⟩ := bd hB
    split at h
    · rename_i j q r
      obtain ⟨xs, hxs, h⟩ := h
      exact va_lald hx hb hK hPw q 1 (cW_get (ad := ad) (tc := tc) hxs) rfl h.1 hd (go hnx h.2 hL)
    · exact h.elim
  case iastore =>
    try dsimp only at h
    obtain ⟨hd, hnx⟩ := bd hB
    split at h
    · rename_i x j q r
      obtain ⟨xs, hxs, h1, h3⟩ := h
      have hj : j.toNatClampNeg < xs.length := Nat.not_le.mp fun z => h1 (Or.inr z)
      refine va_iast hx hb hK hPw hD hS q 0 (cW_get (ad := ad) (tc := tc) hxs) rfl h1 hd (fun H1 locs1 g1 g2 g3 => ?_)
      rw [cE_seI hj, cW_set] at g1 g2
      exact goH hnx h3 ⟨g1, g2, g3⟩ (by simp)
    · exact h.elim
  case lastore =>
    try dsimp only at h
    obtain ⟨hd, hnx⟩ := bd hB
    split at h
    · rename_i x j q r
      obtain ⟨xs, hxs, h1, h3⟩ := h
      have hj : j.toNatClampNeg < xs.length := Nat.not_le.mp fun z => h1 (Or.inr z)
      refine va_last hx hb hK hPw hD hS q 1 (cW_get (ad := ad) (tc := tc) hxs) rfl h1 hd (fun H1 locs1 g1 g2 g3 => ?_)
      rw [cE_seL hj, cW_set] at g1 g2
      exact goH hnx h3 ⟨g1, g2, g3⟩ (by simp)
    · exact h.elim
  case getstatic ix =>
    try dsimp only at h
    obtain ⟨hd, hnx⟩ := bd hB
    split at h
    · rename_i ha
      have e : a = 51 := Nat.eq_of_beq_eq_true ha
      subst e
      exact va_gets hx hb hEF.2.2.2.2.2.2.1 hS hown (hts _ (hT _ (by simp [needT]))) (fun _ q => q) hd (go hnx h hL)
    · rename_i ha1 ha
      have e : a = 52 := Nat.eq_of_beq_eq_true ha
      subst e
      rcases hEF.2.2.2.2.2.2.2 with z | z
      · exact va_gets hx hb z hS hown (hts _ (hT _ (by simp [needT]))) (fun _ q => q) hd (go hnx h.1 hL)
      · exact va_gets hx hb z hS hown (hts _ (hT _ (by simp [needT]))) (fun _ q => q) hd (go hnx h.2 hL)
    · rename_i ha1 ha2
      have n51 : ¬ a = 51 := fun z => by subst z; cases ha1
      have n52 : ¬ a = 52 := fun z => by subst z; cases ha2
      exact va_gets hx hb hEF.2.2.1 hS hown (hts _ (hT _ (by simp [needT, n51, n52]))) (fun _ q => q) hd (go hnx h hL)
  case getfield ix =>
    try dsimp only at h
    obtain ⟨hd, hq⟩ := bt hB
    simp only [Bool.and_eq_true, decide_eq_true_eq] at hq
    obtain ⟨hcl, hz, hnx⟩ := hq
    split at h
    · rename_i q r
      cases ha : Nat.beq a 50 with
      | true =>
        rw [ha] at h hcl
        have e50 : a = 50 := Nat.eq_of_beq_eq_true ha
        subst e50
        have hlink := hts (.fieldLink (sY g).cls ix "java/lang/String" (strF b).1 (strF b).2) (hT _ (by simp [needT]))
        have hb1 := Nat.le_of_ble_eq_true hcl
        dsimp only at h
        split at h
        · rename_i i0 hq0
          obtain ⟨rfl, hi⟩ := strQ_spec hq0
          rcases (show b = 0 ∨ b = 1 by omega) with rfl | rfl
          · exact vk_getf hx hb (hstr i0 hi).2.1 hS hown hlink (fun _ z => z) hd (go hnx h hL)
          · exact vk_getf hx hb (hstr i0 hi).2.2.1 hS hown hlink (fun _ z => z) hd (go hnx h hL)
        · exact h.elim
      | false =>
      rw [ha] at h hcl
      dsimp only at h hcl
      have n50 : ¬ a = 50 := fun z => by subst z; cases ha
      obtain ⟨hc1, hc2, hc3⟩ := cl_all hcl
      split at h
      · rename_i ci fs hfs
        split at h
        · rename_i v hci hv
          have hci' : ci = a := Nat.eq_of_beq_eq_true hci
          subst hci'
          have he := cW_get (ad := ad) (tc := tc) hfs
          have hv' : (fs.map (cV ad))[b]? = some (cV ad v) := by rw [List.getElem?_map, hv]; rfl
          rcases hz with rfl | rfl
          · exact va_get hx hb hts hc3.1 hown hK hPw q he hc1 b hc2 (hts _ (hT _ (by simp only [needT, if_neg n50, if_pos]; exact List.mem_cons_self))) (fun _ z => by rw [← hc3.2.2.2 b hc2]; exact z) hv' hd (go hnx h hL)
          · exact va_getN hx hb hts hc3.1 hown hK hPw q he hc1 b hc2 (va_Nw.use rfl (hEF.2.1 _ (hN _ List.mem_cons_self))) (fun _ z => by rw [← hc3.2.2.2 b hc2]; exact z) hv' hd (go hnx h hL)
        · exact h.elim
      · exact h.elim
    · exact h.elim
  case putfield ix =>
    try dsimp only at h
    obtain ⟨hd, hq⟩ := bt hB
    simp only [Bool.and_eq_true, decide_eq_true_eq] at hq
    obtain ⟨hcl, hz, hfin, hnx⟩ := hq
    obtain ⟨hc1, hc2, hc3⟩ := cl_all hcl
    split at h
    · rename_i v q r
      split at h
      · rename_i ci fs hfs
        split at h
        · rename_i hci
          have hci' : ci = a := Nat.eq_of_beq_eq_true hci
          subst hci'
          obtain ⟨h1, h2⟩ := h
          obtain ⟨h2, h3⟩ := seV_spec h2
          obtain ⟨h4, h5⟩ := seH_spec h3
          have he := cW_get (ad := ad) (tc := tc) hfs
          obtain ⟨e1, e2⟩ := putOk_spec ad h1
          have hl : b < (fs.map (cV ad)).length := by simpa using h2
          have fin : ∀ (H1 : Heap) (locs1 : List Loc), va_P D vwCl ((cW ad tc hp).set q (ad q, .inr (ci, (fs.map (cV ad)).set b (cV ad v)))) H1 → va_D A ((cW ad tc hp).set q (ad q, .inr (ci, (fs.map (cV ad)).set b (cV ad v)))) → va_S A s.heap H1 locs1 → W p l e R s m args below meth c H1 locs1 k n Z (F0 m (pc + 3) ls (r.map (cV ad))) := by
            intro H1 locs1 g1 g2 g3
            have e3 : (Sum.inr (ci, (fs.map (cV ad)).set b (cV ad v)) : va_E) = cE ad tc (AO ci (fs.set b v)) := by
              simp [cE, List.map_set]
            rw [e3, cW_set] at g1 g2
            exact goH hnx h5 ⟨g1, g2, g3⟩ (by simp)
          rcases hfin with hf | ⟨hf1, hf2, rfl⟩
          · rcases hz with rfl | rfl
            · exact va_put hx hb hts hc3.1 _ hc3.2.1 hc3.2.2.1 hown hK hPw hD hS q he hc1 b hc2 (hts _ (hT _ List.mem_cons_self)) (fun _ z => by rw [← hc3.2.2.2 b hc2]; exact z) hf (hc3.2.1 b hc2) e1 e2 hl hd fin
            · exact va_putN hx hb hts hc3.1 _ hc3.2.1 hc3.2.2.1 hown hK hPw hD hS q he hc1 b hc2 (va_Nw.use rfl (hEF.2.1 _ (hN _ List.mem_cons_self))) (fun _ z => by rw [← hc3.2.2.2 b hc2]; exact z) hf (hc3.2.1 b hc2) e1 e2 hl hd fin
          · cases hfb : (clF ci b).2.2.2 with
            | false => exact va_put hx hb hts hc3.1 _ hc3.2.1 hc3.2.2.1 hown hK hPw hD hS q he hc1 b hc2 (hts _ (hT _ List.mem_cons_self)) (fun _ z => by rw [← hc3.2.2.2 b hc2]; exact z) hfb (hc3.2.1 b hc2) e1 e2 hl hd fin
            | true => exact va_putF hx hb hts hc3.1 _ hc3.2.1 hc3.2.2.1 hown hK hPw hD hS q he hc1 b hc2 (hts _ (hT _ List.mem_cons_self)) (fun _ z => by rw [← hc3.2.2.2 b hc2]; exact z) hfb (hnm hf1) hf2 (hc3.2.1 b hc2) e1 e2 hl hd fin
        · exact h.elim
      · exact h.elim
    · exact h.elim
  case ireturn =>
    try dsimp only at h
    obtain ⟨hd, -⟩ := bt hB
    split at h
    · rename_i x
      unfold retOk at h
      split at h
      · rename_i hr
        exact hZ (some (.int x)) hp ad H locs k n pc ls h ⟨hPw, hD, hS⟩ hadk hn0 hk hn ⟨hd, _, hr, rfl⟩
      · rename_i t hr1 hr
        exact hZ (some (.int x)) hp ad H locs k n pc ls h.2 ⟨hPw, hD, hS⟩ hadk hn0 hk hn ⟨hd, _, hr, h.1⟩
      · exact h.elim
    · exact h.elim
  case lreturn =>
    try dsimp only at h
    obtain ⟨hd, -⟩ := bt hB
    split at h
    · rename_i x
      exact hZ (some (.long x)) hp ad H locs k n pc ls h.2 ⟨hPw, hD, hS⟩ hadk hn0 hk hn ⟨hd, h.1⟩
    · exact h.elim
  case return_ =>
    try dsimp only at h
    obtain ⟨hd, -⟩ := bt hB
    split at h
    · exact hZ none hp ad H locs k n pc ls h.2 ⟨hPw, hD, hS⟩ hadk hn0 hk hn ⟨hd, h.1⟩
    · exact h.elim
  case new ix =>
    try dsimp only at h
    obtain ⟨hd, hq⟩ := bt hB
    simp only [Bool.and_eq_true, decide_eq_true_eq] at hq
    obtain ⟨hcl, hnx⟩ := hq
    obtain ⟨hc1, -, hc3⟩ := cl_all hcl
    rw [hc1] at h
    dsimp only at h
    obtain ⟨hok, ⟨hk1, hn1⟩, hlt, h⟩ := h
    simp only [Bool.and_eq_true] at hok
    refine va_new (ci := a) (fs := dfl a (clS a)) hx hb hts hc3.1 _ hc3.2.1 hown (hts _ (hT (.classLink (sY g).cls ix (clN a)) (by simp [needT]))) (hts _ (hT (.instantiable (clN a) (clS a)) (by simp [needT]))) (hts _ (hT (.initialized (clN a)) (by simp [needT]))) hK hPw hD hS hA hc1 (fun j hj => ?_) hk1 hn1 hd (fun q H1 g1 g2 g3 => ?_)
    · simp [vp_V, dfl, hj, List.getD_eq_getElem?_getD]
    · have ec := cW_push (ad := ad) (tc := tc) (q := q) (x := AO a (dfl a (clS a))) (z := .inr (a, dfl a (clS a))) hok.1 (by simp [cE, cV_dfl]) hlt
      rw [← ec] at g1 g2
      have hak : adK hp.length 1 ad (fun k => if k = hp.length then q else ad k) := ⟨fun k hk => if_neg (by rcases hk with hk | hk <;> omega), fun z => by omega⟩
      have key := hP _ _ _ _ _ _ h p e s m args below meth c D tc _ ad0 n0 A Z H1 locs ls hAF0 hZ ⟨g1, g2, g3⟩ (hadk.trans hak hn0 (by omega)) (by simp; omega) hk1 hn1 (hL.kept hak.1 hok.2.2)
      rw [hnx, List.map_cons, rOkS_map hak.1 st hok.2.1] at key
      simpa [cV] using key
  case newarray t =>
    try dsimp only at h
    obtain ⟨hd, hnx⟩ := bd hB
    have hnx2 : pcO code nx = pc + 2 := hnx
    have harr := hts _ (hT (.arrayClass (newarray.typeOf t)) (by simp [needT]))
    split at h
    · rename_i x r
      cases t
      case int =>
        obtain ⟨hok, ⟨hk1, hn1⟩, hlt, ⟨hx0, hxN⟩, h⟩ := h
        simp only [Bool.and_eq_true] at hok
        refine va_newa (atype := .int) (ty := .int) (N' := x.toNatClampNeg) hx hb harr rfl hK hPw hD hS hA (fun cA => rep_cellI cA x.toNatClampNeg) hx0 rfl (by show x.toNatClampNeg * 4 ≤ 536870912; omega) hk1 hn1 hd (fun q cA H1 gK g1 g2 g3 => ?_)
        have h1 := (hK.2 0 (tc 0, .int) rfl).2
        have h2 := (gK.2 2 (cA, .int) rfl).2
        have hcA : cA = tc 0 := Option.some.inj (h2.symm.trans h1)
        subst hcA
        have ec := cW_push (ad := ad) (tc := tc) (q := q) (x := AI (List.replicate x.toNatClampNeg 0)) (z := .inl (tc 0, (List.replicate x.toNatClampNeg (0 : Int32)).length, .inl (fun j => (List.replicate x.toNatClampNeg (0 : Int32)).getD j 0))) hok.1 rfl hlt
        rw [← ec] at g1 g2
        have hak : adK hp.length 1 ad (fun k => if k = hp.length then q else ad k) := ⟨fun k hk => if_neg (by rcases hk with hk | hk <;> omega), fun z => by omega⟩
        have hok2 := hok.2.1
        simp only [rOkS, List.all_cons, Bool.and_eq_true] at hok2
        have key := hP _ _ _ _ _ _ h p e s m args below meth c D tc _ ad0 n0 A Z H1 locs ls hAF0 hZ ⟨g1, g2, g3⟩ (hadk.trans hak hn0 (by omega)) (by simp; omega) hk1 hn1 (hL.kept hak.1 hok.2.2)
        rw [hnx2, List.map_cons, rOkS_map hak.1 r hok2.2] at key
        simpa [cV] using key
      case long =>
        obtain ⟨hok, ⟨hk1, hn1⟩, hlt, ⟨hx0, hxN⟩, h⟩ := h
        simp only [Bool.and_eq_true] at hok
        refine va_newa (atype := .long) (ty := .long) (N' := x.toNatClampNeg) hx hb harr rfl hK hPw hD hS hA (fun cA => rep_cellL cA x.toNatClampNeg) hx0 rfl (by show x.toNatClampNeg * 8 ≤ 536870912; omega) hk1 hn1 hd (fun q cA H1 gK g1 g2 g3 => ?_)
        have h1 := (hK.2 1 (tc 1, .long) rfl).2
        have h2 := (gK.2 2 (cA, .long) rfl).2
        have hcA : cA = tc 1 := Option.some.inj (h2.symm.trans h1)
        subst hcA
        have ec := cW_push (ad := ad) (tc := tc) (q := q) (x := AL (List.replicate x.toNatClampNeg 0)) (z := .inl (tc 1, (List.replicate x.toNatClampNeg (0 : Int64)).length, .inr (.inl (fun j => (List.replicate x.toNatClampNeg (0 : Int64)).getD j 0)))) hok.1 rfl hlt
        rw [← ec] at g1 g2
        have hak : adK hp.length 1 ad (fun k => if k = hp.length then q else ad k) := ⟨fun k hk => if_neg (by rcases hk with hk | hk <;> omega), fun z => by omega⟩
        have hok2 := hok.2.1
        simp only [rOkS, List.all_cons, Bool.and_eq_true] at hok2
        have key := hP _ _ _ _ _ _ h p e s m args below meth c D tc _ ad0 n0 A Z H1 locs ls hAF0 hZ ⟨g1, g2, g3⟩ (hadk.trans hak hn0 (by omega)) (by simp; omega) hk1 hn1 (hL.kept hak.1 hok.2.2)
        rw [hnx2, List.map_cons, rOkS_map hak.1 r hok2.2] at key
        simpa [cV] using key
      all_goals exact h.elim
    · exact h.elim
  case invokestatic ix =>
    try dsimp only at h
    obtain ⟨hd, hq⟩ := bt hB
    simp only [Bool.and_eq_true, decide_eq_true_eq] at hq
    obtain ⟨hz, hnx⟩ := hq
    split at h
    · rename_i hb7
      have hb7' : b = 7 := Nat.eq_of_beq_eq_true hb7
      subst hb7'
      split at h
      · rename_i y x r
        obtain ⟨⟨hcat, hf, hlo⟩, h⟩ := h
        have hw : ∀ w ∈ [Cond.methodLink (sY g).cls ix Lib.Math.max.name, .static Lib.Math.max.name, .initialized "java/lang/Math", .code Lib.Math.max.name Lib.Math.max.code 2 (some .int)], w ∈ TBL := fun w hw => hT w hw
        refine va_mmax hx hb (hml.trans hL.2.1.symm) hown (hts _ (hw _ (by simp))) (hts _ (hw _ (by simp))) (hts _ (hw _ (by simp))) (hts _ (hw _ (by simp))) hf ?_ hk hn hd ?_
        · rw [catN_sum]
          have := Nat.le_of_ble_eq_true hcat
          omega
        · exact go hnx h hL
      · exact h.elim
    · rename_i hb8 hb7
      have hb8' : b = 8 := Nat.eq_of_beq_eq_true hb8
      subst hb8'
      split at h
      · rename_i y x r
        obtain ⟨⟨hcat, hf, hlo⟩, h⟩ := h
        have hw : ∀ w ∈ [Cond.methodLink (sY g).cls ix Lib.Math.min.name, .static Lib.Math.min.name, .initialized "java/lang/Math", .code Lib.Math.min.name Lib.Math.min.code 2 (some .int)], w ∈ TBL := fun w hw => hT w hw
        refine va_mmin hx hb (hml.trans hL.2.1.symm) hown (hts _ (hw _ (by simp))) (hts _ (hw _ (by simp))) (hts _ (hw _ (by simp))) (hts _ (hw _ (by simp))) hf ?_ hk hn hd ?_
        · rw [catN_sum]
          have := Nat.le_of_ble_eq_true hcat
          omega
        · exact go hnx h hL
      · exact h.elim
    · rename_i hb7 hb8
      have n7 : ¬ b = 7 := fun z => by subst z; cases hb7
      have n8 : ¬ b = 8 := fun z => by subst z; cases hb8
      have hcall2 : SgS cs := by
        unfold callOk at hcall
        simp only [hb7, hb8, Bool.or_false] at hcall
        exact hcall
      obtain ⟨hsg, hTs⟩ := hcall2
      obtain ⟨as, r, hn', hst, h'⟩ := popN_spec h
      subst hst
      clear h
      rw [List.append_nil] at h'
      split at h'
      · rename_i hcat hok
        obtain ⟨d', Rq, hR, hCt, hall⟩ := h'
        exact call_st hCt hSf ⟨hPw, hD, hS⟩ hA hEF hL.2.1 hd (Nat.le_of_ble_eq_true hcat) hn' hsg hTs rfl (z := cc) (fun hz0 => hT _ (by subst hz0; simp [needT, n7, n8])) (fun hz1 => hN _ (by subst hz1; exact List.mem_cons_self)) hz hR (goC (as := as) (st' := []) hok hR.2.2.1 hR.2.2.2 hnx hall)
      · exact h'.elim
  case invokevirtual ix =>
    try dsimp only at h
    obtain ⟨hd, hq⟩ := bt hB
    simp only [Bool.and_eq_true, decide_eq_true_eq] at hq
    obtain ⟨hz, hnx⟩ := hq
    obtain ⟨as, r, hn', hst, h'⟩ := popN_spec h
    subst hst
    clear h
    rw [List.append_nil] at h'
    split at h'
    · rename_i q as'
      cases ha : Nat.beq a 50 with
      | true =>
        rw [ha] at h'
        have hcall2 : SgX cs := by
          unfold callOk at hcall
          simp only [ha] at hcall
          exact hcall
        obtain ⟨hq2, hTs⟩ := hcall2
        simp only [Bool.and_eq_true, decide_eq_true_eq] at hq2
        obtain ⟨hsg, hcn, h1A, hC0⟩ := hq2
        dsimp only at h'
        split at h'
        · rename_i i0 hq0 hcat hok
          obtain ⟨d', Rq, hR, hCt, hall⟩ := h'
          exact call_vs hCt hSf ⟨hPw, hD, hS⟩ hA hEF hL.2.1 hd (Nat.le_of_ble_eq_true hcat) hn' rfl hsg hq0 hcn hTs rfl (z := cc) (fun hz0 => hT _ (by subst hz0; exact List.mem_cons_self)) (fun hz1 => hN _ (by subst hz1; exact List.mem_cons_self)) hz hR (goC (as := .ref q :: as') (st' := []) (by rw [hok]; rfl) hR.2.2.1 hR.2.2.2 hnx hall)
        · exact h'.elim
      | false =>
      rw [ha] at h'
      dsimp only at h'
      have hcall2 : SgV cs a := by
        unfold callOk at hcall
        simp only [ha] at hcall
        exact hcall
      obtain ⟨hq2, hTs⟩ := hcall2
      simp only [Bool.and_eq_true, decide_eq_true_eq] at hq2
      obtain ⟨hsg, hcn, hcl, h1A⟩ := hq2
      split at h'
      · rename_i ci fs hfs
        split at h'
        · rename_i hci hcat hok
          have hci' : ci = a := Nat.eq_of_beq_eq_true hci
          subst hci'
          obtain ⟨d', Rq, hR, hCt, hall⟩ := h'
          exact call_vi hCt hSf ⟨hPw, hD, hS⟩ hA hEF hL.2.1 hd (Nat.le_of_ble_eq_true hcat) hn' rfl hsg hfs hcl hcn hTs rfl (z := cc) (fun hz0 => hT _ (by subst hz0; exact List.mem_cons_self)) (fun hz1 => hN _ (by subst hz1; exact List.mem_cons_self)) hz hR (goC (as := .ref q :: as') (st' := []) hok hR.2.2.1 hR.2.2.2 hnx hall)
        · exact h'.elim
      · exact h'.elim
    · exact h'.elim
  case invokespecial ix =>
    try dsimp only at h
    obtain ⟨hd, hq⟩ := bt hB
    simp only [Bool.and_eq_true, decide_eq_true_eq] at hq
    obtain ⟨hz, hnx⟩ := hq
    split at h
    · rename_i hb9
      have hb9' : b = 9 := Nat.eq_of_beq_eq_true hb9
      subst hb9'
      split at h
      · rename_i q r
        split at h
        · rename_i hcat
          obtain ⟨⟨hf, hlo⟩, h⟩ := h
          refine W.objInit hx hb hown (hts _ (hT (.methodLink (sY g).cls ix Lib.objectInit) (by simp [needT]))) (hts _ (hT (.instanceMethod Lib.objectInit) (by simp [needT]))) (hts _ (hT (.code Lib.objectInit ⟨#[0xb1]⟩ 1 none) (by simp [needT]))) rfl (by rw [hml]; exact hL.2.1) (a := ad q) (rest := r.map (cV ad)) rfl hd hf ?_ ?_
          · have := call_room (m := m) (pc := pc) (ls := ls) (st0 := []) (ad := ad) (r := r) (Nat.le_of_ble_eq_true hcat)
            have e2 : (F0 m pc ls ((Value.ref q :: r).map (cV ad))).monitorRoom = (F0 m pc ls []).monitorRoom := rfl
            rw [e2]
            omega
          · exact go hnx h hL
        · exact h.elim
      · exact h.elim
    · rename_i hb9
      have hb9' : ¬ b = 9 := fun z => by subst z; cases hb9
      have hcall2 : SgI cs := by
        unfold callOk at hcall
        simp only [hb9] at hcall
        exact hcall
      obtain ⟨hq2, hTs⟩ := hcall2
      simp only [Bool.and_eq_true, decide_eq_true_eq] at hq2
      obtain ⟨hsg, h1A, hin, hret⟩ := hq2
      obtain ⟨as, r, hn', hst, h'⟩ := popN_spec h
      subst hst
      clear h
      rw [List.append_nil] at h'
      split at h'
      · rename_i q as'
        split at h'
        · rename_i hcat hok
          obtain ⟨d', Rq, hR, hCt, hall⟩ := h'
          exact call_sp hCt hSf ⟨hPw, hD, hS⟩ hA hEF hL.2.1 hd (Nat.le_of_ble_eq_true hcat) hn' rfl hsg hin hret hTs rfl (z := cc) (fun hz0 => hT _ (by subst hz0; simp [needT, hb9'])) (fun hz1 => hN _ (by subst hz1; simp [needN, hb9'])) hz hR (goC (as := .ref q :: as') (st' := []) hok hR.2.2.1 hR.2.2.2 hnx hall)
        · exact h'.elim
      · exact h'.elim
  case tableswitch d lo hi offs =>
    try dsimp only at h
    simp only [rowB, rowP, Bool.and_eq_true, decide_eq_true_eq] at hB
    obtain ⟨hd, ht, hoffs, hhi⟩ := hB
    split at h
    · rename_i x r
      by_cases hlo : x.toInt < lo ∨ hi < x.toInt
      · exact lv_tableOut hx hb hd hlo ht (go rfl (h.1 hlo) hL)
      · have g1 : ¬ x.toInt < lo := fun z => hlo (Or.inl z)
        have g2 : ¬ hi < x.toInt := fun z => hlo (Or.inr z)
        have hj : (x.toInt - lo).toNat < ts.length := by omega
        have hlen : offs.toList.length = ts.length := by
          have := congrArg List.length hoffs
          simpa using this
        have hjo : (x.toInt - lo).toNat < offs.size := by rw [← Array.length_toList, hlen]; exact hj
        have hoff : (pc : Int) + offs[(x.toInt - lo).toNat] = (pcO code ts[(x.toInt - lo).toNat] : Int) := by
          have := congrArg (fun z => z[(x.toInt - lo).toNat]?) hoffs
          simp only [List.getElem?_map, List.getElem?_eq_getElem hj, Option.map_some, Array.getElem?_toList, Array.getElem?_eq_getElem hjo] at this
          exact Option.some.inj this
        refine lv_tableIn hx hb hd g1 g2 (Array.getElem?_eq_getElem hjo) hoff ?_
        have ex : x = Int32.ofInt (lo + (((x.toInt - lo).toNat : Nat) : Int)) := by
          have : lo + (((x.toInt - lo).toNat : Nat) : Int) = x.toInt := by omega
          rw [this, Int32.ofInt_toInt]
        exact go rfl (swT_spec (K := fun t => P t al r hp k n) h.2 (List.getElem?_eq_getElem hj) ex) hL
    · exact h.elim
  case lookupswitch d ps =>
    try dsimp only at h
    simp only [rowB, rowP, Bool.and_eq_true, decide_eq_true_eq, List.all_eq_true (p := fun o : Int × Int => decide ((Int32.ofInt o.1).toInt = o.1))] at hB
    obtain ⟨hd, ht, hoffs, hsort, hrng⟩ := hB
    split at h
    · rename_i x r
      obtain ⟨off, t, g1, g2, g3⟩ := swL_spec (K := fun t => P t al r hp k n) ht hoffs (fun o ho => by simpa using hrng o ho) h.2 h.1
      exact lv_lookup hx hb hd hsort g1 g2 (go rfl g3 hL)
    · exact h.elim
  all_goals exact hoth.elim
end
section
/-- many instructions -/
theorem run_sound {l : Launch} {R : Room} {X : List (List Int32)} {g : Sig} {code : List Row} {Q : AH → Option Value → Prop} (hC : Chk g code) (cut : Nat → Bool) : ∀ (f : Nat) {i : Nat} {al : LO} {st : List Value} {hp : AH} {k n : Nat}, run l R X g code cut Q (WP l R X g code Q) f i al st hp k n → WP l R X g code Q i al st hp k n := by
  intro f
  induction f with
  | zero => intro i al st hp k n h; exact h
  | succ f ih =>
    intro i al st hp k n h
    refine stp_sound hC (fun i' al' st' hp' k' n' h' => ?_) h
    split at h'
    · exact h'
    · exact ih h'
/-- the locals at a method's entry -/
def enL : List Value → Nat → LO
  | [], n => List.replicate n none
  | v :: r, n => match v with
    | .long x => some (.long x) :: none :: enL r (n - 2)
    | .double x => some (.double x) :: none :: enL r (n - 2)
    | w => some w :: enL r (n - 1)
theorem enL_cons {v : Value} {r : List Value} {n : Nat} : enL (v :: r) n = if v.category = 2 then some v :: none :: enL r (n - 2) else some v :: enL r (n - 1) := by
  cases v <;> simp [enL, Value.category]
theorem lg_len (v : Value) (q : List Value) : (lg_sl (v :: q)).length = (if v.category = 2 then 2 else 1) + (lg_sl q).length := by
  have e : lg_sl (v :: q) = (if v.category = 2 then [Slot.val v, Slot.second] else [Slot.val v]) ++ lg_sl q := by simp [lg_sl]
  rw [e, List.length_append]
  by_cases hc : v.category = 2 <;> simp [hc]
theorem enL_spec : ∀ (as : List Value) (n i0 : Nat), (lg_sl as).length ≤ n → (enL as n).length = n ∧ ∀ (j : Nat) (v : Value), (enL as n)[j]? = some (some v) → (i0 + j, v) ∈ lv_args i0 as := by
  intro as
  induction as with
  | nil =>
    intro n i0 _
    refine ⟨by simp [enL], fun j v h => ?_⟩
    simp [enL, List.getElem?_replicate] at h
  | cons a r ih =>
    intro n i0 hn
    rw [enL_cons]
    by_cases hc : a.category = 2
    · have h2 : (lg_sl r).length + 2 ≤ n := by rw [lg_len, if_pos hc] at hn; omega
      obtain ⟨h3, h4⟩ := ih (n - 2) (i0 + 2) (by omega)
      rw [if_pos hc]
      refine ⟨by simp only [List.length_cons, h3]; omega, fun j v h => ?_⟩
      cases j with
      | zero => simp at h; subst h; simp [lv_args]
      | succ j =>
        cases j with
        | zero => simp at h
        | succ j =>
          have := h4 j v (by simpa using h)
          simp only [lv_args, hc, if_true]
          refine List.mem_cons_of_mem _ ?_
          rw [show i0 + (j + 1 + 1) = i0 + 2 + j by omega]
          exact this
    · have h2 : (lg_sl r).length + 1 ≤ n := by rw [lg_len, if_neg hc] at hn; omega
      obtain ⟨h3, h4⟩ := ih (n - 1) (i0 + 1) (by omega)
      rw [if_neg hc]
      refine ⟨by simp only [List.length_cons, h3]; omega, fun j v h => ?_⟩
      cases j with
      | zero => simp at h; subst h; simp [lv_args]
      | succ j =>
        have := h4 j v (by simpa using h)
        simp only [lv_args, hc, if_false]
        refine List.mem_cons_of_mem _ ?_
        rw [show i0 + (j + 1) = i0 + 1 + j by omega]
        exact this
theorem lv_args_cV (ad : Nat → Nat) : ∀ (as : List Value) (i : Nat) (j : Nat) (v : Value), (j, v) ∈ lv_args i as → (j, cV ad v) ∈ lv_args i (as.map (cV ad)) := by
  intro as
  induction as with
  | nil => intro i j v h; cases h
  | cons a r ih =>
    intro i j v h
    simp only [lv_args, List.map_cons, cV_cat] at h ⊢
    rcases List.mem_cons.mp h with e | h
    · cases e; exact List.mem_cons_self
    · exact List.mem_cons_of_mem _ (ih _ _ _ h)
theorem lg_sl_cV (ad : Nat → Nat) (as : List Value) : (lg_sl (as.map (cV ad))).length = (lg_sl as).length := by
  induction as with
  | nil => rfl
  | cons a r ih =>
    rw [List.map_cons, lg_len, lg_len, ih, cV_cat]
/-- A METHOD'S CONTRACT out of its run -/
theorem Ctr.of {l : Launch} {d : Nat} {X : List (List Int32)} {g : Sig} {code : List Row} {as : List Value} {hp : AH} {Rq : AH → Option Value → Prop} (hC : Chk g code) (h0 : pcO code 0 = 0) (hlen : (lg_sl as).length ≤ sL g)
    (h : WP l (rmD d (sC g) (sS g)) X g code Rq 0 (enL as (sL g)) [] hp 0 0) : Ctr l d X g as hp Rq := by
  intro D tc ad sz
  refine Met.ofW (cc := sB g) (maxL := sL g) (ret := sR g) hC.2.2.2.2 rfl ?_
  intro p e s m args below meth c s₁ B hml hv
  obtain ⟨rfl, hsz, hP, hD0, hEF⟩ := hv
  have hts := atoms_spec (ws := sgW g) B.pre
  have hts' : ∀ w ∈ TBL, w.before (as.map (cV ad)).toArray s = true := fun w hw => hts w (List.mem_cons_of_mem _ hw)
  have hown : s.vm.findClass (sY g).cls = some m.cls := findClass_of_methodNamed B.named
  have hin : meth.name = (sY g).name := (name_of_methodNamed B.named B.method).1
  have hlocks := B.notSynchronized
  have hx := B.exec
  have hb := B.bytes
  have hr := B.returns
  rw [lg_entry_eq]
  have hl := lv_entry (as.map (cV ad)) (n := sL g) (by rw [lg_sl_cV]; exact hlen)
  generalize (lg_sl (as.map (cV ad)) ++ List.replicate (sL g - (lg_sl (as.map (cV ad))).length) Slot.unset).toArray = ls at hl ⊢
  obtain ⟨e1, e2⟩ := enL_spec as (sL g) 0 hlen
  have hL : LR ad (sL g) (enL as (sL g)) ls := by
    refine ⟨e1, hl.1, hl.2.1, fun j v hj => ?_⟩
    have := lv_args_cV ad as 0 (0 + j) v (e2 j v hj)
    rw [Nat.zero_add] at this
    exact hl.2.2 _ this
  have key := h p e s m (as.map (cV ad)).toArray below meth c D tc ad ad hp.length (va_A (cW ad tc hp) sz) (MQ below (CPost (sC g) D tc ad sz hp Rq) (as.map (cV ad)).toArray s (sC g) (sS g) (va_A (cW ad tc hp) sz)) s.heap [] ls
    ⟨hx, hb, hml, hown, hts', fun z => hin.trans z, hEF, fun q hq => Or.inr (by rw [← hsz]; exact hq)⟩ ?_ ⟨hP, hD0.self, va_S.rf⟩ ⟨fun _ _ => rfl, fun _ => rfl⟩ (Nat.le_refl _) (Nat.zero_le _) (Nat.zero_le _) hL
  · rw [h0] at key
    exact key
  · intro v hp' ad' H locs k n pc ls' hR hW hak hn0 hk hn hrt
    refine W.widen hk hn ?_
    have post : ∀ t : State, t.heap = H → s.WarmedH t.vm → CPost (sC g) D tc ad sz hp Rq (as.map (cV ad)).toArray s (.returned (v.map (cV ad'))) t := fun t ht _ =>
      ⟨⟨v, hp', ad', rfl, hR, hak, hn0, by rw [ht]; exact hW.1, hW.2.1⟩, hW.2.2.F ht⟩
    cases v with
    | none => exact W.vret hx hb (hr.trans hrt.2) post hW.2.2.2.2 hrt.1
    | some w =>
      cases w with
      | int x =>
        obtain ⟨hd, t, ht, hnar⟩ := hrt
        exact W.zret hx hb (hr.trans ht) hnar post hW.2.2.2.2 hd
      | long x => exact W.lret hx hb (hr.trans hrt.2) post hW.2.2.2.2 hrt.1
      | _ => exact hrt.elim
/-- a contract says less -/
theorem Ctr.weak {l : Launch} {d : Nat} {X : List (List Int32)} {g : Sig} {as : List Value} {hp : AH} {R1 R2 : AH → Option Value → Prop} (h : Ctr l d X g as hp R1) (hR : ∀ hp' v, R1 hp' v → R2 hp' v) : Ctr l d X g as hp R2 := by
  intro D tc ad sz p e ha hc hk s m args below hf happ hP hK
  obtain ⟨n, o, h1, h2, h3, ⟨⟨v, hp', ad', g1, g2, g3⟩, hF⟩, hL⟩ := h D tc ad sz p e ha hc hk s m args below hf happ hP hK
  exact ⟨n, o, h1, h2, h3, ⟨⟨v, hp', ad', g1, hR _ _ g2, g3⟩, hF⟩, hL⟩
end
section
-- ===== end of PART A; then your names; then what follows =====
/-! THE CLAIM OUT OF ONE WALK OF THE LAW'S BODY. Your part is whole_start (and what it stands on); all else here is the same for every law, but numbers. -/
def R_law : String := "SaidTwiceLaw"
def lw_P (b : Addr) (xs : List Int32) (args : Array Value) (s : State) : Prop := args = #[.ref b] ∧ s.IntsAt b xs ∧ xs.length ≤ 3584 ∧ (Jvm.Cond.and given_1 narrow_1).before args s = true
def lw_Q (_ : Array Value) (s : State) (o : Outcome) (t : State) : Prop := o = .returned (some (.int 1)) ∧ Framed s o t [] 600000 7302250
def lw_Z (below : List Frame) (a : Array Value) (s : State) : State → Prop := fun t => ∃ o, t.status = .running ∧ Ended t below o ∧ lw_Q a s o t
/-- the law's own end, with 1 on the stack, nothing written that was there before, its room as the claim has it -/
theorem lw_ret {p : Program} {l : Launch} {e : Env} {s : State} {m : MethodId} {below : List Frame} {meth : Method} {c : Code} {b : Nat} (hx : p.tables.exec = Jvm.exec) (hb : c.code = code) (hr : meth.sig.returnType = ret) (hlocks : meth.locks = false) {pc : Nat} {H : Heap} {ls : Array Slot} (hdg : decode code pc = .ok (.ireturn, 1)) : W p l e room_1 s m #[Value.ref b] below meth c H [] 600000 7302250 (lw_Z below #[Value.ref b] s) (F0 m pc ls [.int 1]) := by
  intro T hT X
  obtain ⟨fs, hret, hrun, hended, hW, hframe⟩ := X.leave (v := some (.int 1)) (hlocks := hlocks) (fun h => by rw [hr] at h; cases h)
  have hmeth' : T.vm.method? m = some meth := X.method'
  refine ⟨T.setFrames fs, ?_, .returned (some (.int 1)), hrun, hended, rfl, ⟨_, rfl⟩, hW, hframe⟩
  jvm_step X.here [X.here.top, hx, hb, hdg, hmeth', hr, ret, narrow_b1]
  (try refine ⟨rfl, ?_⟩); (try refine ⟨rfl, ?_⟩)
  first | (intro acts; rw [hret _ acts rfl rfl rfl]) | rw [hret _ _ rfl rfl rfl]
  exact Steps.refl _
/-- what holds at the law's entry: the machine, the code, the tables' words (any of lw_tbl by 'hts w (by decide +kernel)'), the script of L ints xs at the cell b, what the Statement gives of the start (any of its parts by flat_of_before) -/
def lw_At (p : Program) (s : State) (m : MethodId) (meth : Method) (c : Code) (b L : Nat) (xs : Nat → Int32) : Prop :=
  p.tables.exec = Jvm.exec ∧ c.code = code ∧ meth.sig.returnType = ret ∧ c.maxLocals = 4 ∧ s.vm.findClass R_law = some m.cls ∧ (∀ w ∈ lw_tbl, w.before #[Value.ref b] s = true) ∧ va_X b L xs s s.heap ∧ b < s.heap.size ∧ meth.locks = false ∧ (Jvm.Cond.and given_1 narrow_1).before #[Value.ref b] s = true
end
section
/-! FROM THE LAW'S ENTRY: the law is run by the abstract machine, too; its script is a row that is only read -/
def soInL : List Int32 := [-1431655766, -858993460, -252645136, -16711936, -65536]
theorem nest_tabs {w : Cond} (h : isNest w = true) {A : Array Value} {U : State} (hw : w.before A U = true) : va_Nw w U := by
  cases w <;> first | exact va_Nw.of rfl hw | (simp [isNest] at h)
theorem ret_law : (ret : Option FieldType) = some .boolean := rfl
set_option maxHeartbeats 4000000 in
set_option maxRecDepth 100000 in
theorem start_of {p : Program} {e : Env} {s : State} {m : MethodId} {below : List Frame} {meth : Method} {c : Code} (l : Launch) {b L : Nat} {xs : Nat → Int32} (hL31 : L < 2 ^ 31) (C0 : lw_At p s m meth c b L xs)
    (h : WP l room_1 [soInL, (List.range L).map xs] sgL_law kL_law (fun _ v => v = some (.int 1)) 0 [some (.ref 1001), none, none, none] [] [] 0 0) :
    W p l e room_1 s m #[Value.ref b] below meth c s.heap [] 0 0 (lw_Z below #[Value.ref b] s) (entryFrame m ([Value.ref b] : List Value).toArray 4) := by
  obtain ⟨hx, hb, hr, hml, hown, hts, hX, hbl, hlocks, hgv⟩ := C0
  have hgf := flat_of_before _ hgv
  have hA : ∀ q : Nat, s.heap.size ≤ q → (fun q : Nat => s.heap.size ≤ q) q := fun _ h => h
  have hbA : ¬ (fun q : Nat => s.heap.size ≤ q) b := Nat.not_le.mpr hbl
  have hAn : ∀ a : Nat, a < s.heap.size → ¬ (fun q : Nat => s.heap.size ≤ q) a := fun a ha => Nat.not_le.mpr ha
  have hts' : ∀ w ∈ TBL, w.before #[Value.ref b] s = true := fun w hw => hts w (List.mem_filter.mp hw).1
  obtain ⟨c0, iS0, k0⟩ := u_known (C := RX0) (T := TX0) (N := 6) (n := 6) hts' iw_X0 (hts (.instantiable RX0 6) (by decide +kernel))
  obtain ⟨c1, iS1, k1⟩ := u_known (C := RX1) (T := TX1) (N := 2) (n := 2) hts' iw_X1 (hts (.instantiable RX1 2) (by decide +kernel))
  obtain ⟨c2, iS2, k2⟩ := u_known (C := RX2) (T := TX2) (N := 4) (n := 4) hts' iw_X2 (hts (.instantiable RX2 4) (by decide +kernel))
  obtain ⟨c3, iS3, k3⟩ := u_known (C := RX3) (T := TX3) (N := 4) (n := 4) hts' iw_X3 (hts (.instantiable RX3 4) (by decide +kernel))
  obtain ⟨c4, iS4, k4⟩ := u_known (C := RX4) (T := TX4) (N := 6) (n := 6) hts' iw_X4 (hts (.instantiable RX4 6) (by decide +kernel))
  obtain ⟨c5, iS5, k5⟩ := u_known (C := RX5) (T := TX5) (N := 4) (n := 4) hts' iw_X5 (hts (.instantiable RX5 4) (by decide +kernel))
  obtain ⟨c6, iS6, k6⟩ := u_known (C := RX6) (T := TX6) (N := 6) (n := 6) hts' iw_X6 (hts (.instantiable RX6 6) (by decide +kernel))
  obtain ⟨c7, iS7, k7⟩ := u_known (C := RX7) (T := TX7) (N := 9) (n := 9) hts' iw_X7 (hts (.instantiable RX7 9) (by decide +kernel))
  obtain ⟨c8, iS8, k8⟩ := u_known (C := RX8) (T := TX8) (N := 37) (n := 37) hts' iw_X8 (hts (.instantiable RX8 37) (by decide +kernel))
  obtain ⟨dC, dI, hKc⟩ : ∃ (dC : Nat → ClassId) (dI : Nat → Nat → Nat), ∀ (k : Nat) (q : vw_C), vwCl[k]? = some q → u_Kn s q.1 q.2.1 q.2.2 (dC k) (dI k) := by
    refine ⟨fun k => [c0, c1, c2, c3, c4, c5, c6, c7, c8].getD k c0, fun k => [iS0, iS1, iS2, iS3, iS4, iS5, iS6, iS7, iS8].getD k iS0, ?_⟩
    intro k q hq
    match k, hq with
    | 0, hq => cases hq; exact k0
    | 1, hq => cases hq; exact k1
    | 2, hq => cases hq; exact k2
    | 3, hq => cases hq; exact k3
    | 4, hq => cases hq; exact k4
    | 5, hq => cases hq; exact k5
    | 6, hq => cases hq; exact k6
    | 7, hq => cases hq; exact k7
    | 8, hq => cases hq; exact k8
    | k + 9, hq => simp [vwCl] at hq
  obtain ⟨tI, kI, cI, hI1, hI2, hI3⟩ := Cond.arrayClass_spec (hts (.arrayClass .int) (by decide +kernel))
  obtain ⟨tL, kL, cL, hL1, hL2, hL3⟩ := Cond.arrayClass_spec (hts (.arrayClass .long) (by decide +kernel))
  have hK : va_K (dC, dI) vwCl (ctys (fun j => if j = 0 then tI else tL)) s := by
    refine ⟨hKc, fun k q hq => ?_⟩
    match k, hq with
    | 0, hq => cases hq; exact ⟨fun n z => ⟨fun k h => (by cases h), kI, hI2, cI, hI3⟩, hI1⟩
    | 1, hq => cases hq; exact ⟨fun n z => ⟨fun k h => (by cases h), kL, hL2, cL, hL3⟩, hL1⟩
    | k + 2, hq => simp [ctys] at hq
  obtain ⟨t, ht, cellT, g1, g2, g3, g4, g5, g6, g7⟩ := va_Tof (ty := .int) (N := 5) (f := fun j => .int (soInL.getD j 0)) (A := fun q : Nat => s.heap.size ≤ q) (by decide) (hgf (.arrayOf (.static "SaidTwice" "SO_IN" "[I") .int) (by decide +kernel))
    (va_eqt (hgf (.eq (.length (.static "SaidTwice" "SO_IN" "[I")) (.int 5)) (by decide +kernel)))
    (fun j hj => by
      match j, hj with
      | 0, _ => exact va_eqt (hgf (.eq (.elem (.static "SaidTwice" "SO_IN" "[I") (.int 0)) (.int (-1431655766))) (by decide +kernel))
      | 1, _ => exact va_eqt (hgf (.eq (.elem (.static "SaidTwice" "SO_IN" "[I") (.int 1)) (.int (-858993460))) (by decide +kernel))
      | 2, _ => exact va_eqt (hgf (.eq (.elem (.static "SaidTwice" "SO_IN" "[I") (.int 2)) (.int (-252645136))) (by decide +kernel))
      | 3, _ => exact va_eqt (hgf (.eq (.elem (.static "SaidTwice" "SO_IN" "[I") (.int 3)) (.int (-16711936))) (by decide +kernel))
      | 4, _ => exact va_eqt (hgf (.eq (.elem (.static "SaidTwice" "SO_IN" "[I") (.int 4)) (.int (-65536))) (by decide +kernel))) hAn
  have hZ : va_Z "SaidTwice" "SO_IN" "[I" (.ref t) (fun q : Nat => s.heap.size ≤ q) s s.heap := va_Zof (hts (.laysStatic "SaidTwice" "SO_IN" "[I") (by decide +kernel)) (hts (.initialized "SaidTwice") (by decide +kernel)) ht hAn
  have htl : t < s.heap.size := (Array.getElem?_eq_some_iff.mp g1).1
  have sN : ∀ i : Nat, i < 7 → lenS.getD i 0 < 2 ^ 31 := by
    intro i hi
    match i, hi with
    | 0, _ => exact (by decide)
    | 1, _ => exact (by decide)
    | 2, _ => exact (by decide)
    | 3, _ => exact (by decide)
    | 4, _ => exact (by decide)
    | 5, _ => exact (by decide)
    | 6, _ => exact (by decide)
    | i + 7, hi => omega
  have sX : ∀ i : Nat, i < 7 → (Cond.exactly ((fun i => Term.string "SaidTwice$Tokens" (sIx.getD i 0)) i) "java/lang/String").before #[Value.ref b] s = true := by
    intro i hi
    match i, hi with
    | 0, _ => exact hgf (.exactly (.string "SaidTwice$Tokens" 61) "java/lang/String") (by decide +kernel)
    | 1, _ => exact hgf (.exactly (.string "SaidTwice$Tokens" 67) "java/lang/String") (by decide +kernel)
    | 2, _ => exact hgf (.exactly (.string "SaidTwice$Tokens" 69) "java/lang/String") (by decide +kernel)
    | 3, _ => exact hgf (.exactly (.string "SaidTwice$Tokens" 71) "java/lang/String") (by decide +kernel)
    | 4, _ => exact hgf (.exactly (.string "SaidTwice$Tokens" 73) "java/lang/String") (by decide +kernel)
    | 5, _ => exact hgf (.exactly (.string "SaidTwice$Tokens" 75) "java/lang/String") (by decide +kernel)
    | 6, _ => exact hgf (.exactly (.string "SaidTwice$Tokens" 77) "java/lang/String") (by decide +kernel)
    | i + 7, hi => omega
  have sCo : ∀ i : Nat, i < 7 → (Cond.eq (.field ((fun i => Term.string "SaidTwice$Tokens" (sIx.getD i 0)) i) "java/lang/String" "coder" "B") (.int 0)).before #[Value.ref b] s = true := by
    intro i hi
    match i, hi with
    | 0, _ => exact hgf (.eq (.field (.string "SaidTwice$Tokens" 61) "java/lang/String" "coder" "B") (.int 0)) (by decide +kernel)
    | 1, _ => exact hgf (.eq (.field (.string "SaidTwice$Tokens" 67) "java/lang/String" "coder" "B") (.int 0)) (by decide +kernel)
    | 2, _ => exact hgf (.eq (.field (.string "SaidTwice$Tokens" 69) "java/lang/String" "coder" "B") (.int 0)) (by decide +kernel)
    | 3, _ => exact hgf (.eq (.field (.string "SaidTwice$Tokens" 71) "java/lang/String" "coder" "B") (.int 0)) (by decide +kernel)
    | 4, _ => exact hgf (.eq (.field (.string "SaidTwice$Tokens" 73) "java/lang/String" "coder" "B") (.int 0)) (by decide +kernel)
    | 5, _ => exact hgf (.eq (.field (.string "SaidTwice$Tokens" 75) "java/lang/String" "coder" "B") (.int 0)) (by decide +kernel)
    | 6, _ => exact hgf (.eq (.field (.string "SaidTwice$Tokens" 77) "java/lang/String" "coder" "B") (.int 0)) (by decide +kernel)
    | i + 7, hi => omega
  have sAr : ∀ i : Nat, i < 7 → (Cond.arrayOf (.field ((fun i => Term.string "SaidTwice$Tokens" (sIx.getD i 0)) i) "java/lang/String" "value" "[B") .byte).before #[Value.ref b] s = true := by
    intro i hi
    match i, hi with
    | 0, _ => exact hgf (.arrayOf (.field (.string "SaidTwice$Tokens" 61) "java/lang/String" "value" "[B") .byte) (by decide +kernel)
    | 1, _ => exact hgf (.arrayOf (.field (.string "SaidTwice$Tokens" 67) "java/lang/String" "value" "[B") .byte) (by decide +kernel)
    | 2, _ => exact hgf (.arrayOf (.field (.string "SaidTwice$Tokens" 69) "java/lang/String" "value" "[B") .byte) (by decide +kernel)
    | 3, _ => exact hgf (.arrayOf (.field (.string "SaidTwice$Tokens" 71) "java/lang/String" "value" "[B") .byte) (by decide +kernel)
    | 4, _ => exact hgf (.arrayOf (.field (.string "SaidTwice$Tokens" 73) "java/lang/String" "value" "[B") .byte) (by decide +kernel)
    | 5, _ => exact hgf (.arrayOf (.field (.string "SaidTwice$Tokens" 75) "java/lang/String" "value" "[B") .byte) (by decide +kernel)
    | 6, _ => exact hgf (.arrayOf (.field (.string "SaidTwice$Tokens" 77) "java/lang/String" "value" "[B") .byte) (by decide +kernel)
    | i + 7, hi => omega
  have sLe : ∀ i : Nat, i < 7 → (Cond.eq (.length (.field ((fun i => Term.string "SaidTwice$Tokens" (sIx.getD i 0)) i) "java/lang/String" "value" "[B")) (.int (Int32.ofNat (lenS.getD i 0)))).before #[Value.ref b] s = true := by
    intro i hi
    match i, hi with
    | 0, _ => exact hgf (.eq (.length (.field (.string "SaidTwice$Tokens" 61) "java/lang/String" "value" "[B")) (.int 3)) (by decide +kernel)
    | 1, _ => exact hgf (.eq (.length (.field (.string "SaidTwice$Tokens" 67) "java/lang/String" "value" "[B")) (.int 4)) (by decide +kernel)
    | 2, _ => exact hgf (.eq (.length (.field (.string "SaidTwice$Tokens" 69) "java/lang/String" "value" "[B")) (.int 5)) (by decide +kernel)
    | 3, _ => exact hgf (.eq (.length (.field (.string "SaidTwice$Tokens" 71) "java/lang/String" "value" "[B")) (.int 5)) (by decide +kernel)
    | 4, _ => exact hgf (.eq (.length (.field (.string "SaidTwice$Tokens" 73) "java/lang/String" "value" "[B")) (.int 2)) (by decide +kernel)
    | 5, _ => exact hgf (.eq (.length (.field (.string "SaidTwice$Tokens" 75) "java/lang/String" "value" "[B")) (.int 3)) (by decide +kernel)
    | 6, _ => exact hgf (.eq (.length (.field (.string "SaidTwice$Tokens" 77) "java/lang/String" "value" "[B")) (.int 3)) (by decide +kernel)
    | i + 7, hi => omega
  have sEl : ∀ i : Nat, i < 7 → ∀ j : Nat, j < lenS.getD i 0 → (Cond.eq (.elem (.field ((fun i => Term.string "SaidTwice$Tokens" (sIx.getD i 0)) i) "java/lang/String" "value" "[B") (.int (Int32.ofNat j))) (.int ((bytS.getD i []).getD j 0))).before #[Value.ref b] s = true := by
    intro i hi j hj
    match i, hi with
    | 0, _ => exact (by
      match j, hj with
      | 0, _ => exact hgf (.eq (.elem (.field (.string "SaidTwice$Tokens" 61) "java/lang/String" "value" "[B") (.int 0)) (.int 119)) (by decide +kernel)
      | 1, _ => exact hgf (.eq (.elem (.field (.string "SaidTwice$Tokens" 61) "java/lang/String" "value" "[B") (.int 1)) (.int 104)) (by decide +kernel)
      | 2, _ => exact hgf (.eq (.elem (.field (.string "SaidTwice$Tokens" 61) "java/lang/String" "value" "[B") (.int 2)) (.int 111)) (by decide +kernel)
      | j + 3, hj => exact absurd hj (by show ¬ j + 3 < 3; omega))
    | 1, _ => exact (by
      match j, hj with
      | 0, _ => exact hgf (.eq (.elem (.field (.string "SaidTwice$Tokens" 67) "java/lang/String" "value" "[B") (.int 0)) (.int 111)) (by decide +kernel)
      | 1, _ => exact hgf (.eq (.elem (.field (.string "SaidTwice$Tokens" 67) "java/lang/String" "value" "[B") (.int 1)) (.int 110)) (by decide +kernel)
      | 2, _ => exact hgf (.eq (.elem (.field (.string "SaidTwice$Tokens" 67) "java/lang/String" "value" "[B") (.int 2)) (.int 99)) (by decide +kernel)
      | 3, _ => exact hgf (.eq (.elem (.field (.string "SaidTwice$Tokens" 67) "java/lang/String" "value" "[B") (.int 3)) (.int 101)) (by decide +kernel)
      | j + 4, hj => exact absurd hj (by show ¬ j + 4 < 4; omega))
    | 2, _ => exact (by
      match j, hj with
      | 0, _ => exact hgf (.eq (.elem (.field (.string "SaidTwice$Tokens" 69) "java/lang/String" "value" "[B") (.int 0)) (.int 116)) (by decide +kernel)
      | 1, _ => exact hgf (.eq (.elem (.field (.string "SaidTwice$Tokens" 69) "java/lang/String" "value" "[B") (.int 1)) (.int 119)) (by decide +kernel)
      | 2, _ => exact hgf (.eq (.elem (.field (.string "SaidTwice$Tokens" 69) "java/lang/String" "value" "[B") (.int 2)) (.int 105)) (by decide +kernel)
      | 3, _ => exact hgf (.eq (.elem (.field (.string "SaidTwice$Tokens" 69) "java/lang/String" "value" "[B") (.int 3)) (.int 99)) (by decide +kernel)
      | 4, _ => exact hgf (.eq (.elem (.field (.string "SaidTwice$Tokens" 69) "java/lang/String" "value" "[B") (.int 4)) (.int 101)) (by decide +kernel)
      | j + 5, hj => exact absurd hj (by show ¬ j + 5 < 5; omega))
    | 3, _ => exact (by
      match j, hj with
      | 0, _ => exact hgf (.eq (.elem (.field (.string "SaidTwice$Tokens" 71) "java/lang/String" "value" "[B") (.int 0)) (.int 99)) (by decide +kernel)
      | 1, _ => exact hgf (.eq (.elem (.field (.string "SaidTwice$Tokens" 71) "java/lang/String" "value" "[B") (.int 1)) (.int 111)) (by decide +kernel)
      | 2, _ => exact hgf (.eq (.elem (.field (.string "SaidTwice$Tokens" 71) "java/lang/String" "value" "[B") (.int 2)) (.int 115)) (by decide +kernel)
      | 3, _ => exact hgf (.eq (.elem (.field (.string "SaidTwice$Tokens" 71) "java/lang/String" "value" "[B") (.int 3)) (.int 116)) (by decide +kernel)
      | 4, _ => exact hgf (.eq (.elem (.field (.string "SaidTwice$Tokens" 71) "java/lang/String" "value" "[B") (.int 4)) (.int 115)) (by decide +kernel)
      | j + 5, hj => exact absurd hj (by show ¬ j + 5 < 5; omega))
    | 4, _ => exact (by
      match j, hj with
      | 0, _ => exact hgf (.eq (.elem (.field (.string "SaidTwice$Tokens" 73) "java/lang/String" "value" "[B") (.int 0)) (.int 111)) (by decide +kernel)
      | 1, _ => exact hgf (.eq (.elem (.field (.string "SaidTwice$Tokens" 73) "java/lang/String" "value" "[B") (.int 1)) (.int 114)) (by decide +kernel)
      | j + 2, hj => exact absurd hj (by show ¬ j + 2 < 2; omega))
    | 5, _ => exact (by
      match j, hj with
      | 0, _ => exact hgf (.eq (.elem (.field (.string "SaidTwice$Tokens" 75) "java/lang/String" "value" "[B") (.int 0)) (.int 97)) (by decide +kernel)
      | 1, _ => exact hgf (.eq (.elem (.field (.string "SaidTwice$Tokens" 75) "java/lang/String" "value" "[B") (.int 1)) (.int 110)) (by decide +kernel)
      | 2, _ => exact hgf (.eq (.elem (.field (.string "SaidTwice$Tokens" 75) "java/lang/String" "value" "[B") (.int 2)) (.int 100)) (by decide +kernel)
      | j + 3, hj => exact absurd hj (by show ¬ j + 3 < 3; omega))
    | 6, _ => exact (by
      match j, hj with
      | 0, _ => exact hgf (.eq (.elem (.field (.string "SaidTwice$Tokens" 77) "java/lang/String" "value" "[B") (.int 0)) (.int 110)) (by decide +kernel)
      | 1, _ => exact hgf (.eq (.elem (.field (.string "SaidTwice$Tokens" 77) "java/lang/String" "value" "[B") (.int 1)) (.int 111)) (by decide +kernel)
      | 2, _ => exact hgf (.eq (.elem (.field (.string "SaidTwice$Tokens" 77) "java/lang/String" "value" "[B") (.int 2)) (.int 116)) (by decide +kernel)
      | j + 3, hj => exact absurd hj (by show ¬ j + 3 < 3; omega))
    | i + 7, hi => omega
  have sNe : ∀ i j : Nat, i < 7 → j < 7 → i ≠ j → (Cond.not (Cond.eq ((fun i => Term.string "SaidTwice$Tokens" (sIx.getD i 0)) i) ((fun i => Term.string "SaidTwice$Tokens" (sIx.getD i 0)) j))).before #[Value.ref b] s = true ∨ (Cond.not (Cond.eq ((fun i => Term.string "SaidTwice$Tokens" (sIx.getD i 0)) j) ((fun i => Term.string "SaidTwice$Tokens" (sIx.getD i 0)) i))).before #[Value.ref b] s = true := by
    intro i j hi hj hij
    match i, hi, j, hj with
    | 0, _, 0, _ => exact absurd rfl hij
    | 0, _, 1, _ => exact Or.inl (hgf (.not (.eq (.string "SaidTwice$Tokens" 61) (.string "SaidTwice$Tokens" 67))) (by decide +kernel))
    | 0, _, 2, _ => exact Or.inl (hgf (.not (.eq (.string "SaidTwice$Tokens" 61) (.string "SaidTwice$Tokens" 69))) (by decide +kernel))
    | 0, _, 3, _ => exact Or.inl (hgf (.not (.eq (.string "SaidTwice$Tokens" 61) (.string "SaidTwice$Tokens" 71))) (by decide +kernel))
    | 0, _, 4, _ => exact Or.inl (hgf (.not (.eq (.string "SaidTwice$Tokens" 61) (.string "SaidTwice$Tokens" 73))) (by decide +kernel))
    | 0, _, 5, _ => exact Or.inl (hgf (.not (.eq (.string "SaidTwice$Tokens" 61) (.string "SaidTwice$Tokens" 75))) (by decide +kernel))
    | 0, _, 6, _ => exact Or.inl (hgf (.not (.eq (.string "SaidTwice$Tokens" 61) (.string "SaidTwice$Tokens" 77))) (by decide +kernel))
    | 1, _, 0, _ => exact Or.inr (hgf (.not (.eq (.string "SaidTwice$Tokens" 61) (.string "SaidTwice$Tokens" 67))) (by decide +kernel))
    | 1, _, 1, _ => exact absurd rfl hij
    | 1, _, 2, _ => exact Or.inl (hgf (.not (.eq (.string "SaidTwice$Tokens" 67) (.string "SaidTwice$Tokens" 69))) (by decide +kernel))
    | 1, _, 3, _ => exact Or.inl (hgf (.not (.eq (.string "SaidTwice$Tokens" 67) (.string "SaidTwice$Tokens" 71))) (by decide +kernel))
    | 1, _, 4, _ => exact Or.inl (hgf (.not (.eq (.string "SaidTwice$Tokens" 67) (.string "SaidTwice$Tokens" 73))) (by decide +kernel))
    | 1, _, 5, _ => exact Or.inl (hgf (.not (.eq (.string "SaidTwice$Tokens" 67) (.string "SaidTwice$Tokens" 75))) (by decide +kernel))
    | 1, _, 6, _ => exact Or.inl (hgf (.not (.eq (.string "SaidTwice$Tokens" 67) (.string "SaidTwice$Tokens" 77))) (by decide +kernel))
    | 2, _, 0, _ => exact Or.inr (hgf (.not (.eq (.string "SaidTwice$Tokens" 61) (.string "SaidTwice$Tokens" 69))) (by decide +kernel))
    | 2, _, 1, _ => exact Or.inr (hgf (.not (.eq (.string "SaidTwice$Tokens" 67) (.string "SaidTwice$Tokens" 69))) (by decide +kernel))
    | 2, _, 2, _ => exact absurd rfl hij
    | 2, _, 3, _ => exact Or.inl (hgf (.not (.eq (.string "SaidTwice$Tokens" 69) (.string "SaidTwice$Tokens" 71))) (by decide +kernel))
    | 2, _, 4, _ => exact Or.inl (hgf (.not (.eq (.string "SaidTwice$Tokens" 69) (.string "SaidTwice$Tokens" 73))) (by decide +kernel))
    | 2, _, 5, _ => exact Or.inl (hgf (.not (.eq (.string "SaidTwice$Tokens" 69) (.string "SaidTwice$Tokens" 75))) (by decide +kernel))
    | 2, _, 6, _ => exact Or.inl (hgf (.not (.eq (.string "SaidTwice$Tokens" 69) (.string "SaidTwice$Tokens" 77))) (by decide +kernel))
    | 3, _, 0, _ => exact Or.inr (hgf (.not (.eq (.string "SaidTwice$Tokens" 61) (.string "SaidTwice$Tokens" 71))) (by decide +kernel))
    | 3, _, 1, _ => exact Or.inr (hgf (.not (.eq (.string "SaidTwice$Tokens" 67) (.string "SaidTwice$Tokens" 71))) (by decide +kernel))
    | 3, _, 2, _ => exact Or.inr (hgf (.not (.eq (.string "SaidTwice$Tokens" 69) (.string "SaidTwice$Tokens" 71))) (by decide +kernel))
    | 3, _, 3, _ => exact absurd rfl hij
    | 3, _, 4, _ => exact Or.inl (hgf (.not (.eq (.string "SaidTwice$Tokens" 71) (.string "SaidTwice$Tokens" 73))) (by decide +kernel))
    | 3, _, 5, _ => exact Or.inl (hgf (.not (.eq (.string "SaidTwice$Tokens" 71) (.string "SaidTwice$Tokens" 75))) (by decide +kernel))
    | 3, _, 6, _ => exact Or.inl (hgf (.not (.eq (.string "SaidTwice$Tokens" 71) (.string "SaidTwice$Tokens" 77))) (by decide +kernel))
    | 4, _, 0, _ => exact Or.inr (hgf (.not (.eq (.string "SaidTwice$Tokens" 61) (.string "SaidTwice$Tokens" 73))) (by decide +kernel))
    | 4, _, 1, _ => exact Or.inr (hgf (.not (.eq (.string "SaidTwice$Tokens" 67) (.string "SaidTwice$Tokens" 73))) (by decide +kernel))
    | 4, _, 2, _ => exact Or.inr (hgf (.not (.eq (.string "SaidTwice$Tokens" 69) (.string "SaidTwice$Tokens" 73))) (by decide +kernel))
    | 4, _, 3, _ => exact Or.inr (hgf (.not (.eq (.string "SaidTwice$Tokens" 71) (.string "SaidTwice$Tokens" 73))) (by decide +kernel))
    | 4, _, 4, _ => exact absurd rfl hij
    | 4, _, 5, _ => exact Or.inl (hgf (.not (.eq (.string "SaidTwice$Tokens" 73) (.string "SaidTwice$Tokens" 75))) (by decide +kernel))
    | 4, _, 6, _ => exact Or.inl (hgf (.not (.eq (.string "SaidTwice$Tokens" 73) (.string "SaidTwice$Tokens" 77))) (by decide +kernel))
    | 5, _, 0, _ => exact Or.inr (hgf (.not (.eq (.string "SaidTwice$Tokens" 61) (.string "SaidTwice$Tokens" 75))) (by decide +kernel))
    | 5, _, 1, _ => exact Or.inr (hgf (.not (.eq (.string "SaidTwice$Tokens" 67) (.string "SaidTwice$Tokens" 75))) (by decide +kernel))
    | 5, _, 2, _ => exact Or.inr (hgf (.not (.eq (.string "SaidTwice$Tokens" 69) (.string "SaidTwice$Tokens" 75))) (by decide +kernel))
    | 5, _, 3, _ => exact Or.inr (hgf (.not (.eq (.string "SaidTwice$Tokens" 71) (.string "SaidTwice$Tokens" 75))) (by decide +kernel))
    | 5, _, 4, _ => exact Or.inr (hgf (.not (.eq (.string "SaidTwice$Tokens" 73) (.string "SaidTwice$Tokens" 75))) (by decide +kernel))
    | 5, _, 5, _ => exact absurd rfl hij
    | 5, _, 6, _ => exact Or.inl (hgf (.not (.eq (.string "SaidTwice$Tokens" 75) (.string "SaidTwice$Tokens" 77))) (by decide +kernel))
    | 6, _, 0, _ => exact Or.inr (hgf (.not (.eq (.string "SaidTwice$Tokens" 61) (.string "SaidTwice$Tokens" 77))) (by decide +kernel))
    | 6, _, 1, _ => exact Or.inr (hgf (.not (.eq (.string "SaidTwice$Tokens" 67) (.string "SaidTwice$Tokens" 77))) (by decide +kernel))
    | 6, _, 2, _ => exact Or.inr (hgf (.not (.eq (.string "SaidTwice$Tokens" 69) (.string "SaidTwice$Tokens" 77))) (by decide +kernel))
    | 6, _, 3, _ => exact Or.inr (hgf (.not (.eq (.string "SaidTwice$Tokens" 71) (.string "SaidTwice$Tokens" 77))) (by decide +kernel))
    | 6, _, 4, _ => exact Or.inr (hgf (.not (.eq (.string "SaidTwice$Tokens" 73) (.string "SaidTwice$Tokens" 77))) (by decide +kernel))
    | 6, _, 5, _ => exact Or.inr (hgf (.not (.eq (.string "SaidTwice$Tokens" 75) (.string "SaidTwice$Tokens" 77))) (by decide +kernel))
    | 6, _, 6, _ => exact absurd rfl hij
    | i + 7, hi, _, _ => omega
    | _, _, j + 7, hj => omega
  obtain ⟨adK, adV, sE, sEv⟩ := vk_Sof (N := 7) (tm := (fun i => Term.string "SaidTwice$Tokens" (sIx.getD i 0))) (len := lenS) (byt := bytS) sN sX sCo sAr sLe sEl sNe hAn
  have hCS : va_Z "java/lang/String" "COMPACT_STRINGS" "Z" (.int 1) (fun q : Nat => s.heap.size ≤ q) s s.heap := va_Zof (hts (.laysStatic "java/lang/String" "COMPACT_STRINGS" "Z") (by decide +kernel)) (hts (.initialized "java/lang/String") (by decide +kernel)) (va_eqt (hgf (.eq (.static "java/lang/String" "COMPACT_STRINGS" "Z") (.int 1)) (by decide +kernel))) hAn
  obtain ⟨q3, hSI⟩ : ∃ q3 : Nat, va_Z "jdk/internal/util/Preconditions" "SIOOBE_FORMATTER" "Ljava/util/function/BiFunction;" .null (fun q : Nat => s.heap.size ≤ q) s s.heap ∨ va_Z "jdk/internal/util/Preconditions" "SIOOBE_FORMATTER" "Ljava/util/function/BiFunction;" (.ref q3) (fun q : Nat => s.heap.size ≤ q) s s.heap := by
    rcases va_Zqof (hts (.laysStatic "jdk/internal/util/Preconditions" "SIOOBE_FORMATTER" "Ljava/util/function/BiFunction;") (by decide +kernel)) (hts (.initialized "jdk/internal/util/Preconditions") (by decide +kernel)) (hgf (.isRef (.static "jdk/internal/util/Preconditions" "SIOOBE_FORMATTER" "Ljava/util/function/BiFunction;")) (by decide +kernel)) hAn with z | ⟨q, z⟩
    · exact ⟨0, Or.inl z⟩
    · exact ⟨q, Or.inr z⟩
  have sR : ∀ (i ix : Nat) (tx : String), sIx[i]? = some ix → sTx[i]? = some tx → vk_R "SaidTwice$Tokens" ix tx (adK i) s := by
    intro i ix tx h1 h2
    have hi : i < 7 := (List.getElem?_eq_some_iff.mp h1).1
    have ev := sEv i hi
    match i, hi with
    | 0, _ =>
      cases h1
      cases h2
      exact vk_R.of (hts (.stringRef "SaidTwice$Tokens" 61 "who") (by decide +kernel)) ev
    | 1, _ =>
      cases h1
      cases h2
      exact vk_R.of (hts (.stringRef "SaidTwice$Tokens" 67 "once") (by decide +kernel)) ev
    | 2, _ =>
      cases h1
      cases h2
      exact vk_R.of (hts (.stringRef "SaidTwice$Tokens" 69 "twice") (by decide +kernel)) ev
    | 3, _ =>
      cases h1
      cases h2
      exact vk_R.of (hts (.stringRef "SaidTwice$Tokens" 71 "costs") (by decide +kernel)) ev
    | 4, _ =>
      cases h1
      cases h2
      exact vk_R.of (hts (.stringRef "SaidTwice$Tokens" 73 "or") (by decide +kernel)) ev
    | 5, _ =>
      cases h1
      cases h2
      exact vk_R.of (hts (.stringRef "SaidTwice$Tokens" 75 "and") (by decide +kernel)) ev
    | 6, _ =>
      cases h1
      cases h2
      exact vk_R.of (hts (.stringRef "SaidTwice$Tokens" 77 "not") (by decide +kernel)) ev
    | i + 7, hi => omega
  obtain ⟨adX, hadX⟩ : ∃ adX : Nat → Nat, adX = fun k => if k = 1000 then t else if 1100 ≤ k ∧ k < 1107 then adK (k - 1100) else if 1200 ≤ k ∧ k < 1207 then adV (k - 1200) else if k = 1300 then q3 else b := ⟨_, rfl⟩
  have aK : ∀ i, i < 7 → adX (1000 + (100 + i)) = adK i := by
    intro i hi
    rw [hadX]
    show (if 1000 + (100 + i) = 1000 then t else if 1100 ≤ 1000 + (100 + i) ∧ 1000 + (100 + i) < 1107 then adK (1000 + (100 + i) - 1100) else _) = _
    rw [if_neg (by omega), if_pos (by omega), show 1000 + (100 + i) - 1100 = i by omega]
  have aV : ∀ i, i < 7 → adX (1000 + (200 + i)) = adV i := by
    intro i hi
    rw [hadX]
    show (if 1000 + (200 + i) = 1000 then t else if 1100 ≤ 1000 + (200 + i) ∧ 1000 + (200 + i) < 1107 then adK (1000 + (200 + i) - 1100) else if 1200 ≤ 1000 + (200 + i) ∧ 1000 + (200 + i) < 1207 then adV (1000 + (200 + i) - 1200) else _) = _
    rw [if_neg (by omega), if_neg (by omega), if_pos (by omega), show 1000 + (200 + i) - 1200 = i by omega]
  have a0 : adX (1000 + 0) = t := by rw [hadX]; rfl
  have a1 : adX (1000 + 1) = b := by rw [hadX]; rfl
  have a1' : adX 1001 = b := a1
  have a3 : adX (1000 + 300) = q3 := by rw [hadX]; rfl
  have hES : EFS (fun j => adX (1000 + j)) (fun q : Nat => s.heap.size ≤ q) s := by
    refine ⟨⟨fun i hi => ?_, fun i j hi hj z => ?_⟩, fun i ix tx h1 h2 => ?_, hCS, ?_⟩
    · have z := sE.1 i hi
      rw [← aK i hi, ← aV i hi] at z
      exact z
    · refine sE.2 i j hi hj ?_
      rw [← aK i hi, ← aK j hj]
      exact z
    · have hi : i < 7 := (List.getElem?_eq_some_iff.mp h1).1
      have z := sR i ix tx h1 h2
      rw [← aK i hi] at z
      exact z
    · rw [← a3] at hSI
      exact hSI
  have hEF : EF [soInL, (List.range L).map xs] (dC, dI) (fun j => if j = 0 then tI else tL) (fun j => adX (1000 + j)) (fun q : Nat => s.heap.size ≤ q) s := by
    refine ⟨hK, fun w hw => nest_tabs (NWL_nest w hw) (hts w (List.mem_filter.mp hw).1), by show va_Z "SaidTwice" "SO_IN" "[I" (.ref (adX (1000 + 0))) _ _ _; rw [a0]; exact hZ, fun j ys hj => ?_, hES⟩
    match j, hj with
    | 0, hj =>
      cases hj
      show roX (adX (1000 + 0)) _ _ _ ∧ adX (1000 + 0) < s.heap.size ∧ ¬ s.heap.size ≤ adX (1000 + 0)
      rw [a0]
      exact ⟨⟨cellT, g1, g2, g3, g4, g5, g6⟩, htl, hAn t htl⟩
    | 1, hj =>
      cases hj
      show roX (adX (1000 + 1)) _ _ _ ∧ adX (1000 + 1) < s.heap.size ∧ ¬ s.heap.size ≤ adX (1000 + 1)
      rw [a1]
      obtain ⟨scr, q1, q2, q3, q4, q5⟩ := hX
      refine ⟨⟨scr, q1, q2, q3, by simp [q4], by simp [q4], fun j hj => ?_⟩, hbl, hbA⟩
      have hj' : j < L := by simpa using hj
      rw [q5 j hj']
      simp [List.getD_eq_getElem?_getD, hj']
    | j + 2, hj => simp at hj
  have hl := lv_entry ([.ref b]) (n := 4) (Nat.le_of_ble_eq_true rfl)
  rw [lg_entry_eq]
  generalize (lg_sl ([.ref b]) ++ List.replicate (4 - (lg_sl ([.ref b])).length) Slot.unset).toArray = ls at hl ⊢
  refine h p e s m #[Value.ref b] below meth c (dC, dI) (fun j => if j = 0 then tI else tL) adX adX 0 (fun q : Nat => s.heap.size ≤ q) (lw_Z below #[Value.ref b] s) s.heap [] ls
    ⟨hx, hb, hml, hown, hts', fun z => absurd z (by decide : ¬ (sY sgL_law).name = "<init>"), hEF, hA⟩ ?_ ⟨fun k q h => by simp [cW] at h, ⟨fun i j p q h => by simp [cW] at h, fun k q h => by simp [cW] at h⟩, va_S.rf⟩ ⟨fun _ _ => rfl, fun _ => rfl⟩ (Nat.le_refl _) (Nat.zero_le _) (Nat.zero_le _) ?_
  · intro v hp ad H locs k n pc ls' hv hW hak hn0 hk hn hrt
    subst hv
    obtain ⟨hd, -⟩ := hrt
    refine va_forget hW.2.2.2.2 (W.widen hk hn ?_)
    exact lw_ret hx hb hr hlocks hd
  · refine ⟨rfl, hl.1, hl.2.1, fun j v hj => ?_⟩
    match j, hj with
    | 0, hj =>
      cases hj
      show ls[0]? = some (.val (.ref (adX 1001)))
      rw [a1']
      exact hl.2.2 (0, .ref b) List.mem_cons_self
    | 1, hj => cases hj
    | 2, hj => cases hj
    | 3, hj => cases hj
    | j + 4, hj => simp at hj
end
