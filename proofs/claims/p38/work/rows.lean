section
-- ===== PART A: goes FIRST, ahead of the names: the tables' words, and 'selects' of the private methods out of them =====
/-- a private method of a class that the tables say can be made, by its rows of tables_1 -/
def lw_okq (q : MethodName × Nat) : Prop := (q.1.cls ≠ "java/lang/invoke/MethodHandle" ∧ q.1.cls ≠ "java/lang/invoke/VarHandle") ∧ Cond.instantiable q.1.cls q.2 ∈ tables_1 ∧ Cond.privateMethod q.1 ∈ tables_1 ∧ Cond.instanceMethod q.1 ∈ tables_1
theorem lw_p0 : lw_okq (⟨"SaidTwice$Tokens", "append", "(I)V"⟩, 6) := ⟨⟨by decide +kernel, by decide +kernel⟩, List.mem_of_getElem? (i := 25) (by decide +kernel), List.mem_of_getElem? (i := 230) (by decide +kernel), List.mem_of_getElem? (i := 231) (by decide +kernel)⟩
theorem lw_p1 : lw_okq (⟨"SaidTwice$Grammar", "readText", "()Z"⟩, 2) := ⟨⟨by decide +kernel, by decide +kernel⟩, List.mem_of_getElem? (i := 80) (by decide +kernel), List.mem_of_getElem? (i := 239) (by decide +kernel), List.mem_of_getElem? (i := 240) (by decide +kernel)⟩
theorem lw_p2 : lw_okq (⟨"SaidTwice$Tokens", "start", "()V"⟩, 6) := ⟨⟨by decide +kernel, by decide +kernel⟩, List.mem_of_getElem? (i := 25) (by decide +kernel), List.mem_of_getElem? (i := 243) (by decide +kernel), List.mem_of_getElem? (i := 244) (by decide +kernel)⟩
theorem lw_p3 : lw_okq (⟨"SaidTwice$Tokens", "advance", "()V"⟩, 6) := ⟨⟨by decide +kernel, by decide +kernel⟩, List.mem_of_getElem? (i := 25) (by decide +kernel), List.mem_of_getElem? (i := 247) (by decide +kernel), List.mem_of_getElem? (i := 248) (by decide +kernel)⟩
theorem lw_p4 : lw_okq (⟨"SaidTwice$Tokens", "readWord", "()V"⟩, 6) := ⟨⟨by decide +kernel, by decide +kernel⟩, List.mem_of_getElem? (i := 25) (by decide +kernel), List.mem_of_getElem? (i := 260) (by decide +kernel), List.mem_of_getElem? (i := 261) (by decide +kernel)⟩
theorem lw_p5 : lw_okq (⟨"SaidTwice$Tokens", "spells", "(Ljava/lang/String;)Z"⟩, 6) := ⟨⟨by decide +kernel, by decide +kernel⟩, List.mem_of_getElem? (i := 25) (by decide +kernel), List.mem_of_getElem? (i := 265) (by decide +kernel), List.mem_of_getElem? (i := 266) (by decide +kernel)⟩
theorem lw_p6 : lw_okq (⟨"SaidTwice$Tokens", "readNumber", "()V"⟩, 6) := ⟨⟨by decide +kernel, by decide +kernel⟩, List.mem_of_getElem? (i := 25) (by decide +kernel), List.mem_of_getElem? (i := 326) (by decide +kernel), List.mem_of_getElem? (i := 327) (by decide +kernel)⟩
theorem lw_p7 : lw_okq (⟨"SaidTwice$Code", "clear", "()V"⟩, 6) := ⟨⟨by decide +kernel, by decide +kernel⟩, List.mem_of_getElem? (i := 55) (by decide +kernel), List.mem_of_getElem? (i := 333) (by decide +kernel), List.mem_of_getElem? (i := 334) (by decide +kernel)⟩
theorem lw_p8 : lw_okq (⟨"SaidTwice$Grammar", "readToken", "(I)Z"⟩, 2) := ⟨⟨by decide +kernel, by decide +kernel⟩, List.mem_of_getElem? (i := 80) (by decide +kernel), List.mem_of_getElem? (i := 337) (by decide +kernel), List.mem_of_getElem? (i := 338) (by decide +kernel)⟩
theorem lw_p9 : lw_okq (⟨"SaidTwice$Grammar", "readOr", "(I)Z"⟩, 2) := ⟨⟨by decide +kernel, by decide +kernel⟩, List.mem_of_getElem? (i := 80) (by decide +kernel), List.mem_of_getElem? (i := 342) (by decide +kernel), List.mem_of_getElem? (i := 343) (by decide +kernel)⟩
theorem lw_p10 : lw_okq (⟨"SaidTwice$Grammar", "readAnd", "(I)Z"⟩, 2) := ⟨⟨by decide +kernel, by decide +kernel⟩, List.mem_of_getElem? (i := 80) (by decide +kernel), List.mem_of_getElem? (i := 346) (by decide +kernel), List.mem_of_getElem? (i := 347) (by decide +kernel)⟩
theorem lw_p11 : lw_okq (⟨"SaidTwice$Grammar", "readNot", "(I)Z"⟩, 2) := ⟨⟨by decide +kernel, by decide +kernel⟩, List.mem_of_getElem? (i := 80) (by decide +kernel), List.mem_of_getElem? (i := 350) (by decide +kernel), List.mem_of_getElem? (i := 351) (by decide +kernel)⟩
theorem lw_p12 : lw_okq (⟨"SaidTwice$Grammar", "readCompared", "(I)Z"⟩, 2) := ⟨⟨by decide +kernel, by decide +kernel⟩, List.mem_of_getElem? (i := 80) (by decide +kernel), List.mem_of_getElem? (i := 354) (by decide +kernel), List.mem_of_getElem? (i := 355) (by decide +kernel)⟩
theorem lw_p13 : lw_okq (⟨"SaidTwice$Grammar", "readSum", "(I)Z"⟩, 2) := ⟨⟨by decide +kernel, by decide +kernel⟩, List.mem_of_getElem? (i := 80) (by decide +kernel), List.mem_of_getElem? (i := 358) (by decide +kernel), List.mem_of_getElem? (i := 359) (by decide +kernel)⟩
theorem lw_p14 : lw_okq (⟨"SaidTwice$Grammar", "readTerm", "(I)Z"⟩, 2) := ⟨⟨by decide +kernel, by decide +kernel⟩, List.mem_of_getElem? (i := 80) (by decide +kernel), List.mem_of_getElem? (i := 362) (by decide +kernel), List.mem_of_getElem? (i := 363) (by decide +kernel)⟩
theorem lw_p15 : lw_okq (⟨"SaidTwice$Grammar", "readOne", "(I)Z"⟩, 2) := ⟨⟨by decide +kernel, by decide +kernel⟩, List.mem_of_getElem? (i := 80) (by decide +kernel), List.mem_of_getElem? (i := 366) (by decide +kernel), List.mem_of_getElem? (i := 367) (by decide +kernel)⟩
def lw_privs_1 : List (MethodName × Nat) := [(⟨"SaidTwice$Tokens", "append", "(I)V"⟩, 6), (⟨"SaidTwice$Grammar", "readText", "()Z"⟩, 2), (⟨"SaidTwice$Tokens", "start", "()V"⟩, 6), (⟨"SaidTwice$Tokens", "advance", "()V"⟩, 6), (⟨"SaidTwice$Tokens", "readWord", "()V"⟩, 6), (⟨"SaidTwice$Tokens", "spells", "(Ljava/lang/String;)Z"⟩, 6), (⟨"SaidTwice$Tokens", "readNumber", "()V"⟩, 6), (⟨"SaidTwice$Code", "clear", "()V"⟩, 6), (⟨"SaidTwice$Grammar", "readToken", "(I)Z"⟩, 2), (⟨"SaidTwice$Grammar", "readOr", "(I)Z"⟩, 2), (⟨"SaidTwice$Grammar", "readAnd", "(I)Z"⟩, 2), (⟨"SaidTwice$Grammar", "readNot", "(I)Z"⟩, 2), (⟨"SaidTwice$Grammar", "readCompared", "(I)Z"⟩, 2), (⟨"SaidTwice$Grammar", "readSum", "(I)Z"⟩, 2), (⟨"SaidTwice$Grammar", "readTerm", "(I)Z"⟩, 2), (⟨"SaidTwice$Grammar", "readOne", "(I)Z"⟩, 2)]
theorem lw_r1 : ∀ q ∈ lw_privs_1, lw_okq q := List.forall_mem_cons.mpr ⟨lw_p0, List.forall_mem_cons.mpr ⟨lw_p1, List.forall_mem_cons.mpr ⟨lw_p2, List.forall_mem_cons.mpr ⟨lw_p3, List.forall_mem_cons.mpr ⟨lw_p4, List.forall_mem_cons.mpr ⟨lw_p5, List.forall_mem_cons.mpr ⟨lw_p6, List.forall_mem_cons.mpr ⟨lw_p7, List.forall_mem_cons.mpr ⟨lw_p8, List.forall_mem_cons.mpr ⟨lw_p9, List.forall_mem_cons.mpr ⟨lw_p10, List.forall_mem_cons.mpr ⟨lw_p11, List.forall_mem_cons.mpr ⟨lw_p12, List.forall_mem_cons.mpr ⟨lw_p13, List.forall_mem_cons.mpr ⟨lw_p14, List.forall_mem_cons.mpr ⟨lw_p15, fun _ h => absurd h List.not_mem_nil⟩⟩⟩⟩⟩⟩⟩⟩⟩⟩⟩⟩⟩⟩⟩⟩
theorem lw_p16 : lw_okq (⟨"SaidTwice$Code", "add", "(II)V"⟩, 6) := ⟨⟨by decide +kernel, by decide +kernel⟩, List.mem_of_getElem? (i := 55) (by decide +kernel), List.mem_of_getElem? (i := 370) (by decide +kernel), List.mem_of_getElem? (i := 371) (by decide +kernel)⟩
theorem lw_p17 : lw_okq (⟨"SaidTwice$Grammar", "readBracket", "(I)Z"⟩, 2) := ⟨⟨by decide +kernel, by decide +kernel⟩, List.mem_of_getElem? (i := 80) (by decide +kernel), List.mem_of_getElem? (i := 375) (by decide +kernel), List.mem_of_getElem? (i := 376) (by decide +kernel)⟩
theorem lw_p18 : lw_okq (⟨"SaidTwice$Code", "endPart", "(I)V"⟩, 6) := ⟨⟨by decide +kernel, by decide +kernel⟩, List.mem_of_getElem? (i := 55) (by decide +kernel), List.mem_of_getElem? (i := 379) (by decide +kernel), List.mem_of_getElem? (i := 380) (by decide +kernel)⟩
theorem lw_p19 : lw_okq (⟨"SaidTwice$Texts", "add", "(LSaidTwice$Code;)V"⟩, 4) := ⟨⟨by decide +kernel, by decide +kernel⟩, List.mem_of_getElem? (i := 93) (by decide +kernel), List.mem_of_getElem? (i := 383) (by decide +kernel), List.mem_of_getElem? (i := 384) (by decide +kernel)⟩
theorem lw_p20 : lw_okq (⟨"SaidTwice$Code", "truths", "(II)I"⟩, 6) := ⟨⟨by decide +kernel, by decide +kernel⟩, List.mem_of_getElem? (i := 55) (by decide +kernel), List.mem_of_getElem? (i := 387) (by decide +kernel), List.mem_of_getElem? (i := 388) (by decide +kernel)⟩
theorem lw_p21 : lw_okq (⟨"SaidTwice$Code", "valueOf", "(III)I"⟩, 6) := ⟨⟨by decide +kernel, by decide +kernel⟩, List.mem_of_getElem? (i := 55) (by decide +kernel), List.mem_of_getElem? (i := 391) (by decide +kernel), List.mem_of_getElem? (i := 392) (by decide +kernel)⟩
theorem lw_p22 : lw_okq (⟨"SaidTwice$Code", "step", "(IIII)V"⟩, 6) := ⟨⟨by decide +kernel, by decide +kernel⟩, List.mem_of_getElem? (i := 55) (by decide +kernel), List.mem_of_getElem? (i := 396) (by decide +kernel), List.mem_of_getElem? (i := 397) (by decide +kernel)⟩
theorem lw_p23 : lw_okq (⟨"SaidTwice$Code", "push", "(I)V"⟩, 6) := ⟨⟨by decide +kernel, by decide +kernel⟩, List.mem_of_getElem? (i := 55) (by decide +kernel), List.mem_of_getElem? (i := 400) (by decide +kernel), List.mem_of_getElem? (i := 401) (by decide +kernel)⟩
theorem lw_p24 : lw_okq (⟨"SaidTwice$Code", "pop", "()I"⟩, 6) := ⟨⟨by decide +kernel, by decide +kernel⟩, List.mem_of_getElem? (i := 55) (by decide +kernel), List.mem_of_getElem? (i := 407) (by decide +kernel), List.mem_of_getElem? (i := 408) (by decide +kernel)⟩
theorem lw_p25 : lw_okq (⟨"SaidTwice", "isText", "(I)Z"⟩, 9) := ⟨⟨by decide +kernel, by decide +kernel⟩, List.mem_of_getElem? (i := 17) (by decide +kernel), List.mem_of_getElem? (i := 426) (by decide +kernel), List.mem_of_getElem? (i := 427) (by decide +kernel)⟩
theorem lw_p26 : lw_okq (⟨"SaidTwice$Texts", "costOf", "(II)I"⟩, 4) := ⟨⟨by decide +kernel, by decide +kernel⟩, List.mem_of_getElem? (i := 93) (by decide +kernel), List.mem_of_getElem? (i := 440) (by decide +kernel), List.mem_of_getElem? (i := 441) (by decide +kernel)⟩
theorem lw_p27 : lw_okq (⟨"SaidTwice$Texts", "side", "(III)I"⟩, 4) := ⟨⟨by decide +kernel, by decide +kernel⟩, List.mem_of_getElem? (i := 93) (by decide +kernel), List.mem_of_getElem? (i := 445) (by decide +kernel), List.mem_of_getElem? (i := 446) (by decide +kernel)⟩
theorem lw_p28 : lw_okq (⟨"SaidTwice$Talk", "become", "(III)V"⟩, 6) := ⟨⟨by decide +kernel, by decide +kernel⟩, List.mem_of_getElem? (i := 116) (by decide +kernel), List.mem_of_getElem? (i := 473) (by decide +kernel), List.mem_of_getElem? (i := 474) (by decide +kernel)⟩
theorem lw_p29 : lw_okq (⟨"SaidTwice", "isSpeaker", "(I)Z"⟩, 9) := ⟨⟨by decide +kernel, by decide +kernel⟩, List.mem_of_getElem? (i := 17) (by decide +kernel), List.mem_of_getElem? (i := 482) (by decide +kernel), List.mem_of_getElem? (i := 483) (by decide +kernel)⟩
theorem lw_p30 : lw_okq (⟨"SaidTwice$Talk", "append", "(III)V"⟩, 6) := ⟨⟨by decide +kernel, by decide +kernel⟩, List.mem_of_getElem? (i := 116) (by decide +kernel), List.mem_of_getElem? (i := 495) (by decide +kernel), List.mem_of_getElem? (i := 496) (by decide +kernel)⟩
theorem lw_p31 : lw_okq (⟨"SaidTwice$Talk", "sayingPart", "(II)I"⟩, 6) := ⟨⟨by decide +kernel, by decide +kernel⟩, List.mem_of_getElem? (i := 116) (by decide +kernel), List.mem_of_getElem? (i := 507) (by decide +kernel), List.mem_of_getElem? (i := 508) (by decide +kernel)⟩
def lw_privs_2 : List (MethodName × Nat) := [(⟨"SaidTwice$Code", "add", "(II)V"⟩, 6), (⟨"SaidTwice$Grammar", "readBracket", "(I)Z"⟩, 2), (⟨"SaidTwice$Code", "endPart", "(I)V"⟩, 6), (⟨"SaidTwice$Texts", "add", "(LSaidTwice$Code;)V"⟩, 4), (⟨"SaidTwice$Code", "truths", "(II)I"⟩, 6), (⟨"SaidTwice$Code", "valueOf", "(III)I"⟩, 6), (⟨"SaidTwice$Code", "step", "(IIII)V"⟩, 6), (⟨"SaidTwice$Code", "push", "(I)V"⟩, 6), (⟨"SaidTwice$Code", "pop", "()I"⟩, 6), (⟨"SaidTwice", "isText", "(I)Z"⟩, 9), (⟨"SaidTwice$Texts", "costOf", "(II)I"⟩, 4), (⟨"SaidTwice$Texts", "side", "(III)I"⟩, 4), (⟨"SaidTwice$Talk", "become", "(III)V"⟩, 6), (⟨"SaidTwice", "isSpeaker", "(I)Z"⟩, 9), (⟨"SaidTwice$Talk", "append", "(III)V"⟩, 6), (⟨"SaidTwice$Talk", "sayingPart", "(II)I"⟩, 6)]
theorem lw_r2 : ∀ q ∈ lw_privs_2, lw_okq q := List.forall_mem_cons.mpr ⟨lw_p16, List.forall_mem_cons.mpr ⟨lw_p17, List.forall_mem_cons.mpr ⟨lw_p18, List.forall_mem_cons.mpr ⟨lw_p19, List.forall_mem_cons.mpr ⟨lw_p20, List.forall_mem_cons.mpr ⟨lw_p21, List.forall_mem_cons.mpr ⟨lw_p22, List.forall_mem_cons.mpr ⟨lw_p23, List.forall_mem_cons.mpr ⟨lw_p24, List.forall_mem_cons.mpr ⟨lw_p25, List.forall_mem_cons.mpr ⟨lw_p26, List.forall_mem_cons.mpr ⟨lw_p27, List.forall_mem_cons.mpr ⟨lw_p28, List.forall_mem_cons.mpr ⟨lw_p29, List.forall_mem_cons.mpr ⟨lw_p30, List.forall_mem_cons.mpr ⟨lw_p31, fun _ h => absurd h List.not_mem_nil⟩⟩⟩⟩⟩⟩⟩⟩⟩⟩⟩⟩⟩⟩⟩⟩
theorem lw_p32 : lw_okq (⟨"SaidTwice", "fitting", "()I"⟩, 9) := ⟨⟨by decide +kernel, by decide +kernel⟩, List.mem_of_getElem? (i := 17) (by decide +kernel), List.mem_of_getElem? (i := 516) (by decide +kernel), List.mem_of_getElem? (i := 517) (by decide +kernel)⟩
theorem lw_p33 : lw_okq (⟨"SaidTwice", "fittingFirst", "(I)I"⟩, 9) := ⟨⟨by decide +kernel, by decide +kernel⟩, List.mem_of_getElem? (i := 17) (by decide +kernel), List.mem_of_getElem? (i := 520) (by decide +kernel), List.mem_of_getElem? (i := 521) (by decide +kernel)⟩
theorem lw_p34 : lw_okq (⟨"SaidTwice", "lawful", "()I"⟩, 9) := ⟨⟨by decide +kernel, by decide +kernel⟩, List.mem_of_getElem? (i := 17) (by decide +kernel), List.mem_of_getElem? (i := 524) (by decide +kernel), List.mem_of_getElem? (i := 525) (by decide +kernel)⟩
theorem lw_p35 : lw_okq (⟨"SaidTwice", "onceOf", "(I)I"⟩, 9) := ⟨⟨by decide +kernel, by decide +kernel⟩, List.mem_of_getElem? (i := 17) (by decide +kernel), List.mem_of_getElem? (i := 528) (by decide +kernel), List.mem_of_getElem? (i := 529) (by decide +kernel)⟩
theorem lw_p36 : lw_okq (⟨"SaidTwice", "sayable", "(I)I"⟩, 9) := ⟨⟨by decide +kernel, by decide +kernel⟩, List.mem_of_getElem? (i := 17) (by decide +kernel), List.mem_of_getElem? (i := 532) (by decide +kernel), List.mem_of_getElem? (i := 533) (by decide +kernel)⟩
theorem lw_p37 : lw_okq (⟨"SaidTwice", "sayableAs", "(II)I"⟩, 9) := ⟨⟨by decide +kernel, by decide +kernel⟩, List.mem_of_getElem? (i := 17) (by decide +kernel), List.mem_of_getElem? (i := 536) (by decide +kernel), List.mem_of_getElem? (i := 537) (by decide +kernel)⟩
theorem lw_p38 : lw_okq (⟨"SaidTwice", "firstSaid", "(I)I"⟩, 9) := ⟨⟨by decide +kernel, by decide +kernel⟩, List.mem_of_getElem? (i := 17) (by decide +kernel), List.mem_of_getElem? (i := 540) (by decide +kernel), List.mem_of_getElem? (i := 541) (by decide +kernel)⟩
theorem lw_p39 : lw_okq (⟨"SaidTwice", "secondSaid", "(I)I"⟩, 9) := ⟨⟨by decide +kernel, by decide +kernel⟩, List.mem_of_getElem? (i := 17) (by decide +kernel), List.mem_of_getElem? (i := 544) (by decide +kernel), List.mem_of_getElem? (i := 545) (by decide +kernel)⟩
theorem lw_p40 : lw_okq (⟨"SaidTwice", "fittingWithout", "(I)I"⟩, 9) := ⟨⟨by decide +kernel, by decide +kernel⟩, List.mem_of_getElem? (i := 17) (by decide +kernel), List.mem_of_getElem? (i := 583) (by decide +kernel), List.mem_of_getElem? (i := 584) (by decide +kernel)⟩
theorem lw_p41 : lw_okq (⟨"SaidTwice", "misfits", "(I)I"⟩, 9) := ⟨⟨by decide +kernel, by decide +kernel⟩, List.mem_of_getElem? (i := 17) (by decide +kernel), List.mem_of_getElem? (i := 591) (by decide +kernel), List.mem_of_getElem? (i := 592) (by decide +kernel)⟩
theorem lw_p42 : lw_okq (⟨"SaidTwice", "fittingWereMad", "(I)I"⟩, 9) := ⟨⟨by decide +kernel, by decide +kernel⟩, List.mem_of_getElem? (i := 17) (by decide +kernel), List.mem_of_getElem? (i := 602) (by decide +kernel), List.mem_of_getElem? (i := 603) (by decide +kernel)⟩
theorem lw_p43 : lw_okq (⟨"SaidTwice", "allSayableWere", "(II)I"⟩, 9) := ⟨⟨by decide +kernel, by decide +kernel⟩, List.mem_of_getElem? (i := 17) (by decide +kernel), List.mem_of_getElem? (i := 620) (by decide +kernel), List.mem_of_getElem? (i := 621) (by decide +kernel)⟩
theorem lw_p44 : lw_okq (⟨"SaidTwice", "findBest", "(II)Z"⟩, 9) := ⟨⟨by decide +kernel, by decide +kernel⟩, List.mem_of_getElem? (i := 17) (by decide +kernel), List.mem_of_getElem? (i := 628) (by decide +kernel), List.mem_of_getElem? (i := 629) (by decide +kernel)⟩
theorem lw_p45 : lw_okq (⟨"SaidTwice", "worstOf", "(IIII)I"⟩, 9) := ⟨⟨by decide +kernel, by decide +kernel⟩, List.mem_of_getElem? (i := 17) (by decide +kernel), List.mem_of_getElem? (i := 632) (by decide +kernel), List.mem_of_getElem? (i := 633) (by decide +kernel)⟩
theorem lw_p46 : lw_okq (⟨"SaidTwice", "sayableNext", "(IIII)I"⟩, 9) := ⟨⟨by decide +kernel, by decide +kernel⟩, List.mem_of_getElem? (i := 17) (by decide +kernel), List.mem_of_getElem? (i := 636) (by decide +kernel), List.mem_of_getElem? (i := 637) (by decide +kernel)⟩
theorem lw_p47 : lw_okq (⟨"SaidTwice$Question", "consider", "(IIII)V"⟩, 4) := ⟨⟨by decide +kernel, by decide +kernel⟩, List.mem_of_getElem? (i := 168) (by decide +kernel), List.mem_of_getElem? (i := 641) (by decide +kernel), List.mem_of_getElem? (i := 642) (by decide +kernel)⟩
def lw_privs_3 : List (MethodName × Nat) := [(⟨"SaidTwice", "fitting", "()I"⟩, 9), (⟨"SaidTwice", "fittingFirst", "(I)I"⟩, 9), (⟨"SaidTwice", "lawful", "()I"⟩, 9), (⟨"SaidTwice", "onceOf", "(I)I"⟩, 9), (⟨"SaidTwice", "sayable", "(I)I"⟩, 9), (⟨"SaidTwice", "sayableAs", "(II)I"⟩, 9), (⟨"SaidTwice", "firstSaid", "(I)I"⟩, 9), (⟨"SaidTwice", "secondSaid", "(I)I"⟩, 9), (⟨"SaidTwice", "fittingWithout", "(I)I"⟩, 9), (⟨"SaidTwice", "misfits", "(I)I"⟩, 9), (⟨"SaidTwice", "fittingWereMad", "(I)I"⟩, 9), (⟨"SaidTwice", "allSayableWere", "(II)I"⟩, 9), (⟨"SaidTwice", "findBest", "(II)Z"⟩, 9), (⟨"SaidTwice", "worstOf", "(IIII)I"⟩, 9), (⟨"SaidTwice", "sayableNext", "(IIII)I"⟩, 9), (⟨"SaidTwice$Question", "consider", "(IIII)V"⟩, 4)]
theorem lw_r3 : ∀ q ∈ lw_privs_3, lw_okq q := List.forall_mem_cons.mpr ⟨lw_p32, List.forall_mem_cons.mpr ⟨lw_p33, List.forall_mem_cons.mpr ⟨lw_p34, List.forall_mem_cons.mpr ⟨lw_p35, List.forall_mem_cons.mpr ⟨lw_p36, List.forall_mem_cons.mpr ⟨lw_p37, List.forall_mem_cons.mpr ⟨lw_p38, List.forall_mem_cons.mpr ⟨lw_p39, List.forall_mem_cons.mpr ⟨lw_p40, List.forall_mem_cons.mpr ⟨lw_p41, List.forall_mem_cons.mpr ⟨lw_p42, List.forall_mem_cons.mpr ⟨lw_p43, List.forall_mem_cons.mpr ⟨lw_p44, List.forall_mem_cons.mpr ⟨lw_p45, List.forall_mem_cons.mpr ⟨lw_p46, List.forall_mem_cons.mpr ⟨lw_p47, fun _ h => absurd h List.not_mem_nil⟩⟩⟩⟩⟩⟩⟩⟩⟩⟩⟩⟩⟩⟩⟩⟩
theorem lw_p48 : lw_okq (⟨"SaidTwice", "worstBehind", "(III)I"⟩, 9) := ⟨⟨by decide +kernel, by decide +kernel⟩, List.mem_of_getElem? (i := 17) (by decide +kernel), List.mem_of_getElem? (i := 649) (by decide +kernel), List.mem_of_getElem? (i := 650) (by decide +kernel)⟩
theorem lw_p49 : lw_okq (⟨"SaidTwice", "settles", "(II)Z"⟩, 9) := ⟨⟨by decide +kernel, by decide +kernel⟩, List.mem_of_getElem? (i := 17) (by decide +kernel), List.mem_of_getElem? (i := 673) (by decide +kernel), List.mem_of_getElem? (i := 674) (by decide +kernel)⟩
theorem lw_p50 : lw_okq (⟨"SaidTwice", "markOf", "(II)I"⟩, 9) := ⟨⟨by decide +kernel, by decide +kernel⟩, List.mem_of_getElem? (i := 17) (by decide +kernel), List.mem_of_getElem? (i := 677) (by decide +kernel), List.mem_of_getElem? (i := 678) (by decide +kernel)⟩
theorem lw_p51 : lw_okq (⟨"SaidTwice$Sheets", "isMissing", "(I)Z"⟩, 4) := ⟨⟨by decide +kernel, by decide +kernel⟩, List.mem_of_getElem? (i := 146) (by decide +kernel), List.mem_of_getElem? (i := 694) (by decide +kernel), List.mem_of_getElem? (i := 695) (by decide +kernel)⟩
theorem lw_p52 : lw_okq (⟨"SaidTwice", "rowFits", "(III)Z"⟩, 9) := ⟨⟨by decide +kernel, by decide +kernel⟩, List.mem_of_getElem? (i := 17) (by decide +kernel), List.mem_of_getElem? (i := 699) (by decide +kernel), List.mem_of_getElem? (i := 700) (by decide +kernel)⟩
theorem lw_p53 : lw_okq (⟨"SaidTwice$Sheets", "read", "(II)I"⟩, 4) := ⟨⟨by decide +kernel, by decide +kernel⟩, List.mem_of_getElem? (i := 146) (by decide +kernel), List.mem_of_getElem? (i := 703) (by decide +kernel), List.mem_of_getElem? (i := 704) (by decide +kernel)⟩
theorem lw_p54 : lw_okq (⟨"SaidTwice$Sheets", "make", "(III)V"⟩, 4) := ⟨⟨by decide +kernel, by decide +kernel⟩, List.mem_of_getElem? (i := 146) (by decide +kernel), List.mem_of_getElem? (i := 711) (by decide +kernel), List.mem_of_getElem? (i := 712) (by decide +kernel)⟩
theorem lw_p55 : lw_okq (⟨"SaidTwice$Sheets", "write", "(III)V"⟩, 4) := ⟨⟨by decide +kernel, by decide +kernel⟩, List.mem_of_getElem? (i := 146) (by decide +kernel), List.mem_of_getElem? (i := 715) (by decide +kernel), List.mem_of_getElem? (i := 716) (by decide +kernel)⟩
theorem lw_p56 : lw_okq (⟨"SaidTwice", "strangerAsks", "(II)I"⟩, 9) := ⟨⟨by decide +kernel, by decide +kernel⟩, List.mem_of_getElem? (i := 17) (by decide +kernel), List.mem_of_getElem? (i := 724) (by decide +kernel), List.mem_of_getElem? (i := 725) (by decide +kernel)⟩
theorem lw_p57 : lw_okq (⟨"SaidTwice", "answered", "(IIZ)I"⟩, 9) := ⟨⟨by decide +kernel, by decide +kernel⟩, List.mem_of_getElem? (i := 17) (by decide +kernel), List.mem_of_getElem? (i := 734) (by decide +kernel), List.mem_of_getElem? (i := 735) (by decide +kernel)⟩
theorem lw_p58 : lw_okq (⟨"SaidTwice$Talk", "becomeLike", "(LSaidTwice$Talk;)V"⟩, 6) := ⟨⟨by decide +kernel, by decide +kernel⟩, List.mem_of_getElem? (i := 116) (by decide +kernel), List.mem_of_getElem? (i := 746) (by decide +kernel), List.mem_of_getElem? (i := 747) (by decide +kernel)⟩
theorem lw_p59 : lw_okq (⟨"SaidTwice$Sheets", "holds", "(II)Z"⟩, 4) := ⟨⟨by decide +kernel, by decide +kernel⟩, List.mem_of_getElem? (i := 146) (by decide +kernel), List.mem_of_getElem? (i := 763) (by decide +kernel), List.mem_of_getElem? (i := 764) (by decide +kernel)⟩
theorem lw_p60 : lw_okq (⟨"SaidTwice$Sheets", "holdsRun", "(III)Z"⟩, 4) := ⟨⟨by decide +kernel, by decide +kernel⟩, List.mem_of_getElem? (i := 146) (by decide +kernel), List.mem_of_getElem? (i := 772) (by decide +kernel), List.mem_of_getElem? (i := 773) (by decide +kernel)⟩
theorem lw_p61 : lw_okq (⟨"SaidTwice$Sheets", "move", "(IIIII)V"⟩, 4) := ⟨⟨by decide +kernel, by decide +kernel⟩, List.mem_of_getElem? (i := 146) (by decide +kernel), List.mem_of_getElem? (i := 776) (by decide +kernel), List.mem_of_getElem? (i := 777) (by decide +kernel)⟩
theorem lw_p62 : lw_okq (⟨"SaidTwice", "sayingTaken", "(II)I"⟩, 9) := ⟨⟨by decide +kernel, by decide +kernel⟩, List.mem_of_getElem? (i := 17) (by decide +kernel), List.mem_of_getElem? (i := 791) (by decide +kernel), List.mem_of_getElem? (i := 792) (by decide +kernel)⟩
theorem lw_p63 : lw_okq (⟨"SaidTwice", "speakerTaken", "(II)I"⟩, 9) := ⟨⟨by decide +kernel, by decide +kernel⟩, List.mem_of_getElem? (i := 17) (by decide +kernel), List.mem_of_getElem? (i := 795) (by decide +kernel), List.mem_of_getElem? (i := 796) (by decide +kernel)⟩
def lw_privs_4 : List (MethodName × Nat) := [(⟨"SaidTwice", "worstBehind", "(III)I"⟩, 9), (⟨"SaidTwice", "settles", "(II)Z"⟩, 9), (⟨"SaidTwice", "markOf", "(II)I"⟩, 9), (⟨"SaidTwice$Sheets", "isMissing", "(I)Z"⟩, 4), (⟨"SaidTwice", "rowFits", "(III)Z"⟩, 9), (⟨"SaidTwice$Sheets", "read", "(II)I"⟩, 4), (⟨"SaidTwice$Sheets", "make", "(III)V"⟩, 4), (⟨"SaidTwice$Sheets", "write", "(III)V"⟩, 4), (⟨"SaidTwice", "strangerAsks", "(II)I"⟩, 9), (⟨"SaidTwice", "answered", "(IIZ)I"⟩, 9), (⟨"SaidTwice$Talk", "becomeLike", "(LSaidTwice$Talk;)V"⟩, 6), (⟨"SaidTwice$Sheets", "holds", "(II)Z"⟩, 4), (⟨"SaidTwice$Sheets", "holdsRun", "(III)Z"⟩, 4), (⟨"SaidTwice$Sheets", "move", "(IIIII)V"⟩, 4), (⟨"SaidTwice", "sayingTaken", "(II)I"⟩, 9), (⟨"SaidTwice", "speakerTaken", "(II)I"⟩, 9)]
theorem lw_r4 : ∀ q ∈ lw_privs_4, lw_okq q := List.forall_mem_cons.mpr ⟨lw_p48, List.forall_mem_cons.mpr ⟨lw_p49, List.forall_mem_cons.mpr ⟨lw_p50, List.forall_mem_cons.mpr ⟨lw_p51, List.forall_mem_cons.mpr ⟨lw_p52, List.forall_mem_cons.mpr ⟨lw_p53, List.forall_mem_cons.mpr ⟨lw_p54, List.forall_mem_cons.mpr ⟨lw_p55, List.forall_mem_cons.mpr ⟨lw_p56, List.forall_mem_cons.mpr ⟨lw_p57, List.forall_mem_cons.mpr ⟨lw_p58, List.forall_mem_cons.mpr ⟨lw_p59, List.forall_mem_cons.mpr ⟨lw_p60, List.forall_mem_cons.mpr ⟨lw_p61, List.forall_mem_cons.mpr ⟨lw_p62, List.forall_mem_cons.mpr ⟨lw_p63, fun _ h => absurd h List.not_mem_nil⟩⟩⟩⟩⟩⟩⟩⟩⟩⟩⟩⟩⟩⟩⟩⟩
theorem lw_p64 : lw_okq (⟨"SaidTwiceModel", "next", "()V"⟩, 37) := ⟨⟨by decide +kernel, by decide +kernel⟩, List.mem_of_getElem? (i := 802) (by decide +kernel), List.mem_of_getElem? (i := 812) (by decide +kernel), List.mem_of_getElem? (i := 813) (by decide +kernel)⟩
theorem lw_p65 : lw_okq (⟨"SaidTwiceModel", "wordFrom", "(II)I"⟩, 37) := ⟨⟨by decide +kernel, by decide +kernel⟩, List.mem_of_getElem? (i := 802) (by decide +kernel), List.mem_of_getElem? (i := 819) (by decide +kernel), List.mem_of_getElem? (i := 820) (by decide +kernel)⟩
theorem lw_p66 : lw_okq (⟨"SaidTwiceModel", "eRead", "()Z"⟩, 37) := ⟨⟨by decide +kernel, by decide +kernel⟩, List.mem_of_getElem? (i := 802) (by decide +kernel), List.mem_of_getElem? (i := 823) (by decide +kernel), List.mem_of_getElem? (i := 824) (by decide +kernel)⟩
theorem lw_p67 : lw_okq (⟨"SaidTwiceModel", "puts", "(I)V"⟩, 37) := ⟨⟨by decide +kernel, by decide +kernel⟩, List.mem_of_getElem? (i := 802) (by decide +kernel), List.mem_of_getElem? (i := 828) (by decide +kernel), List.mem_of_getElem? (i := 829) (by decide +kernel)⟩
theorem lw_p68 : lw_okq (⟨"SaidTwiceModel", "unwinds", "(I)V"⟩, 37) := ⟨⟨by decide +kernel, by decide +kernel⟩, List.mem_of_getElem? (i := 802) (by decide +kernel), List.mem_of_getElem? (i := 832) (by decide +kernel), List.mem_of_getElem? (i := 833) (by decide +kernel)⟩
theorem lw_p69 : lw_okq (⟨"SaidTwiceModel", "opensOne", "(I)Z"⟩, 37) := ⟨⟨by decide +kernel, by decide +kernel⟩, List.mem_of_getElem? (i := 802) (by decide +kernel), List.mem_of_getElem? (i := 839) (by decide +kernel), List.mem_of_getElem? (i := 840) (by decide +kernel)⟩
theorem lw_p70 : lw_okq (⟨"SaidTwiceModel", "holds", "(I)V"⟩, 37) := ⟨⟨by decide +kernel, by decide +kernel⟩, List.mem_of_getElem? (i := 802) (by decide +kernel), List.mem_of_getElem? (i := 843) (by decide +kernel), List.mem_of_getElem? (i := 844) (by decide +kernel)⟩
theorem lw_p71 : lw_okq (⟨"SaidTwiceModel", "signOf", "()I"⟩, 37) := ⟨⟨by decide +kernel, by decide +kernel⟩, List.mem_of_getElem? (i := 802) (by decide +kernel), List.mem_of_getElem? (i := 847) (by decide +kernel), List.mem_of_getElem? (i := 848) (by decide +kernel)⟩
theorem lw_p72 : lw_okq (⟨"SaidTwiceModel", "between", "(I)Z"⟩, 37) := ⟨⟨by decide +kernel, by decide +kernel⟩, List.mem_of_getElem? (i := 802) (by decide +kernel), List.mem_of_getElem? (i := 851) (by decide +kernel), List.mem_of_getElem? (i := 852) (by decide +kernel)⟩
theorem lw_p73 : lw_okq (⟨"SaidTwiceModel", "isOfTexts", "(I)Z"⟩, 37) := ⟨⟨by decide +kernel, by decide +kernel⟩, List.mem_of_getElem? (i := 802) (by decide +kernel), List.mem_of_getElem? (i := 988) (by decide +kernel), List.mem_of_getElem? (i := 989) (by decide +kernel)⟩
theorem lw_p74 : lw_okq (⟨"SaidTwiceModel", "saysOf", "(IIII)I"⟩, 37) := ⟨⟨by decide +kernel, by decide +kernel⟩, List.mem_of_getElem? (i := 802) (by decide +kernel), List.mem_of_getElem? (i := 995) (by decide +kernel), List.mem_of_getElem? (i := 996) (by decide +kernel)⟩
theorem lw_p75 : lw_okq (⟨"SaidTwiceModel", "says", "(I)I"⟩, 37) := ⟨⟨by decide +kernel, by decide +kernel⟩, List.mem_of_getElem? (i := 802) (by decide +kernel), List.mem_of_getElem? (i := 999) (by decide +kernel), List.mem_of_getElem? (i := 1000) (by decide +kernel)⟩
theorem lw_p76 : lw_okq (⟨"SaidTwiceModel", "soIn", "(III)J"⟩, 37) := ⟨⟨by decide +kernel, by decide +kernel⟩, List.mem_of_getElem? (i := 802) (by decide +kernel), List.mem_of_getElem? (i := 1013) (by decide +kernel), List.mem_of_getElem? (i := 1014) (by decide +kernel)⟩
theorem lw_p77 : lw_okq (⟨"SaidTwiceModel", "isSpeaker", "(I)Z"⟩, 37) := ⟨⟨by decide +kernel, by decide +kernel⟩, List.mem_of_getElem? (i := 802) (by decide +kernel), List.mem_of_getElem? (i := 1034) (by decide +kernel), List.mem_of_getElem? (i := 1035) (by decide +kernel)⟩
theorem lw_p78 : lw_okq (⟨"SaidTwiceModel", "worldsNow", "()J"⟩, 37) := ⟨⟨by decide +kernel, by decide +kernel⟩, List.mem_of_getElem? (i := 802) (by decide +kernel), List.mem_of_getElem? (i := 1058) (by decide +kernel), List.mem_of_getElem? (i := 1059) (by decide +kernel)⟩
theorem lw_p79 : lw_okq (⟨"SaidTwiceModel", "reads", "()V"⟩, 37) := ⟨⟨by decide +kernel, by decide +kernel⟩, List.mem_of_getElem? (i := 802) (by decide +kernel), List.mem_of_getElem? (i := 1062) (by decide +kernel), List.mem_of_getElem? (i := 1063) (by decide +kernel)⟩
def lw_privs_5 : List (MethodName × Nat) := [(⟨"SaidTwiceModel", "next", "()V"⟩, 37), (⟨"SaidTwiceModel", "wordFrom", "(II)I"⟩, 37), (⟨"SaidTwiceModel", "eRead", "()Z"⟩, 37), (⟨"SaidTwiceModel", "puts", "(I)V"⟩, 37), (⟨"SaidTwiceModel", "unwinds", "(I)V"⟩, 37), (⟨"SaidTwiceModel", "opensOne", "(I)Z"⟩, 37), (⟨"SaidTwiceModel", "holds", "(I)V"⟩, 37), (⟨"SaidTwiceModel", "signOf", "()I"⟩, 37), (⟨"SaidTwiceModel", "between", "(I)Z"⟩, 37), (⟨"SaidTwiceModel", "isOfTexts", "(I)Z"⟩, 37), (⟨"SaidTwiceModel", "saysOf", "(IIII)I"⟩, 37), (⟨"SaidTwiceModel", "says", "(I)I"⟩, 37), (⟨"SaidTwiceModel", "soIn", "(III)J"⟩, 37), (⟨"SaidTwiceModel", "isSpeaker", "(I)Z"⟩, 37), (⟨"SaidTwiceModel", "worldsNow", "()J"⟩, 37), (⟨"SaidTwiceModel", "reads", "()V"⟩, 37)]
theorem lw_r5 : ∀ q ∈ lw_privs_5, lw_okq q := List.forall_mem_cons.mpr ⟨lw_p64, List.forall_mem_cons.mpr ⟨lw_p65, List.forall_mem_cons.mpr ⟨lw_p66, List.forall_mem_cons.mpr ⟨lw_p67, List.forall_mem_cons.mpr ⟨lw_p68, List.forall_mem_cons.mpr ⟨lw_p69, List.forall_mem_cons.mpr ⟨lw_p70, List.forall_mem_cons.mpr ⟨lw_p71, List.forall_mem_cons.mpr ⟨lw_p72, List.forall_mem_cons.mpr ⟨lw_p73, List.forall_mem_cons.mpr ⟨lw_p74, List.forall_mem_cons.mpr ⟨lw_p75, List.forall_mem_cons.mpr ⟨lw_p76, List.forall_mem_cons.mpr ⟨lw_p77, List.forall_mem_cons.mpr ⟨lw_p78, List.forall_mem_cons.mpr ⟨lw_p79, fun _ h => absurd h List.not_mem_nil⟩⟩⟩⟩⟩⟩⟩⟩⟩⟩⟩⟩⟩⟩⟩⟩
theorem lw_p80 : lw_okq (⟨"SaidTwiceModel", "worldsOf", "(I)J"⟩, 37) := ⟨⟨by decide +kernel, by decide +kernel⟩, List.mem_of_getElem? (i := 802) (by decide +kernel), List.mem_of_getElem? (i := 1066) (by decide +kernel), List.mem_of_getElem? (i := 1067) (by decide +kernel)⟩
theorem lw_p81 : lw_okq (⟨"SaidTwiceModel", "once", "(I)J"⟩, 37) := ⟨⟨by decide +kernel, by decide +kernel⟩, List.mem_of_getElem? (i := 802) (by decide +kernel), List.mem_of_getElem? (i := 1070) (by decide +kernel), List.mem_of_getElem? (i := 1071) (by decide +kernel)⟩
theorem lw_p82 : lw_okq (⟨"SaidTwiceModel", "fitsSaying", "(I)J"⟩, 37) := ⟨⟨by decide +kernel, by decide +kernel⟩, List.mem_of_getElem? (i := 802) (by decide +kernel), List.mem_of_getElem? (i := 1074) (by decide +kernel), List.mem_of_getElem? (i := 1075) (by decide +kernel)⟩
theorem lw_p83 : lw_okq (⟨"SaidTwiceModel", "fits", "(IIII)J"⟩, 37) := ⟨⟨by decide +kernel, by decide +kernel⟩, List.mem_of_getElem? (i := 802) (by decide +kernel), List.mem_of_getElem? (i := 1078) (by decide +kernel), List.mem_of_getElem? (i := 1079) (by decide +kernel)⟩
theorem lw_p84 : lw_okq (⟨"SaidTwiceModel", "canSay", "(IIIIII)J"⟩, 37) := ⟨⟨by decide +kernel, by decide +kernel⟩, List.mem_of_getElem? (i := 802) (by decide +kernel), List.mem_of_getElem? (i := 1082) (by decide +kernel), List.mem_of_getElem? (i := 1083) (by decide +kernel)⟩
theorem lw_p85 : lw_okq (⟨"SaidTwiceModel", "findsFitting", "()V"⟩, 37) := ⟨⟨by decide +kernel, by decide +kernel⟩, List.mem_of_getElem? (i := 802) (by decide +kernel), List.mem_of_getElem? (i := 1114) (by decide +kernel), List.mem_of_getElem? (i := 1115) (by decide +kernel)⟩
theorem lw_p86 : lw_okq (⟨"SaidTwiceModel", "without", "(I)J"⟩, 37) := ⟨⟨by decide +kernel, by decide +kernel⟩, List.mem_of_getElem? (i := 802) (by decide +kernel), List.mem_of_getElem? (i := 1118) (by decide +kernel), List.mem_of_getElem? (i := 1119) (by decide +kernel)⟩
theorem lw_p87 : lw_okq (⟨"SaidTwiceModel", "worldsMad", "(I)J"⟩, 37) := ⟨⟨by decide +kernel, by decide +kernel⟩, List.mem_of_getElem? (i := 802) (by decide +kernel), List.mem_of_getElem? (i := 1130) (by decide +kernel), List.mem_of_getElem? (i := 1131) (by decide +kernel)⟩
theorem lw_p88 : lw_okq (⟨"SaidTwiceModel", "findsQuestion", "(JI)V"⟩, 37) := ⟨⟨by decide +kernel, by decide +kernel⟩, List.mem_of_getElem? (i := 802) (by decide +kernel), List.mem_of_getElem? (i := 1149) (by decide +kernel), List.mem_of_getElem? (i := 1150) (by decide +kernel)⟩
theorem lw_p89 : lw_okq (⟨"SaidTwiceModel", "worstOf", "(JIII)I"⟩, 37) := ⟨⟨by decide +kernel, by decide +kernel⟩, List.mem_of_getElem? (i := 802) (by decide +kernel), List.mem_of_getElem? (i := 1153) (by decide +kernel), List.mem_of_getElem? (i := 1154) (by decide +kernel)⟩
theorem lw_p90 : lw_okq (⟨"SaidTwiceModel", "worstBehind", "(J)I"⟩, 37) := ⟨⟨by decide +kernel, by decide +kernel⟩, List.mem_of_getElem? (i := 802) (by decide +kernel), List.mem_of_getElem? (i := 1161) (by decide +kernel), List.mem_of_getElem? (i := 1162) (by decide +kernel)⟩
theorem lw_p91 : lw_okq (⟨"SaidTwiceModel", "settles", "(JI)Z"⟩, 37) := ⟨⟨by decide +kernel, by decide +kernel⟩, List.mem_of_getElem? (i := 802) (by decide +kernel), List.mem_of_getElem? (i := 1188) (by decide +kernel), List.mem_of_getElem? (i := 1189) (by decide +kernel)⟩
theorem lw_p92 : lw_okq (⟨"SaidTwiceModel", "isRow", "(III)Z"⟩, 37) := ⟨⟨by decide +kernel, by decide +kernel⟩, List.mem_of_getElem? (i := 802) (by decide +kernel), List.mem_of_getElem? (i := 1204) (by decide +kernel), List.mem_of_getElem? (i := 1205) (by decide +kernel)⟩
theorem lw_p93 : lw_okq (⟨"SaidTwiceModel", "asksBy", "(JI)I"⟩, 37) := ⟨⟨by decide +kernel, by decide +kernel⟩, List.mem_of_getElem? (i := 802) (by decide +kernel), List.mem_of_getElem? (i := 1217) (by decide +kernel), List.mem_of_getElem? (i := 1218) (by decide +kernel)⟩
def lw_privs_6 : List (MethodName × Nat) := [(⟨"SaidTwiceModel", "worldsOf", "(I)J"⟩, 37), (⟨"SaidTwiceModel", "once", "(I)J"⟩, 37), (⟨"SaidTwiceModel", "fitsSaying", "(I)J"⟩, 37), (⟨"SaidTwiceModel", "fits", "(IIII)J"⟩, 37), (⟨"SaidTwiceModel", "canSay", "(IIIIII)J"⟩, 37), (⟨"SaidTwiceModel", "findsFitting", "()V"⟩, 37), (⟨"SaidTwiceModel", "without", "(I)J"⟩, 37), (⟨"SaidTwiceModel", "worldsMad", "(I)J"⟩, 37), (⟨"SaidTwiceModel", "findsQuestion", "(JI)V"⟩, 37), (⟨"SaidTwiceModel", "worstOf", "(JIII)I"⟩, 37), (⟨"SaidTwiceModel", "worstBehind", "(J)I"⟩, 37), (⟨"SaidTwiceModel", "settles", "(JI)Z"⟩, 37), (⟨"SaidTwiceModel", "isRow", "(III)Z"⟩, 37), (⟨"SaidTwiceModel", "asksBy", "(JI)I"⟩, 37)]
theorem lw_r6 : ∀ q ∈ lw_privs_6, lw_okq q := List.forall_mem_cons.mpr ⟨lw_p80, List.forall_mem_cons.mpr ⟨lw_p81, List.forall_mem_cons.mpr ⟨lw_p82, List.forall_mem_cons.mpr ⟨lw_p83, List.forall_mem_cons.mpr ⟨lw_p84, List.forall_mem_cons.mpr ⟨lw_p85, List.forall_mem_cons.mpr ⟨lw_p86, List.forall_mem_cons.mpr ⟨lw_p87, List.forall_mem_cons.mpr ⟨lw_p88, List.forall_mem_cons.mpr ⟨lw_p89, List.forall_mem_cons.mpr ⟨lw_p90, List.forall_mem_cons.mpr ⟨lw_p91, List.forall_mem_cons.mpr ⟨lw_p92, List.forall_mem_cons.mpr ⟨lw_p93, fun _ h => absurd h List.not_mem_nil⟩⟩⟩⟩⟩⟩⟩⟩⟩⟩⟩⟩⟩⟩
def lw_privs : List (MethodName × Nat) := lw_privs_1 ++ (lw_privs_2 ++ (lw_privs_3 ++ (lw_privs_4 ++ (lw_privs_5 ++ (lw_privs_6)))))
def lw_tbl : List Cond := k2_sels lw_privs ++ tables_1
theorem lw_privs_ok : ∀ q ∈ lw_privs, lw_okq q := by
  show ∀ q ∈ lw_privs_1 ++ (lw_privs_2 ++ (lw_privs_3 ++ (lw_privs_4 ++ (lw_privs_5 ++ (lw_privs_6))))), lw_okq q
  exact List.forall_mem_append.mpr ⟨lw_r1, List.forall_mem_append.mpr ⟨lw_r2, List.forall_mem_append.mpr ⟨lw_r3, List.forall_mem_append.mpr ⟨lw_r4, List.forall_mem_append.mpr ⟨lw_r5, lw_r6⟩⟩⟩⟩⟩
def RX0 : String := "SaidTwice$Code"
def TX0 : u_T := fun k => match k with
  | 0 => ("SaidTwice$Code", "sorts", "[I", true)
  | 1 => ("SaidTwice$Code", "values", "[I", true)
  | 2 => ("SaidTwice$Code", "starts", "[I", true)
  | 3 => ("SaidTwice$Code", "stack", "[I", true)
  | 4 => ("SaidTwice$Code", "size", "I", false)
  | _ => ("SaidTwice$Code", "height", "I", false)
def tyX0 : Nat → FieldType := fun k => match k with
  | 0 => .array .int
  | 1 => .array .int
  | 2 => .array .int
  | 3 => .array .int
  | 4 => .int
  | _ => .int
abbrev wsX00 : List Cond := u_ws RX0 TX0 6
theorem nmX0 : ∀ a, a < 6 → ∀ b, b < 6 → a ≠ b → (TX0 a).2.1 ≠ (TX0 b).2.1 := by decide +kernel
theorem tyX0_ok : ∀ k, k < 6 → parseFieldDescriptor (TX0 k).2.2.1 = some (tyX0 k) := by decide +kernel
abbrev cX0_init : ByteArray := prog_2_method_1_code
def yX0_init : MethodName := ⟨RX0, "<init>", "()V"⟩
abbrev cX0_clear : ByteArray := prog_2_method_2_code
def yX0_clear : MethodName := ⟨RX0, "clear", "()V"⟩
abbrev cX0_add : ByteArray := prog_2_method_3_code
def yX0_add : MethodName := ⟨RX0, "add", "(II)V"⟩
abbrev cX0_endPart : ByteArray := prog_2_method_4_code
def yX0_endPart : MethodName := ⟨RX0, "endPart", "(I)V"⟩
abbrev cX0_truths : ByteArray := prog_2_method_5_code
def yX0_truths : MethodName := ⟨RX0, "truths", "(II)I"⟩
abbrev cX0_valueOf : ByteArray := prog_2_method_6_code
def yX0_valueOf : MethodName := ⟨RX0, "valueOf", "(III)I"⟩
abbrev cX0_step : ByteArray := prog_2_method_7_code
def yX0_step : MethodName := ⟨RX0, "step", "(IIII)V"⟩
abbrev cX0_joined : ByteArray := prog_2_method_8_code
def yX0_joined : MethodName := ⟨RX0, "joined", "(III)I"⟩
abbrev cX0_push : ByteArray := prog_2_method_9_code
def yX0_push : MethodName := ⟨RX0, "push", "(I)V"⟩
abbrev cX0_pop : ByteArray := prog_2_method_10_code
def yX0_pop : MethodName := ⟨RX0, "pop", "()I"⟩
def RX1 : String := "SaidTwice$Grammar"
def TX1 : u_T := fun k => match k with
  | 0 => ("SaidTwice$Grammar", "tokens", "LSaidTwice$Tokens;", true)
  | _ => ("SaidTwice$Grammar", "code", "LSaidTwice$Code;", true)
def tyX1 : Nat → FieldType := fun k => match k with
  | 0 => .object "SaidTwice$Tokens"
  | _ => .object "SaidTwice$Code"
abbrev wsX10 : List Cond := u_ws RX1 TX1 2
theorem nmX1 : ∀ a, a < 2 → ∀ b, b < 2 → a ≠ b → (TX1 a).2.1 ≠ (TX1 b).2.1 := by decide +kernel
theorem tyX1_ok : ∀ k, k < 2 → parseFieldDescriptor (TX1 k).2.2.1 = some (tyX1 k) := by decide +kernel
abbrev cX1_init : ByteArray := prog_3_method_1_code
def yX1_init : MethodName := ⟨RX1, "<init>", "(LSaidTwice$Tokens;LSaidTwice$Code;)V"⟩
abbrev cX1_readText : ByteArray := prog_3_method_2_code
def yX1_readText : MethodName := ⟨RX1, "readText", "()Z"⟩
abbrev cX1_readToken : ByteArray := prog_3_method_3_code
def yX1_readToken : MethodName := ⟨RX1, "readToken", "(I)Z"⟩
abbrev cX1_readOr : ByteArray := prog_3_method_4_code
def yX1_readOr : MethodName := ⟨RX1, "readOr", "(I)Z"⟩
abbrev cX1_readAnd : ByteArray := prog_3_method_5_code
def yX1_readAnd : MethodName := ⟨RX1, "readAnd", "(I)Z"⟩
abbrev cX1_readNot : ByteArray := prog_3_method_6_code
def yX1_readNot : MethodName := ⟨RX1, "readNot", "(I)Z"⟩
abbrev cX1_readCompared : ByteArray := prog_3_method_7_code
def yX1_readCompared : MethodName := ⟨RX1, "readCompared", "(I)Z"⟩
abbrev cX1_readSum : ByteArray := prog_3_method_8_code
def yX1_readSum : MethodName := ⟨RX1, "readSum", "(I)Z"⟩
abbrev cX1_readTerm : ByteArray := prog_3_method_9_code
def yX1_readTerm : MethodName := ⟨RX1, "readTerm", "(I)Z"⟩
abbrev cX1_readOne : ByteArray := prog_3_method_10_code
def yX1_readOne : MethodName := ⟨RX1, "readOne", "(I)Z"⟩
abbrev cX1_readBracket : ByteArray := prog_3_method_11_code
def yX1_readBracket : MethodName := ⟨RX1, "readBracket", "(I)Z"⟩
def RX2 : String := "SaidTwice$Question"
def TX2 : u_T := fun k => match k with
  | 0 => ("SaidTwice$Question", "speaker", "I", false)
  | 1 => ("SaidTwice$Question", "text", "I", false)
  | 2 => ("SaidTwice$Question", "worst", "I", false)
  | _ => ("SaidTwice$Question", "cost", "I", false)
def tyX2 : Nat → FieldType := fun k => match k with
  | 0 => .int
  | 1 => .int
  | 2 => .int
  | _ => .int
abbrev wsX20 : List Cond := u_ws RX2 TX2 4
theorem nmX2 : ∀ a, a < 4 → ∀ b, b < 4 → a ≠ b → (TX2 a).2.1 ≠ (TX2 b).2.1 := by decide +kernel
theorem tyX2_ok : ∀ k, k < 4 → parseFieldDescriptor (TX2 k).2.2.1 = some (tyX2 k) := by decide +kernel
abbrev cX2_init : ByteArray := prog_4_method_1_code
def yX2_init : MethodName := ⟨RX2, "<init>", "()V"⟩
abbrev cX2_consider : ByteArray := prog_4_method_2_code
def yX2_consider : MethodName := ⟨RX2, "consider", "(IIII)V"⟩
def RX3 : String := "SaidTwice$Sheets"
def TX3 : u_T := fun k => match k with
  | 0 => ("SaidTwice$Sheets", "sorts", "[I", true)
  | 1 => ("SaidTwice$Sheets", "sizes", "[I", true)
  | 2 => ("SaidTwice$Sheets", "cells", "[I", true)
  | _ => ("SaidTwice$Sheets", "moved", "[I", true)
def tyX3 : Nat → FieldType := fun k => match k with
  | 0 => .array .int
  | 1 => .array .int
  | 2 => .array .int
  | _ => .array .int
abbrev wsX30 : List Cond := u_ws RX3 TX3 4
theorem nmX3 : ∀ a, a < 4 → ∀ b, b < 4 → a ≠ b → (TX3 a).2.1 ≠ (TX3 b).2.1 := by decide +kernel
theorem tyX3_ok : ∀ k, k < 4 → parseFieldDescriptor (TX3 k).2.2.1 = some (tyX3 k) := by decide +kernel
abbrev cX3_init : ByteArray := prog_5_method_1_code
def yX3_init : MethodName := ⟨RX3, "<init>", "()V"⟩
abbrev cX3_isMissing : ByteArray := prog_5_method_2_code
def yX3_isMissing : MethodName := ⟨RX3, "isMissing", "(I)Z"⟩
abbrev cX3_make : ByteArray := prog_5_method_3_code
def yX3_make : MethodName := ⟨RX3, "make", "(III)V"⟩
abbrev cX3_holds : ByteArray := prog_5_method_4_code
def yX3_holds : MethodName := ⟨RX3, "holds", "(II)Z"⟩
abbrev cX3_holdsRun : ByteArray := prog_5_method_5_code
def yX3_holdsRun : MethodName := ⟨RX3, "holdsRun", "(III)Z"⟩
abbrev cX3_read : ByteArray := prog_5_method_6_code
def yX3_read : MethodName := ⟨RX3, "read", "(II)I"⟩
abbrev cX3_write : ByteArray := prog_5_method_7_code
def yX3_write : MethodName := ⟨RX3, "write", "(III)V"⟩
abbrev cX3_move : ByteArray := prog_5_method_8_code
def yX3_move : MethodName := ⟨RX3, "move", "(IIIII)V"⟩
def RX4 : String := "SaidTwice$Talk"
def TX4 : u_T := fun k => match k with
  | 0 => ("SaidTwice$Talk", "kindOf", "[I", true)
  | 1 => ("SaidTwice$Talk", "moreOf", "[I", true)
  | 2 => ("SaidTwice$Talk", "rows", "[I", true)
  | 3 => ("SaidTwice$Talk", "speakers", "I", false)
  | 4 => ("SaidTwice$Talk", "sayings", "I", false)
  | _ => ("SaidTwice$Talk", "law", "I", false)
def tyX4 : Nat → FieldType := fun k => match k with
  | 0 => .array .int
  | 1 => .array .int
  | 2 => .array .int
  | 3 => .int
  | 4 => .int
  | _ => .int
abbrev wsX40 : List Cond := u_ws RX4 TX4 6
theorem nmX4 : ∀ a, a < 6 → ∀ b, b < 6 → a ≠ b → (TX4 a).2.1 ≠ (TX4 b).2.1 := by decide +kernel
theorem tyX4_ok : ∀ k, k < 6 → parseFieldDescriptor (TX4 k).2.2.1 = some (tyX4 k) := by decide +kernel
abbrev cX4_init : ByteArray := prog_6_method_1_code
def yX4_init : MethodName := ⟨RX4, "<init>", "()V"⟩
abbrev cX4_become : ByteArray := prog_6_method_2_code
def yX4_become : MethodName := ⟨RX4, "become", "(III)V"⟩
abbrev cX4_append : ByteArray := prog_6_method_3_code
def yX4_append : MethodName := ⟨RX4, "append", "(III)V"⟩
abbrev cX4_sayingPart : ByteArray := prog_6_method_4_code
def yX4_sayingPart : MethodName := ⟨RX4, "sayingPart", "(II)I"⟩
abbrev cX4_becomeLike : ByteArray := prog_6_method_5_code
def yX4_becomeLike : MethodName := ⟨RX4, "becomeLike", "(LSaidTwice$Talk;)V"⟩
def RX5 : String := "SaidTwice$Texts"
def TX5 : u_T := fun k => match k with
  | 0 => ("SaidTwice$Texts", "once", "[I", true)
  | 1 => ("SaidTwice$Texts", "twice", "[I", true)
  | 2 => ("SaidTwice$Texts", "costs", "[I", true)
  | _ => ("SaidTwice$Texts", "size", "I", false)
def tyX5 : Nat → FieldType := fun k => match k with
  | 0 => .array .int
  | 1 => .array .int
  | 2 => .array .int
  | _ => .int
abbrev wsX50 : List Cond := u_ws RX5 TX5 4
theorem nmX5 : ∀ a, a < 4 → ∀ b, b < 4 → a ≠ b → (TX5 a).2.1 ≠ (TX5 b).2.1 := by decide +kernel
theorem tyX5_ok : ∀ k, k < 4 → parseFieldDescriptor (TX5 k).2.2.1 = some (tyX5 k) := by decide +kernel
abbrev cX5_init : ByteArray := prog_7_method_1_code
def yX5_init : MethodName := ⟨RX5, "<init>", "()V"⟩
abbrev cX5_add : ByteArray := prog_7_method_2_code
def yX5_add : MethodName := ⟨RX5, "add", "(LSaidTwice$Code;)V"⟩
abbrev cX5_side : ByteArray := prog_7_method_3_code
def yX5_side : MethodName := ⟨RX5, "side", "(III)I"⟩
abbrev cX5_costOf : ByteArray := prog_7_method_4_code
def yX5_costOf : MethodName := ⟨RX5, "costOf", "(II)I"⟩
def RX6 : String := "SaidTwice$Tokens"
def TX6 : u_T := fun k => match k with
  | 0 => ("SaidTwice$Tokens", "tape", "[I", true)
  | 1 => ("SaidTwice$Tokens", "size", "I", false)
  | 2 => ("SaidTwice$Tokens", "sort", "I", false)
  | 3 => ("SaidTwice$Tokens", "value", "I", false)
  | 4 => ("SaidTwice$Tokens", "place", "I", false)
  | _ => ("SaidTwice$Tokens", "after", "I", false)
def tyX6 : Nat → FieldType := fun k => match k with
  | 0 => .array .int
  | 1 => .int
  | 2 => .int
  | 3 => .int
  | 4 => .int
  | _ => .int
abbrev wsX60 : List Cond := u_ws RX6 TX6 6
theorem nmX6 : ∀ a, a < 6 → ∀ b, b < 6 → a ≠ b → (TX6 a).2.1 ≠ (TX6 b).2.1 := by decide +kernel
theorem tyX6_ok : ∀ k, k < 6 → parseFieldDescriptor (TX6 k).2.2.1 = some (tyX6 k) := by decide +kernel
abbrev cX6_init : ByteArray := prog_8_method_1_code
def yX6_init : MethodName := ⟨RX6, "<init>", "()V"⟩
abbrev cX6_append : ByteArray := prog_8_method_2_code
def yX6_append : MethodName := ⟨RX6, "append", "(I)V"⟩
abbrev cX6_start : ByteArray := prog_8_method_3_code
def yX6_start : MethodName := ⟨RX6, "start", "()V"⟩
abbrev cX6_advance : ByteArray := prog_8_method_4_code
def yX6_advance : MethodName := ⟨RX6, "advance", "()V"⟩
abbrev cX6_readWord : ByteArray := prog_8_method_5_code
def yX6_readWord : MethodName := ⟨RX6, "readWord", "()V"⟩
abbrev cX6_spells : ByteArray := prog_8_method_6_code
def yX6_spells : MethodName := ⟨RX6, "spells", "(Ljava/lang/String;)Z"⟩
abbrev cX6_readNumber : ByteArray := prog_8_method_7_code
def yX6_readNumber : MethodName := ⟨RX6, "readNumber", "()V"⟩
abbrev cX6_isBlank : ByteArray := prog_8_method_8_code
def yX6_isBlank : MethodName := ⟨RX6, "isBlank", "(I)Z"⟩
abbrev cX6_isLetter : ByteArray := prog_8_method_9_code
def yX6_isLetter : MethodName := ⟨RX6, "isLetter", "(I)Z"⟩
abbrev cX6_isDigit : ByteArray := prog_8_method_10_code
def yX6_isDigit : MethodName := ⟨RX6, "isDigit", "(I)Z"⟩
abbrev cX6_isSign : ByteArray := prog_8_method_11_code
def yX6_isSign : MethodName := ⟨RX6, "isSign", "(I)Z"⟩
def RX7 : String := "SaidTwice"
def TX7 : u_T := fun k => match k with
  | 0 => ("SaidTwice", "tokens", "LSaidTwice$Tokens;", true)
  | 1 => ("SaidTwice", "code", "LSaidTwice$Code;", true)
  | 2 => ("SaidTwice", "grammar", "LSaidTwice$Grammar;", true)
  | 3 => ("SaidTwice", "texts", "LSaidTwice$Texts;", true)
  | 4 => ("SaidTwice", "talk", "LSaidTwice$Talk;", true)
  | 5 => ("SaidTwice", "kept", "LSaidTwice$Talk;", true)
  | 6 => ("SaidTwice", "sheets", "LSaidTwice$Sheets;", true)
  | 7 => ("SaidTwice", "best", "LSaidTwice$Question;", true)
  | _ => ("SaidTwice", "hasImage", "Z", false)
def tyX7 : Nat → FieldType := fun k => match k with
  | 0 => .object "SaidTwice$Tokens"
  | 1 => .object "SaidTwice$Code"
  | 2 => .object "SaidTwice$Grammar"
  | 3 => .object "SaidTwice$Texts"
  | 4 => .object "SaidTwice$Talk"
  | 5 => .object "SaidTwice$Talk"
  | 6 => .object "SaidTwice$Sheets"
  | 7 => .object "SaidTwice$Question"
  | _ => .boolean
abbrev wsX70 : List Cond := u_ws RX7 TX7 9
theorem nmX7 : ∀ a, a < 9 → ∀ b, b < 9 → a ≠ b → (TX7 a).2.1 ≠ (TX7 b).2.1 := by decide +kernel
theorem tyX7_ok : ∀ k, k < 9 → parseFieldDescriptor (TX7 k).2.2.1 = some (tyX7 k) := by decide +kernel
abbrev cX7_init : ByteArray := prog_1_method_1_code
def yX7_init : MethodName := ⟨RX7, "<init>", "()V"⟩
abbrev cX7_count : ByteArray := prog_1_method_2_code
def yX7_count : MethodName := ⟨RX7, "count", "(I)I"⟩
abbrev cX7_feed : ByteArray := prog_1_method_3_code
def yX7_feed : MethodName := ⟨RX7, "feed", "(IIIIII)I"⟩
abbrev cX7_text : ByteArray := prog_1_method_4_code
def yX7_text : MethodName := ⟨RX7, "text", "()I"⟩
abbrev cX7_force : ByteArray := prog_1_method_5_code
def yX7_force : MethodName := ⟨RX7, "force", "(I)I"⟩
abbrev cX7_asks : ByteArray := prog_1_method_6_code
def yX7_asks : MethodName := ⟨RX7, "asks", "(IIII)I"⟩
abbrev cX7_means : ByteArray := prog_1_method_7_code
def yX7_means : MethodName := ⟨RX7, "means", "(II)J"⟩
abbrev cX7_pairs : ByteArray := prog_1_method_8_code
def yX7_pairs : MethodName := ⟨RX7, "pairs", "(I)I"⟩
abbrev cX7_speaker : ByteArray := prog_1_method_9_code
def yX7_speaker : MethodName := ⟨RX7, "speaker", "(II)I"⟩
abbrev cX7_turn : ByteArray := prog_1_method_10_code
def yX7_turn : MethodName := ⟨RX7, "turn", "(III)I"⟩
abbrev cX7_told : ByteArray := prog_1_method_11_code
def yX7_told : MethodName := ⟨RX7, "told", "(II)I"⟩
abbrev cX7_say : ByteArray := prog_1_method_12_code
def yX7_say : MethodName := ⟨RX7, "say", "(III)I"⟩
abbrev cX7_unsay : ByteArray := prog_1_method_13_code
def yX7_unsay : MethodName := ⟨RX7, "unsay", "()I"⟩
abbrev cX7_said : ByteArray := prog_1_method_14_code
def yX7_said : MethodName := ⟨RX7, "said", "(II)I"⟩
abbrev cX7_worlds : ByteArray := prog_1_method_15_code
def yX7_worlds : MethodName := ⟨RX7, "worlds", "()J"⟩
abbrev cX7_behind : ByteArray := prog_1_method_16_code
def yX7_behind : MethodName := ⟨RX7, "behind", "(II)I"⟩
abbrev cX7_cannot : ByteArray := prog_1_method_17_code
def yX7_cannot : MethodName := ⟨RX7, "cannot", "()I"⟩
abbrev cX7_lies : ByteArray := prog_1_method_18_code
def yX7_lies : MethodName := ⟨RX7, "lies", "()I"⟩
abbrev cX7_least : ByteArray := prog_1_method_19_code
def yX7_least : MethodName := ⟨RX7, "least", "(I)I"⟩
abbrev cX7_mad : ByteArray := prog_1_method_20_code
def yX7_mad : MethodName := ⟨RX7, "mad", "(I)I"⟩
abbrev cX7_habit : ByteArray := prog_1_method_21_code
def yX7_habit : MethodName := ⟨RX7, "habit", "(III)J"⟩
abbrev cX7_kinds : ByteArray := prog_1_method_22_code
def yX7_kinds : MethodName := ⟨RX7, "kinds", "(II)I"⟩
abbrev cX7_ask : ByteArray := prog_1_method_23_code
def yX7_ask : MethodName := ⟨RX7, "ask", "(I)I"⟩
abbrev cX7_two : ByteArray := prog_1_method_24_code
def yX7_two : MethodName := ⟨RX7, "two", "(I)I"⟩
abbrev cX7_parts : ByteArray := prog_1_method_25_code
def yX7_parts : MethodName := ⟨RX7, "parts", "(III)J"⟩
abbrev cX7_hide : ByteArray := prog_1_method_26_code
def yX7_hide : MethodName := ⟨RX7, "hide", "(III)I"⟩
abbrev cX7_same : ByteArray := prog_1_method_27_code
def yX7_same : MethodName := ⟨RX7, "same", "(III)I"⟩
abbrev cX7_claims : ByteArray := prog_1_method_28_code
def yX7_claims : MethodName := ⟨RX7, "claims", "(I)I"⟩
abbrev cX7_settle : ByteArray := prog_1_method_29_code
def yX7_settle : MethodName := ⟨RX7, "settle", "(I)I"⟩
abbrev cX7_thrice : ByteArray := prog_1_method_30_code
def yX7_thrice : MethodName := ⟨RX7, "thrice", "(III)J"⟩
abbrev cX7_many : ByteArray := prog_1_method_31_code
def yX7_many : MethodName := ⟨RX7, "many", "(I)I"⟩
abbrev cX7_judge : ByteArray := prog_1_method_32_code
def yX7_judge : MethodName := ⟨RX7, "judge", "(II)I"⟩
abbrev cX7_film : ByteArray := prog_1_method_33_code
def yX7_film : MethodName := ⟨RX7, "film", "(I)I"⟩
abbrev cX7_drawn : ByteArray := prog_1_method_34_code
def yX7_drawn : MethodName := ⟨RX7, "drawn", "(I)I"⟩
abbrev cX7_mean : ByteArray := prog_1_method_35_code
def yX7_mean : MethodName := ⟨RX7, "mean", "(III)J"⟩
abbrev cX7_image : ByteArray := prog_1_method_36_code
def yX7_image : MethodName := ⟨RX7, "image", "()I"⟩
abbrev cX7_back : ByteArray := prog_1_method_37_code
def yX7_back : MethodName := ⟨RX7, "back", "()I"⟩
abbrev cX7_sheet : ByteArray := prog_1_method_38_code
def yX7_sheet : MethodName := ⟨RX7, "sheet", "(III)I"⟩
abbrev cX7_cell : ByteArray := prog_1_method_39_code
def yX7_cell : MethodName := ⟨RX7, "cell", "(III)I"⟩
abbrev cX7_copy : ByteArray := prog_1_method_40_code
def yX7_copy : MethodName := ⟨RX7, "copy", "(IIIII)I"⟩
abbrev cX7_sayingsBy : ByteArray := prog_1_method_41_code
def yX7_sayingsBy : MethodName := ⟨RX7, "sayingsBy", "(IIII)I"⟩
abbrev cX7_taken : ByteArray := prog_1_method_42_code
def yX7_taken : MethodName := ⟨RX7, "taken", "(II)I"⟩
abbrev cX7_isBelow : ByteArray := prog_1_method_43_code
def yX7_isBelow : MethodName := ⟨RX7, "isBelow", "(II)Z"⟩
abbrev cX7_isByte : ByteArray := prog_1_method_44_code
def yX7_isByte : MethodName := ⟨RX7, "isByte", "(I)Z"⟩
abbrev cX7_isKind : ByteArray := prog_1_method_45_code
def yX7_isKind : MethodName := ⟨RX7, "isKind", "(I)Z"⟩
abbrev cX7_isMore : ByteArray := prog_1_method_46_code
def yX7_isMore : MethodName := ⟨RX7, "isMore", "(I)Z"⟩
abbrev cX7_isWorld : ByteArray := prog_1_method_47_code
def yX7_isWorld : MethodName := ⟨RX7, "isWorld", "(I)Z"⟩
abbrev cX7_isText : ByteArray := prog_1_method_48_code
def yX7_isText : MethodName := ⟨RX7, "isText", "(I)Z"⟩
abbrev cX7_isSpeaker : ByteArray := prog_1_method_49_code
def yX7_isSpeaker : MethodName := ⟨RX7, "isSpeaker", "(I)Z"⟩
abbrev cX7_at : ByteArray := prog_1_method_50_code
def yX7_at : MethodName := ⟨RX7, "at", "([II)I"⟩
abbrev cX7_put : ByteArray := prog_1_method_51_code
def yX7_put : MethodName := ⟨RX7, "put", "([III)V"⟩
abbrev cX7_bit : ByteArray := prog_1_method_52_code
def yX7_bit : MethodName := ⟨RX7, "bit", "(II)I"⟩
abbrev cX7_bits : ByteArray := prog_1_method_53_code
def yX7_bits : MethodName := ⟨RX7, "bits", "(I)J"⟩
abbrev cX7_worldNumber : ByteArray := prog_1_method_54_code
def yX7_worldNumber : MethodName := ⟨RX7, "worldNumber", "(II)I"⟩
abbrev cX7_fewer : ByteArray := prog_1_method_55_code
def yX7_fewer : MethodName := ⟨RX7, "fewer", "(II)I"⟩
abbrev cX7_inLowestTerms : ByteArray := prog_1_method_56_code
def yX7_inLowestTerms : MethodName := ⟨RX7, "inLowestTerms", "(III)J"⟩
abbrev cX7_commonDivisor : ByteArray := prog_1_method_57_code
def yX7_commonDivisor : MethodName := ⟨RX7, "commonDivisor", "(II)I"⟩
abbrev cX7_canSay : ByteArray := prog_1_method_58_code
def yX7_canSay : MethodName := ⟨RX7, "canSay", "(IIIII)I"⟩
abbrev cX7_turnsAt : ByteArray := prog_1_method_59_code
def yX7_turnsAt : MethodName := ⟨RX7, "turnsAt", "(II)Z"⟩
abbrev cX7_onceOf : ByteArray := prog_1_method_60_code
def yX7_onceOf : MethodName := ⟨RX7, "onceOf", "(I)I"⟩
abbrev cX7_lawful : ByteArray := prog_1_method_61_code
def yX7_lawful : MethodName := ⟨RX7, "lawful", "()I"⟩
abbrev cX7_firstSaid : ByteArray := prog_1_method_62_code
def yX7_firstSaid : MethodName := ⟨RX7, "firstSaid", "(I)I"⟩
abbrev cX7_secondSaid : ByteArray := prog_1_method_63_code
def yX7_secondSaid : MethodName := ⟨RX7, "secondSaid", "(I)I"⟩
abbrev cX7_sayableNext : ByteArray := prog_1_method_64_code
def yX7_sayableNext : MethodName := ⟨RX7, "sayableNext", "(IIII)I"⟩
abbrev cX7_sayable : ByteArray := prog_1_method_65_code
def yX7_sayable : MethodName := ⟨RX7, "sayable", "(I)I"⟩
abbrev cX7_sayableAs : ByteArray := prog_1_method_66_code
def yX7_sayableAs : MethodName := ⟨RX7, "sayableAs", "(II)I"⟩
abbrev cX7_allSayableWere : ByteArray := prog_1_method_67_code
def yX7_allSayableWere : MethodName := ⟨RX7, "allSayableWere", "(II)I"⟩
abbrev cX7_fittingFirst : ByteArray := prog_1_method_68_code
def yX7_fittingFirst : MethodName := ⟨RX7, "fittingFirst", "(I)I"⟩
abbrev cX7_fitting : ByteArray := prog_1_method_69_code
def yX7_fitting : MethodName := ⟨RX7, "fitting", "()I"⟩
abbrev cX7_fittingWithout : ByteArray := prog_1_method_70_code
def yX7_fittingWithout : MethodName := ⟨RX7, "fittingWithout", "(I)I"⟩
abbrev cX7_fittingWereMad : ByteArray := prog_1_method_71_code
def yX7_fittingWereMad : MethodName := ⟨RX7, "fittingWereMad", "(I)I"⟩
abbrev cX7_misfits : ByteArray := prog_1_method_72_code
def yX7_misfits : MethodName := ⟨RX7, "misfits", "(I)I"⟩
abbrev cX7_isSure : ByteArray := prog_1_method_73_code
def yX7_isSure : MethodName := ⟨RX7, "isSure", "(II)Z"⟩
abbrev cX7_thingsSure : ByteArray := prog_1_method_74_code
def yX7_thingsSure : MethodName := ⟨RX7, "thingsSure", "(IZ)I"⟩
abbrev cX7_findBest : ByteArray := prog_1_method_75_code
def yX7_findBest : MethodName := ⟨RX7, "findBest", "(II)Z"⟩
abbrev cX7_worstOf : ByteArray := prog_1_method_76_code
def yX7_worstOf : MethodName := ⟨RX7, "worstOf", "(IIII)I"⟩
abbrev cX7_worstBehind : ByteArray := prog_1_method_77_code
def yX7_worstBehind : MethodName := ⟨RX7, "worstBehind", "(III)I"⟩
abbrev cX7_strangerAsks : ByteArray := prog_1_method_78_code
def yX7_strangerAsks : MethodName := ⟨RX7, "strangerAsks", "(II)I"⟩
abbrev cX7_answered : ByteArray := prog_1_method_79_code
def yX7_answered : MethodName := ⟨RX7, "answered", "(IIZ)I"⟩
abbrev cX7_lotBehind : ByteArray := prog_1_method_80_code
def yX7_lotBehind : MethodName := ⟨RX7, "lotBehind", "(J)J"⟩
abbrev cX7_settles : ByteArray := prog_1_method_81_code
def yX7_settles : MethodName := ⟨RX7, "settles", "(II)Z"⟩
abbrev cX7_markOf : ByteArray := prog_1_method_82_code
def yX7_markOf : MethodName := ⟨RX7, "markOf", "(II)I"⟩
abbrev cX7_rowFits : ByteArray := prog_1_method_83_code
def yX7_rowFits : MethodName := ⟨RX7, "rowFits", "(III)Z"⟩
abbrev cX7_sayingTaken : ByteArray := prog_1_method_84_code
def yX7_sayingTaken : MethodName := ⟨RX7, "sayingTaken", "(II)I"⟩
abbrev cX7_speakerTaken : ByteArray := prog_1_method_85_code
def yX7_speakerTaken : MethodName := ⟨RX7, "speakerTaken", "(II)I"⟩
abbrev cX7_isOneOf : ByteArray := prog_1_method_86_code
def yX7_isOneOf : MethodName := ⟨RX7, "isOneOf", "(II)Z"⟩
def RX8 : String := "SaidTwiceModel"
def TX8 : u_T := fun k => match k with
  | 0 => ("SaidTwiceModel", "speakers", "I", false)
  | 1 => ("SaidTwiceModel", "kind", "[I", true)
  | 2 => ("SaidTwiceModel", "more", "[I", true)
  | 3 => ("SaidTwiceModel", "sayings", "I", false)
  | 4 => ("SaidTwiceModel", "talk", "[I", true)
  | 5 => ("SaidTwiceModel", "tape", "[I", true)
  | 6 => ("SaidTwiceModel", "taped", "I", false)
  | 7 => ("SaidTwiceModel", "codes", "[I", true)
  | 8 => ("SaidTwiceModel", "starts", "[I", true)
  | 9 => ("SaidTwiceModel", "texts", "I", false)
  | 10 => ("SaidTwiceModel", "rule", "I", false)
  | 11 => ("SaidTwiceModel", "hasImage", "Z", false)
  | 12 => ("SaidTwiceModel", "imageSpeakers", "I", false)
  | 13 => ("SaidTwiceModel", "imageSayings", "I", false)
  | 14 => ("SaidTwiceModel", "imageRule", "I", false)
  | 15 => ("SaidTwiceModel", "imageKinds", "[I", true)
  | 16 => ("SaidTwiceModel", "imageTalk", "[I", true)
  | 17 => ("SaidTwiceModel", "sheetSort", "[I", true)
  | 18 => ("SaidTwiceModel", "sheetSize", "[I", true)
  | 19 => ("SaidTwiceModel", "cells", "[I", true)
  | 20 => ("SaidTwiceModel", "law", "[I", true)
  | 21 => ("SaidTwiceModel", "at", "I", false)
  | 22 => ("SaidTwiceModel", "begun", "I", false)
  | 23 => ("SaidTwiceModel", "token", "I", false)
  | 24 => ("SaidTwiceModel", "value", "I", false)
  | 25 => ("SaidTwiceModel", "words", "[I", true)
  | 26 => ("SaidTwiceModel", "held", "[I", true)
  | 27 => ("SaidTwiceModel", "heldMany", "I", false)
  | 28 => ("SaidTwiceModel", "opens", "I", false)
  | 29 => ("SaidTwiceModel", "out", "I", false)
  | 30 => ("SaidTwiceModel", "stack", "[I", true)
  | 31 => ("SaidTwiceModel", "named", "[I", true)
  | 32 => ("SaidTwiceModel", "meant", "[J", true)
  | 33 => ("SaidTwiceModel", "fitting", "[J", true)
  | 34 => ("SaidTwiceModel", "bestAsked", "I", false)
  | 35 => ("SaidTwiceModel", "bestWorst", "I", false)
  | _ => ("SaidTwiceModel", "bestCosts", "I", false)
def tyX8 : Nat → FieldType := fun k => match k with
  | 0 => .int
  | 1 => .array .int
  | 2 => .array .int
  | 3 => .int
  | 4 => .array .int
  | 5 => .array .int
  | 6 => .int
  | 7 => .array .int
  | 8 => .array .int
  | 9 => .int
  | 10 => .int
  | 11 => .boolean
  | 12 => .int
  | 13 => .int
  | 14 => .int
  | 15 => .array .int
  | 16 => .array .int
  | 17 => .array .int
  | 18 => .array .int
  | 19 => .array .int
  | 20 => .array .int
  | 21 => .int
  | 22 => .int
  | 23 => .int
  | 24 => .int
  | 25 => .array .int
  | 26 => .array .int
  | 27 => .int
  | 28 => .int
  | 29 => .int
  | 30 => .array .int
  | 31 => .array .int
  | 32 => .array .long
  | 33 => .array .long
  | 34 => .int
  | 35 => .int
  | _ => .int
abbrev wsX80 : List Cond := u_ws RX8 TX8 37
theorem nmX8 : ∀ a, a < 37 → ∀ b, b < 37 → a ≠ b → (TX8 a).2.1 ≠ (TX8 b).2.1 := by decide +kernel
theorem tyX8_ok : ∀ k, k < 37 → parseFieldDescriptor (TX8 k).2.2.1 = some (tyX8 k) := by decide +kernel
abbrev cX8_init : ByteArray := prog_10_method_1_code
def yX8_init : MethodName := ⟨RX8, "<init>", "()V"⟩
abbrev cX8_in : ByteArray := prog_10_method_3_code
def yX8_in : MethodName := ⟨RX8, "in", "(III)Z"⟩
abbrev cX8_within : ByteArray := prog_10_method_4_code
def yX8_within : MethodName := ⟨RX8, "within", "(III)I"⟩
abbrev cX8_isSpeaker : ByteArray := prog_10_method_5_code
def yX8_isSpeaker : MethodName := ⟨RX8, "isSpeaker", "(I)Z"⟩
abbrev cX8_isOfTexts : ByteArray := prog_10_method_6_code
def yX8_isOfTexts : MethodName := ⟨RX8, "isOfTexts", "(I)Z"⟩
abbrev cX8_isWorld : ByteArray := prog_10_method_7_code
def yX8_isWorld : MethodName := ⟨RX8, "isWorld", "(I)Z"⟩
abbrev cX8_has : ByteArray := prog_10_method_8_code
def yX8_has : MethodName := ⟨RX8, "has", "(JI)Z"⟩
abbrev cX8_bitsOf : ByteArray := prog_10_method_9_code
def yX8_bitsOf : MethodName := ⟨RX8, "bitsOf", "(J)I"⟩
abbrev cX8_count : ByteArray := prog_10_method_10_code
def yX8_count : MethodName := ⟨RX8, "count", "(I)I"⟩
abbrev cX8_isByte : ByteArray := prog_10_method_11_code
def yX8_isByte : MethodName := ⟨RX8, "isByte", "(I)Z"⟩
abbrev cX8_feed : ByteArray := prog_10_method_12_code
def yX8_feed : MethodName := ⟨RX8, "feed", "(IIIIII)I"⟩
abbrev cX8_wordFrom : ByteArray := prog_10_method_13_code
def yX8_wordFrom : MethodName := ⟨RX8, "wordFrom", "(II)I"⟩
abbrev cX8_next : ByteArray := prog_10_method_14_code
def yX8_next : MethodName := ⟨RX8, "next", "()V"⟩
abbrev cX8_rank : ByteArray := prog_10_method_15_code
def yX8_rank : MethodName := ⟨RX8, "rank", "(I)I"⟩
abbrev cX8_puts : ByteArray := prog_10_method_16_code
def yX8_puts : MethodName := ⟨RX8, "puts", "(I)V"⟩
abbrev cX8_unwinds : ByteArray := prog_10_method_17_code
def yX8_unwinds : MethodName := ⟨RX8, "unwinds", "(I)V"⟩
abbrev cX8_holds : ByteArray := prog_10_method_18_code
def yX8_holds : MethodName := ⟨RX8, "holds", "(I)V"⟩
abbrev cX8_opensOne : ByteArray := prog_10_method_19_code
def yX8_opensOne : MethodName := ⟨RX8, "opensOne", "(I)Z"⟩
abbrev cX8_between : ByteArray := prog_10_method_20_code
def yX8_between : MethodName := ⟨RX8, "between", "(I)Z"⟩
abbrev cX8_signOf : ByteArray := prog_10_method_21_code
def yX8_signOf : MethodName := ⟨RX8, "signOf", "()I"⟩
abbrev cX8_eRead : ByteArray := prog_10_method_22_code
def yX8_eRead : MethodName := ⟨RX8, "eRead", "()Z"⟩
abbrev cX8_text : ByteArray := prog_10_method_23_code
def yX8_text : MethodName := ⟨RX8, "text", "()I"⟩
abbrev cX8_two : ByteArray := prog_10_method_24_code
def yX8_two : MethodName := ⟨RX8, "two", "(III)I"⟩
abbrev cX8_says : ByteArray := prog_10_method_25_code
def yX8_says : MethodName := ⟨RX8, "says", "(I)I"⟩
abbrev cX8_force : ByteArray := prog_10_method_26_code
def yX8_force : MethodName := ⟨RX8, "force", "(I)I"⟩
abbrev cX8_saysOf : ByteArray := prog_10_method_27_code
def yX8_saysOf : MethodName := ⟨RX8, "saysOf", "(IIII)I"⟩
abbrev cX8_asks : ByteArray := prog_10_method_28_code
def yX8_asks : MethodName := ⟨RX8, "asks", "(IIII)I"⟩
abbrev cX8_soIn : ByteArray := prog_10_method_29_code
def yX8_soIn : MethodName := ⟨RX8, "soIn", "(III)J"⟩
abbrev cX8_means : ByteArray := prog_10_method_30_code
def yX8_means : MethodName := ⟨RX8, "means", "(II)J"⟩
abbrev cX8_pairs : ByteArray := prog_10_method_31_code
def yX8_pairs : MethodName := ⟨RX8, "pairs", "(I)I"⟩
abbrev cX8_reads : ByteArray := prog_10_method_32_code
def yX8_reads : MethodName := ⟨RX8, "reads", "()V"⟩
abbrev cX8_once : ByteArray := prog_10_method_33_code
def yX8_once : MethodName := ⟨RX8, "once", "(I)J"⟩
abbrev cX8_isSo : ByteArray := prog_10_method_34_code
def yX8_isSo : MethodName := ⟨RX8, "isSo", "(II)Z"⟩
abbrev cX8_speaker : ByteArray := prog_10_method_35_code
def yX8_speaker : MethodName := ⟨RX8, "speaker", "(II)I"⟩
abbrev cX8_turn : ByteArray := prog_10_method_36_code
def yX8_turn : MethodName := ⟨RX8, "turn", "(III)I"⟩
abbrev cX8_told : ByteArray := prog_10_method_37_code
def yX8_told : MethodName := ⟨RX8, "told", "(II)I"⟩
abbrev cX8_say : ByteArray := prog_10_method_38_code
def yX8_say : MethodName := ⟨RX8, "say", "(III)I"⟩
abbrev cX8_unsay : ByteArray := prog_10_method_39_code
def yX8_unsay : MethodName := ⟨RX8, "unsay", "()I"⟩
abbrev cX8_said : ByteArray := prog_10_method_40_code
def yX8_said : MethodName := ⟨RX8, "said", "(II)I"⟩
abbrev cX8_canSay : ByteArray := prog_10_method_41_code
def yX8_canSay : MethodName := ⟨RX8, "canSay", "(IIIIII)J"⟩
abbrev cX8_fits : ByteArray := prog_10_method_42_code
def yX8_fits : MethodName := ⟨RX8, "fits", "(IIII)J"⟩
abbrev cX8_fitsSaying : ByteArray := prog_10_method_43_code
def yX8_fitsSaying : MethodName := ⟨RX8, "fitsSaying", "(I)J"⟩
abbrev cX8_worldsOf : ByteArray := prog_10_method_44_code
def yX8_worldsOf : MethodName := ⟨RX8, "worldsOf", "(I)J"⟩
abbrev cX8_worldsNow : ByteArray := prog_10_method_45_code
def yX8_worldsNow : MethodName := ⟨RX8, "worldsNow", "()J"⟩
abbrev cX8_worlds : ByteArray := prog_10_method_46_code
def yX8_worlds : MethodName := ⟨RX8, "worlds", "()J"⟩
abbrev cX8_allIn : ByteArray := prog_10_method_47_code
def yX8_allIn : MethodName := ⟨RX8, "allIn", "(J)I"⟩
abbrev cX8_noneIn : ByteArray := prog_10_method_48_code
def yX8_noneIn : MethodName := ⟨RX8, "noneIn", "(J)I"⟩
abbrev cX8_leastOf : ByteArray := prog_10_method_49_code
def yX8_leastOf : MethodName := ⟨RX8, "leastOf", "(J)I"⟩
abbrev cX8_behind : ByteArray := prog_10_method_50_code
def yX8_behind : MethodName := ⟨RX8, "behind", "(II)I"⟩
abbrev cX8_cannot : ByteArray := prog_10_method_51_code
def yX8_cannot : MethodName := ⟨RX8, "cannot", "()I"⟩
abbrev cX8_findsFitting : ByteArray := prog_10_method_52_code
def yX8_findsFitting : MethodName := ⟨RX8, "findsFitting", "()V"⟩
abbrev cX8_without : ByteArray := prog_10_method_53_code
def yX8_without : MethodName := ⟨RX8, "without", "(I)J"⟩
abbrev cX8_lies : ByteArray := prog_10_method_54_code
def yX8_lies : MethodName := ⟨RX8, "lies", "()I"⟩
abbrev cX8_least : ByteArray := prog_10_method_55_code
def yX8_least : MethodName := ⟨RX8, "least", "(I)I"⟩
abbrev cX8_worldsMad : ByteArray := prog_10_method_56_code
def yX8_worldsMad : MethodName := ⟨RX8, "worldsMad", "(I)J"⟩
abbrev cX8_mad : ByteArray := prog_10_method_57_code
def yX8_mad : MethodName := ⟨RX8, "mad", "(I)I"⟩
abbrev cX8_lowest : ByteArray := prog_10_method_58_code
def yX8_lowest : MethodName := ⟨RX8, "lowest", "(JJI)J"⟩
abbrev cX8_habit : ByteArray := prog_10_method_59_code
def yX8_habit : MethodName := ⟨RX8, "habit", "(III)J"⟩
abbrev cX8_kinds : ByteArray := prog_10_method_60_code
def yX8_kinds : MethodName := ⟨RX8, "kinds", "(II)I"⟩
abbrev cX8_worstOf : ByteArray := prog_10_method_61_code
def yX8_worstOf : MethodName := ⟨RX8, "worstOf", "(JIII)I"⟩
abbrev cX8_findsQuestion : ByteArray := prog_10_method_62_code
def yX8_findsQuestion : MethodName := ⟨RX8, "findsQuestion", "(JI)V"⟩
abbrev cX8_ask : ByteArray := prog_10_method_63_code
def yX8_ask : MethodName := ⟨RX8, "ask", "(I)I"⟩
abbrev cX8_worstBehind : ByteArray := prog_10_method_64_code
def yX8_worstBehind : MethodName := ⟨RX8, "worstBehind", "(J)I"⟩
abbrev cX8_two_ : ByteArray := prog_10_method_65_code
def yX8_two_ : MethodName := ⟨RX8, "two", "(I)I"⟩
abbrev cX8_parts : ByteArray := prog_10_method_66_code
def yX8_parts : MethodName := ⟨RX8, "parts", "(III)J"⟩
abbrev cX8_isSure : ByteArray := prog_10_method_67_code
def yX8_isSure : MethodName := ⟨RX8, "isSure", "(JI)Z"⟩
abbrev cX8_hide : ByteArray := prog_10_method_68_code
def yX8_hide : MethodName := ⟨RX8, "hide", "(III)I"⟩
abbrev cX8_same : ByteArray := prog_10_method_69_code
def yX8_same : MethodName := ⟨RX8, "same", "(III)I"⟩
abbrev cX8_claims : ByteArray := prog_10_method_70_code
def yX8_claims : MethodName := ⟨RX8, "claims", "(I)I"⟩
abbrev cX8_settles : ByteArray := prog_10_method_71_code
def yX8_settles : MethodName := ⟨RX8, "settles", "(JI)Z"⟩
abbrev cX8_settle : ByteArray := prog_10_method_72_code
def yX8_settle : MethodName := ⟨RX8, "settle", "(I)I"⟩
abbrev cX8_thrice : ByteArray := prog_10_method_73_code
def yX8_thrice : MethodName := ⟨RX8, "thrice", "(III)J"⟩
abbrev cX8_many : ByteArray := prog_10_method_74_code
def yX8_many : MethodName := ⟨RX8, "many", "(I)I"⟩
abbrev cX8_isRow : ByteArray := prog_10_method_75_code
def yX8_isRow : MethodName := ⟨RX8, "isRow", "(III)Z"⟩
abbrev cX8_judge : ByteArray := prog_10_method_76_code
def yX8_judge : MethodName := ⟨RX8, "judge", "(II)I"⟩
abbrev cX8_film : ByteArray := prog_10_method_77_code
def yX8_film : MethodName := ⟨RX8, "film", "(I)I"⟩
abbrev cX8_worldAt : ByteArray := prog_10_method_78_code
def yX8_worldAt : MethodName := ⟨RX8, "worldAt", "(JI)I"⟩
abbrev cX8_asksBy : ByteArray := prog_10_method_79_code
def yX8_asksBy : MethodName := ⟨RX8, "asksBy", "(JI)I"⟩
abbrev cX8_drawn : ByteArray := prog_10_method_80_code
def yX8_drawn : MethodName := ⟨RX8, "drawn", "(I)I"⟩
abbrev cX8_mean : ByteArray := prog_10_method_81_code
def yX8_mean : MethodName := ⟨RX8, "mean", "(III)J"⟩
abbrev cX8_image : ByteArray := prog_10_method_82_code
def yX8_image : MethodName := ⟨RX8, "image", "()I"⟩
abbrev cX8_back : ByteArray := prog_10_method_83_code
def yX8_back : MethodName := ⟨RX8, "back", "()I"⟩
abbrev cX8_sheet : ByteArray := prog_10_method_84_code
def yX8_sheet : MethodName := ⟨RX8, "sheet", "(III)I"⟩
abbrev cX8_cell : ByteArray := prog_10_method_85_code
def yX8_cell : MethodName := ⟨RX8, "cell", "(III)I"⟩
abbrev cX8_copy : ByteArray := prog_10_method_86_code
def yX8_copy : MethodName := ⟨RX8, "copy", "(IIIII)I"⟩
abbrev cX8_sayingsBy : ByteArray := prog_10_method_87_code
def yX8_sayingsBy : MethodName := ⟨RX8, "sayingsBy", "(IIII)I"⟩
abbrev cX8_isUnder : ByteArray := prog_10_method_88_code
def yX8_isUnder : MethodName := ⟨RX8, "isUnder", "(II)Z"⟩
abbrev cX8_taken : ByteArray := prog_10_method_89_code
def yX8_taken : MethodName := ⟨RX8, "taken", "(II)I"⟩
def RJ6 : String := "java/lang/Integer"
def TJ6 : u_T := fun k => match k with
  | _ => ("", "", "", false)
def tyJ6 : Nat → FieldType := fun k => match k with
  | _ => .int
abbrev wsJ60 : List Cond := u_ws RJ6 TJ6 0
theorem nmJ6 : ∀ a, a < 0 → ∀ b, b < 0 → a ≠ b → (TJ6 a).2.1 ≠ (TJ6 b).2.1 := by decide +kernel
theorem tyJ6_ok : ∀ k, k < 0 → parseFieldDescriptor (TJ6 k).2.2.1 = some (tyJ6 k) := by decide +kernel
abbrev cJ6_bitCount_0f7a4 : ByteArray := prog_11_method_49_code
def yJ6_bitCount_0f7a4 : MethodName := ⟨RJ6, "bitCount", "(I)I"⟩
def RJ9 : String := "java/lang/Math"
def TJ9 : u_T := fun k => match k with
  | _ => ("", "", "", false)
def tyJ9 : Nat → FieldType := fun k => match k with
  | _ => .int
abbrev wsJ90 : List Cond := u_ws RJ9 TJ9 0
theorem nmJ9 : ∀ a, a < 0 → ∀ b, b < 0 → a ≠ b → (TJ9 a).2.1 ≠ (TJ9 b).2.1 := by decide +kernel
theorem tyJ9_ok : ∀ k, k < 0 → parseFieldDescriptor (TJ9 k).2.2.1 = some (tyJ9 k) := by decide +kernel
abbrev cJ9_max_7cf53 : ByteArray := prog_12_method_65_code
def yJ9_max_7cf53 : MethodName := ⟨RJ9, "max", "(II)I"⟩
abbrev cJ9_min_7cf53 : ByteArray := prog_12_method_69_code
def yJ9_min_7cf53 : MethodName := ⟨RJ9, "min", "(II)I"⟩
def RJ0 : String := "java/lang/String"
def TJ0 : u_T := fun k => match k with
  | _ => ("", "", "", false)
def tyJ0 : Nat → FieldType := fun k => match k with
  | _ => .int
abbrev wsJ00 : List Cond := u_ws RJ0 TJ0 0
theorem nmJ0 : ∀ a, a < 0 → ∀ b, b < 0 → a ≠ b → (TJ0 a).2.1 ≠ (TJ0 b).2.1 := by decide +kernel
theorem tyJ0_ok : ∀ k, k < 0 → parseFieldDescriptor (TJ0 k).2.2.1 = some (tyJ0 k) := by decide +kernel
abbrev cJ0_length_8abf5 : ByteArray := prog_13_method_54_code
def yJ0_length_8abf5 : MethodName := ⟨RJ0, "length", "()I"⟩
abbrev cJ0_charAt_5068e : ByteArray := prog_13_method_56_code
def yJ0_charAt_5068e : MethodName := ⟨RJ0, "charAt", "(I)C"⟩
abbrev cJ0_coder_7d493 : ByteArray := prog_13_method_152_code
def yJ0_coder_7d493 : MethodName := ⟨RJ0, "coder", "()B"⟩
abbrev cJ0_isLatin1_aae02 : ByteArray := prog_13_method_154_code
def yJ0_isLatin1_aae02 : MethodName := ⟨RJ0, "isLatin1", "()Z"⟩
abbrev cJ0_checkIndex_df160 : ByteArray := prog_13_method_155_code
def yJ0_checkIndex_df160 : MethodName := ⟨RJ0, "checkIndex", "(II)V"⟩
def RJ1 : String := "java/lang/StringLatin1"
def TJ1 : u_T := fun k => match k with
  | _ => ("", "", "", false)
def tyJ1 : Nat → FieldType := fun k => match k with
  | _ => .int
abbrev wsJ10 : List Cond := u_ws RJ1 TJ1 0
theorem nmJ1 : ∀ a, a < 0 → ∀ b, b < 0 → a ≠ b → (TJ1 a).2.1 ≠ (TJ1 b).2.1 := by decide +kernel
theorem tyJ1_ok : ∀ k, k < 0 → parseFieldDescriptor (TJ1 k).2.2.1 = some (tyJ1 k) := by decide +kernel
abbrev cJ1_charAt_3b067 : ByteArray := prog_14_method_2_code
def yJ1_charAt_3b067 : MethodName := ⟨RJ1, "charAt", "([BI)C"⟩
def RJ2 : String := "java/lang/StringUTF16"
def TJ2 : u_T := fun k => match k with
  | _ => ("", "", "", false)
def tyJ2 : Nat → FieldType := fun k => match k with
  | _ => .int
abbrev wsJ20 : List Cond := u_ws RJ2 TJ2 0
theorem nmJ2 : ∀ a, a < 0 → ∀ b, b < 0 → a ≠ b → (TJ2 a).2.1 ≠ (TJ2 b).2.1 := by decide +kernel
theorem tyJ2_ok : ∀ k, k < 0 → parseFieldDescriptor (TJ2 k).2.2.1 = some (tyJ2 k) := by decide +kernel
abbrev cJ2_getChar_3b067 : ByteArray := prog_15_method_5_code
def yJ2_getChar_3b067 : MethodName := ⟨RJ2, "getChar", "([BI)C"⟩
abbrev cJ2_length_9d52b : ByteArray := prog_15_method_6_code
def yJ2_length_9d52b : MethodName := ⟨RJ2, "length", "([B)I"⟩
abbrev cJ2_charAt_3b067 : ByteArray := prog_15_method_83_code
def yJ2_charAt_3b067 : MethodName := ⟨RJ2, "charAt", "([BI)C"⟩
abbrev cJ2_checkIndex_2214a : ByteArray := prog_15_method_91_code
def yJ2_checkIndex_2214a : MethodName := ⟨RJ2, "checkIndex", "(I[B)V"⟩
def RJ3 : String := "jdk/internal/util/Preconditions"
def TJ3 : u_T := fun k => match k with
  | _ => ("", "", "", false)
def tyJ3 : Nat → FieldType := fun k => match k with
  | _ => .int
abbrev wsJ30 : List Cond := u_ws RJ3 TJ3 0
theorem nmJ3 : ∀ a, a < 0 → ∀ b, b < 0 → a ≠ b → (TJ3 a).2.1 ≠ (TJ3 b).2.1 := by decide +kernel
theorem tyJ3_ok : ∀ k, k < 0 → parseFieldDescriptor (TJ3 k).2.2.1 = some (tyJ3 k) := by decide +kernel
abbrev cJ3_checkIndex_8e157 : ByteArray := prog_16_method_11_code
def yJ3_checkIndex_8e157 : MethodName := ⟨RJ3, "checkIndex", "(IILjava/util/function/BiFunction;)I"⟩
def RL : String := "SaidTwiceLaw"
abbrev cL_law : ByteArray := code
def yL_law : MethodName := ⟨RL, "law", "([I)Z"⟩
abbrev vwCl : List vw_C := [(RX0, TX0, 6), (RX1, TX1, 2), (RX2, TX2, 4), (RX3, TX3, 4), (RX4, TX4, 6), (RX5, TX5, 4), (RX6, TX6, 6), (RX7, TX7, 9), (RX8, TX8, 37)]

/-- the words of the tables that any method may be given -/
def TBL : List Cond := lw_tbl.filter goodWord
theorem tb_good : ∀ w ∈ TBL, goodWord w = true := fun w h => (List.mem_filter.mp h).2
theorem tb_at {w : Cond} (i : Nat) (h : lw_tbl[i]? = some w) (hg : goodWord w = true) : w ∈ TBL := List.mem_filter.mpr ⟨List.mem_of_getElem? h, hg⟩
theorem tb_list {ws : List Cond} (ps : List Nat) (hp : ws = ps.filterMap (fun i => lw_tbl[i]?)) (h : ws.all goodWord = true) : ∀ w ∈ ws, w ∈ TBL := by
  intro w hw
  have h1 := List.all_eq_true.mp h w hw
  rw [hp] at hw
  obtain ⟨i, -, hi⟩ := List.mem_filterMap.mp hw
  exact tb_at i hi h1
end
section
/-! THE ABSTRACT MACHINE: methods run over a list of cells whose references are places; what it reaches, the machine itself reaches (part 03). -/
abbrev AC : Type := (Nat × List Value) ⊕ (List Int32 ⊕ List Int64)
abbrev AO (ci : Nat) (fs : List Value) : AC := .inl (ci, fs)
abbrev AI (xs : List Int32) : AC := .inr (.inl xs)
abbrev AL (xs : List Int64) : AC := .inr (.inr xs)
abbrev AH : Type := List AC
abbrev LO : Type := List (Option Value)
/-- a method: its name, bytes, locals, return type, how many arguments (the receiver too), cells and slots that it makes -/
abbrev Sig : Type := MethodName × ByteArray × Nat × Option FieldType × Nat × Nat × Nat
abbrev sY (g : Sig) : MethodName := g.1
abbrev sB (g : Sig) : ByteArray := g.2.1
abbrev sL (g : Sig) : Nat := g.2.2.1
abbrev sR (g : Sig) : Option FieldType := g.2.2.2.1
abbrev sA (g : Sig) : Nat := g.2.2.2.2.1
abbrev sC (g : Sig) : Nat := g.2.2.2.2.2.1
abbrev sS (g : Sig) : Nat := g.2.2.2.2.2.2
/-- a row: the instruction, its place, the next row, two numbers and a whole number of its kind, targets of a switch, the method that it calls -/
abbrev Row : Type := Instr × Nat × Nat × Nat × Nat × Int × List Nat × Sig
/-- the classes, what their fields are -/
def clTy : List (Nat → FieldType) := [tyX0, tyX1, tyX2, tyX3, tyX4, tyX5, tyX6, tyX7, tyX8]
/-- the length of the instructions that have one -/
def ilen : Instr → Nat
  | .aload _ | .astore _ | .iload _ | .istore _ | .lload _ | .lstore _ | .bipush _ | .ldc _ | .newarray _ => 2
  | .sipush _ | .ldc_w _ | .ldc2_w _ | .getfield _ | .putfield _ | .getstatic _ | .invokevirtual _ | .invokestatic _ | .invokespecial _ | .new _ | .goto _ | .if_icmp _ _ | .ifCond _ _ | .ifnull _ | .ifnonnull _ | .iinc _ _ => 3
  | _ => 1
def isNest : Cond → Bool
  | .fieldLinkNest _ _ _ _ _ _ => true
  | .methodLinkNest _ _ _ _ => true
  | _ => false
def NWL : List Cond := lw_tbl.filter isNest
/-- the String constants: their entries, texts, lengths, bytes; their places are 1100 .. and, their rows', 1200 .. -/
def sIx : List Nat := [61, 67, 69, 71, 73, 75, 77]
def sTx : List String := ["who", "once", "twice", "costs", "or", "and", "not"]
def lenS : List Nat := [3, 4, 5, 5, 2, 3, 3]
def bytS : List (List Int32) := [[119, 104, 111], [111, 110, 99, 101], [116, 119, 105, 99, 101], [99, 111, 115, 116, 115], [111, 114], [97, 110, 100], [110, 111, 116]]
def strF (b : Nat) : String × String := match b with
  | 0 => ("coder", "B")
  | _ => ("value", "[B")
def strQ (q : Nat) : Option Nat := match Nat.ble 1100 q && Nat.blt q 1107 with
  | true => some (q - 1100)
  | false => none
def bytQ (q : Nat) : Option Nat := match Nat.ble 1200 q && Nat.blt q 1207 with
  | true => some (q - 1200)
  | false => none
theorem strQ_spec {q i : Nat} (h : strQ q = some i) : q = 1100 + i ∧ i < 7 := by
  unfold strQ at h
  split at h
  · rename_i e
    simp only [Bool.and_eq_true] at e
    have h1 := Nat.le_of_ble_eq_true e.1
    have h2 := Nat.blt_eq.mp e.2
    have h3 := Option.some.inj h
    omega
  · cases h
theorem bytQ_spec {q i : Nat} (h : bytQ q = some i) : q = 1200 + i ∧ i < 7 := by
  unfold bytQ at h
  split at h
  · rename_i e
    simp only [Bool.and_eq_true] at e
    have h1 := Nat.le_of_ble_eq_true e.1
    have h2 := Nat.blt_eq.mp e.2
    have h3 := Option.some.inj h
    omega
  · cases h
end
section
/-! WHAT THE ABSTRACT MACHINE REACHES, THE MACHINE REACHES. -/
def pcO (code : List Row) (i : Nat) : Nat := match code[i]? with
  | some r => r.2.1
  | none => 0
def clOk (a b : Nat) : Bool := match vwCl[a]? with
  | some q => Nat.blt b q.2.2
  | none => false
def sgOk (g : Sig) (n : Nat) : Bool := decide ((sY g).cls ≠ "java/lang/invoke/MethodHandle") && decide ((sY g).cls ≠ "java/lang/invoke/VarHandle") && decide ((parseMethodDescriptor (sY g).desc).map (fun d => d.parameters.length) = some n)
def clN (a : Nat) : String := (vwCl.getD a (RX0, TX0, 6)).1
def clF (a b : Nat) : String × String × String × Bool := ((vwCl.getD a (RX0, TX0, 6)).2.1) b
def clS (a : Nat) : Nat := (vwCl.getD a (RX0, TX0, 6)).2.2
/-- the words of a row, out of the tables -/
def needT (own : String) (r : Row) : List Cond := match r with
  | (ins, _, _, a, b, c, _, cs) => match ins with
    | .getfield ix => if a = 50 then [.fieldLink own ix "java/lang/String" (strF b).1 (strF b).2] else if c = 0 then [.fieldLink own ix (clN a) (clF a b).2.1 (clF a b).2.2.1] else []
    | .putfield ix => if c = 0 then [.fieldLink own ix (clN a) (clF a b).2.1 (clF a b).2.2.1] else []
    | .getstatic ix => if a = 51 then [.fieldLink own ix "java/lang/String" "COMPACT_STRINGS" "Z"] else if a = 52 then [.fieldLink own ix "jdk/internal/util/Preconditions" "SIOOBE_FORMATTER" "Ljava/util/function/BiFunction;"] else [.fieldLink own ix "SaidTwice" "SO_IN" "[I"]
    | .invokevirtual ix => if c = 0 then [.methodLink own ix (sY cs)] else []
    | .invokestatic ix => if b = 7 then [.methodLink own ix Lib.Math.max.name, .static Lib.Math.max.name, .initialized "java/lang/Math", .code Lib.Math.max.name Lib.Math.max.code 2 (some .int)] else if b = 8 then [.methodLink own ix Lib.Math.min.name, .static Lib.Math.min.name, .initialized "java/lang/Math", .code Lib.Math.min.name Lib.Math.min.code 2 (some .int)] else if c = 0 then [.methodLink own ix (sY cs)] else []
    | .invokespecial ix => if b = 9 then [.methodLink own ix Lib.objectInit, .instanceMethod Lib.objectInit, .code Lib.objectInit ⟨#[0xb1]⟩ 1 none] else if c = 0 then [.methodLink own ix (sY cs)] else []
    | .new ix => [.classLink own ix (clN a), .instantiable (clN a) (clS a), .initialized (clN a)]
    | .newarray t => [.arrayClass (newarray.typeOf t)]
    | .ldc ix => if a = 50 then [] else [.constant own ix (Int32.ofInt c)]
    | .ldc_w ix => [.constant own ix (Int32.ofInt c)]
    | .ldc2_w ix => [.constantLong own ix (Int64.ofInt c)]
    | _ => []
/-- the words of a row between nest mates -/
def needN (own : String) (r : Row) : List Cond := match r with
  | (ins, _, _, a, b, c, _, cs) => if c = 1 then (match ins with
    | .getfield ix => [.fieldLinkNest own ix (clN a) (clF a b).2.1 (clF a b).2.2.1 "SaidTwice"]
    | .putfield ix => [.fieldLinkNest own ix (clN a) (clF a b).2.1 (clF a b).2.2.1 "SaidTwice"]
    | .invokevirtual ix => [.methodLinkNest own ix (sY cs) "SaidTwice"]
    | .invokestatic ix => [.methodLinkNest own ix (sY cs) "SaidTwice"]
    | .invokespecial ix => if b = 9 then [] else [.methodLinkNest own ix (sY cs) "SaidTwice"]
    | _ => []) else []
/-- what is said of a method that is called: a static one, an object's, a constructor -/
def SgS (cs : Sig) : Prop := sgOk cs (sA cs) = true ∧ ∀ w ∈ [Cond.static (sY cs), .initialized (sY cs).cls, .code (sY cs) (sB cs) (sL cs) (sR cs)], w ∈ TBL
def SgV (cs : Sig) (a : Nat) : Prop := (sgOk cs (sA cs - 1) && (decide ((sY cs).cls = clN a) && (clOk a 0 && decide (1 ≤ sA cs)))) = true ∧ ∀ w ∈ [Cond.instanceMethod (sY cs), .selects (clN a) (sY cs) (sY cs), .initialized (sY cs).cls, .code (sY cs) (sB cs) (sL cs) (sR cs)], w ∈ TBL
/-- a String's -/
def SgX (cs : Sig) : Prop := (sgOk cs (sA cs - 1) && (decide ((sY cs).cls = "java/lang/String") && (decide (1 ≤ sA cs) && decide (sC cs = 0)))) = true ∧ ∀ w ∈ [Cond.instanceMethod (sY cs), .selects "java/lang/String" (sY cs) (sY cs), .initialized (sY cs).cls, .code (sY cs) (sB cs) (sL cs) (sR cs)], w ∈ TBL
def SgI (cs : Sig) : Prop := (sgOk cs (sA cs - 1) && (decide (1 ≤ sA cs) && (decide ((sY cs).name = "<init>") && decide (sR cs = none)))) = true ∧ ∀ w ∈ [Cond.instanceMethod (sY cs), .initialized (sY cs).cls, .code (sY cs) (sB cs) (sL cs) (sR cs)], w ∈ TBL
def callOk (r : Row) : Prop := match r with
  | (ins, _, _, a, b, _, _, cs) => match ins with
    | .invokestatic _ => match Nat.beq b 7 || Nat.beq b 8 with
      | true => True
      | false => SgS cs
    | .invokevirtual _ => match Nat.beq a 50 with
      | true => SgX cs
      | false => SgV cs a
    | .invokespecial _ => match Nat.beq b 9 with
      | true => True
      | false => SgI cs
    | _ => True
/-- the same of all rows -/
def allC : List Row → Prop
  | [] => True
  | (ins, _, _, a, b, _, _, cs) :: rs => match ins with
    | .invokestatic _ => match Nat.beq b 7 || Nat.beq b 8 with
      | true => allC rs
      | false => SgS cs ∧ allC rs
    | .invokevirtual _ => match Nat.beq a 50 with
      | true => SgX cs ∧ allC rs
      | false => SgV cs a ∧ allC rs
    | .invokespecial _ => match Nat.beq b 9 with
      | true => allC rs
      | false => SgI cs ∧ allC rs
    | _ => allC rs
theorem allC_mem : ∀ {rs : List Row}, allC rs → ∀ r ∈ rs, callOk r := by
  intro rs
  induction rs with
  | nil => intro _ r hr; cases hr
  | cons q rs ih =>
    intro h r hr
    obtain ⟨ins, pc, nx, a, b, c, ts, cs⟩ := q
    have both : callOk (ins, pc, nx, a, b, c, ts, cs) ∧ allC rs := by
      cases ins
      case invokevirtual ix =>
        cases hb : Nat.beq a 50 with
        | true =>
          simp only [allC, hb] at h
          exact ⟨by simp only [callOk, hb]; exact h.1, h.2⟩
        | false =>
          simp only [allC, hb] at h
          exact ⟨by simp only [callOk, hb]; exact h.1, h.2⟩
      case invokestatic ix =>
        cases hb : (Nat.beq b 7 || Nat.beq b 8) with
        | true =>
          simp only [allC, hb] at h
          exact ⟨by simp only [callOk, hb], h⟩
        | false =>
          simp only [allC, hb] at h
          exact ⟨by simp only [callOk, hb]; exact h.1, h.2⟩
      case invokespecial ix =>
        cases hb : Nat.beq b 9 with
        | true =>
          simp only [allC, hb] at h
          exact ⟨by simp only [callOk, hb], h⟩
        | false =>
          simp only [allC, hb] at h
          exact ⟨by simp only [callOk, hb]; exact h.1, h.2⟩
      all_goals exact ⟨trivial, h⟩
    rcases List.mem_cons.mp hr with rfl | hr
    · exact both.1
    · exact ih both.2 r hr
/-- what a program decides of a row: pn is where the next one stands -/
def rowP (g : Sig) (code : List Row) (pn : Nat) (r : Row) : Bool := match r with
  | (ins, pc, nx, a, b, c, ts, cs) => match ins with
    | .nop => true
    | .tableswitch d lo hi offs => decide (decode (sB g) pc = .ok (ins, pn - pc)) && (decide ((pc : Int) + d = (pcO code a : Int)) && (decide (offs.toList.map (fun o => (pc : Int) + o) = ts.map (fun t => (pcO code t : Int))) && decide (hi = lo + (ts.length : Int) - 1)))
    | .lookupswitch d ps => decide (decode (sB g) pc = .ok (ins, pn - pc)) && (decide ((pc : Int) + d = (pcO code a : Int)) && (decide (ps.toList.map (fun o => (pc : Int) + o.2) = ts.map (fun t => (pcO code t : Int))) && ((ps.toList.zip (ps.toList.drop 1)).all (fun (a, next) => a.1 < next.1) && ps.toList.all (fun o => decide ((Int32.ofInt o.1).toInt = o.1)))))
    | _ => decide (decode (sB g) pc = .ok (ins, ilen ins)) && (match ins with
      | .ireturn | .lreturn | .return_ => true
      | .goto o => decide ((pc : Int) + o = (pcO code a : Int))
      | .ifCond _ o | .if_icmp _ o | .ifnull o | .ifnonnull o => decide ((pc : Int) + o = (pcO code a : Int)) && decide (pn = pc + 3)
      | .iconst z => decide (Int32.ofInt z = Int32.ofInt c) && decide (pn = pc + 1)
      | .bipush z => decide ((Int8.ofInt z).toInt32 = Int32.ofInt c) && decide (pn = pc + 2)
      | .sipush z => decide ((Int16.ofInt z).toInt32 = Int32.ofInt c) && decide (pn = pc + 3)
      | .lconst z => decide (Int64.ofNat z.val = Int64.ofInt c) && decide (pn = pc + 1)
      | .iinc _ z => decide (Int32.ofInt z = Int32.ofInt c) && decide (pn = pc + 3)
      | .getfield _ => (match Nat.beq a 50 with | true => Nat.ble b 1 | false => clOk a b) && (decide (c = 0 ∨ c = 1) && decide (pn = pc + 3))
      | .ldc ix => (match Nat.beq a 50 with | true => decide (sIx[b]? = some ix) && decide ((sY g).cls = "SaidTwice$Tokens") | false => true) && decide (pn = pc + 2)
      | .putfield _ => clOk a b && (decide (c = 0 ∨ c = 1) && (decide ((clF a b).2.2.2 = false ∨ ((sY g).name = "<init>" ∧ (clF a b).1 = (sY g).cls ∧ c = 0)) && decide (pn = pc + 3)))
      | .invokevirtual _ | .invokestatic _ | .invokespecial _ => decide (c = 0 ∨ c = 1) && decide (pn = pc + 3)
      | .new _ => clOk a 0 && decide (pn = pc + 3)
      | i => decide (pn = pc + ilen i))
def rowB (g : Sig) (code : List Row) (r : Row) : Bool := rowP g code (pcO code r.2.2.1) r
def nxPc : List Row → Nat
  | [] => 0
  | q :: _ => q.2.1
/-- the rows from the i-th on, in one pass -/
def linB (g : Sig) (code : List Row) : Nat → List Row → Bool
  | _, [] => true
  | i, r :: rs => rowP g code (nxPc rs) r && (Nat.beq r.2.2.1 (i + 1) && linB g code (i + 1) rs)
theorem linB_spec {g : Sig} {code : List Row} : ∀ {rs pre : List Row}, code = pre ++ rs → linB g code pre.length rs = true → ∀ r ∈ rs, rowB g code r = true := by
  intro rs
  induction rs with
  | nil => intro pre _ _ r hr; cases hr
  | cons q rs ih =>
    intro pre hc h r hr
    simp only [linB, Bool.and_eq_true] at h
    obtain ⟨h1, h2, h3⟩ := h
    have hnx : q.2.2.1 = pre.length + 1 := Nat.eq_of_beq_eq_true h2
    rcases List.mem_cons.mp hr with rfl | hr
    · unfold rowB
      rw [hnx]
      have : pcO code (pre.length + 1) = (nxPc rs) := by
        unfold pcO
        rw [hc]
        cases rs with
        | nil => simp [nxPc]
        | cons a rs => simp [nxPc]
      rw [this]
      exact h1
    · exact ih (pre := pre ++ [q]) (by simp [hc]) (by simpa using h3) r hr
/-- a stretch of rows, the row behind which stands at pe -/
def linE (g : Sig) (code : List Row) (pe : Nat) : Nat → List Row → Bool
  | _, [] => true
  | i, r :: rs => rowP g code (match rs with | [] => pe | q :: _ => q.2.1) r && (Nat.beq r.2.2.1 (i + 1) && linE g code pe (i + 1) rs)
theorem linB_app {g : Sig} {code : List Row} : ∀ {a b : List Row} {i : Nat}, linE g code (nxPc b) i a = true → linB g code (i + a.length) b = true → linB g code i (a ++ b) = true := by
  intro a
  induction a with
  | nil => intro b i _ h; simpa using h
  | cons x a ih =>
    intro b i h1 h2
    simp only [linE, Bool.and_eq_true] at h1
    obtain ⟨g1, g2, g3⟩ := h1
    simp only [List.cons_append, linB, Bool.and_eq_true]
    refine ⟨?_, g2, ih g3 (by rw [show i + 1 + a.length = i + (x :: a).length by simp; omega]; exact h2)⟩
    cases a with
    | cons y a => exact g1
    | nil => exact g1
/-- what is checked of a method -/
def Chk (g : Sig) (code : List Row) : Prop := linB g code 0 code = true ∧ allC code ∧ (∀ w ∈ code.flatMap (needT (sY g).cls), w ∈ TBL) ∧ (∀ w ∈ code.flatMap (needN (sY g).cls), w ∈ NWL) ∧ plainName (sY g).cls = true
end
section
abbrev PP : Type := Nat → LO → List Value → AH → Nat → Nat → Prop
abbrev PK : Type := List Value → Prop
def iU (f : Int32 → Int32) : List Value → PK → Prop
  | .int x :: r, K => K (.int (f x) :: r)
  | _, _ => False
def iB (f : Int32 → Int32 → Int32) : List Value → PK → Prop
  | .int y :: .int x :: r, K => K (.int (f x y) :: r)
  | _, _ => False
def iD (f : Int32 → Int32 → Int32) : List Value → PK → Prop
  | .int y :: .int x :: r, K => ¬ y = 0 ∧ K (.int (f x y) :: r)
  | _, _ => False
def jB (f : Int64 → Int64 → Int64) : List Value → PK → Prop
  | .long y :: .long x :: r, K => K (.long (f x y) :: r)
  | _, _ => False
def jD (f : Int64 → Int64 → Int64) : List Value → PK → Prop
  | .long y :: .long x :: r, K => ¬ y = 0 ∧ K (.long (f x y) :: r)
  | _, _ => False
def jS (f : Int64 → Int32 → Int64) : List Value → PK → Prop
  | .int y :: .long x :: r, K => K (.long (f x y) :: r)
  | _, _ => False
def jC : List Value → PK → Prop
  | .long y :: .long x :: r, K => K (.int (lg_cmp x y) :: r)
  | _, _ => False
def ijU : List Value → PK → Prop
  | .int x :: r, K => K (.long x.toInt64 :: r)
  | _, _ => False
def jiU : List Value → PK → Prop
  | .long x :: r, K => K (.int x.toInt32 :: r)
  | _, _ => False
def icC (q : Int32 → Int32 → Prop) : List Value → PK → PK → Prop
  | .int y :: .int x :: r, T, F => (q x y → T r) ∧ (¬ q x y → F r)
  | _, _, _ => False
def izC (q : Int32 → Prop) : List Value → PK → PK → Prop
  | .int x :: r, T, F => (q x → T r) ∧ (¬ q x → F r)
  | _, _, _ => False
def rfN : List Value → PK → Prop
  | .ref _ :: r, K => K r
  | _, _ => False
def ldI (ls : LO) (j : Nat) (K : Value → Prop) : Prop := match ls[j]? with
  | some (some (.int x)) => K (.int x)
  | _ => False
def ldL (ls : LO) (j : Nat) (K : Value → Prop) : Prop := match ls[j]? with
  | some (some (.long x)) => K (.long x)
  | _ => False
def ldA (ls : LO) (j : Nat) (K : Value → Prop) : Prop := match ls[j]? with
  | some (some (.ref x)) => K (.ref x)
  | _ => False
def stO : LO → Nat → Value → (LO → Prop) → Prop
  | [], _, _, _ => False
  | _ :: r, 0, v, K => K (some v :: r)
  | x :: r, j + 1, v, K => match j, x with
    | 0, some (.long _) => False
    | 0, some (.double _) => False
    | _, _ => stO r j v (fun r' => K (x :: r'))
def stT : LO → Nat → Value → (LO → Prop) → Prop
  | [], _, _, _ => False
  | _ :: r, 0, v, K => match r with
    | [] => False
    | _ :: r' => K (some v :: none :: r')
  | x :: r, j + 1, v, K => match j, x with
    | 0, some (.long _) => False
    | 0, some (.double _) => False
    | _, _ => stT r j v (fun r' => K (x :: r'))
def stI (ls : LO) (j : Nat) (st : List Value) (K : LO → List Value → Prop) : Prop := match st with
  | .int x :: r => stO ls j (.int x) (fun ls' => K ls' r)
  | _ => False
def stA (ls : LO) (j : Nat) (st : List Value) (K : LO → List Value → Prop) : Prop := match st with
  | .ref x :: r => stO ls j (.ref x) (fun ls' => K ls' r)
  | _ => False
def stL (ls : LO) (j : Nat) (st : List Value) (K : LO → List Value → Prop) : Prop := match st with
  | .long x :: r => stT ls j (.long x) (fun ls' => K ls' r)
  | _ => False
/-- a cell put in place of another -/
def seH : AH → Nat → AC → (AH → Prop) → Prop
  | [], _, _, _ => False
  | _ :: r, 0, c, K => K (c :: r)
  | x :: r, j + 1, c, K => seH r j c (fun r' => K (x :: r'))
def seV : List Value → Nat → Value → (List Value → Prop) → Prop
  | [], _, _, _ => False
  | _ :: r, 0, c, K => K (c :: r)
  | x :: r, j + 1, c, K => seV r j c (fun r' => K (x :: r'))
def popN : Nat → List Value → List Value → (List Value → List Value → Prop) → Prop
  | 0, acc, st, K => K acc st
  | n + 1, acc, v :: st, K => popN n (v :: acc) st K
  | _ + 1, _, [], _ => False
def catN : List Value → Nat
  | [] => 0
  | v :: r => v.category + catN r
def rOk (n : Nat) : Value → Bool
  | .ref k => Nat.blt k n || Nat.ble 1000 k
  | _ => true
def rOkS (n : Nat) (vs : List Value) : Bool := vs.all (rOk n)
def rOkL (n : Nat) (ls : LO) : Bool := ls.all (fun o => match o with | some v => rOk n v | none => true)
def rOkC (n : Nat) : AC → Bool
  | .inl o => rOkS n o.2
  | .inr _ => true
def rOkH (n : Nat) (hp : AH) : Bool := hp.all (rOkC n)
def swT (x : Int32) : Int → List Nat → (Nat → Prop) → Prop
  | _, [], _ => True
  | lo, t :: ts, K => (x = Int32.ofInt lo → K t) ∧ swT x (lo + 1) ts K
def swL (x : Int32) : List (Int × Int) → List Nat → (Nat → Prop) → Prop
  | a :: as, t :: ts, K => (x = Int32.ofInt a.1 → K t) ∧ swL x as ts K
  | _, _, _ => True
def dfl (ci N : Nat) : List Value := (List.range N).map (fun j => defaultValue ((clTy.getD ci tyX0) j))
def putOk (ty : FieldType) (v : Value) : Prop := match ty, v with
  | .int, .int _ => True
  | .boolean, .int x => x = 0 ∨ x = 1
  | .object _, .ref _ => True
  | .array _, .ref _ => True
  | _, _ => False
def retOk (rt : Option FieldType) (x : Int32) (K : Prop) : Prop := match rt with
  | some .int => K
  | some t => narrow t (.int x) = .int x ∧ K
  | none => False
def rmD (d : Nat) (mc ms : Nat) : Room := { frames := d, cells := mc, slots := ms, locals := 64 * d }
def ctys (tc : Nat → Nat) : List (ClassId × FieldType) := [(tc 0, .int), (tc 1, .long)]
def cV (ad : Nat → Nat) : Value → Value
  | .ref k => .ref (ad k)
  | v => v
def cE (ad tc : Nat → Nat) : AC → va_E
  | .inl o => .inr (o.1, o.2.map (cV ad))
  | .inr (.inl xs) => .inl (tc 0, xs.length, .inl (fun j => xs.getD j 0))
  | .inr (.inr xs) => .inl (tc 1, xs.length, .inr (.inl (fun j => xs.getD j 0)))
def cW (ad tc : Nat → Nat) (hp : AH) : va_W := hp.mapIdx (fun k c => (ad k, cE ad tc c))
/-- a row that is only read -/
def roX (a : Nat) (xs : List Int32) (U : State) (H : Heap) : Prop := ∃ cell : Cell, H[a]? = some cell ∧ U.isArrayOf cell .int ∧ cell.vm ≠ .unknown ∧ xs.length ≤ cell.slots.size ∧ cell.slots.size.toInt32 = Int32.ofNat xs.length ∧ ∀ j : Nat, j < xs.length → cell.slots[j]? = some (.int (xs.getD j 0))
/-- the String constants, and what of the library's own statics their methods read -/
def EFS (xa : Nat → Nat) (A : Nat → Prop) (U : State) : Prop :=
  vk_S 7 lenS bytS (fun i => xa (100 + i)) (fun i => xa (200 + i)) A U U.heap ∧ (∀ (i ix : Nat) (tx : String), sIx[i]? = some ix → sTx[i]? = some tx → vk_R "SaidTwice$Tokens" ix tx (xa (100 + i)) U) ∧ va_Z "java/lang/String" "COMPACT_STRINGS" "Z" (.int 1) A U U.heap ∧
    (va_Z "jdk/internal/util/Preconditions" "SIOOBE_FORMATTER" "Ljava/util/function/BiFunction;" .null A U U.heap ∨ va_Z "jdk/internal/util/Preconditions" "SIOOBE_FORMATTER" "Ljava/util/function/BiFunction;" (.ref (xa 300)) A U U.heap)
/-- what stays: classes, nest words, the static row, rows that are only read -/
def EF (X : List (List Int32)) (D : va_G) (tc xa : Nat → Nat) (A : Nat → Prop) (U : State) : Prop :=
  va_K D vwCl (ctys tc) U ∧ (∀ w ∈ NWL, va_Nw w U) ∧ va_Z "SaidTwice" "SO_IN" "[I" (.ref (xa 0)) A U U.heap ∧ (∀ (j : Nat) (xs : List Int32), X[j]? = some xs → roX (xa j) xs U U.heap ∧ xa j < U.heap.size ∧ ¬ A (xa j)) ∧ EFS xa A U
def sgW (g : Sig) : List Cond := Cond.code (sY g) (sB g) (sL g) (sR g) :: TBL
/-- the addresses that were there stay; of a method that makes no cell, all -/
def adK (n : Nat) (mc : Nat) (ad ad' : Nat → Nat) : Prop := (∀ k, k < n ∨ 1000 ≤ k → ad' k = ad k) ∧ (mc = 0 → ad' = ad)
/-- the world before a method -/
def CPre (X : List (List Int32)) (D : va_G) (tc ad : Nat → Nat) (sz : Nat) (hp : AH) : State → Prop := fun U => U.heap.size = sz ∧ va_P D vwCl (cW ad tc hp) U.heap ∧ va_D (fun _ => True) (cW ad tc hp) ∧ EF X D tc (fun j => ad (1000 + j)) (va_A (cW ad tc hp) sz) U
/-- the world behind it -/
def CPost (mc : Nat) (D : va_G) (tc ad : Nat → Nat) (sz : Nat) (hp : AH) (R : AH → Option Value → Prop) : Array Value → State → Outcome → State → Prop :=
  fun _ st oc t => (∃ (v : Option Value) (hp' : AH) (ad' : Nat → Nat), oc = .returned (v.map (cV ad')) ∧ R hp' v ∧ adK hp.length mc ad ad' ∧ hp.length ≤ hp'.length ∧ va_P D vwCl (cW ad' tc hp') t.heap ∧ va_D (va_A (cW ad tc hp) sz) (cW ad' tc hp')) ∧ va_F (va_A (cW ad tc hp) sz) st t
/-- A CONTRACT: over any heap that holds the picture, the method returns, with R of the picture behind it and the answer -/
def Ctr (l : Launch) (d : Nat) (X : List (List Int32)) (g : Sig) (as : List Value) (hp : AH) (R : AH → Option Value → Prop) : Prop :=
  ∀ (D : va_G) (tc ad : Nat → Nat) (sz : Nat), Met l (sY g) (sgW g) (rmD d (sC g) (sS g)) (va_Pc (as.map (cV ad)) (CPre X D tc ad sz hp)) (CPost (sC g) D tc ad sz hp R) (sC g) (sS g) (va_A (cW ad tc hp) sz)
/-- a row of ints: of those that are only read, or of the cells -/
def rowI (X : List (List Int32)) (hp : AH) (q : Nat) : Option (List Int32) := match Nat.ble 1000 q with
  | true => X[q - 1000]?
  | false => match hp[q]? with
    | some (.inr (.inl xs)) => some xs
    | _ => none
/-- a row whose length is asked for: of the String constants', too -/
def rowA (X : List (List Int32)) (hp : AH) (q : Nat) : Option (List Int32) := match rowI X hp q with
  | some xs => some xs
  | none => match bytQ q with
    | some i => some (bytS.getD i [])
    | none => none
theorem rowA_of {X : List (List Int32)} {hp : AH} {q : Nat} {xs : List Int32} (h : rowI X hp q = some xs) : rowA X hp q = some xs := by
  unfold rowA
  rw [h]
theorem rowA_spec {X : List (List Int32)} {hp : AH} {q : Nat} {xs : List Int32} (h : rowA X hp q = some xs) : rowI X hp q = some xs ∨ ∃ i, bytQ q = some i ∧ xs = bytS.getD i [] := by
  unfold rowA at h
  split at h
  · rename_i ys hy
    exact Or.inl (hy.trans h)
  · split at h
    · rename_i i hi
      exact Or.inr ⟨i, hi, (Option.some.inj h).symm⟩
    · cases h
/-- one instruction -/
def stp (l : Launch) (R : Room) (X : List (List Int32)) (g : Sig) (code : List Row) (Q : AH → Option Value → Prop) (P : PP) : PP := fun i ls st hp k n =>
  match code[i]? with
  | none => False
  | some (ins, _, nx, a, b, c, ts, cs) =>
    match ins with
    | .aload_n j => ldA ls j.val (fun v => P nx ls (v :: st) hp k n)
    | .aload j => ldA ls j (fun v => P nx ls (v :: st) hp k n)
    | .iload_n j => ldI ls j.val (fun v => P nx ls (v :: st) hp k n)
    | .iload j => ldI ls j (fun v => P nx ls (v :: st) hp k n)
    | .lload_n j => ldL ls j.val (fun v => P nx ls (v :: st) hp k n)
    | .lload j => ldL ls j (fun v => P nx ls (v :: st) hp k n)
    | .istore_n j => stI ls j.val st (fun ls' r => P nx ls' r hp k n)
    | .istore j => stI ls j st (fun ls' r => P nx ls' r hp k n)
    | .astore_n j => stA ls j.val st (fun ls' r => P nx ls' r hp k n)
    | .astore j => stA ls j st (fun ls' r => P nx ls' r hp k n)
    | .lstore_n j => stL ls j.val st (fun ls' r => P nx ls' r hp k n)
    | .lstore j => stL ls j st (fun ls' r => P nx ls' r hp k n)
    | .iinc j _ => ldI ls j (fun v => match v with
      | .int x => stO ls j (.int (x + Int32.ofInt c)) (fun ls' => P nx ls' st hp k n)
      | _ => False)
    | .iconst _ => P nx ls (.int (Int32.ofInt c) :: st) hp k n
    | .bipush _ => P nx ls (.int (Int32.ofInt c) :: st) hp k n
    | .sipush _ => P nx ls (.int (Int32.ofInt c) :: st) hp k n
    | .lconst _ => P nx ls (.long (Int64.ofInt c) :: st) hp k n
    | .ldc _ => match Nat.beq a 50 with
      | true => P nx ls (.ref (1100 + b) :: st) hp k n
      | false => P nx ls (.int (Int32.ofInt c) :: st) hp k n
    | .ldc_w _ => P nx ls (.int (Int32.ofInt c) :: st) hp k n
    | .ldc2_w _ => P nx ls (.long (Int64.ofInt c) :: st) hp k n
    | .iadd => iB (fun x y => x + y) st (fun r => P nx ls r hp k n)
    | .isub => iB (fun x y => x - y) st (fun r => P nx ls r hp k n)
    | .imul => iB (fun x y => x * y) st (fun r => P nx ls r hp k n)
    | .iand => iB (fun x y => x &&& y) st (fun r => P nx ls r hp k n)
    | .ior => iB (fun x y => x ||| y) st (fun r => P nx ls r hp k n)
    | .ixor => iB (fun x y => x ^^^ y) st (fun r => P nx ls r hp k n)
    | .idiv => iD (fun x y => x / y) st (fun r => P nx ls r hp k n)
    | .irem => iD (fun x y => x - x / y * y) st (fun r => P nx ls r hp k n)
    | .ineg => iU (fun x => -x) st (fun r => P nx ls r hp k n)
    | .ishl => iB (fun x y => x <<< (y &&& 31)) st (fun r => P nx ls r hp k n)
    | .ishr => iB (fun x y => x >>> (y &&& 31)) st (fun r => P nx ls r hp k n)
    | .iushr => iB (fun x y => (x.toUInt32 >>> (y.toUInt32 &&& Int32.toUInt32 31)).toInt32) st (fun r => P nx ls r hp k n)
    | .i2c => iU (fun x => (x.toUInt32 % 65536).toInt32) st (fun r => P nx ls r hp k n)
    | .i2b => iU (fun x => x.toInt8.toInt32) st (fun r => P nx ls r hp k n)
    | .i2s => iU (fun x => x.toInt16.toInt32) st (fun r => P nx ls r hp k n)
    | .i2l => ijU st (fun r => P nx ls r hp k n)
    | .l2i => jiU st (fun r => P nx ls r hp k n)
    | .ladd => jB (fun x y => x + y) st (fun r => P nx ls r hp k n)
    | .lmul => jB (fun x y => x * y) st (fun r => P nx ls r hp k n)
    | .land => jB (fun x y => x &&& y) st (fun r => P nx ls r hp k n)
    | .lor => jB (fun x y => x ||| y) st (fun r => P nx ls r hp k n)
    | .lxor => jB (fun x y => x ^^^ y) st (fun r => P nx ls r hp k n)
    | .ldiv => jD (fun x y => x / y) st (fun r => P nx ls r hp k n)
    | .lrem => jD (fun x y => x - x / y * y) st (fun r => P nx ls r hp k n)
    | .lshl => jS (fun x y => x <<< (y.toInt64 &&& 63)) st (fun r => P nx ls r hp k n)
    | .lshr => jS (fun x y => x >>> (y.toInt64 &&& 63)) st (fun r => P nx ls r hp k n)
    | .lcmp => jC st (fun r => P nx ls r hp k n)
    | .dup => match st with
      | v :: r => v.category = 1 ∧ P nx ls (v :: v :: r) hp k n
      | _ => False
    | .pop => match st with
      | v :: r => v.category = 1 ∧ P nx ls r hp k n
      | _ => False
    | .pop2 => match st with
      | v :: r => v.category = 2 ∧ P nx ls r hp k n
      | _ => False
    | .goto _ => P a ls st hp k n
    | .ifCond .eq _ => izC (fun x => x = 0) st (fun r => P a ls r hp k n) (fun r => P nx ls r hp k n)
    | .ifCond .ne _ => izC (fun x => x = 0) st (fun r => P nx ls r hp k n) (fun r => P a ls r hp k n)
    | .ifCond .lt _ => izC (fun x => x < 0) st (fun r => P a ls r hp k n) (fun r => P nx ls r hp k n)
    | .ifCond .ge _ => izC (fun x => 0 ≤ x) st (fun r => P a ls r hp k n) (fun r => P nx ls r hp k n)
    | .ifCond .gt _ => izC (fun x => 0 < x) st (fun r => P a ls r hp k n) (fun r => P nx ls r hp k n)
    | .ifCond .le _ => izC (fun x => x ≤ 0) st (fun r => P a ls r hp k n) (fun r => P nx ls r hp k n)
    | .if_icmp .eq _ => icC (fun x y => x = y) st (fun r => P a ls r hp k n) (fun r => P nx ls r hp k n)
    | .if_icmp .ne _ => icC (fun x y => x = y) st (fun r => P nx ls r hp k n) (fun r => P a ls r hp k n)
    | .if_icmp .lt _ => icC (fun x y => x < y) st (fun r => P a ls r hp k n) (fun r => P nx ls r hp k n)
    | .if_icmp .ge _ => icC (fun x y => y ≤ x) st (fun r => P a ls r hp k n) (fun r => P nx ls r hp k n)
    | .if_icmp .gt _ => icC (fun x y => y < x) st (fun r => P a ls r hp k n) (fun r => P nx ls r hp k n)
    | .if_icmp .le _ => icC (fun x y => x ≤ y) st (fun r => P a ls r hp k n) (fun r => P nx ls r hp k n)
    | .ifnull _ => rfN st (fun r => P nx ls r hp k n)
    | .ifnonnull _ => rfN st (fun r => P a ls r hp k n)
    | .tableswitch _ lo hi _ => match st with
      | .int x :: r => (x.toInt < lo ∨ hi < x.toInt → P a ls r hp k n) ∧ swT x lo ts (fun t => P t ls r hp k n)
      | _ => False
    | .lookupswitch _ ps => match st with
      | .int x :: r => ((∀ p ∈ ps.toList, ¬ x = Int32.ofInt p.1) → P a ls r hp k n) ∧ swL x ps.toList ts (fun t => P t ls r hp k n)
      | _ => False
    | .arraylength => match st with
      | .ref q :: r => ∃ xs, rowA X hp q = some xs ∧ P nx ls (.int (Int32.ofNat xs.length) :: r) hp k n
      | _ => False
    | .baload => match st with
      | .int j :: .ref q :: r => match bytQ q with
        | some i => vp_in j (lenS.getD i 0) ∧ P nx ls (.int ((bytS.getD i []).getD j.toNatClampNeg 0) :: r) hp k n
        | none => False
      | _ => False
    | .iaload => match st with
      | .int j :: .ref q :: r => ∃ xs, rowI X hp q = some xs ∧ vp_in j xs.length ∧ P nx ls (.int (xs.getD j.toNatClampNeg 0) :: r) hp k n
      | _ => False
    | .iastore => match st with
      | .int x :: .int j :: .ref q :: r => ∃ xs, hp[q]? = some (AI xs) ∧ vp_in j xs.length ∧ P nx ls r (hp.set q (AI (xs.set j.toNatClampNeg x))) k n
      | _ => False
    | .laload => match st with
      | .int j :: .ref q :: r => ∃ xs, hp[q]? = some (AL xs) ∧ vp_in j xs.length ∧ P nx ls (.long (xs.getD j.toNatClampNeg 0) :: r) hp k n
      | _ => False
    | .lastore => match st with
      | .long x :: .int j :: .ref q :: r => ∃ xs, hp[q]? = some (AL xs) ∧ vp_in j xs.length ∧ P nx ls r (hp.set q (AL (xs.set j.toNatClampNeg x))) k n
      | _ => False
    | .getfield _ => match st with
      | .ref q :: r => match Nat.beq a 50 with
        | true => match strQ q with
          | some i => match Nat.beq b 0 with
            | true => P nx ls (.int 0 :: r) hp k n
            | false => P nx ls (.ref (1200 + i) :: r) hp k n
          | none => False
        | false => match hp[q]? with
          | some (.inl (ci, fs)) => match Nat.beq ci a, fs[b]? with
            | true, some v => P nx ls (v :: r) hp k n
            | _, _ => False
          | _ => False
      | _ => False
    | .putfield _ => match st with
      | v :: .ref q :: r => match hp[q]? with
        | some (.inl (ci, fs)) => match Nat.beq ci a with
          | true => putOk ((clTy.getD a tyX0) b) v ∧ seV fs b v (fun fs' => seH hp q (AO ci fs') (fun hp' => P nx ls r hp' k n))
          | false => False
        | _ => False
      | _ => False
    | .getstatic _ => match Nat.beq a 51, Nat.beq a 52 with
      | true, _ => P nx ls (.int 1 :: st) hp k n
      | false, true => P nx ls (.null :: st) hp k n ∧ P nx ls (.ref 1300 :: st) hp k n
      | false, false => P nx ls (.ref 1000 :: st) hp k n
    | .new _ => match vwCl[a]? with
      | some (_, _, N) => (rOkH hp.length hp && (rOkS hp.length st && rOkL hp.length ls)) = true ∧ (k + 1 ≤ R.cells ∧ n + N ≤ R.slots) ∧ hp.length < 1000 ∧ P nx ls (.ref hp.length :: st) (hp ++ [AO a (dfl a N)]) (k + 1) (n + N)
      | none => False
    | .newarray t => match st with
      | .int x :: r => match t with
        | .int => (rOkH hp.length hp && (rOkS hp.length st && rOkL hp.length ls)) = true ∧ (k + 1 ≤ R.cells ∧ n + x.toNatClampNeg ≤ R.slots) ∧ hp.length < 1000 ∧ (¬ x < 0 ∧ x.toNatClampNeg ≤ 10000) ∧ P nx ls (.ref hp.length :: r) (hp ++ [AI (List.replicate x.toNatClampNeg 0)]) (k + 1) (n + x.toNatClampNeg)
        | .long => (rOkH hp.length hp && (rOkS hp.length st && rOkL hp.length ls)) = true ∧ (k + 1 ≤ R.cells ∧ n + x.toNatClampNeg ≤ R.slots) ∧ hp.length < 1000 ∧ (¬ x < 0 ∧ x.toNatClampNeg ≤ 10000) ∧ P nx ls (.ref hp.length :: r) (hp ++ [AL (List.replicate x.toNatClampNeg 0)]) (k + 1) (n + x.toNatClampNeg)
        | _ => False
      | _ => False
    | .invokevirtual _ => popN (sA cs) [] st (fun as r => match as with
      | .ref q :: _ => match Nat.beq a 50 with
        | true => match strQ q, Nat.ble (catN r) 8, Nat.beq (sC cs) 0 with
          | some _, true, true => ∃ (d' : Nat) (Rq : AH → Option Value → Prop), (d' + 1 ≤ R.frames ∧ 8 + (sL cs + 11) + 64 * d' ≤ R.locals ∧ k + sC cs ≤ R.cells ∧ n + sS cs ≤ R.slots) ∧ Ctr l d' X cs as hp Rq ∧ ∀ hp' v, Rq hp' v → P nx ls (v.toList ++ r) hp' (k + sC cs) (n + sS cs)
          | _, _, _ => False
        | false => match hp[q]? with
          | some (.inl (ci, _)) => match Nat.beq ci a, Nat.ble (catN r) 8, (Nat.beq (sC cs) 0 || (rOkS hp.length r && rOkL hp.length ls)) with
            | true, true, true => ∃ (d' : Nat) (Rq : AH → Option Value → Prop), (d' + 1 ≤ R.frames ∧ 8 + (sL cs + 11) + 64 * d' ≤ R.locals ∧ k + sC cs ≤ R.cells ∧ n + sS cs ≤ R.slots) ∧ Ctr l d' X cs as hp Rq ∧ ∀ hp' v, Rq hp' v → P nx ls (v.toList ++ r) hp' (k + sC cs) (n + sS cs)
            | _, _, _ => False
          | _ => False
      | _ => False)
    | .invokestatic _ => match Nat.beq b 7, Nat.beq b 8 with
      | true, _ => match st with
        | .int y :: .int x :: r => (Nat.ble (catN r) 8 = true ∧ 1 ≤ R.frames ∧ 21 ≤ R.locals) ∧ P nx ls (.int (if x < y then y else x) :: r) hp k n
        | _ => False
      | _, true => match st with
        | .int y :: .int x :: r => (Nat.ble (catN r) 8 = true ∧ 1 ≤ R.frames ∧ 21 ≤ R.locals) ∧ P nx ls (.int (if y < x then y else x) :: r) hp k n
        | _ => False
      | false, false => popN (sA cs) [] st (fun as r => match Nat.ble (catN r) 8, (Nat.beq (sC cs) 0 || (rOkS hp.length r && rOkL hp.length ls)) with
        | true, true => ∃ (d' : Nat) (Rq : AH → Option Value → Prop), (d' + 1 ≤ R.frames ∧ 8 + (sL cs + 11) + 64 * d' ≤ R.locals ∧ k + sC cs ≤ R.cells ∧ n + sS cs ≤ R.slots) ∧ Ctr l d' X cs as hp Rq ∧ ∀ hp' v, Rq hp' v → P nx ls (v.toList ++ r) hp' (k + sC cs) (n + sS cs)
        | _, _ => False)
    | .invokespecial _ => match Nat.beq b 9 with
      | true => match st with
        | .ref _ :: r => match Nat.ble (catN r) 8 with
          | true => (1 ≤ R.frames ∧ 20 ≤ R.locals) ∧ P nx ls r hp k n
          | false => False
        | _ => False
      | false => popN (sA cs) [] st (fun as r => match as with
        | .ref _ :: _ => match Nat.ble (catN r) 8, (Nat.beq (sC cs) 0 || (rOkS hp.length r && rOkL hp.length ls)) with
          | true, true => ∃ (d' : Nat) (Rq : AH → Option Value → Prop), (d' + 1 ≤ R.frames ∧ 8 + (sL cs + 11) + 64 * d' ≤ R.locals ∧ k + sC cs ≤ R.cells ∧ n + sS cs ≤ R.slots) ∧ Ctr l d' X cs as hp Rq ∧ ∀ hp' v, Rq hp' v → P nx ls (v.toList ++ r) hp' (k + sC cs) (n + sS cs)
          | _, _ => False
        | _ => False)
    | .ireturn => match st with
      | .int x :: [] => retOk (sR g) x (Q hp (some (.int x)))
      | _ => False
    | .lreturn => match st with
      | .long x :: [] => sR g = some .long ∧ Q hp (some (.long x))
      | _ => False
    | .return_ => match st with
      | [] => sR g = none ∧ Q hp none
      | _ => False
    | _ => False
/-- many instructions, up to the rows that are cut -/
def run (l : Launch) (R : Room) (X : List (List Int32)) (g : Sig) (code : List Row) (cut : Nat → Bool) (Q : AH → Option Value → Prop) (P : PP) : Nat → PP
  | 0 => P
  | m + 1 => stp l R X g code Q (fun i ls st hp k n => match cut i with
    | true => P i ls st hp k n
    | false => run l R X g code cut Q P m i ls st hp k n)
end
section
theorem nest_warm {w : Cond} (h : isNest w = true) {s U : State} (hW : s.WarmedH U.vm) (hZ : va_Nw w s) : va_Nw w U := by
  cases w <;> first | exact va_Nw.warmF hW hZ | exact va_Nw.warmM hW hZ | (simp [isNest] at h)
theorem nest_same {w : Cond} (h : isNest w = true) {u U : State} (hv : u.vm = U.vm) (hZ : va_Nw w u) : va_Nw w U := by
  cases w <;> first | exact va_Nw.same rfl hv hZ | (simp [isNest] at h)
theorem cW_get {ad tc : Nat → Nat} {hp : AH} {k : Nat} {c : AC} (h : hp[k]? = some c) : (cW ad tc hp)[k]? = some (ad k, cE ad tc c) := by
  simp [cW, h]
theorem cW_len {ad tc : Nat → Nat} {hp : AH} : (cW ad tc hp).length = hp.length := by simp [cW]
theorem cW_set {ad tc : Nat → Nat} {hp : AH} {k : Nat} {c : AC} : (cW ad tc hp).set k (ad k, cE ad tc c) = cW ad tc (hp.set k c) := by
  apply List.ext_getElem?
  intro j
  by_cases hj : k = j
  · subst hj
    by_cases hl : k < hp.length
    · simp [cW, List.getElem?_set, hl]
    · simp [cW, List.getElem?_set, hl]
  · simp [cW, List.getElem?_set, hj]
theorem cV_cat (ad : Nat → Nat) (v : Value) : (cV ad v).category = v.category := by cases v <;> rfl
theorem rOk_cV {n : Nat} {ad ad' : Nat → Nat} (h : ∀ k, k < n ∨ 1000 ≤ k → ad' k = ad k) : ∀ v, rOk n v = true → cV ad' v = cV ad v := by
  intro v hv
  cases v with
  | ref k =>
    simp only [rOk, Bool.or_eq_true] at hv
    have : k < n ∨ 1000 ≤ k := hv.imp (fun q => Nat.blt_eq.mp q) (fun q => Nat.le_of_ble_eq_true q)
    simp [cV, h k this]
  | _ => rfl
theorem rOkS_map {n : Nat} {ad ad' : Nat → Nat} (h : ∀ k, k < n ∨ 1000 ≤ k → ad' k = ad k) (vs : List Value) (hv : rOkS n vs = true) : vs.map (cV ad') = vs.map (cV ad) := by
  apply List.map_congr_left
  intro v hm
  exact rOk_cV h v (List.all_eq_true.mp hv v hm)
theorem rOkH_cW {n : Nat} {ad ad' tc : Nat → Nat} {hp : AH} (h : ∀ k, k < n ∨ 1000 ≤ k → ad' k = ad k) (hn : hp.length = n) (hv : rOkH n hp = true) : cW ad' tc hp = cW ad tc hp := by
  apply List.ext_getElem?
  intro j
  simp only [cW, List.getElem?_mapIdx]
  cases hj : hp[j]? with
  | none => rfl
  | some c =>
    have hl : j < n := by rw [← hn]; exact (List.getElem?_eq_some_iff.mp hj).1
    have hc := List.all_eq_true.mp hv c (List.mem_of_getElem? hj)
    simp only [Option.map_some, h j (Or.inl hl)]
    cases c with
    | inl o => simp only [cE, rOkS_map h o.2 hc]
    | inr q => cases q <;> rfl
/-- the locals -/
def LR (ad : Nat → Nat) (nL : Nat) (al : LO) (ls : Array Slot) : Prop := al.length = nL ∧ ls.size = nL ∧ lv_wf ls ∧ ∀ (j : Nat) (v : Value), al[j]? = some (some v) → ls[j]? = some (.val (cV ad v))
def asL (ad : Nat → Nat) (al : LO) : List (Nat × Value) := (List.range al.length).filterMap (fun j => match al[j]? with
  | some (some v) => some (j, cV ad v)
  | _ => none)
theorem asL_mem {ad : Nat → Nat} {al : LO} {j : Nat} {v : Value} (h : al[j]? = some (some v)) : (j, cV ad v) ∈ asL ad al := by
  refine List.mem_filterMap.mpr ⟨j, List.mem_range.mpr (List.getElem?_eq_some_iff.mp h).1, ?_⟩
  simp [h]
theorem LR.has {ad : Nat → Nat} {nL : Nat} {al : LO} {ls : Array Slot} (h : LR ad nL al ls) : lv_has ls nL (asL ad al) := by
  obtain ⟨h0, h1, h2, h3⟩ := h
  refine ⟨h1, h2, fun q hq => ?_⟩
  obtain ⟨j, -, hj⟩ := List.mem_filterMap.mp hq
  split at hj
  · rename_i v hv
    cases hj
    exact h3 j v hv
  · cases hj
theorem LR.kept {ad ad' : Nat → Nat} {n nL : Nat} {al : LO} {ls : Array Slot} (h : LR ad nL al ls) (ha : ∀ k, k < n ∨ 1000 ≤ k → ad' k = ad k) (ho : rOkL n al = true) : LR ad' nL al ls := by
  refine ⟨h.1, h.2.1, h.2.2.1, fun j v hv => ?_⟩
  have := List.all_eq_true.mp ho (some v) (List.mem_of_getElem? hv)
  rw [rOk_cV ha v this]
  exact h.2.2.2 j v hv
theorem cat_two {x : Option Value} {w : Value} (h1 : ∀ a, ¬ x = some (.long a)) (h2 : ∀ a, ¬ x = some (.double a)) (hx : x = some w) : ¬ w.category = 2 := by
  subst hx
  cases w with
  | long a => exact absurd rfl (h1 a)
  | double a => exact absurd rfl (h2 a)
  | _ => simp [Value.category]
theorem stO_step {K : LO → Prop} {v : Value} {x : Option Value} {r : LO} {j : Nat} (h : stO (x :: r) (j + 1) v K) : stO r j v (fun r' => K (x :: r')) ∧ (j = 0 → ∀ w, x = some w → ¬ w.category = 2) := by
  unfold stO at h
  split at h
  · exact h.elim
  · exact h.elim
  · rename_i h1 h2
    exact ⟨h, fun hj w hx => cat_two (fun a e => h1 a hj e) (fun a e => h2 a hj e) hx⟩
theorem stO_spec {v : Value} : ∀ {al : LO} {j : Nat} {K : LO → Prop}, stO al j v K → j < al.length ∧ K (al.set j (some v)) ∧ ∀ (q : Nat) (w : Value), q + 1 = j → al[q]? = some (some w) → ¬ w.category = 2 := by
  intro al
  induction al with
  | nil => intro j K h; exact h.elim
  | cons x r ih =>
    intro j K h
    cases j with
    | zero => exact ⟨Nat.succ_pos _, h, fun q w e => by omega⟩
    | succ j =>
      have key := stO_step h
      obtain ⟨h1, h2, h3⟩ := ih key.1
      refine ⟨by simpa using h1, h2, fun q w e hq => ?_⟩
      cases q with
      | zero =>
        simp at hq
        exact key.2 (by omega) w hq
      | succ q => exact h3 q w (by omega) (by simpa using hq)
theorem stT_step {K : LO → Prop} {v : Value} {x : Option Value} {r : LO} {j : Nat} (h : stT (x :: r) (j + 1) v K) : stT r j v (fun r' => K (x :: r')) ∧ (j = 0 → ∀ w, x = some w → ¬ w.category = 2) := by
  unfold stT at h
  split at h
  · exact h.elim
  · exact h.elim
  · rename_i h1 h2
    exact ⟨h, fun hj w hx => cat_two (fun a e => h1 a hj e) (fun a e => h2 a hj e) hx⟩
theorem stT_spec {v : Value} : ∀ {al : LO} {j : Nat} {K : LO → Prop}, stT al j v K → j + 1 < al.length ∧ K ((al.set j (some v)).set (j + 1) none) ∧ ∀ (q : Nat) (w : Value), q + 1 = j → al[q]? = some (some w) → ¬ w.category = 2 := by
  intro al
  induction al with
  | nil => intro j K h; exact h.elim
  | cons x r ih =>
    intro j K h
    cases j with
    | zero =>
      cases r with
      | nil => exact h.elim
      | cons y r => exact ⟨by simp, h, fun q w e => by omega⟩
    | succ j =>
      have key := stT_step h
      obtain ⟨h1, h2, h3⟩ := ih key.1
      refine ⟨by simp only [List.length_cons]; omega, h2, fun q w e hq => ?_⟩
      cases q with
      | zero =>
        simp at hq
        exact key.2 (by omega) w hq
      | succ q => exact h3 q w (by omega) (by simpa using hq)
theorem seH_spec {c : AC} : ∀ {hp : AH} {j : Nat} {K : AH → Prop}, seH hp j c K → j < hp.length ∧ K (hp.set j c) := by
  intro hp
  induction hp with
  | nil => intro j K h; exact h.elim
  | cons x r ih =>
    intro j K h
    cases j with
    | zero => exact ⟨Nat.succ_pos _, h⟩
    | succ j =>
      obtain ⟨h1, h2⟩ := ih h
      exact ⟨by simpa using h1, h2⟩
theorem seV_spec {c : Value} : ∀ {hp : List Value} {j : Nat} {K : List Value → Prop}, seV hp j c K → j < hp.length ∧ K (hp.set j c) := by
  intro hp
  induction hp with
  | nil => intro j K h; exact h.elim
  | cons x r ih =>
    intro j K h
    cases j with
    | zero => exact ⟨Nat.succ_pos _, h⟩
    | succ j =>
      obtain ⟨h1, h2⟩ := ih h
      exact ⟨by simpa using h1, h2⟩
theorem popN_spec : ∀ {n : Nat} {acc st : List Value} {K : List Value → List Value → Prop}, popN n acc st K → ∃ as r, as.length = n ∧ st = as.reverse ++ r ∧ K (as ++ acc) r := by
  intro n
  induction n with
  | zero => intro acc st K h; exact ⟨[], st, rfl, rfl, h⟩
  | succ n ih =>
    intro acc st K h
    cases st with
    | nil => exact h.elim
    | cons v st =>
      obtain ⟨as, r, h1, h2, h3⟩ := ih h
      refine ⟨as ++ [v], r, by simp [h1], by simp [h2], by simpa using h3⟩
theorem catN_sum (ad : Nat → Nat) (vs : List Value) : ((vs.map (cV ad)).map fun v => v.category).sum = catN vs := by
  induction vs with
  | nil => rfl
  | cons v r ih => simp only [List.map_cons, List.sum_cons, cV_cat, catN, ih]
/-- stores to the locals -/
theorem LR.st1 {ad : Nat → Nat} {nL i : Nat} {al : LO} {v : Value} {ls' : Array Slot} (h0 : al.length = nL) (hi : i < al.length) (hq : ∀ (q : Nat) (w : Value), q + 1 = i → al[q]? = some (some w) → ¬ w.category = 2)
    (h : lv_has ls' nL ((i, cV ad v) :: (asL ad al).filter (fun q => !(q.1 == i) && !(q.1 + 1 == i && q.2.category == 2)))) : LR ad nL (al.set i (some v)) ls' := by
  refine ⟨by simp [h0], h.1, h.2.1, fun j w hj => ?_⟩
  by_cases e : j = i
  · subst e
    rw [List.getElem?_set_self hi] at hj
    cases hj
    exact h.2.2 _ List.mem_cons_self
  · rw [List.getElem?_set_ne (fun q => e q.symm)] at hj
    refine h.2.2 (j, cV ad w) (List.mem_cons_of_mem _ (List.mem_filter.mpr ⟨asL_mem hj, ?_⟩))
    simp only [Bool.and_eq_true, Bool.not_eq_true', beq_eq_false_iff_ne, ne_eq, Bool.and_eq_false_iff]
    refine ⟨e, ?_⟩
    by_cases e2 : j + 1 = i
    · exact Or.inr (by rw [cV_cat]; exact hq j w e2 hj)
    · exact Or.inl e2
theorem LR.st2 {ad : Nat → Nat} {nL i : Nat} {al : LO} {v : Value} {ls' : Array Slot} (h0 : al.length = nL) (hi : i + 1 < al.length) (hq : ∀ (q : Nat) (w : Value), q + 1 = i → al[q]? = some (some w) → ¬ w.category = 2)
    (h : lv_has ls' nL ((i, cV ad v) :: (asL ad al).filter (fun q => !(q.1 == i) && (!(q.1 == i + 1) && !(q.1 + 1 == i && q.2.category == 2))))) : LR ad nL ((al.set i (some v)).set (i + 1) none) ls' := by
  refine ⟨by simp [h0], h.1, h.2.1, fun j w hj => ?_⟩
  by_cases e1 : j = i + 1
  · subst e1
    rw [List.getElem?_set_self (by simpa using hi)] at hj
    cases hj
  rw [List.getElem?_set_ne (fun q => e1 q.symm)] at hj
  by_cases e : j = i
  · subst e
    rw [List.getElem?_set_self (by omega)] at hj
    cases hj
    exact h.2.2 _ List.mem_cons_self
  · rw [List.getElem?_set_ne (fun q => e q.symm)] at hj
    refine h.2.2 (j, cV ad w) (List.mem_cons_of_mem _ (List.mem_filter.mpr ⟨asL_mem hj, ?_⟩))
    simp only [Bool.and_eq_true, Bool.not_eq_true', beq_eq_false_iff_ne, ne_eq, Bool.and_eq_false_iff]
    refine ⟨e, e1, ?_⟩
    by_cases e2 : j + 1 = i
    · exact Or.inr (by rw [cV_cat]; exact hq j w e2 hj)
    · exact Or.inl e2
end
section
section STEP
variable {p : Program} {l : Launch} {e : Env} {R : Room} {s : State} {m : MethodId} {args : Array Value} {below : List Frame} {meth : Method} {c : Code} {H : Heap} {locs : List Loc} {cells slots : Nat} {Q : State → Prop}
/-- behind a call, whatever it says -/
theorem va_callg {pc : Nat} {ls : Array Slot} {rest st0 : List Value} {A0 A1 : Nat → Prop} {H0 : Heap} {mc ms : Nat} {free : Addr → Prop} {Qa : State → Outcome → State → Prop}
    (hr : va_Run p l e R s m args below meth c H locs cells slots mc ms (F0 m pc ls st0) rest Qa free) (hS : va_S A0 H0 H locs) (hF : ∀ st oc t, Qa st oc t → va_F A1 st t) (hA : ∀ q, A1 q → A0 q) (hf : ∀ q, free q → A0 q)
    (kk : ∀ (v : Option Value) (st₀ t : State) (H1 : Heap) (locs1 : List Loc), st₀.heap = H → t.heap = H1 → Qa st₀ (.returned v) t → va_S A0 H0 H1 locs1 → W p l e R s m args below meth c H1 locs1 (cells + mc) (slots + ms) Q (F0 m (pc + 3) ls (v.toList ++ rest))) : W p l e R s m args below meth c H locs cells slots Q (F0 m pc ls st0) := by
  intro T hT X
  obtain ⟨v, st₀, t, T', L, h0, X', hL, e1, e2, hq, st⟩ := hr T hT X
  obtain ⟨hz, hk⟩ := hF _ _ _ hq
  rw [h0] at hz hk
  obtain ⟨t2, a1, b1⟩ := kk v st₀ t T'.heap (locs ++ L) h0 e1.symm hq
    ⟨Nat.le_trans hS.1 (by rw [e1]; exact hz), fun q h1 h2 => by rw [e1, hk q (Nat.lt_of_lt_of_le h1 hS.1) (fun z => h2 (hA q z))]; exact hS.2.1 q h1 h2, fun q hq => by
      rcases List.mem_append.mp hq with h | h
      · exact hS.2.2 q h
      · exact hf _ (hL q h)⟩ T' rfl X'
  exact ⟨t2, st t2 a1, b1⟩
end STEP
theorem TBL_good {ws : List Cond} (h : ∀ w ∈ ws, w ∈ TBL) : GoodIn TBL ws := fun w hw => ⟨h w hw, good_of_word (tb_good w (h w hw))⟩
theorem NWL_nest : ∀ w ∈ NWL, isNest w = true := fun w h => (List.mem_filter.mp h).2
theorem roX.kept {a : Nat} {xs : List Int32} {U : State} {H H1 : Heap} (h : roX a xs U H) (hq : H1[a]? = H[a]?) : roX a xs U H1 := by
  obtain ⟨c, h1, h2⟩ := h
  exact ⟨c, by rw [hq]; exact h1, h2⟩
theorem roX.moved {a : Nat} {xs : List Int32} {u U : State} {H : Heap} (hvm : u.vm.Alike U.vm) (h : roX a xs u H) : roX a xs U H := by
  obtain ⟨c, h1, h2, h3⟩ := h
  exact ⟨c, h1, State.isArrayOf_alike hvm h2, h3⟩
/-- what stays, at a callee's start -/
theorem EF_call {X : List (List Int32)} {D : va_G} {tc xa : Nat → Nat} {A A' : Nat → Prop} {s U : State} {H : Heap} {locs : List Loc} (h : EF X D tc xa A s) (hS : va_S A s.heap H locs) (hU : U.heap = H) (hW : s.WarmedH U.vm) (hA : ∀ q, A' q → A q) : EF X D tc xa A' U := by
  obtain ⟨h1, h2, h3, h4, h5, h6, h7, h8⟩ := h
  refine ⟨va_K.moved hW.alike h1, fun w hw => nest_warm (NWL_nest w hw) hW (h2 w hw), ?_, fun j xs hj => ?_, ?_, fun i ix tx hi ht => vk_R.warm hW (h6 i ix tx hi ht), ?_, ?_⟩
  · rw [hU]
    exact ((h3.kept (fun a g1 g2 => hS.2.1 a g1 g2)).moved hW.alike).narrow hA
  · obtain ⟨g1, g2, g3⟩ := h4 j xs hj
    rw [hU]
    exact ⟨(g1.kept (hS.2.1 _ g2 g3)).moved hW.alike, Nat.lt_of_lt_of_le g2 hS.1, fun z => g3 (hA _ z)⟩
  · rw [hU]
    exact ((h5.kept (fun a g1 g2 => hS.2.1 a g1 g2)).moved hW.alike).narrow hA
  · rw [hU]
    exact ((h7.kept (fun a g1 g2 => hS.2.1 a g1 g2)).moved hW.alike).narrow hA
  · rw [hU]
    exact h8.imp (fun z => ((z.kept (fun a g1 g2 => hS.2.1 a g1 g2)).moved hW.alike).narrow hA) (fun z => ((z.kept (fun a g1 g2 => hS.2.1 a g1 g2)).moved hW.alike).narrow hA)
theorem EF_same {X : List (List Int32)} {D : va_G} {tc xa : Nat → Nat} {A : Nat → Prop} {u U : State} (h : EF X D tc xa A u) (hh : U.heap = u.heap) (hv : U.vm = u.vm) : EF X D tc xa A U := by
  obtain ⟨h1, h2, h3, h4, h5, h6, h7, h8⟩ := h
  have ha : u.vm.Alike U.vm := by rw [hv]; exact Vm.Alike.refl u.vm
  refine ⟨va_K.moved ha h1, fun w hw => nest_same (NWL_nest w hw) hv.symm (h2 w hw), ?_, fun j xs hj => ?_, by rw [hh]; exact h5.moved ha, fun i ix tx hi ht => vk_R.same hv (h6 i ix tx hi ht), by rw [hh]; exact h7.moved ha, by rw [hh]; exact h8.imp (fun z => z.moved ha) (fun z => z.moved ha)⟩
  · rw [hh]; exact h3.moved ha
  · obtain ⟨g1, g2, g3⟩ := h4 j xs hj
    rw [hh]
    exact ⟨g1.moved ha, g2, g3⟩
theorem CPre_blind {as : List Value} {X : List (List Int32)} {D : va_G} {tc ad : Nat → Nat} {sz : Nat} {hp : AH} : FrameBlind (va_Pc as (CPre X D tc ad sz hp)) := by
  intro a U g mk ⟨h1, h2, h3, h4, h5⟩
  exact ⟨h1, h2, h3, h4, EF_same h5 rfl rfl⟩
theorem va_D_A {A : Nat → Prop} {ws : va_W} {s : State} {H : Heap} {locs : List Loc} (hD : va_D A ws) (hS : va_S A s.heap H locs) (hA : ∀ q, s.heap.size ≤ q → A q) : ∀ q, va_A ws H.size q → A q := by
  intro q h
  rcases h with ⟨k, e, h⟩ | h
  · exact hD.2 k (q, e) h
  · exact hA q (Nat.le_trans hS.1 h)
/-- what holds of a method's activation -/
def AF (X : List (List Int32)) (g : Sig) (p : Program) (s : State) (m : MethodId) (args : Array Value) (meth : Method) (c : Code) (D : va_G) (tc xa : Nat → Nat) (A : Nat → Prop) : Prop :=
  p.tables.exec = Jvm.exec ∧ c.code = sB g ∧ c.maxLocals = sL g ∧ s.vm.findClass (sY g).cls = some m.cls ∧ (∀ w ∈ TBL, w.before args s = true) ∧ ((sY g).name = "<init>" → meth.name = "<init>") ∧ EF X D tc xa A s ∧ ∀ q, s.heap.size ≤ q → A q
def WR (D : va_G) (tc ad : Nat → Nat) (A : Nat → Prop) (s : State) (hp : AH) (H : Heap) (locs : List Loc) : Prop := va_P D vwCl (cW ad tc hp) H ∧ va_D A (cW ad tc hp) ∧ va_S A s.heap H locs
def rtD (g : Sig) (pc : Nat) (v : Option Value) : Prop := match v with
  | none => decode (sB g) pc = .ok (.return_, 1) ∧ sR g = none
  | some (.int x) => decode (sB g) pc = .ok (.ireturn, 1) ∧ ∃ t, sR g = some t ∧ narrow t (.int x) = .int x
  | some (.long _) => decode (sB g) pc = .ok (.lreturn, 1) ∧ sR g = some .long
  | _ => False
/-- a return comes to the end that is sought -/
def RZ (l : Launch) (R : Room) (g : Sig) (Q : AH → Option Value → Prop) (p : Program) (e : Env) (s : State) (m : MethodId) (args : Array Value) (below : List Frame) (meth : Method) (c : Code) (D : va_G) (tc ad0 : Nat → Nat) (n0 : Nat) (A : Nat → Prop) (Z : State → Prop) : Prop :=
  ∀ (v : Option Value) (hp : AH) (ad : Nat → Nat) (H : Heap) (locs : List Loc) (k n pc : Nat) (ls : Array Slot), Q hp v → WR D tc ad A s hp H locs → adK n0 R.cells ad0 ad → n0 ≤ hp.length → k ≤ R.cells → n ≤ R.slots → rtD g pc v → W p l e R s m args below meth c H locs k n Z (F0 m pc ls (v.toList.map (cV ad)))
/-- from here the machine comes to an end that is sought -/
def WP (l : Launch) (R : Room) (X : List (List Int32)) (g : Sig) (code : List Row) (Q : AH → Option Value → Prop) : PP := fun i al st hp k n =>
  ∀ (p : Program) (e : Env) (s : State) (m : MethodId) (args : Array Value) (below : List Frame) (meth : Method) (c : Code) (D : va_G) (tc ad ad0 : Nat → Nat) (n0 : Nat) (A : Nat → Prop) (Z : State → Prop) (H : Heap) (locs : List Loc) (ls : Array Slot),
    AF X g p s m args meth c D tc (fun j => ad0 (1000 + j)) A → RZ l R g Q p e s m args below meth c D tc ad0 n0 A Z → WR D tc ad A s hp H locs → adK n0 R.cells ad0 ad → n0 ≤ hp.length → k ≤ R.cells → n ≤ R.slots → LR ad (sL g) al ls →
      W p l e R s m args below meth c H locs k n Z (F0 m (pcO code i) ls (st.map (cV ad)))
end
section
theorem bd {a b : Prop} [Decidable a] [Decidable b] (h : (decide a && decide b) = true) : a ∧ b := by simpa using h
theorem bt {a : Prop} [Decidable a] {b : Bool} (h : (decide a && b) = true) : a ∧ b = true := by simpa using h
theorem iU_spec {f : Int32 → Int32} {st : List Value} {K : PK} (h : iU f st K) : ∃ x r, st = .int x :: r ∧ K (.int (f x) :: r) := by
  unfold iU at h; split at h
  · exact ⟨_, _, rfl, h⟩
  · exact h.elim
theorem iB_spec {f : Int32 → Int32 → Int32} {st : List Value} {K : PK} (h : iB f st K) : ∃ y x r, st = .int y :: .int x :: r ∧ K (.int (f x y) :: r) := by
  unfold iB at h; split at h
  · exact ⟨_, _, _, rfl, h⟩
  · exact h.elim
theorem iD_spec {f : Int32 → Int32 → Int32} {st : List Value} {K : PK} (h : iD f st K) : ∃ y x r, st = .int y :: .int x :: r ∧ ¬ y = 0 ∧ K (.int (f x y) :: r) := by
  unfold iD at h; split at h
  · exact ⟨_, _, _, rfl, h⟩
  · exact h.elim
theorem jB_spec {f : Int64 → Int64 → Int64} {st : List Value} {K : PK} (h : jB f st K) : ∃ y x r, st = .long y :: .long x :: r ∧ K (.long (f x y) :: r) := by
  unfold jB at h; split at h
  · exact ⟨_, _, _, rfl, h⟩
  · exact h.elim
theorem jD_spec {f : Int64 → Int64 → Int64} {st : List Value} {K : PK} (h : jD f st K) : ∃ y x r, st = .long y :: .long x :: r ∧ ¬ y = 0 ∧ K (.long (f x y) :: r) := by
  unfold jD at h; split at h
  · exact ⟨_, _, _, rfl, h⟩
  · exact h.elim
theorem jS_spec {f : Int64 → Int32 → Int64} {st : List Value} {K : PK} (h : jS f st K) : ∃ y x r, st = .int y :: .long x :: r ∧ K (.long (f x y) :: r) := by
  unfold jS at h; split at h
  · exact ⟨_, _, _, rfl, h⟩
  · exact h.elim
theorem jC_spec {st : List Value} {K : PK} (h : jC st K) : ∃ y x r, st = .long y :: .long x :: r ∧ K (.int (lg_cmp x y) :: r) := by
  unfold jC at h; split at h
  · exact ⟨_, _, _, rfl, h⟩
  · exact h.elim
theorem ijU_spec {st : List Value} {K : PK} (h : ijU st K) : ∃ x r, st = .int x :: r ∧ K (.long x.toInt64 :: r) := by
  unfold ijU at h; split at h
  · exact ⟨_, _, rfl, h⟩
  · exact h.elim
theorem jiU_spec {st : List Value} {K : PK} (h : jiU st K) : ∃ x r, st = .long x :: r ∧ K (.int x.toInt32 :: r) := by
  unfold jiU at h; split at h
  · exact ⟨_, _, rfl, h⟩
  · exact h.elim
theorem icC_spec {q : Int32 → Int32 → Prop} {st : List Value} {T F : PK} (h : icC q st T F) : ∃ y x r, st = .int y :: .int x :: r ∧ (q x y → T r) ∧ (¬ q x y → F r) := by
  unfold icC at h; split at h
  · exact ⟨_, _, _, rfl, h⟩
  · exact h.elim
theorem izC_spec {q : Int32 → Prop} {st : List Value} {T F : PK} (h : izC q st T F) : ∃ x r, st = .int x :: r ∧ (q x → T r) ∧ (¬ q x → F r) := by
  unfold izC at h; split at h
  · exact ⟨_, _, rfl, h⟩
  · exact h.elim
theorem rfN_spec {st : List Value} {K : PK} (h : rfN st K) : ∃ x r, st = .ref x :: r ∧ K r := by
  unfold rfN at h; split at h
  · exact ⟨_, _, rfl, h⟩
  · exact h.elim
theorem ldI_spec {ls : LO} {j : Nat} {K : Value → Prop} (h : ldI ls j K) : ∃ x, ls[j]? = some (some (.int x)) ∧ K (.int x) := by
  unfold ldI at h; split at h
  · rename_i x e; exact ⟨x, e, h⟩
  · exact h.elim
theorem ldL_spec {ls : LO} {j : Nat} {K : Value → Prop} (h : ldL ls j K) : ∃ x, ls[j]? = some (some (.long x)) ∧ K (.long x) := by
  unfold ldL at h; split at h
  · rename_i x e; exact ⟨x, e, h⟩
  · exact h.elim
theorem ldA_spec {ls : LO} {j : Nat} {K : Value → Prop} (h : ldA ls j K) : ∃ x, ls[j]? = some (some (.ref x)) ∧ K (.ref x) := by
  unfold ldA at h; split at h
  · rename_i x e; exact ⟨x, e, h⟩
  · exact h.elim
theorem stI_spec {ls : LO} {j : Nat} {st : List Value} {K : LO → List Value → Prop} (h : stI ls j st K) : ∃ x r, st = .int x :: r ∧ stO ls j (.int x) (fun l => K l r) := by
  unfold stI at h; split at h
  · exact ⟨_, _, rfl, h⟩
  · exact h.elim
theorem stA_spec {ls : LO} {j : Nat} {st : List Value} {K : LO → List Value → Prop} (h : stA ls j st K) : ∃ x r, st = .ref x :: r ∧ stO ls j (.ref x) (fun l => K l r) := by
  unfold stA at h; split at h
  · exact ⟨_, _, rfl, h⟩
  · exact h.elim
theorem stL_spec {ls : LO} {j : Nat} {st : List Value} {K : LO → List Value → Prop} (h : stL ls j st K) : ∃ x r, st = .long x :: r ∧ stT ls j (.long x) (fun l => K l r) := by
  unfold stL at h; split at h
  · exact ⟨_, _, rfl, h⟩
  · exact h.elim

set_option maxHeartbeats 4000000 in
set_option maxRecDepth 100000 in
theorem stp_plain {l : Launch} {R : Room} {X : List (List Int32)} {g : Sig} {code : List Row} {Q : AH → Option Value → Prop} {P : PP} (hC : Chk g code)
    {i : Nat} {al : LO} {st : List Value} {hp : AH} {k n : Nat} {ins : Instr} {pc nx a b : Nat} {cc : Int} {ts : List Nat} {cs : Sig} (hB : rowB g code (ins, pc, nx, a, b, cc, ts, cs) = true) (hT : ∀ w ∈ needT (sY g).cls (ins, pc, nx, a, b, cc, ts, cs), w ∈ TBL)
    (hrow : code[i]? = some (ins, pc, nx, a, b, cc, ts, cs)) (h : stp l R X g code Q P i al st hp k n)
    {p : Program} {e : Env} {s : State} {m : MethodId} {args : Array Value} {below : List Frame} {meth : Method} {c : Code} {D : va_G} {tc ad : Nat → Nat} {A : Nat → Prop} {Z : State → Prop} {H : Heap} {locs : List Loc} {ls : Array Slot}
    (hx : p.tables.exec = Jvm.exec) (hb : c.code = sB g) (hown : s.vm.findClass (sY g).cls = some m.cls) (hts : ∀ w ∈ TBL, w.before args s = true) (hL : LR ad (sL g) al ls)
    (go : ∀ {i' pc' : Nat} {al' : LO} {st' : List Value} {ls' : Array Slot}, pcO code i' = pc' → P i' al' st' hp k n → LR ad (sL g) al' ls' → W p l e R s m args below meth c H locs k n Z (F0 m pc' ls' (st'.map (cV ad))))
    (other : (match ins with
      | .ldc _ | .baload | .arraylength | .iaload | .iastore | .laload | .lastore | .getfield _ | .putfield _ | .getstatic _ | .new _ | .newarray _ | .invokevirtual _ | .invokestatic _ | .invokespecial _ | .ireturn | .lreturn | .return_ | .tableswitch _ _ _ _ | .lookupswitch _ _ => True
      | _ => False) → W p l e R s m args below meth c H locs k n Z (F0 m pc ls (st.map (cV ad)))) :
    W p l e R s m args below meth c H locs k n Z (F0 m pc ls (st.map (cV ad))) := by
  unfold stp at h
  rw [hrow] at h
  dsimp only at h
  have hLh := hL.has
  cases ins
  case aload_n j =>
    obtain ⟨hd, hnx⟩ := bd hB
    obtain ⟨x, hj, h⟩ := ldA_spec h
    refine lv_aload_n hx hb hd rfl (hL.2.2.2 _ _ hj) ?_
    exact go hnx h hL
  case aload j =>
    obtain ⟨hd, hnx⟩ := bd hB
    obtain ⟨x, hj, h⟩ := ldA_spec h
    refine lv_aload hx hb hd (hL.2.2.2 _ _ hj) ?_
    exact go hnx h hL
  case iload_n j =>
    obtain ⟨hd, hnx⟩ := bd hB
    obtain ⟨x, hj, h⟩ := ldI_spec h
    refine lv_iload_n hx hb hd rfl (hL.2.2.2 _ _ hj) ?_
    exact go hnx h hL
  case iload j =>
    obtain ⟨hd, hnx⟩ := bd hB
    obtain ⟨x, hj, h⟩ := ldI_spec h
    refine lv_iload hx hb hd (hL.2.2.2 _ _ hj) ?_
    exact go hnx h hL
  case lload_n j =>
    obtain ⟨hd, hnx⟩ := bd hB
    obtain ⟨x, hj, h⟩ := ldL_spec h
    refine lv_lload_n hx hb hd rfl (hL.2.2.2 _ _ hj) ?_
    exact go hnx h hL
  case lload j =>
    obtain ⟨hd, hnx⟩ := bd hB
    obtain ⟨x, hj, h⟩ := ldL_spec h
    refine lv_lload hx hb hd (hL.2.2.2 _ _ hj) ?_
    exact go hnx h hL
  case istore_n j =>
    obtain ⟨hd, hnx⟩ := bd hB
    obtain ⟨x, r, rfl, h⟩ := stI_spec h
    obtain ⟨h1, h2, h3⟩ := stO_spec h
    refine lv_istore_n hx hb hd rfl hLh (by rw [← hL.1]; exact h1) rfl (fun ls' hl' => ?_)
    exact go hnx h2 (LR.st1 hL.1 h1 h3 hl')
  case istore j =>
    obtain ⟨hd, hnx⟩ := bd hB
    obtain ⟨x, r, rfl, h⟩ := stI_spec h
    obtain ⟨h1, h2, h3⟩ := stO_spec h
    refine lv_istore hx hb hd hLh (by rw [← hL.1]; exact h1) rfl (fun ls' hl' => ?_)
    exact go hnx h2 (LR.st1 hL.1 h1 h3 hl')
  case astore_n j =>
    obtain ⟨hd, hnx⟩ := bd hB
    obtain ⟨x, r, rfl, h⟩ := stA_spec h
    obtain ⟨h1, h2, h3⟩ := stO_spec h
    refine lv_astore_n hx hb hd rfl hLh (by rw [← hL.1]; exact h1) rfl (fun ls' hl' => ?_)
    exact go hnx h2 (LR.st1 hL.1 h1 h3 hl')
  case astore j =>
    obtain ⟨hd, hnx⟩ := bd hB
    obtain ⟨x, r, rfl, h⟩ := stA_spec h
    obtain ⟨h1, h2, h3⟩ := stO_spec h
    refine lv_astore hx hb hd hLh (by rw [← hL.1]; exact h1) rfl (fun ls' hl' => ?_)
    exact go hnx h2 (LR.st1 hL.1 h1 h3 hl')
  case lstore_n j =>
    obtain ⟨hd, hnx⟩ := bd hB
    obtain ⟨x, r, rfl, h⟩ := stL_spec h
    obtain ⟨h1, h2, h3⟩ := stT_spec h
    refine lv_lstore_n hx hb hd rfl hLh (by rw [← hL.1]; exact h1) rfl (fun ls' hl' => ?_)
    exact go hnx h2 (LR.st2 hL.1 h1 h3 hl')
  case lstore j =>
    obtain ⟨hd, hnx⟩ := bd hB
    obtain ⟨x, r, rfl, h⟩ := stL_spec h
    obtain ⟨h1, h2, h3⟩ := stT_spec h
    refine lv_lstore hx hb hd hLh (by rw [← hL.1]; exact h1) rfl (fun ls' hl' => ?_)
    exact go hnx h2 (LR.st2 hL.1 h1 h3 hl')
  case iinc j z =>
    obtain ⟨hd, hz⟩ := bt hB
    obtain ⟨hz, hnx⟩ := bd hz
    obtain ⟨x, hj, h⟩ := ldI_spec h
    obtain ⟨h1, h2, h3⟩ := stO_spec h
    obtain ⟨q, hq⟩ := List.getElem?_of_mem (asL_mem (ad := ad) hj)
    refine lv_iinc (v := x + Int32.ofInt cc) hx hb hd hLh hq (by rw [hz]) (by rw [← hL.1]; exact h1) rfl (fun ls' hl' => ?_)
    exact go hnx h2 (LR.st1 (v := .int (x + Int32.ofInt cc)) hL.1 h1 h3 hl')
  case iconst z =>
    obtain ⟨hd, hz⟩ := bt hB
    obtain ⟨hz, hnx⟩ := bd hz
    refine lv_iconst hx hb hd hz ?_
    exact go hnx h hL
  case bipush z =>
    obtain ⟨hd, hz⟩ := bt hB
    obtain ⟨hz, hnx⟩ := bd hz
    refine lv_bipush hx hb hd hz ?_
    exact go hnx h hL
  case sipush z =>
    obtain ⟨hd, hz⟩ := bt hB
    obtain ⟨hz, hnx⟩ := bd hz
    refine lv_sipush hx hb hd hz ?_
    exact go hnx h hL
  case lconst z =>
    obtain ⟨hd, hz⟩ := bt hB
    obtain ⟨hz, hnx⟩ := bd hz
    refine lv_lconst hx hb hd hz ?_
    exact go hnx h hL
  case ldc_w ix =>
    obtain ⟨hd, hnx⟩ := bd hB
    refine lv_ldcw hx hb hown (hts _ (hT _ List.mem_cons_self)) hd ?_
    exact go hnx h hL
  case ldc2_w ix =>
    obtain ⟨hd, hnx⟩ := bd hB
    refine lv_ldc2 hx hb hown (hts _ (hT _ List.mem_cons_self)) hd ?_
    exact go hnx h hL
  case iadd =>
    obtain ⟨hd, hnx⟩ := bd hB
    obtain ⟨y, x, r, rfl, h⟩ := iB_spec h
    refine lv_iadd hx hb hd ?_
    exact go hnx h hL
  case isub =>
    obtain ⟨hd, hnx⟩ := bd hB
    obtain ⟨y, x, r, rfl, h⟩ := iB_spec h
    refine lv_isub hx hb hd ?_
    exact go hnx h hL
  case imul =>
    obtain ⟨hd, hnx⟩ := bd hB
    obtain ⟨y, x, r, rfl, h⟩ := iB_spec h
    refine lv_imul hx hb hd ?_
    exact go hnx h hL
  case iand =>
    obtain ⟨hd, hnx⟩ := bd hB
    obtain ⟨y, x, r, rfl, h⟩ := iB_spec h
    refine lv_iand hx hb hd ?_
    exact go hnx h hL
  case ior =>
    obtain ⟨hd, hnx⟩ := bd hB
    obtain ⟨y, x, r, rfl, h⟩ := iB_spec h
    refine lv_ior hx hb hd ?_
    exact go hnx h hL
  case ixor =>
    obtain ⟨hd, hnx⟩ := bd hB
    obtain ⟨y, x, r, rfl, h⟩ := iB_spec h
    refine lv_ixor hx hb hd ?_
    exact go hnx h hL
  case ishl =>
    obtain ⟨hd, hnx⟩ := bd hB
    obtain ⟨y, x, r, rfl, h⟩ := iB_spec h
    refine lv_ishl hx hb hd ?_
    exact go hnx h hL
  case ishr =>
    obtain ⟨hd, hnx⟩ := bd hB
    obtain ⟨y, x, r, rfl, h⟩ := iB_spec h
    refine lv_ishr hx hb hd ?_
    exact go hnx h hL
  case iushr =>
    obtain ⟨hd, hnx⟩ := bd hB
    obtain ⟨y, x, r, rfl, h⟩ := iB_spec h
    refine lv_iushr hx hb hd rfl ?_
    exact go hnx h hL
  case idiv =>
    obtain ⟨hd, hnx⟩ := bd hB
    obtain ⟨y, x, r, rfl, hne, h⟩ := iD_spec h
    refine lv_idiv hx hb hd hne ?_
    exact go hnx h hL
  case irem =>
    obtain ⟨hd, hnx⟩ := bd hB
    obtain ⟨y, x, r, rfl, hne, h⟩ := iD_spec h
    refine lv_irem hx hb hd hne ?_
    exact go hnx h hL
  case ineg =>
    obtain ⟨hd, hnx⟩ := bd hB
    obtain ⟨x, r, rfl, h⟩ := iU_spec h
    refine lv_ineg hx hb hd ?_
    exact go hnx h hL
  case i2c =>
    obtain ⟨hd, hnx⟩ := bd hB
    obtain ⟨x, r, rfl, h⟩ := iU_spec h
    refine lv_i2c hx hb hd rfl ?_
    exact go hnx h hL
  case i2b =>
    obtain ⟨hd, hnx⟩ := bd hB
    obtain ⟨x, r, rfl, h⟩ := iU_spec h
    refine lv_i2b hx hb hd rfl ?_
    exact go hnx h hL
  case i2s =>
    obtain ⟨hd, hnx⟩ := bd hB
    obtain ⟨x, r, rfl, h⟩ := iU_spec h
    refine lv_i2s hx hb hd rfl ?_
    exact go hnx h hL
  case i2l =>
    obtain ⟨hd, hnx⟩ := bd hB
    obtain ⟨x, r, rfl, h⟩ := ijU_spec h
    refine lv_i2l hx hb hd rfl ?_
    exact go hnx h hL
  case l2i =>
    obtain ⟨hd, hnx⟩ := bd hB
    obtain ⟨x, r, rfl, h⟩ := jiU_spec h
    refine lv_l2i hx hb hd rfl ?_
    exact go hnx h hL
  case ladd =>
    obtain ⟨hd, hnx⟩ := bd hB
    obtain ⟨y, x, r, rfl, h⟩ := jB_spec h
    refine lv_ladd hx hb hd ?_
    exact go hnx h hL
  case lmul =>
    obtain ⟨hd, hnx⟩ := bd hB
    obtain ⟨y, x, r, rfl, h⟩ := jB_spec h
    refine lv_lmul hx hb hd ?_
    exact go hnx h hL
  case land =>
    obtain ⟨hd, hnx⟩ := bd hB
    obtain ⟨y, x, r, rfl, h⟩ := jB_spec h
    refine lv_land hx hb hd ?_
    exact go hnx h hL
  case lor =>
    obtain ⟨hd, hnx⟩ := bd hB
    obtain ⟨y, x, r, rfl, h⟩ := jB_spec h
    refine lv_lor hx hb hd ?_
    exact go hnx h hL
  case lxor =>
    obtain ⟨hd, hnx⟩ := bd hB
    obtain ⟨y, x, r, rfl, h⟩ := jB_spec h
    refine lv_lxor hx hb hd ?_
    exact go hnx h hL
  case ldiv =>
    obtain ⟨hd, hnx⟩ := bd hB
    obtain ⟨y, x, r, rfl, hne, h⟩ := jD_spec h
    refine lv_ldiv hx hb hd hne ?_
    exact go hnx h hL
  case lrem =>
    obtain ⟨hd, hnx⟩ := bd hB
    obtain ⟨y, x, r, rfl, hne, h⟩ := jD_spec h
    refine lv_lrem hx hb hd hne ?_
    exact go hnx h hL
  case lshl =>
    obtain ⟨hd, hnx⟩ := bd hB
    obtain ⟨y, x, r, rfl, h⟩ := jS_spec h
    refine lv_lshl hx hb hd rfl ?_
    exact go hnx h hL
  case lshr =>
    obtain ⟨hd, hnx⟩ := bd hB
    obtain ⟨y, x, r, rfl, h⟩ := jS_spec h
    refine lv_lshr hx hb hd rfl ?_
    exact go hnx h hL
  case lcmp =>
    obtain ⟨hd, hnx⟩ := bd hB
    obtain ⟨y, x, r, rfl, h⟩ := jC_spec h
    refine W.lcmp hx hb hd ?_
    exact go hnx h hL
  case dup =>
    obtain ⟨hd, hnx⟩ := bd hB
    cases st with
    | nil => exact h.elim
    | cons v r =>
      refine lv_dup hx hb hd (by rw [cV_cat]; exact h.1) ?_
      exact go hnx h.2 hL
  case pop =>
    obtain ⟨hd, hnx⟩ := bd hB
    cases st with
    | nil => exact h.elim
    | cons v r =>
      refine lv_pop hx hb hd (by rw [cV_cat]; exact h.1) ?_
      exact go hnx h.2 hL
  case pop2 =>
    obtain ⟨hd, hnx⟩ := bd hB
    cases st with
    | nil => exact h.elim
    | cons v r =>
      refine lv_pop2_2 hx hb hd (by rw [cV_cat]; exact h.1) ?_
      exact go hnx h.2 hL
  case goto o =>
    obtain ⟨hd, ht⟩ := bd hB
    refine lv_goto hx hb hd ht ?_
    exact go rfl h hL
  case ifnull o =>
    obtain ⟨hd, ht⟩ := bt hB
    obtain ⟨ht, hnx⟩ := bd ht
    obtain ⟨x, r, rfl, h⟩ := rfN_spec h
    refine lv_ifnull hx hb hd ?_
    exact go hnx h hL
  case ifnonnull o =>
    obtain ⟨hd, ht⟩ := bt hB
    obtain ⟨ht, hnx⟩ := bd ht
    obtain ⟨x, r, rfl, h⟩ := rfN_spec h
    refine lv_ifnonnull hx hb hd ht ?_
    exact go rfl h hL
  case ifCond q o =>
    obtain ⟨hd, ht0⟩ := bt hB
    obtain ⟨ht, hnx⟩ := bd ht0
    cases q
    case eq =>
      obtain ⟨x, r, rfl, h1, h2⟩ := izC_spec h
      exact lv_if_eq hx hb hd ht (fun z => go rfl (h1 z) hL) (fun z => go hnx (h2 z) hL)
    case ne =>
      obtain ⟨x, r, rfl, h1, h2⟩ := izC_spec h
      exact lv_if_ne hx hb hd ht (fun z => go rfl (h2 z) hL) (fun z => go hnx (h1 z) hL)
    case lt =>
      obtain ⟨x, r, rfl, h1, h2⟩ := izC_spec h
      exact lv_if_lt hx hb hd ht (fun z => go rfl (h1 z) hL) (fun z => go hnx (h2 z) hL)
    case ge =>
      obtain ⟨x, r, rfl, h1, h2⟩ := izC_spec h
      exact lv_if_ge hx hb hd ht (fun z => go rfl (h1 z) hL) (fun z => go hnx (h2 z) hL)
    case gt =>
      obtain ⟨x, r, rfl, h1, h2⟩ := izC_spec h
      exact lv_if_gt hx hb hd ht (fun z => go rfl (h1 z) hL) (fun z => go hnx (h2 z) hL)
    case le =>
      obtain ⟨x, r, rfl, h1, h2⟩ := izC_spec h
      exact lv_if_le hx hb hd ht (fun z => go rfl (h1 z) hL) (fun z => go hnx (h2 z) hL)
  case if_icmp q o =>
    obtain ⟨hd, ht0⟩ := bt hB
    obtain ⟨ht, hnx⟩ := bd ht0
    cases q
    case eq =>
      obtain ⟨y, x, r, rfl, h1, h2⟩ := icC_spec h
      exact lv_icmp_eq hx hb hd ht (fun z => go rfl (h1 z) hL) (fun z => go hnx (h2 z) hL)
    case ne =>
      obtain ⟨y, x, r, rfl, h1, h2⟩ := icC_spec h
      exact lv_icmp_ne hx hb hd ht (fun z => go rfl (h2 z) hL) (fun z => go hnx (h1 z) hL)
    case lt =>
      obtain ⟨y, x, r, rfl, h1, h2⟩ := icC_spec h
      exact lv_icmp_lt hx hb hd ht (fun z => go rfl (h1 z) hL) (fun z => go hnx (h2 z) hL)
    case ge =>
      obtain ⟨y, x, r, rfl, h1, h2⟩ := icC_spec h
      exact lv_icmp_ge hx hb hd ht (fun z => go rfl (h1 z) hL) (fun z => go hnx (h2 z) hL)
    case gt =>
      obtain ⟨y, x, r, rfl, h1, h2⟩ := icC_spec h
      exact lv_icmp_gt hx hb hd ht (fun z => go rfl (h1 z) hL) (fun z => go hnx (h2 z) hL)
    case le =>
      obtain ⟨y, x, r, rfl, h1, h2⟩ := icC_spec h
      exact lv_icmp_le hx hb hd ht (fun z => go rfl (h1 z) hL) (fun z => go hnx (h2 z) hL)
  all_goals first | exact h.elim | exact other trivial
end
section
theorem iw_X0 : ∀ w ∈ wsX00, w ∈ TBL := fun w h => List.mem_filter.mpr ⟨(by decide +kernel : ∀ w ∈ wsX00, w ∈ lw_tbl) w h, (by decide +kernel : ∀ w ∈ wsX00, goodWord w = true) w h⟩
theorem iw_X1 : ∀ w ∈ wsX10, w ∈ TBL := fun w h => List.mem_filter.mpr ⟨(by decide +kernel : ∀ w ∈ wsX10, w ∈ lw_tbl) w h, (by decide +kernel : ∀ w ∈ wsX10, goodWord w = true) w h⟩
theorem iw_X2 : ∀ w ∈ wsX20, w ∈ TBL := fun w h => List.mem_filter.mpr ⟨(by decide +kernel : ∀ w ∈ wsX20, w ∈ lw_tbl) w h, (by decide +kernel : ∀ w ∈ wsX20, goodWord w = true) w h⟩
theorem iw_X3 : ∀ w ∈ wsX30, w ∈ TBL := fun w h => List.mem_filter.mpr ⟨(by decide +kernel : ∀ w ∈ wsX30, w ∈ lw_tbl) w h, (by decide +kernel : ∀ w ∈ wsX30, goodWord w = true) w h⟩
theorem iw_X4 : ∀ w ∈ wsX40, w ∈ TBL := fun w h => List.mem_filter.mpr ⟨(by decide +kernel : ∀ w ∈ wsX40, w ∈ lw_tbl) w h, (by decide +kernel : ∀ w ∈ wsX40, goodWord w = true) w h⟩
theorem iw_X5 : ∀ w ∈ wsX50, w ∈ TBL := fun w h => List.mem_filter.mpr ⟨(by decide +kernel : ∀ w ∈ wsX50, w ∈ lw_tbl) w h, (by decide +kernel : ∀ w ∈ wsX50, goodWord w = true) w h⟩
theorem iw_X6 : ∀ w ∈ wsX60, w ∈ TBL := fun w h => List.mem_filter.mpr ⟨(by decide +kernel : ∀ w ∈ wsX60, w ∈ lw_tbl) w h, (by decide +kernel : ∀ w ∈ wsX60, goodWord w = true) w h⟩
theorem iw_X7 : ∀ w ∈ wsX70, w ∈ TBL := fun w h => List.mem_filter.mpr ⟨(by decide +kernel : ∀ w ∈ wsX70, w ∈ lw_tbl) w h, (by decide +kernel : ∀ w ∈ wsX70, goodWord w = true) w h⟩
theorem iw_X8 : ∀ w ∈ wsX80, w ∈ TBL := fun w h => List.mem_filter.mpr ⟨(by decide +kernel : ∀ w ∈ wsX80, w ∈ lw_tbl) w h, (by decide +kernel : ∀ w ∈ wsX80, goodWord w = true) w h⟩
theorem cd_all : ∀ a, a < 9 → ∀ b, b < clS a → (clF a b).1 = clN a := by decide +kernel
/-- what holds of a class and its place -/
def clAll (a : Nat) : Prop := (∀ w ∈ u_ws (clN a) (clF a) (clS a), w ∈ TBL) ∧ (∀ k, k < clS a → parseFieldDescriptor (clF a k).2.2.1 = some ((clTy.getD a tyX0) k)) ∧ (∀ x, x < clS a → ∀ y, y < clS a → x ≠ y → (clF a x).2.1 ≠ (clF a y).2.1) ∧ ∀ b, b < clS a → (clF a b).1 = clN a
theorem cl_all {a b : Nat} (h : clOk a b = true) : vwCl[a]? = some (clN a, clF a, clS a) ∧ b < clS a ∧ clAll a := by
  have ha : a < 9 := by
    unfold clOk at h
    cases hq : vwCl[a]? with
    | none => rw [hq] at h; cases h
    | some q => exact (List.getElem?_eq_some_iff.mp hq).1
  have hd := cd_all a ha
  match a, ha with
  | 0, _ => exact ⟨rfl, Nat.blt_eq.mp h, iw_X0, tyX0_ok, nmX0, hd⟩
  | 1, _ => exact ⟨rfl, Nat.blt_eq.mp h, iw_X1, tyX1_ok, nmX1, hd⟩
  | 2, _ => exact ⟨rfl, Nat.blt_eq.mp h, iw_X2, tyX2_ok, nmX2, hd⟩
  | 3, _ => exact ⟨rfl, Nat.blt_eq.mp h, iw_X3, tyX3_ok, nmX3, hd⟩
  | 4, _ => exact ⟨rfl, Nat.blt_eq.mp h, iw_X4, tyX4_ok, nmX4, hd⟩
  | 5, _ => exact ⟨rfl, Nat.blt_eq.mp h, iw_X5, tyX5_ok, nmX5, hd⟩
  | 6, _ => exact ⟨rfl, Nat.blt_eq.mp h, iw_X6, tyX6_ok, nmX6, hd⟩
  | 7, _ => exact ⟨rfl, Nat.blt_eq.mp h, iw_X7, tyX7_ok, nmX7, hd⟩
  | 8, _ => exact ⟨rfl, Nat.blt_eq.mp h, iw_X8, tyX8_ok, nmX8, hd⟩
theorem cE_seI {ad tc : Nat → Nat} {xs : List Int32} {j : Nat} {x : Int32} (h : j < xs.length) : (Sum.inl (tc 0, xs.length, Sum.inl (upd (fun q => xs.getD q 0) j x)) : va_E) = cE ad tc (AI (xs.set j x)) := by
  have e : upd (fun q => xs.getD q 0) j x = fun q => (xs.set j x).getD q 0 := by
    funext q
    unfold upd
    by_cases hq : q = j
    · subst hq
      simp [h]
    · rw [if_neg hq]
      simp [List.getD_eq_getElem?_getD, List.getElem?_set_ne (fun z => hq z.symm)]
  rw [e]
  simp [cE]
theorem putOk_spec {ty : FieldType} {v : Value} (ad : Nat → Nat) (h : putOk ty v) : narrow ty (cV ad v) = cV ad v ∧ fits ty (cV ad v) = true := by
  unfold putOk at h
  split at h
  · exact ⟨rfl, rfl⟩
  · rcases h with rfl | rfl <;> exact ⟨rfl, rfl⟩
  · exact ⟨rfl, rfl⟩
  · exact ⟨rfl, rfl⟩
  · exact h.elim
theorem cV_dfl (ad : Nat → Nat) (a N : Nat) : (dfl a N).map (cV ad) = dfl a N := by
  unfold dfl
  rw [List.map_map]
  apply List.map_congr_left
  intro j _
  show cV ad (defaultValue _) = defaultValue _
  cases (clTy.getD a tyX0) j <;> rfl
theorem cW_push {ad tc : Nat → Nat} {hp : AH} {q : Nat} {x : AC} {z : va_E} (h : rOkH hp.length hp = true) (hz : cE (fun k => if k = hp.length then q else ad k) tc x = z) (hn : hp.length < 1000) : cW (fun k => if k = hp.length then q else ad k) tc (hp ++ [x]) = cW ad tc hp ++ [(q, z)] := by
  have e := rOkH_cW (ad := ad) (ad' := fun k => if k = hp.length then q else ad k) (tc := tc) (n := hp.length) (fun k hk => if_neg (by rcases hk with hk | hk <;> omega)) rfl h
  have : cW (fun k => if k = hp.length then q else ad k) tc (hp ++ [x]) = cW (fun k => if k = hp.length then q else ad k) tc hp ++ [((fun k => if k = hp.length then q else ad k) hp.length, cE (fun k => if k = hp.length then q else ad k) tc x)] := by
    unfold cW
    rw [List.mapIdx_append]
    simp
  rw [this, e, hz]
  simp
theorem cE_seL {ad tc : Nat → Nat} {xs : List Int64} {j : Nat} {x : Int64} (h : j < xs.length) : (Sum.inl (tc 1, xs.length, Sum.inr (Sum.inl (vp_updL (fun q => xs.getD q 0) j x))) : va_E) = cE ad tc (AL (xs.set j x)) := by
  have e : vp_updL (fun q => xs.getD q 0) j x = fun q => (xs.set j x).getD q 0 := by
    funext q
    unfold vp_updL
    by_cases hq : q = j
    · subst hq
      simp [h]
    · rw [if_neg hq]
      simp [List.getD_eq_getElem?_getD, List.getElem?_set_ne (fun z => hq z.symm)]
  rw [e]
  simp [cE]
theorem rep_cellI (cA : ClassId) (N : Nat) : vp_cell cA ((List.replicate N (0 : Int32)).length, Sum.inl (fun j => (List.replicate N (0 : Int32)).getD j 0)) = arrV cA N (fun _ => defaultValue .int) := by
  have e : (fun j => (List.replicate N (0 : Int32)).getD j 0) = fun _ => 0 := by
    funext j
    by_cases h : j < N <;> simp [List.getD_eq_getElem?_getD, List.getElem?_replicate, h]
  rw [e]
  simp [vp_cell, defaultValue]
theorem rep_cellL (cA : ClassId) (N : Nat) : vp_cell cA ((List.replicate N (0 : Int64)).length, Sum.inr (Sum.inl (fun j => (List.replicate N (0 : Int64)).getD j 0))) = arrV cA N (fun _ => defaultValue .long) := by
  have e : (fun j => (List.replicate N (0 : Int64)).getD j 0) = fun _ => 0 := by
    funext j
    by_cases h : j < N <;> simp [List.getD_eq_getElem?_getD, List.getElem?_replicate, h]
  rw [e]
  simp [vp_cell, defaultValue]
theorem swT_spec {x : Int32} {K : Nat → Prop} : ∀ {ts : List Nat} {lo : Int} {j t : Nat}, swT x lo ts K → ts[j]? = some t → x = Int32.ofInt (lo + (j : Int)) → K t := by
  intro ts
  induction ts with
  | nil => intro lo j t h hj; simp at hj
  | cons a r ih =>
    intro lo j t h hj hx
    cases j with
    | zero =>
      simp at hj
      subst hj
      exact h.1 (by rw [hx]; simp)
    | succ j => exact ih h.2 (by simpa using hj) (by rw [hx]; congr 1; omega)
theorem swL_spec {x : Int32} {K : Nat → Prop} {pc : Nat} {code : List Row} {d : Int} {a : Nat} (hd : (pc : Int) + d = (pcO code a : Int)) : ∀ {ps : List (Int × Int)} {ts : List Nat}, ps.map (fun o => (pc : Int) + o.2) = ts.map (fun t => (pcO code t : Int)) → (∀ o ∈ ps, (Int32.ofInt o.1).toInt = o.1) → swL x ps ts K → ((∀ o ∈ ps, ¬ x = Int32.ofInt o.1) → K a) → ∃ (off : Int) (t : Nat), Op.lookupswitch.offset ps d x.toInt = off ∧ (pc : Int) + off = (pcO code t : Int) ∧ K t := by
  intro ps
  induction ps with
  | nil => intro ts h1 h2 h3 h4; exact ⟨d, a, rfl, hd, h4 (fun _ z => by cases z)⟩
  | cons o r ih =>
    intro ts h1 h2 h3 h4
    cases ts with
    | nil => simp at h1
    | cons t ts =>
      simp only [List.map_cons, List.cons.injEq] at h1
      obtain ⟨a0, o0⟩ := o
      rw [Op.lookupswitch.offset_cons]
      by_cases hx : a0 = x.toInt
      · exact ⟨o0, t, if_pos hx, h1.1, h3.1 (by rw [hx]; simp)⟩
      · rw [if_neg hx]
        refine ih h1.2 (fun o ho => h2 o (List.mem_cons_of_mem _ ho)) h3.2 (fun hn => h4 (fun o ho => ?_))
        rcases List.mem_cons.mp ho with rfl | ho
        · intro z
          apply hx
          rw [z]
          exact (h2 _ List.mem_cons_self).symm
        · exact hn o ho
theorem rowI_spec {X : List (List Int32)} {hp : AH} {q : Nat} {xs : List Int32} (h : rowI X hp q = some xs) : (1000 ≤ q ∧ X[q - 1000]? = some xs) ∨ hp[q]? = some (AI xs) := by
  unfold rowI at h
  split at h
  · rename_i hq
    exact Or.inl ⟨Nat.le_of_ble_eq_true hq, h⟩
  · split at h
    · rename_i ys hy
      cases h
      exact Or.inr hy
    · cases h
end
section
theorem sg_good {g : Sig} (h : Cond.code (sY g) (sB g) (sL g) (sR g) ∈ TBL) : GoodIn TBL (sgW g) := TBL_good (fun w hw => (List.mem_cons.mp hw).elim (fun e => by rw [e]; exact h) id)
theorem adK.trans {n0 n1 M mc : Nat} {ad0 ad ad' : Nat → Nat} (h : adK n0 M ad0 ad) (h' : adK n1 mc ad ad') (hn : n0 ≤ n1) (hm : mc ≤ M) : adK n0 M ad0 ad' :=
  ⟨fun k hk => (h'.1 k (hk.imp (fun q => by omega) id)).trans (h.1 k hk), fun hM => (h'.2 (by omega)).trans (h.2 hM)⟩
section CALLS
variable {p : Program} {l : Launch} {e : Env} {R : Room} {s : State} {m : MethodId} {args : Array Value} {below : List Frame} {meth : Method} {c : Code} {H : Heap} {locs : List Loc} {k n : Nat} {Z : State → Prop}
variable {X : List (List Int32)} {g cs : Sig} {D : va_G} {tc ad ad0 : Nat → Nat} {A : Nat → Prop} {hp : AH} {ls : Array Slot} {pc : Nat} {as r st0 : List Value} {Rq : AH → Option Value → Prop} {d' ix : Nat}
theorem call_end {a0 : Array Value} (hrun : va_Run p l e R s m args below meth c H locs k n (sC cs) (sS cs) (F0 m pc ls st0) (r.map (cV ad)) (CPost (sC cs) D tc ad H.size hp Rq a0) (va_A (cW ad tc hp) H.size))
    (hW : WR D tc ad A s hp H locs) (hA : ∀ q, s.heap.size ≤ q → A q)
    (kk : ∀ (v : Option Value) (hp' : AH) (ad' : Nat → Nat) (H' : Heap) (locs' : List Loc), Rq hp' v → adK hp.length (sC cs) ad ad' → hp.length ≤ hp'.length → WR D tc ad' A s hp' H' locs' → W p l e R s m args below meth c H' locs' (k + sC cs) (n + sS cs) Z (F0 m (pc + 3) ls (v.toList.map (cV ad') ++ r.map (cV ad)))) :
    W p l e R s m args below meth c H locs k n Z (F0 m pc ls st0) := by
  obtain ⟨hP, hD, hS⟩ := hW
  have hAA := va_D_A hD hS hA
  refine va_callg hrun hS (fun st oc t h => h.2) hAA hAA (fun v st₀ t H1 locs1 h0 h1 hq hS1 => ?_)
  obtain ⟨⟨w, hp', ad', ho, hR, hak, hln, hP', hD'⟩, -⟩ := hq
  cases ho
  have := kk w hp' ad' H1 locs1 hR hak hln ⟨by rw [← h1]; exact hP', hD'.weaken (fun _ _ _ h => hAA _ h), hS1⟩
  cases w <;> exact this
theorem call_pre (hW : WR D tc ad A s hp H locs) (hA : ∀ q, s.heap.size ≤ q → A q) (hEF : EF X D tc (fun j => ad (1000 + j)) A s) : PreS s H (va_Pc (as.map (cV ad)) (CPre X D tc ad H.size hp)) (as.map (cV ad)) :=
  ⟨CPre_blind, fun U hU hw => ⟨rfl, by rw [hU], by rw [hU]; exact hW.1, hW.2.1.weaken (fun _ _ _ _ => trivial), EF_call hEF hW.2.2 hU hw (va_D_A hW.2.1 hW.2.2 hA)⟩⟩
theorem call_room (hc : catN r ≤ 8) : 2 * (F0 m pc ls st0).monitorRoom + ((r.map (cV ad)).map fun v => v.category).sum ≤ 8 := lv_room (pc := pc) (m := m) (ls := ls) (rest := st0) (by rw [catN_sum]; exact hc)
/-- a static method -/
theorem call_st (hC : Ctr l d' X cs as hp Rq) (S : CallFix p m c (sB g) (sL g) s args TBL (sY g).cls) (hW : WR D tc ad A s hp H locs) (hA : ∀ q, s.heap.size ≤ q → A q) (hEF : EF X D tc (fun j => ad (1000 + j)) A s) (hLs : ls.size = sL g)
    (hd : decode (sB g) pc = .ok (.invokestatic ix, 3)) (hc : catN r ≤ 8) (hn : as.length = sA cs) (hsg : sgOk cs (sA cs) = true) (hT : ∀ w ∈ [Cond.static (sY cs), .initialized (sY cs).cls, .code (sY cs) (sB cs) (sL cs) (sR cs)], w ∈ TBL) {own : String} (hown : own = (sY g).cls) {z : Int}
    (hT0 : z = 0 → Cond.methodLink own ix (sY cs) ∈ TBL) (hN : z = 1 → Cond.methodLinkNest own ix (sY cs) "SaidTwice" ∈ NWL) (hz : z = 0 ∨ z = 1)
    (hR : d' + 1 ≤ R.frames ∧ 8 + (sL cs + 11) + 64 * d' ≤ R.locals ∧ k + sC cs ≤ R.cells ∧ n + sS cs ≤ R.slots)
    (kk : ∀ (v : Option Value) (hp' : AH) (ad' : Nat → Nat) (H' : Heap) (locs' : List Loc), Rq hp' v → adK hp.length (sC cs) ad ad' → hp.length ≤ hp'.length → WR D tc ad' A s hp' H' locs' → W p l e R s m args below meth c H' locs' (k + sC cs) (n + sS cs) Z (F0 m (pc + 3) ls (v.toList.map (cV ad') ++ r.map (cV ad)))) :
    W p l e R s m args below meth c H locs k n Z (F0 m pc ls ((as.reverse ++ r).map (cV ad))) := by
  subst hown
  have hts := S.2.2.2.2
  simp only [sgOk, Bool.and_eq_true, decide_eq_true_eq] at hsg
  have hcode : Cond.code (sY cs) (sB cs) (sL cs) (sR cs) ∈ TBL := hT _ (by simp)
  have hG : GoodIn TBL (sgW cs) := sg_good hcode
  have hini := hts (.initialized (sY cs).cls) (hT _ (by simp))
  have hst := hts (.static (sY cs)) (hT _ (by simp))
  have hstack : (as.reverse ++ r).map (cV ad) = (as.map (cV ad)).reverse ++ r.map (cV ad) := by simp
  have hCS := hC D tc ad H.size
  refine call_end (a0 := (as.map (cV ad)).toArray) ?_ hW hA kk
  rcases hz with rfl | rfl
  · have hlink := hts (.methodLink (sY g).cls ix (sY cs)) (hT0 rfl)
    exact va_runS S hCS ⟨callB_of (sA cs) hts hG rfl rfl rfl hini hlink ⟨hsg.1.1, hsg.1.2, hsg.2⟩ ⟨hR.1, hR.2.1⟩, hst⟩ (call_pre hW hA hEF) rfl (by simp [hn]) hLs hstack (call_room hc) hd ⟨hR.2.2.1, hR.2.2.2⟩
  · have hlink := S
    exact va_runSN S hCS ⟨va_cnB (sA cs) hts hG rfl rfl rfl (hEF.2.1 _ (hN rfl)) hini ⟨hsg.1.1, hsg.1.2, hsg.2⟩ ⟨hR.1, hR.2.1⟩, hst, trivial⟩ (call_pre hW hA hEF) rfl (by simp [hn]) hLs hstack (call_room hc) hd ⟨hR.2.2.1, hR.2.2.2⟩
/-- a method of an object -/
theorem call_vi (hC : Ctr l d' X cs as hp Rq) (S : CallFix p m c (sB g) (sL g) s args TBL (sY g).cls) (hW : WR D tc ad A s hp H locs) (hA : ∀ q, s.heap.size ≤ q → A q) (hEF : EF X D tc (fun j => ad (1000 + j)) A s) (hLs : ls.size = sL g)
    (hd : decode (sB g) pc = .ok (.invokevirtual ix, 3)) (hc : catN r ≤ 8) (hn : as.length = sA cs) {q a : Nat} {as' : List Value} (has : as = .ref q :: as') (hsg : sgOk cs (sA cs - 1) = true) {fs : List Value} (hq : hp[q]? = some (AO a fs)) (hcl : clOk a 0 = true) (hcn : (sY cs).cls = clN a) (hT : ∀ w ∈ [Cond.instanceMethod (sY cs), .selects (clN a) (sY cs) (sY cs), .initialized (sY cs).cls, .code (sY cs) (sB cs) (sL cs) (sR cs)], w ∈ TBL) {own : String} (hown : own = (sY g).cls) {z : Int}
    (hT0 : z = 0 → Cond.methodLink own ix (sY cs) ∈ TBL) (hN : z = 1 → Cond.methodLinkNest own ix (sY cs) "SaidTwice" ∈ NWL) (hz : z = 0 ∨ z = 1)
    (hR : d' + 1 ≤ R.frames ∧ 8 + (sL cs + 11) + 64 * d' ≤ R.locals ∧ k + sC cs ≤ R.cells ∧ n + sS cs ≤ R.slots)
    (kk : ∀ (v : Option Value) (hp' : AH) (ad' : Nat → Nat) (H' : Heap) (locs' : List Loc), Rq hp' v → adK hp.length (sC cs) ad ad' → hp.length ≤ hp'.length → WR D tc ad' A s hp' H' locs' → W p l e R s m args below meth c H' locs' (k + sC cs) (n + sS cs) Z (F0 m (pc + 3) ls (v.toList.map (cV ad') ++ r.map (cV ad)))) :
    W p l e R s m args below meth c H locs k n Z (F0 m pc ls ((as.reverse ++ r).map (cV ad))) := by
  subst hown
  subst has
  have hts := S.2.2.2.2
  simp only [sgOk, Bool.and_eq_true, decide_eq_true_eq] at hsg
  have hcode : Cond.code (sY cs) (sB cs) (sL cs) (sR cs) ∈ TBL := hT _ (by simp)
  have hG : GoodIn TBL (sgW cs) := sg_good hcode
  have hini := hts (.initialized (sY cs).cls) (hT _ (by simp))
  have hin := hts (.instanceMethod (sY cs)) (hT _ (by simp))
  have hse : (Cond.selects (sY cs).cls (sY cs) (sY cs)).before args s = true := by rw [hcn]; exact hts (.selects (clN a) (sY cs) (sY cs)) (hT _ (by simp))
  have hstack : ((Value.ref q :: as').reverse ++ r).map (cV ad) = (as'.map (cV ad)).reverse ++ .ref (ad q) :: r.map (cV ad) := by simp [cV]
  have hCS := hC D tc ad H.size
  obtain ⟨hcl1, -, -⟩ := cl_all hcl
  have hrecv := va_recv hEF.1 hW.1 hcl1 (cW_get (ad := ad) (tc := tc) hq)
  have hpre := call_pre (as := .ref q :: as') hW hA hEF
  have hp' : PreV s H (sY cs).cls (ad q) (va_Pc ((Value.ref q :: as').map (cV ad)) (CPre X D tc ad H.size hp)) (as'.map (cV ad)) := ⟨hpre.1, by rw [hcn]; exact hrecv, hpre.2⟩
  have hn' : as'.length = sA cs - 1 := by simp at hn; omega
  refine call_end (a0 := ((Value.ref q :: as').map (cV ad)).toArray) ?_ hW hA kk
  rcases hz with rfl | rfl
  · have hlink := hts (.methodLink (sY g).cls ix (sY cs)) (hT0 rfl)
    exact va_runV S hCS ⟨callB_of (sA cs - 1) hts hG rfl rfl rfl hini hlink ⟨hsg.1.1, hsg.1.2, hsg.2⟩ ⟨hR.1, hR.2.1⟩, hin, hse⟩ hp' rfl (by simp [hn']) hLs hstack (call_room hc) hd ⟨hR.2.2.1, hR.2.2.2⟩
  · exact va_runVN S hCS ⟨va_cnB (sA cs - 1) hts hG rfl rfl rfl (hEF.2.1 _ (hN rfl)) hini ⟨hsg.1.1, hsg.1.2, hsg.2⟩ ⟨hR.1, hR.2.1⟩, hin, hse⟩ hp' rfl (by simp [hn']) hLs hstack (call_room hc) hd ⟨hR.2.2.1, hR.2.2.2⟩
/-- a method of a String constant -/
theorem call_vs (hC : Ctr l d' X cs as hp Rq) (S : CallFix p m c (sB g) (sL g) s args TBL (sY g).cls) (hW : WR D tc ad A s hp H locs) (hA : ∀ q, s.heap.size ≤ q → A q) (hEF : EF X D tc (fun j => ad (1000 + j)) A s) (hLs : ls.size = sL g)
    (hd : decode (sB g) pc = .ok (.invokevirtual ix, 3)) (hc : catN r ≤ 8) (hn : as.length = sA cs) {q i : Nat} {as' : List Value} (has : as = .ref q :: as') (hsg : sgOk cs (sA cs - 1) = true) (hq : strQ q = some i) (hcn : (sY cs).cls = "java/lang/String") (hT : ∀ w ∈ [Cond.instanceMethod (sY cs), .selects "java/lang/String" (sY cs) (sY cs), .initialized (sY cs).cls, .code (sY cs) (sB cs) (sL cs) (sR cs)], w ∈ TBL) {own : String} (hown : own = (sY g).cls) {z : Int}
    (hT0 : z = 0 → Cond.methodLink own ix (sY cs) ∈ TBL) (hN : z = 1 → Cond.methodLinkNest own ix (sY cs) "SaidTwice" ∈ NWL) (hz : z = 0 ∨ z = 1)
    (hR : d' + 1 ≤ R.frames ∧ 8 + (sL cs + 11) + 64 * d' ≤ R.locals ∧ k + sC cs ≤ R.cells ∧ n + sS cs ≤ R.slots)
    (kk : ∀ (v : Option Value) (hp' : AH) (ad' : Nat → Nat) (H' : Heap) (locs' : List Loc), Rq hp' v → adK hp.length (sC cs) ad ad' → hp.length ≤ hp'.length → WR D tc ad' A s hp' H' locs' → W p l e R s m args below meth c H' locs' (k + sC cs) (n + sS cs) Z (F0 m (pc + 3) ls (v.toList.map (cV ad') ++ r.map (cV ad)))) :
    W p l e R s m args below meth c H locs k n Z (F0 m pc ls ((as.reverse ++ r).map (cV ad))) := by
  subst hown
  subst has
  have hts := S.2.2.2.2
  simp only [sgOk, Bool.and_eq_true, decide_eq_true_eq] at hsg
  have hcode : Cond.code (sY cs) (sB cs) (sL cs) (sR cs) ∈ TBL := hT _ (by simp)
  have hG : GoodIn TBL (sgW cs) := sg_good hcode
  have hini := hts (.initialized (sY cs).cls) (hT _ (by simp))
  have hin := hts (.instanceMethod (sY cs)) (hT _ (by simp))
  have hse : (Cond.selects (sY cs).cls (sY cs) (sY cs)).before args s = true := by rw [hcn]; exact hts (.selects "java/lang/String" (sY cs) (sY cs)) (hT _ (by simp))
  have hstack : ((Value.ref q :: as').reverse ++ r).map (cV ad) = (as'.map (cV ad)).reverse ++ .ref (ad q) :: r.map (cV ad) := by simp [cV]
  have hCS := hC D tc ad H.size
  obtain ⟨eq, hi⟩ := strQ_spec hq
  have hrecv : ∃ cell : Cell, H[ad q]? = some cell ∧ cell.vm.isStatics = false ∧ s.vm.findClass "java/lang/String" = some cell.cls := by
    have z := vk_recv hEF.2.2.2.2.1 hi hW.2.2
    have e1 : 1000 + (100 + i) = q := by omega
    simp only [e1] at z
    exact z
  have hpre := call_pre (as := .ref q :: as') hW hA hEF
  have hp' : PreV s H (sY cs).cls (ad q) (va_Pc ((Value.ref q :: as').map (cV ad)) (CPre X D tc ad H.size hp)) (as'.map (cV ad)) := ⟨hpre.1, by rw [hcn]; exact hrecv, hpre.2⟩
  have hn' : as'.length = sA cs - 1 := by simp at hn; omega
  refine call_end (a0 := ((Value.ref q :: as').map (cV ad)).toArray) ?_ hW hA kk
  rcases hz with rfl | rfl
  · have hlink := hts (.methodLink (sY g).cls ix (sY cs)) (hT0 rfl)
    exact va_runV S hCS ⟨callB_of (sA cs - 1) hts hG rfl rfl rfl hini hlink ⟨hsg.1.1, hsg.1.2, hsg.2⟩ ⟨hR.1, hR.2.1⟩, hin, hse⟩ hp' rfl (by simp [hn']) hLs hstack (call_room hc) hd ⟨hR.2.2.1, hR.2.2.2⟩
  · exact va_runVN S hCS ⟨va_cnB (sA cs - 1) hts hG rfl rfl rfl (hEF.2.1 _ (hN rfl)) hini ⟨hsg.1.1, hsg.1.2, hsg.2⟩ ⟨hR.1, hR.2.1⟩, hin, hse⟩ hp' rfl (by simp [hn']) hLs hstack (call_room hc) hd ⟨hR.2.2.1, hR.2.2.2⟩
/-- a constructor -/
theorem call_sp (hC : Ctr l d' X cs as hp Rq) (S : CallFix p m c (sB g) (sL g) s args TBL (sY g).cls) (hW : WR D tc ad A s hp H locs) (hA : ∀ q, s.heap.size ≤ q → A q) (hEF : EF X D tc (fun j => ad (1000 + j)) A s) (hLs : ls.size = sL g)
    (hd : decode (sB g) pc = .ok (.invokespecial ix, 3)) (hc : catN r ≤ 8) (hn : as.length = sA cs) {q : Nat} {as' : List Value} (has : as = .ref q :: as') (hsg : sgOk cs (sA cs - 1) = true) (hinit : (sY cs).name = "<init>") (hret : sR cs = none) (hT : ∀ w ∈ [Cond.instanceMethod (sY cs), .initialized (sY cs).cls, .code (sY cs) (sB cs) (sL cs) (sR cs)], w ∈ TBL) {own : String} (hown : own = (sY g).cls) {z : Int}
    (hT0 : z = 0 → Cond.methodLink own ix (sY cs) ∈ TBL) (hN : z = 1 → Cond.methodLinkNest own ix (sY cs) "SaidTwice" ∈ NWL) (hz : z = 0 ∨ z = 1)
    (hR : d' + 1 ≤ R.frames ∧ 8 + (sL cs + 11) + 64 * d' ≤ R.locals ∧ k + sC cs ≤ R.cells ∧ n + sS cs ≤ R.slots)
    (kk : ∀ (v : Option Value) (hp' : AH) (ad' : Nat → Nat) (H' : Heap) (locs' : List Loc), Rq hp' v → adK hp.length (sC cs) ad ad' → hp.length ≤ hp'.length → WR D tc ad' A s hp' H' locs' → W p l e R s m args below meth c H' locs' (k + sC cs) (n + sS cs) Z (F0 m (pc + 3) ls (v.toList.map (cV ad') ++ r.map (cV ad)))) :
    W p l e R s m args below meth c H locs k n Z (F0 m pc ls ((as.reverse ++ r).map (cV ad))) := by
  subst hown
  subst has
  have hts := S.2.2.2.2
  simp only [sgOk, Bool.and_eq_true, decide_eq_true_eq] at hsg
  have hcode : Cond.code (sY cs) (sB cs) (sL cs) (sR cs) ∈ TBL := hT _ (by simp)
  have hG : GoodIn TBL (sgW cs) := sg_good hcode
  have hini := hts (.initialized (sY cs).cls) (hT _ (by simp))
  have hin := hts (.instanceMethod (sY cs)) (hT _ (by simp))
  have hstack : ((Value.ref q :: as').reverse ++ r).map (cV ad) = (as'.map (cV ad)).reverse ++ .ref (ad q) :: r.map (cV ad) := by simp [cV]
  have hCS := hC D tc ad H.size
  have hpre := call_pre (as := .ref q :: as') hW hA hEF
  have hn' : as'.length = sA cs - 1 := by simp at hn; omega
  have hwc : sgW cs = Cond.code (sY cs) (sB cs) (sL cs) none :: TBL := by rw [← hret]; rfl
  refine call_end (a0 := ((Value.ref q :: as').map (cV ad)).toArray) ?_ hW hA kk
  rcases hz with rfl | rfl
  · have hlink := hts (.methodLink (sY g).cls ix (sY cs)) (hT0 rfl)
    exact va_runI S hCS ⟨callB_of (sA cs - 1) hts hG hwc rfl rfl hini hlink ⟨hsg.1.1, hsg.1.2, hsg.2⟩ ⟨hR.1, hR.2.1⟩, hinit, hin⟩ hpre rfl (by simp [hn']) hLs hstack (call_room hc) hd ⟨hR.2.2.1, hR.2.2.2⟩
  · exact va_runIN S hCS ⟨va_cnB (sA cs - 1) hts hG hwc rfl rfl (hEF.2.1 _ (hN rfl)) hini ⟨hsg.1.1, hsg.1.2, hsg.2⟩ ⟨hR.1, hR.2.1⟩, hinit, hin⟩ hpre rfl (by simp [hn']) hLs hstack (call_room hc) hd ⟨hR.2.2.1, hR.2.2.2⟩
end CALLS
end
section
theorem byt_len : ∀ i : Fin 7, lenS.getD i.val 0 = (bytS.getD i.val []).length := by decide
theorem sIx_tx {b ix : Nat} (h : sIx[b]? = some ix) : ∃ tx, sTx[b]? = some tx := by
  have hl : b < 7 := (List.getElem?_eq_some_iff.mp h).1
  exact ⟨_, List.getElem?_eq_getElem (show b < sTx.length from hl)⟩
set_option maxHeartbeats 4000000 in
set_option maxRecDepth 100000 in
/-- one instruction: what the abstract machine does, the machine does -/
theorem stp_sound {l : Launch} {R : Room} {X : List (List Int32)} {g : Sig} {code : List Row} {Q : AH → Option Value → Prop} {P : PP} (hC : Chk g code) (hP : ∀ i al st hp k n, P i al st hp k n → WP l R X g code Q i al st hp k n)
    {i : Nat} {al : LO} {st : List Value} {hp : AH} {k n : Nat} (h : stp l R X g code Q P i al st hp k n) : WP l R X g code Q i al st hp k n := by
  intro p e s m args below meth c D tc ad ad0 n0 A Z H locs ls hAF hZ hW hadk hn0 hk hn hL
  cases hrow : code[i]? with
  | none => unfold stp at h; rw [hrow] at h; exact h.elim
  | some row =>
  obtain ⟨ins, pc, nx, a, b, cc, ts, cs⟩ := row
  have hpc : pcO code i = pc := by simp [pcO, hrow]
  rw [hpc]
  have hAF0 := hAF
  obtain ⟨hx, hb, hml, hown, hts, hnm, hEF0, hA⟩ := hAF
  obtain ⟨hPw, hD, hS⟩ := hW
  have hmem := List.mem_of_getElem? hrow
  have hB : rowB g code (ins, pc, nx, a, b, cc, ts, cs) = true := linB_spec (code := code) (pre := []) rfl hC.1 _ hmem
  have hcall := allC_mem hC.2.1 _ hmem
  have hT : ∀ w ∈ needT (sY g).cls (ins, pc, nx, a, b, cc, ts, cs), w ∈ TBL := fun w h => hC.2.2.1 w (List.mem_flatMap.mpr ⟨_, hmem, h⟩)
  have hN : ∀ w ∈ needN (sY g).cls (ins, pc, nx, a, b, cc, ts, cs), w ∈ NWL := fun w h => hC.2.2.2.1 w (List.mem_flatMap.mpr ⟨_, hmem, h⟩)
  have hxa : (fun j => ad (1000 + j)) = (fun j => ad0 (1000 + j)) := by
    funext j
    exact hadk.1 _ (Or.inr (by omega))
  have hEF : EF X D tc (fun j => ad (1000 + j)) A s := by rw [hxa]; exact hEF0
  have hK := hEF.1
  have hstr : ∀ i, i < 7 → va_O "java/lang/String" (ad (1100 + i)) A s s.heap ∧ va_OF "java/lang/String" "coder" "B" (.int 0) (ad (1100 + i)) A s s.heap ∧ va_OF "java/lang/String" "value" "[B" (.ref (ad (1200 + i))) (ad (1100 + i)) A s s.heap ∧ va_T .byte (ad (1200 + i)) (lenS.getD i 0) (fun j => .int ((bytS.getD i []).getD j 0)) A s s.heap := by
    intro i hi
    have z := hEF.2.2.2.2.1.1 i hi
    have e1 : 1000 + (100 + i) = 1100 + i := by omega
    have e2 : 1000 + (200 + i) = 1200 + i := by omega
    simp only [e1, e2] at z
    exact z
  have hstrR : ∀ (i ix : Nat) (tx : String), sIx[i]? = some ix → sTx[i]? = some tx → vk_R "SaidTwice$Tokens" ix tx (ad (1100 + i)) s := by
    intro i ix tx h1 h2
    have z := hEF.2.2.2.2.2.1 i ix tx h1 h2
    have e1 : 1000 + (100 + i) = 1100 + i := by omega
    simp only [e1] at z
    exact z
  have hSf : CallFix p m c (sB g) (sL g) s args TBL (sY g).cls := ⟨hx, hb, hml, hown, hts⟩
  have go : ∀ {i' pc' : Nat} {al' : LO} {st' : List Value} {ls' : Array Slot}, pcO code i' = pc' → P i' al' st' hp k n → LR ad (sL g) al' ls' → W p l e R s m args below meth c H locs k n Z (F0 m pc' ls' (st'.map (cV ad))) := by
    intro i' pc' al' st' ls' hq h1 h2
    subst hq
    exact hP _ _ _ _ _ _ h1 p e s m args below meth c D tc ad ad0 n0 A Z H locs ls' hAF0 hZ ⟨hPw, hD, hS⟩ hadk hn0 hk hn h2
  have goH : ∀ {i' pc' : Nat} {st' : List Value} {hp' : AH} {H' : Heap} {locs' : List Loc}, pcO code i' = pc' → P i' al st' hp' k n → WR D tc ad A s hp' H' locs' → hp'.length = hp.length → W p l e R s m args below meth c H' locs' k n Z (F0 m pc' ls (st'.map (cV ad))) := by
    intro i' pc' st' hp' H' locs' hq h1 h2 h3
    subst hq
    exact hP _ _ _ _ _ _ h1 p e s m args below meth c D tc ad ad0 n0 A Z H' locs' ls hAF0 hZ h2 hadk (by omega) hk hn hL
  have goC : ∀ {as r st' : List Value} {Rq : AH → Option Value → Prop} {pc' : Nat}, (Nat.beq (sC cs) 0 || (rOkS hp.length r && rOkL hp.length al)) = true → k + sC cs ≤ R.cells → n + sS cs ≤ R.slots → pcO code nx = pc' → (∀ hp' v, Rq hp' v → P nx al (v.toList ++ r) hp' (k + sC cs) (n + sS cs)) →
      ∀ (v : Option Value) (hp' : AH) (ad' : Nat → Nat) (H' : Heap) (locs' : List Loc), Rq hp' v → adK hp.length (sC cs) ad ad' → hp.length ≤ hp'.length → WR D tc ad' A s hp' H' locs' → W p l e R s m args below meth c H' locs' (k + sC cs) (n + sS cs) Z (F0 m pc' ls (v.toList.map (cV ad') ++ r.map (cV ad))) := by
    intro as r st' Rq pc' hok hk1 hn1 hq hall v hp' ad' H' locs' hR hak hlen hW'
    subst hq
    have hre : r.map (cV ad') = r.map (cV ad) ∧ LR ad' (sL g) al ls := by
      by_cases h0 : sC cs = 0
      · rw [hak.2 h0]
        exact ⟨rfl, hL⟩
      · simp only [Bool.or_eq_true, Bool.and_eq_true] at hok
        rcases hok with z | ⟨z1, z2⟩
        · exact absurd (Nat.eq_of_beq_eq_true z) h0
        · exact ⟨rOkS_map hak.1 r z1, hL.kept hak.1 z2⟩
    have := hP _ _ _ _ _ _ (hall hp' v hR) p e s m args below meth c D tc ad' ad0 n0 A Z H' locs' ls hAF0 hZ hW' (hadk.trans hak hn0 (by omega)) (by omega) hk1 hn1 hre.2
    rw [List.map_append, hre.1] at this
    exact this
  refine stp_plain (D := D) (tc := tc) (A := A) hC hB hT hrow h hx hb hown hts hL go (fun hoth => ?_)
  unfold stp at h
  rw [hrow] at h
  dsimp only at h
  cases ins
  case ldc ix =>
    try dsimp only at h
    obtain ⟨hd, hq⟩ := bt hB
    simp only [Bool.and_eq_true, decide_eq_true_eq] at hq
    obtain ⟨hm, hnx⟩ := hq
    cases ha : Nat.beq a 50 with
    | true =>
      rw [ha] at h hm
      simp only [Bool.and_eq_true, decide_eq_true_eq] at hm
      obtain ⟨hm1, hm2⟩ := hm
      obtain ⟨tx, htx⟩ := sIx_tx hm1
      have hZs := hstrR b ix tx hm1 htx
      rw [← hm2] at hZs
      exact va_ldcS hx hb hown hZs hd (go hnx h hL)
    | false =>
      rw [ha] at h
      have n50 : ¬ a = 50 := fun z => by subst z; cases ha
      refine lv_ldc hx hb hown (hts (.constant (sY g).cls ix (Int32.ofInt cc)) (hT _ (by simp [needT, n50]))) hd ?_
      exact go hnx h hL
  case baload =>
    try dsimp only at h
    obtain ⟨hd, hnx⟩ := bd hB
    split at h
    · rename_i j q r
      split at h
      · rename_i i0 hq0
        obtain ⟨rfl, hi⟩ := bytQ_spec hq0
        obtain ⟨c1, q1, q2, q3, q4, q5, q6, q7⟩ := (hstr i0 hi).2.2.2.kept hS.2.1
        have hj : j.toNatClampNeg < lenS.getD i0 0 := Nat.not_le.mp fun z => h.1 (Or.inr z)
        exact W.bald (v := .int ((bytS.getD i0 []).getD j.toNatClampNeg 0)) hx hb q1 q2 q3 (fun z => z.elim (fun z => h.1 (Or.inl z)) (fun z => by omega)) (q6 _ hj) rfl rfl hd (go hnx h.2 hL)
      · exact h.elim
    · exact h.elim
  case arraylength =>
    try dsimp only at h
    obtain ⟨hd, hnx⟩ := bd hB
    split at h
    · rename_i q r
      obtain ⟨xs, hxs, h⟩ := h
      rcases rowA_spec hxs with hxs | ⟨i0, hq0, rfl⟩
      rotate_left
      · obtain ⟨rfl, hi⟩ := bytQ_spec hq0
        obtain ⟨c1, q1, q2, q3, q4, q5, q6, q7⟩ := (hstr i0 hi).2.2.2.kept hS.2.1
        have el : lenS.getD i0 0 = (bytS.getD i0 []).length := byt_len ⟨i0, hi⟩
        exact W.alen hx hb q1 q2 (q5.trans (by rw [el])) rfl rfl hd (go hnx h hL)
      rcases rowI_spec hxs with ⟨hq', hxs⟩ | hxs
      · obtain ⟨g1, g2, g3⟩ := hEF.2.2.2.1 _ _ hxs
        have eq1 : 1000 + (q - 1000) = q := Nat.add_sub_of_le hq'
        simp only [eq1] at g1 g2 g3
        obtain ⟨c1, q1, q2, q3, q4, q5, q6⟩ := g1
        exact W.alen hx hb (by rw [hS.2.1 _ g2 g3]; exact q1) q2 q5 rfl rfl hd (go hnx h hL)
      · exact va_alen hx hb hK hPw q 0 (cW_get (ad := ad) (tc := tc) hxs) rfl rfl hd (go hnx h hL)
    · exact h.elim
  case iaload =>
    try dsimp only at h
    obtain ⟨hd, hnx⟩ := bd hB
    split at h
    · rename_i j q r
      obtain ⟨xs, hxs, h⟩ := h
      rcases rowI_spec hxs with ⟨hq', hxs⟩ | hxs
      · obtain ⟨g1, g2, g3⟩ := hEF.2.2.2.1 _ _ hxs
        have eq1 : 1000 + (q - 1000) = q := Nat.add_sub_of_le hq'
        simp only [eq1] at g1 g2 g3
        obtain ⟨c1, q1, q2, q3, q4, q5, q6⟩ := g1
        have hj : j.toNatClampNeg < xs.length := Nat.not_le.mp fun z => h.1 (Or.inr z)
        exact W.iald (v := .int (xs.getD j.toNatClampNeg 0)) hx hb (by rw [hS.2.1 _ g2 g3]; exact q1) q2 q3 (fun z => z.elim (fun z => h.1 (Or.inl z)) (fun z => by omega)) (q6 _ hj) rfl rfl hd (go hnx h.2 hL)
      · exact va_iald hx hb hK hPw q 0 (cW_get (ad := ad) (tc := tc) hxs) rfl h.1 hd (go hnx h.2 hL)
    · exact h.elim
  case laload =>
    try dsimp only at h
    obtain ⟨hd, hnx⟩ := bd hB
    split at h
    · rename_i j q r
      obtain ⟨xs, hxs, h⟩ := h
      exact va_lald hx hb hK hPw q 1 (cW_get (ad := ad) (tc := tc) hxs) rfl h.1 hd (go hnx h.2 hL)
    · exact h.elim
  case iastore =>
    try dsimp only at h
    obtain ⟨hd, hnx⟩ := bd hB
    split at h
    · rename_i x j q r
      obtain ⟨xs, hxs, h1, h3⟩ := h
      have hj : j.toNatClampNeg < xs.length := Nat.not_le.mp fun z => h1 (Or.inr z)
      refine va_iast hx hb hK hPw hD hS q 0 (cW_get (ad := ad) (tc := tc) hxs) rfl h1 hd (fun H1 locs1 g1 g2 g3 => ?_)
      rw [cE_seI hj, cW_set] at g1 g2
      exact goH hnx h3 ⟨g1, g2, g3⟩ (by simp)
    · exact h.elim
  case lastore =>
    try dsimp only at h
    obtain ⟨hd, hnx⟩ := bd hB
    split at h
    · rename_i x j q r
      obtain ⟨xs, hxs, h1, h3⟩ := h
      have hj : j.toNatClampNeg < xs.length := Nat.not_le.mp fun z => h1 (Or.inr z)
      refine va_last hx hb hK hPw hD hS q 1 (cW_get (ad := ad) (tc := tc) hxs) rfl h1 hd (fun H1 locs1 g1 g2 g3 => ?_)
      rw [cE_seL hj, cW_set] at g1 g2
      exact goH hnx h3 ⟨g1, g2, g3⟩ (by simp)
    · exact h.elim
  case getstatic ix =>
    try dsimp only at h
    obtain ⟨hd, hnx⟩ := bd hB
    split at h
    · rename_i ha
      have e : a = 51 := Nat.eq_of_beq_eq_true ha
      subst e
      exact va_gets hx hb hEF.2.2.2.2.2.2.1 hS hown (hts _ (hT _ (by simp [needT]))) (fun _ q => q) hd (go hnx h hL)
    · rename_i ha1 ha
      have e : a = 52 := Nat.eq_of_beq_eq_true ha
      subst e
      rcases hEF.2.2.2.2.2.2.2 with z | z
      · exact va_gets hx hb z hS hown (hts _ (hT _ (by simp [needT]))) (fun _ q => q) hd (go hnx h.1 hL)
      · exact va_gets hx hb z hS hown (hts _ (hT _ (by simp [needT]))) (fun _ q => q) hd (go hnx h.2 hL)
    · rename_i ha1 ha2
      have n51 : ¬ a = 51 := fun z => by subst z; cases ha1
      have n52 : ¬ a = 52 := fun z => by subst z; cases ha2
      exact va_gets hx hb hEF.2.2.1 hS hown (hts _ (hT _ (by simp [needT, n51, n52]))) (fun _ q => q) hd (go hnx h hL)
  case getfield ix =>
    try dsimp only at h
    obtain ⟨hd, hq⟩ := bt hB
    simp only [Bool.and_eq_true, decide_eq_true_eq] at hq
    obtain ⟨hcl, hz, hnx⟩ := hq
    split at h
    · rename_i q r
      cases ha : Nat.beq a 50 with
      | true =>
        rw [ha] at h hcl
        have e50 : a = 50 := Nat.eq_of_beq_eq_true ha
        subst e50
        have hlink := hts (.fieldLink (sY g).cls ix "java/lang/String" (strF b).1 (strF b).2) (hT _ (by simp [needT]))
        have hb1 := Nat.le_of_ble_eq_true hcl
        dsimp only at h
        split at h
        · rename_i i0 hq0
          obtain ⟨rfl, hi⟩ := strQ_spec hq0
          rcases (show b = 0 ∨ b = 1 by omega) with rfl | rfl
          · exact vk_getf hx hb (hstr i0 hi).2.1 hS hown hlink (fun _ z => z) hd (go hnx h hL)
          · exact vk_getf hx hb (hstr i0 hi).2.2.1 hS hown hlink (fun _ z => z) hd (go hnx h hL)
        · exact h.elim
      | false =>
      rw [ha] at h hcl
      dsimp only at h hcl
      have n50 : ¬ a = 50 := fun z => by subst z; cases ha
      obtain ⟨hc1, hc2, hc3⟩ := cl_all hcl
      split at h
      · rename_i ci fs hfs
        split at h
        · rename_i v hci hv
          have hci' : ci = a := Nat.eq_of_beq_eq_true hci
          subst hci'
          have he := cW_get (ad := ad) (tc := tc) hfs
          have hv' : (fs.map (cV ad))[b]? = some (cV ad v) := by rw [List.getElem?_map, hv]; rfl
          rcases hz with rfl | rfl
          · exact va_get hx hb hts hc3.1 hown hK hPw q he hc1 b hc2 (hts _ (hT _ (by simp only [needT, if_neg n50, if_pos]; exact List.mem_cons_self))) (fun _ z => by rw [← hc3.2.2.2 b hc2]; exact z) hv' hd (go hnx h hL)
          · exact va_getN hx hb hts hc3.1 hown hK hPw q he hc1 b hc2 (va_Nw.use rfl (hEF.2.1 _ (hN _ List.mem_cons_self))) (fun _ z => by rw [← hc3.2.2.2 b hc2]; exact z) hv' hd (go hnx h hL)
        · exact h.elim
      · exact h.elim
    · exact h.elim
  case putfield ix =>
    try dsimp only at h
    obtain ⟨hd, hq⟩ := bt hB
    simp only [Bool.and_eq_true, decide_eq_true_eq] at hq
    obtain ⟨hcl, hz, hfin, hnx⟩ := hq
    obtain ⟨hc1, hc2, hc3⟩ := cl_all hcl
    split at h
    · rename_i v q r
      split at h
      · rename_i ci fs hfs
        split at h
        · rename_i hci
          have hci' : ci = a := Nat.eq_of_beq_eq_true hci
          subst hci'
          obtain ⟨h1, h2⟩ := h
          obtain ⟨h2, h3⟩ := seV_spec h2
          obtain ⟨h4, h5⟩ := seH_spec h3
          have he := cW_get (ad := ad) (tc := tc) hfs
          obtain ⟨e1, e2⟩ := putOk_spec ad h1
          have hl : b < (fs.map (cV ad)).length := by simpa using h2
          have fin : ∀ (H1 : Heap) (locs1 : List Loc), va_P D vwCl ((cW ad tc hp).set q (ad q, .inr (ci, (fs.map (cV ad)).set b (cV ad v)))) H1 → va_D A ((cW ad tc hp).set q (ad q, .inr (ci, (fs.map (cV ad)).set b (cV ad v)))) → va_S A s.heap H1 locs1 → W p l e R s m args below meth c H1 locs1 k n Z (F0 m (pc + 3) ls (r.map (cV ad))) := by
            intro H1 locs1 g1 g2 g3
            have e3 : (Sum.inr (ci, (fs.map (cV ad)).set b (cV ad v)) : va_E) = cE ad tc (AO ci (fs.set b v)) := by
              simp [cE, List.map_set]
            rw [e3, cW_set] at g1 g2
            exact goH hnx h5 ⟨g1, g2, g3⟩ (by simp)
          rcases hfin with hf | ⟨hf1, hf2, rfl⟩
          · rcases hz with rfl | rfl
            · exact va_put hx hb hts hc3.1 _ hc3.2.1 hc3.2.2.1 hown hK hPw hD hS q he hc1 b hc2 (hts _ (hT _ List.mem_cons_self)) (fun _ z => by rw [← hc3.2.2.2 b hc2]; exact z) hf (hc3.2.1 b hc2) e1 e2 hl hd fin
            · exact va_putN hx hb hts hc3.1 _ hc3.2.1 hc3.2.2.1 hown hK hPw hD hS q he hc1 b hc2 (va_Nw.use rfl (hEF.2.1 _ (hN _ List.mem_cons_self))) (fun _ z => by rw [← hc3.2.2.2 b hc2]; exact z) hf (hc3.2.1 b hc2) e1 e2 hl hd fin
          · cases hfb : (clF ci b).2.2.2 with
            | false => exact va_put hx hb hts hc3.1 _ hc3.2.1 hc3.2.2.1 hown hK hPw hD hS q he hc1 b hc2 (hts _ (hT _ List.mem_cons_self)) (fun _ z => by rw [← hc3.2.2.2 b hc2]; exact z) hfb (hc3.2.1 b hc2) e1 e2 hl hd fin
            | true => exact va_putF hx hb hts hc3.1 _ hc3.2.1 hc3.2.2.1 hown hK hPw hD hS q he hc1 b hc2 (hts _ (hT _ List.mem_cons_self)) (fun _ z => by rw [← hc3.2.2.2 b hc2]; exact z) hfb (hnm hf1) hf2 (hc3.2.1 b hc2) e1 e2 hl hd fin
        · exact h.elim
      · exact h.elim
    · exact h.elim
  case ireturn =>
    try dsimp only at h
    obtain ⟨hd, -⟩ := bt hB
    split at h
    · rename_i x
      unfold retOk at h
      split at h
      · rename_i hr
        exact hZ (some (.int x)) hp ad H locs k n pc ls h ⟨hPw, hD, hS⟩ hadk hn0 hk hn ⟨hd, _, hr, rfl⟩
      · rename_i t hr1 hr
        exact hZ (some (.int x)) hp ad H locs k n pc ls h.2 ⟨hPw, hD, hS⟩ hadk hn0 hk hn ⟨hd, _, hr, h.1⟩
      · exact h.elim
    · exact h.elim
  case lreturn =>
    try dsimp only at h
    obtain ⟨hd, -⟩ := bt hB
    split at h
    · rename_i x
      exact hZ (some (.long x)) hp ad H locs k n pc ls h.2 ⟨hPw, hD, hS⟩ hadk hn0 hk hn ⟨hd, h.1⟩
    · exact h.elim
  case return_ =>
    try dsimp only at h
    obtain ⟨hd, -⟩ := bt hB
    split at h
    · exact hZ none hp ad H locs k n pc ls h.2 ⟨hPw, hD, hS⟩ hadk hn0 hk hn ⟨hd, h.1⟩
    · exact h.elim
  case new ix =>
    try dsimp only at h
    obtain ⟨hd, hq⟩ := bt hB
    simp only [Bool.and_eq_true, decide_eq_true_eq] at hq
    obtain ⟨hcl, hnx⟩ := hq
    obtain ⟨hc1, -, hc3⟩ := cl_all hcl
    rw [hc1] at h
    dsimp only at h
    obtain ⟨hok, ⟨hk1, hn1⟩, hlt, h⟩ := h
    simp only [Bool.and_eq_true] at hok
    refine va_new (ci := a) (fs := dfl a (clS a)) hx hb hts hc3.1 _ hc3.2.1 hown (hts _ (hT (.classLink (sY g).cls ix (clN a)) (by simp [needT]))) (hts _ (hT (.instantiable (clN a) (clS a)) (by simp [needT]))) (hts _ (hT (.initialized (clN a)) (by simp [needT]))) hK hPw hD hS hA hc1 (fun j hj => ?_) hk1 hn1 hd (fun q H1 g1 g2 g3 => ?_)
    · simp [vp_V, dfl, hj, List.getD_eq_getElem?_getD]
    · have ec := cW_push (ad := ad) (tc := tc) (q := q) (x := AO a (dfl a (clS a))) (z := .inr (a, dfl a (clS a))) hok.1 (by simp [cE, cV_dfl]) hlt
      rw [← ec] at g1 g2
      have hak : adK hp.length 1 ad (fun k => if k = hp.length then q else ad k) := ⟨fun k hk => if_neg (by rcases hk with hk | hk <;> omega), fun z => by omega⟩
      have key := hP _ _ _ _ _ _ h p e s m args below meth c D tc _ ad0 n0 A Z H1 locs ls hAF0 hZ ⟨g1, g2, g3⟩ (hadk.trans hak hn0 (by omega)) (by simp; omega) hk1 hn1 (hL.kept hak.1 hok.2.2)
      rw [hnx, List.map_cons, rOkS_map hak.1 st hok.2.1] at key
      simpa [cV] using key
  case newarray t =>
    try dsimp only at h
    obtain ⟨hd, hnx⟩ := bd hB
    have hnx2 : pcO code nx = pc + 2 := hnx
    have harr := hts _ (hT (.arrayClass (newarray.typeOf t)) (by simp [needT]))
    split at h
    · rename_i x r
      cases t
      case int =>
        obtain ⟨hok, ⟨hk1, hn1⟩, hlt, ⟨hx0, hxN⟩, h⟩ := h
        simp only [Bool.and_eq_true] at hok
        refine va_newa (atype := .int) (ty := .int) (N' := x.toNatClampNeg) hx hb harr rfl hK hPw hD hS hA (fun cA => rep_cellI cA x.toNatClampNeg) hx0 rfl (by show x.toNatClampNeg * 4 ≤ 536870912; omega) hk1 hn1 hd (fun q cA H1 gK g1 g2 g3 => ?_)
        have h1 := (hK.2 0 (tc 0, .int) rfl).2
        have h2 := (gK.2 2 (cA, .int) rfl).2
        have hcA : cA = tc 0 := Option.some.inj (h2.symm.trans h1)
        subst hcA
        have ec := cW_push (ad := ad) (tc := tc) (q := q) (x := AI (List.replicate x.toNatClampNeg 0)) (z := .inl (tc 0, (List.replicate x.toNatClampNeg (0 : Int32)).length, .inl (fun j => (List.replicate x.toNatClampNeg (0 : Int32)).getD j 0))) hok.1 rfl hlt
        rw [← ec] at g1 g2
        have hak : adK hp.length 1 ad (fun k => if k = hp.length then q else ad k) := ⟨fun k hk => if_neg (by rcases hk with hk | hk <;> omega), fun z => by omega⟩
        have hok2 := hok.2.1
        simp only [rOkS, List.all_cons, Bool.and_eq_true] at hok2
        have key := hP _ _ _ _ _ _ h p e s m args below meth c D tc _ ad0 n0 A Z H1 locs ls hAF0 hZ ⟨g1, g2, g3⟩ (hadk.trans hak hn0 (by omega)) (by simp; omega) hk1 hn1 (hL.kept hak.1 hok.2.2)
        rw [hnx2, List.map_cons, rOkS_map hak.1 r hok2.2] at key
        simpa [cV] using key
      case long =>
        obtain ⟨hok, ⟨hk1, hn1⟩, hlt, ⟨hx0, hxN⟩, h⟩ := h
        simp only [Bool.and_eq_true] at hok
        refine va_newa (atype := .long) (ty := .long) (N' := x.toNatClampNeg) hx hb harr rfl hK hPw hD hS hA (fun cA => rep_cellL cA x.toNatClampNeg) hx0 rfl (by show x.toNatClampNeg * 8 ≤ 536870912; omega) hk1 hn1 hd (fun q cA H1 gK g1 g2 g3 => ?_)
        have h1 := (hK.2 1 (tc 1, .long) rfl).2
        have h2 := (gK.2 2 (cA, .long) rfl).2
        have hcA : cA = tc 1 := Option.some.inj (h2.symm.trans h1)
        subst hcA
        have ec := cW_push (ad := ad) (tc := tc) (q := q) (x := AL (List.replicate x.toNatClampNeg 0)) (z := .inl (tc 1, (List.replicate x.toNatClampNeg (0 : Int64)).length, .inr (.inl (fun j => (List.replicate x.toNatClampNeg (0 : Int64)).getD j 0)))) hok.1 rfl hlt
        rw [← ec] at g1 g2
        have hak : adK hp.length 1 ad (fun k => if k = hp.length then q else ad k) := ⟨fun k hk => if_neg (by rcases hk with hk | hk <;> omega), fun z => by omega⟩
        have hok2 := hok.2.1
        simp only [rOkS, List.all_cons, Bool.and_eq_true] at hok2
        have key := hP _ _ _ _ _ _ h p e s m args below meth c D tc _ ad0 n0 A Z H1 locs ls hAF0 hZ ⟨g1, g2, g3⟩ (hadk.trans hak hn0 (by omega)) (by simp; omega) hk1 hn1 (hL.kept hak.1 hok.2.2)
        rw [hnx2, List.map_cons, rOkS_map hak.1 r hok2.2] at key
        simpa [cV] using key
      all_goals exact h.elim
    · exact h.elim
  case invokestatic ix =>
    try dsimp only at h
    obtain ⟨hd, hq⟩ := bt hB
    simp only [Bool.and_eq_true, decide_eq_true_eq] at hq
    obtain ⟨hz, hnx⟩ := hq
    split at h
    · rename_i hb7
      have hb7' : b = 7 := Nat.eq_of_beq_eq_true hb7
      subst hb7'
      split at h
      · rename_i y x r
        obtain ⟨⟨hcat, hf, hlo⟩, h⟩ := h
        have hw : ∀ w ∈ [Cond.methodLink (sY g).cls ix Lib.Math.max.name, .static Lib.Math.max.name, .initialized "java/lang/Math", .code Lib.Math.max.name Lib.Math.max.code 2 (some .int)], w ∈ TBL := fun w hw => hT w hw
        refine va_mmax hx hb (hml.trans hL.2.1.symm) hown (hts _ (hw _ (by simp))) (hts _ (hw _ (by simp))) (hts _ (hw _ (by simp))) (hts _ (hw _ (by simp))) hf ?_ hk hn hd ?_
        · rw [catN_sum]
          have := Nat.le_of_ble_eq_true hcat
          omega
        · exact go hnx h hL
      · exact h.elim
    · rename_i hb8 hb7
      have hb8' : b = 8 := Nat.eq_of_beq_eq_true hb8
      subst hb8'
      split at h
      · rename_i y x r
        obtain ⟨⟨hcat, hf, hlo⟩, h⟩ := h
        have hw : ∀ w ∈ [Cond.methodLink (sY g).cls ix Lib.Math.min.name, .static Lib.Math.min.name, .initialized "java/lang/Math", .code Lib.Math.min.name Lib.Math.min.code 2 (some .int)], w ∈ TBL := fun w hw => hT w hw
        refine va_mmin hx hb (hml.trans hL.2.1.symm) hown (hts _ (hw _ (by simp))) (hts _ (hw _ (by simp))) (hts _ (hw _ (by simp))) (hts _ (hw _ (by simp))) hf ?_ hk hn hd ?_
        · rw [catN_sum]
          have := Nat.le_of_ble_eq_true hcat
          omega
        · exact go hnx h hL
      · exact h.elim
    · rename_i hb7 hb8
      have n7 : ¬ b = 7 := fun z => by subst z; cases hb7
      have n8 : ¬ b = 8 := fun z => by subst z; cases hb8
      have hcall2 : SgS cs := by
        unfold callOk at hcall
        simp only [hb7, hb8, Bool.or_false] at hcall
        exact hcall
      obtain ⟨hsg, hTs⟩ := hcall2
      obtain ⟨as, r, hn', hst, h'⟩ := popN_spec h
      subst hst
      clear h
      rw [List.append_nil] at h'
      split at h'
      · rename_i hcat hok
        obtain ⟨d', Rq, hR, hCt, hall⟩ := h'
        exact call_st hCt hSf ⟨hPw, hD, hS⟩ hA hEF hL.2.1 hd (Nat.le_of_ble_eq_true hcat) hn' hsg hTs rfl (z := cc) (fun hz0 => hT _ (by subst hz0; simp [needT, n7, n8])) (fun hz1 => hN _ (by subst hz1; exact List.mem_cons_self)) hz hR (goC (as := as) (st' := []) hok hR.2.2.1 hR.2.2.2 hnx hall)
      · exact h'.elim
  case invokevirtual ix =>
    try dsimp only at h
    obtain ⟨hd, hq⟩ := bt hB
    simp only [Bool.and_eq_true, decide_eq_true_eq] at hq
    obtain ⟨hz, hnx⟩ := hq
    obtain ⟨as, r, hn', hst, h'⟩ := popN_spec h
    subst hst
    clear h
    rw [List.append_nil] at h'
    split at h'
    · rename_i q as'
      cases ha : Nat.beq a 50 with
      | true =>
        rw [ha] at h'
        have hcall2 : SgX cs := by
          unfold callOk at hcall
          simp only [ha] at hcall
          exact hcall
        obtain ⟨hq2, hTs⟩ := hcall2
        simp only [Bool.and_eq_true, decide_eq_true_eq] at hq2
        obtain ⟨hsg, hcn, h1A, hC0⟩ := hq2
        dsimp only at h'
        split at h'
        · rename_i i0 hq0 hcat hok
          obtain ⟨d', Rq, hR, hCt, hall⟩ := h'
          exact call_vs hCt hSf ⟨hPw, hD, hS⟩ hA hEF hL.2.1 hd (Nat.le_of_ble_eq_true hcat) hn' rfl hsg hq0 hcn hTs rfl (z := cc) (fun hz0 => hT _ (by subst hz0; exact List.mem_cons_self)) (fun hz1 => hN _ (by subst hz1; exact List.mem_cons_self)) hz hR (goC (as := .ref q :: as') (st' := []) (by rw [hok]; rfl) hR.2.2.1 hR.2.2.2 hnx hall)
        · exact h'.elim
      | false =>
      rw [ha] at h'
      dsimp only at h'
      have hcall2 : SgV cs a := by
        unfold callOk at hcall
        simp only [ha] at hcall
        exact hcall
      obtain ⟨hq2, hTs⟩ := hcall2
      simp only [Bool.and_eq_true, decide_eq_true_eq] at hq2
      obtain ⟨hsg, hcn, hcl, h1A⟩ := hq2
      split at h'
      · rename_i ci fs hfs
        split at h'
        · rename_i hci hcat hok
          have hci' : ci = a := Nat.eq_of_beq_eq_true hci
          subst hci'
          obtain ⟨d', Rq, hR, hCt, hall⟩ := h'
          exact call_vi hCt hSf ⟨hPw, hD, hS⟩ hA hEF hL.2.1 hd (Nat.le_of_ble_eq_true hcat) hn' rfl hsg hfs hcl hcn hTs rfl (z := cc) (fun hz0 => hT _ (by subst hz0; exact List.mem_cons_self)) (fun hz1 => hN _ (by subst hz1; exact List.mem_cons_self)) hz hR (goC (as := .ref q :: as') (st' := []) hok hR.2.2.1 hR.2.2.2 hnx hall)
        · exact h'.elim
      · exact h'.elim
    · exact h'.elim
  case invokespecial ix =>
    try dsimp only at h
    obtain ⟨hd, hq⟩ := bt hB
    simp only [Bool.and_eq_true, decide_eq_true_eq] at hq
    obtain ⟨hz, hnx⟩ := hq
    split at h
    · rename_i hb9
      have hb9' : b = 9 := Nat.eq_of_beq_eq_true hb9
      subst hb9'
      split at h
      · rename_i q r
        split at h
        · rename_i hcat
          obtain ⟨⟨hf, hlo⟩, h⟩ := h
          refine W.objInit hx hb hown (hts _ (hT (.methodLink (sY g).cls ix Lib.objectInit) (by simp [needT]))) (hts _ (hT (.instanceMethod Lib.objectInit) (by simp [needT]))) (hts _ (hT (.code Lib.objectInit ⟨#[0xb1]⟩ 1 none) (by simp [needT]))) rfl (by rw [hml]; exact hL.2.1) (a := ad q) (rest := r.map (cV ad)) rfl hd hf ?_ ?_
          · have := call_room (m := m) (pc := pc) (ls := ls) (st0 := []) (ad := ad) (r := r) (Nat.le_of_ble_eq_true hcat)
            have e2 : (F0 m pc ls ((Value.ref q :: r).map (cV ad))).monitorRoom = (F0 m pc ls []).monitorRoom := rfl
            rw [e2]
            omega
          · exact go hnx h hL
        · exact h.elim
      · exact h.elim
    · rename_i hb9
      have hb9' : ¬ b = 9 := fun z => by subst z; cases hb9
      have hcall2 : SgI cs := by
        unfold callOk at hcall
        simp only [hb9] at hcall
        exact hcall
      obtain ⟨hq2, hTs⟩ := hcall2
      simp only [Bool.and_eq_true, decide_eq_true_eq] at hq2
      obtain ⟨hsg, h1A, hin, hret⟩ := hq2
      obtain ⟨as, r, hn', hst, h'⟩ := popN_spec h
      subst hst
      clear h
      rw [List.append_nil] at h'
      split at h'
      · rename_i q as'
        split at h'
        · rename_i hcat hok
          obtain ⟨d', Rq, hR, hCt, hall⟩ := h'
          exact call_sp hCt hSf ⟨hPw, hD, hS⟩ hA hEF hL.2.1 hd (Nat.le_of_ble_eq_true hcat) hn' rfl hsg hin hret hTs rfl (z := cc) (fun hz0 => hT _ (by subst hz0; simp [needT, hb9'])) (fun hz1 => hN _ (by subst hz1; simp [needN, hb9'])) hz hR (goC (as := .ref q :: as') (st' := []) hok hR.2.2.1 hR.2.2.2 hnx hall)
        · exact h'.elim
      · exact h'.elim
  case tableswitch d lo hi offs =>
    try dsimp only at h
    simp only [rowB, rowP, Bool.and_eq_true, decide_eq_true_eq] at hB
    obtain ⟨hd, ht, hoffs, hhi⟩ := hB
    split at h
    · rename_i x r
      by_cases hlo : x.toInt < lo ∨ hi < x.toInt
      · exact lv_tableOut hx hb hd hlo ht (go rfl (h.1 hlo) hL)
      · have g1 : ¬ x.toInt < lo := fun z => hlo (Or.inl z)
        have g2 : ¬ hi < x.toInt := fun z => hlo (Or.inr z)
        have hj : (x.toInt - lo).toNat < ts.length := by omega
        have hlen : offs.toList.length = ts.length := by
          have := congrArg List.length hoffs
          simpa using this
        have hjo : (x.toInt - lo).toNat < offs.size := by rw [← Array.length_toList, hlen]; exact hj
        have hoff : (pc : Int) + offs[(x.toInt - lo).toNat] = (pcO code ts[(x.toInt - lo).toNat] : Int) := by
          have := congrArg (fun z => z[(x.toInt - lo).toNat]?) hoffs
          simp only [List.getElem?_map, List.getElem?_eq_getElem hj, Option.map_some, Array.getElem?_toList, Array.getElem?_eq_getElem hjo] at this
          exact Option.some.inj this
        refine lv_tableIn hx hb hd g1 g2 (Array.getElem?_eq_getElem hjo) hoff ?_
        have ex : x = Int32.ofInt (lo + (((x.toInt - lo).toNat : Nat) : Int)) := by
          have : lo + (((x.toInt - lo).toNat : Nat) : Int) = x.toInt := by omega
          rw [this, Int32.ofInt_toInt]
        exact go rfl (swT_spec (K := fun t => P t al r hp k n) h.2 (List.getElem?_eq_getElem hj) ex) hL
    · exact h.elim
  case lookupswitch d ps =>
    try dsimp only at h
    simp only [rowB, rowP, Bool.and_eq_true, decide_eq_true_eq, List.all_eq_true (p := fun o : Int × Int => decide ((Int32.ofInt o.1).toInt = o.1))] at hB
    obtain ⟨hd, ht, hoffs, hsort, hrng⟩ := hB
    split at h
    · rename_i x r
      obtain ⟨off, t, g1, g2, g3⟩ := swL_spec (K := fun t => P t al r hp k n) ht hoffs (fun o ho => by simpa using hrng o ho) h.2 h.1
      exact lv_lookup hx hb hd hsort g1 g2 (go rfl g3 hL)
    · exact h.elim
  all_goals exact hoth.elim
end
section
/-- many instructions -/
theorem run_sound {l : Launch} {R : Room} {X : List (List Int32)} {g : Sig} {code : List Row} {Q : AH → Option Value → Prop} (hC : Chk g code) (cut : Nat → Bool) : ∀ (f : Nat) {i : Nat} {al : LO} {st : List Value} {hp : AH} {k n : Nat}, run l R X g code cut Q (WP l R X g code Q) f i al st hp k n → WP l R X g code Q i al st hp k n := by
  intro f
  induction f with
  | zero => intro i al st hp k n h; exact h
  | succ f ih =>
    intro i al st hp k n h
    refine stp_sound hC (fun i' al' st' hp' k' n' h' => ?_) h
    split at h'
    · exact h'
    · exact ih h'
/-- the locals at a method's entry -/
def enL : List Value → Nat → LO
  | [], n => List.replicate n none
  | v :: r, n => match v with
    | .long x => some (.long x) :: none :: enL r (n - 2)
    | .double x => some (.double x) :: none :: enL r (n - 2)
    | w => some w :: enL r (n - 1)
theorem enL_cons {v : Value} {r : List Value} {n : Nat} : enL (v :: r) n = if v.category = 2 then some v :: none :: enL r (n - 2) else some v :: enL r (n - 1) := by
  cases v <;> simp [enL, Value.category]
theorem lg_len (v : Value) (q : List Value) : (lg_sl (v :: q)).length = (if v.category = 2 then 2 else 1) + (lg_sl q).length := by
  have e : lg_sl (v :: q) = (if v.category = 2 then [Slot.val v, Slot.second] else [Slot.val v]) ++ lg_sl q := by simp [lg_sl]
  rw [e, List.length_append]
  by_cases hc : v.category = 2 <;> simp [hc]
theorem enL_spec : ∀ (as : List Value) (n i0 : Nat), (lg_sl as).length ≤ n → (enL as n).length = n ∧ ∀ (j : Nat) (v : Value), (enL as n)[j]? = some (some v) → (i0 + j, v) ∈ lv_args i0 as := by
  intro as
  induction as with
  | nil =>
    intro n i0 _
    refine ⟨by simp [enL], fun j v h => ?_⟩
    simp [enL, List.getElem?_replicate] at h
  | cons a r ih =>
    intro n i0 hn
    rw [enL_cons]
    by_cases hc : a.category = 2
    · have h2 : (lg_sl r).length + 2 ≤ n := by rw [lg_len, if_pos hc] at hn; omega
      obtain ⟨h3, h4⟩ := ih (n - 2) (i0 + 2) (by omega)
      rw [if_pos hc]
      refine ⟨by simp only [List.length_cons, h3]; omega, fun j v h => ?_⟩
      cases j with
      | zero => simp at h; subst h; simp [lv_args]
      | succ j =>
        cases j with
        | zero => simp at h
        | succ j =>
          have := h4 j v (by simpa using h)
          simp only [lv_args, hc, if_true]
          refine List.mem_cons_of_mem _ ?_
          rw [show i0 + (j + 1 + 1) = i0 + 2 + j by omega]
          exact this
    · have h2 : (lg_sl r).length + 1 ≤ n := by rw [lg_len, if_neg hc] at hn; omega
      obtain ⟨h3, h4⟩ := ih (n - 1) (i0 + 1) (by omega)
      rw [if_neg hc]
      refine ⟨by simp only [List.length_cons, h3]; omega, fun j v h => ?_⟩
      cases j with
      | zero => simp at h; subst h; simp [lv_args]
      | succ j =>
        have := h4 j v (by simpa using h)
        simp only [lv_args, hc, if_false]
        refine List.mem_cons_of_mem _ ?_
        rw [show i0 + (j + 1) = i0 + 1 + j by omega]
        exact this
theorem lv_args_cV (ad : Nat → Nat) : ∀ (as : List Value) (i : Nat) (j : Nat) (v : Value), (j, v) ∈ lv_args i as → (j, cV ad v) ∈ lv_args i (as.map (cV ad)) := by
  intro as
  induction as with
  | nil => intro i j v h; cases h
  | cons a r ih =>
    intro i j v h
    simp only [lv_args, List.map_cons, cV_cat] at h ⊢
    rcases List.mem_cons.mp h with e | h
    · cases e; exact List.mem_cons_self
    · exact List.mem_cons_of_mem _ (ih _ _ _ h)
theorem lg_sl_cV (ad : Nat → Nat) (as : List Value) : (lg_sl (as.map (cV ad))).length = (lg_sl as).length := by
  induction as with
  | nil => rfl
  | cons a r ih =>
    rw [List.map_cons, lg_len, lg_len, ih, cV_cat]
/-- A METHOD'S CONTRACT out of its run -/
theorem Ctr.of {l : Launch} {d : Nat} {X : List (List Int32)} {g : Sig} {code : List Row} {as : List Value} {hp : AH} {Rq : AH → Option Value → Prop} (hC : Chk g code) (h0 : pcO code 0 = 0) (hlen : (lg_sl as).length ≤ sL g)
    (h : WP l (rmD d (sC g) (sS g)) X g code Rq 0 (enL as (sL g)) [] hp 0 0) : Ctr l d X g as hp Rq := by
  intro D tc ad sz
  refine Met.ofW (cc := sB g) (maxL := sL g) (ret := sR g) hC.2.2.2.2 rfl ?_
  intro p e s m args below meth c s₁ B hml hv
  obtain ⟨rfl, hsz, hP, hD0, hEF⟩ := hv
  have hts := atoms_spec (ws := sgW g) B.pre
  have hts' : ∀ w ∈ TBL, w.before (as.map (cV ad)).toArray s = true := fun w hw => hts w (List.mem_cons_of_mem _ hw)
  have hown : s.vm.findClass (sY g).cls = some m.cls := findClass_of_methodNamed B.named
  have hin : meth.name = (sY g).name := (name_of_methodNamed B.named B.method).1
  have hlocks := B.notSynchronized
  have hx := B.exec
  have hb := B.bytes
  have hr := B.returns
  rw [lg_entry_eq]
  have hl := lv_entry (as.map (cV ad)) (n := sL g) (by rw [lg_sl_cV]; exact hlen)
  generalize (lg_sl (as.map (cV ad)) ++ List.replicate (sL g - (lg_sl (as.map (cV ad))).length) Slot.unset).toArray = ls at hl ⊢
  obtain ⟨e1, e2⟩ := enL_spec as (sL g) 0 hlen
  have hL : LR ad (sL g) (enL as (sL g)) ls := by
    refine ⟨e1, hl.1, hl.2.1, fun j v hj => ?_⟩
    have := lv_args_cV ad as 0 (0 + j) v (e2 j v hj)
    rw [Nat.zero_add] at this
    exact hl.2.2 _ this
  have key := h p e s m (as.map (cV ad)).toArray below meth c D tc ad ad hp.length (va_A (cW ad tc hp) sz) (MQ below (CPost (sC g) D tc ad sz hp Rq) (as.map (cV ad)).toArray s (sC g) (sS g) (va_A (cW ad tc hp) sz)) s.heap [] ls
    ⟨hx, hb, hml, hown, hts', fun z => hin.trans z, hEF, fun q hq => Or.inr (by rw [← hsz]; exact hq)⟩ ?_ ⟨hP, hD0.self, va_S.rf⟩ ⟨fun _ _ => rfl, fun _ => rfl⟩ (Nat.le_refl _) (Nat.zero_le _) (Nat.zero_le _) hL
  · rw [h0] at key
    exact key
  · intro v hp' ad' H locs k n pc ls' hR hW hak hn0 hk hn hrt
    refine W.widen hk hn ?_
    have post : ∀ t : State, t.heap = H → s.WarmedH t.vm → CPost (sC g) D tc ad sz hp Rq (as.map (cV ad)).toArray s (.returned (v.map (cV ad'))) t := fun t ht _ =>
      ⟨⟨v, hp', ad', rfl, hR, hak, hn0, by rw [ht]; exact hW.1, hW.2.1⟩, hW.2.2.F ht⟩
    cases v with
    | none => exact W.vret hx hb (hr.trans hrt.2) post hW.2.2.2.2 hrt.1
    | some w =>
      cases w with
      | int x =>
        obtain ⟨hd, t, ht, hnar⟩ := hrt
        exact W.zret hx hb (hr.trans ht) hnar post hW.2.2.2.2 hd
      | long x => exact W.lret hx hb (hr.trans hrt.2) post hW.2.2.2.2 hrt.1
      | _ => exact hrt.elim
/-- a contract says less -/
theorem Ctr.weak {l : Launch} {d : Nat} {X : List (List Int32)} {g : Sig} {as : List Value} {hp : AH} {R1 R2 : AH → Option Value → Prop} (h : Ctr l d X g as hp R1) (hR : ∀ hp' v, R1 hp' v → R2 hp' v) : Ctr l d X g as hp R2 := by
  intro D tc ad sz p e ha hc hk s m args below hf happ hP hK
  obtain ⟨n, o, h1, h2, h3, ⟨⟨v, hp', ad', g1, g2, g3⟩, hF⟩, hL⟩ := h D tc ad sz p e ha hc hk s m args below hf happ hP hK
  exact ⟨n, o, h1, h2, h3, ⟨⟨v, hp', ad', g1, hR _ _ g2, g3⟩, hF⟩, hL⟩
end
section
-- ===== end of PART A; then your names; then what follows =====
/-! THE CLAIM OUT OF ONE WALK OF THE LAW'S BODY. Your part is whole_start (and what it stands on); all else here is the same for every law, but numbers. -/
def R_law : String := "SaidTwiceLaw"
def lw_P (b : Addr) (xs : List Int32) (args : Array Value) (s : State) : Prop := args = #[.ref b] ∧ s.IntsAt b xs ∧ xs.length ≤ 3584 ∧ (Jvm.Cond.and given_1 narrow_1).before args s = true
def lw_Q (_ : Array Value) (s : State) (o : Outcome) (t : State) : Prop := o = .returned (some (.int 1)) ∧ Framed s o t [] 600000 7302250
def lw_Z (below : List Frame) (a : Array Value) (s : State) : State → Prop := fun t => ∃ o, t.status = .running ∧ Ended t below o ∧ lw_Q a s o t
/-- the law's own end, with 1 on the stack, nothing written that was there before, its room as the claim has it -/
theorem lw_ret {p : Program} {l : Launch} {e : Env} {s : State} {m : MethodId} {below : List Frame} {meth : Method} {c : Code} {b : Nat} (hx : p.tables.exec = Jvm.exec) (hb : c.code = code) (hr : meth.sig.returnType = ret) (hlocks : meth.locks = false) {pc : Nat} {H : Heap} {ls : Array Slot} (hdg : decode code pc = .ok (.ireturn, 1)) : W p l e room_1 s m #[Value.ref b] below meth c H [] 600000 7302250 (lw_Z below #[Value.ref b] s) (F0 m pc ls [.int 1]) := by
  intro T hT X
  obtain ⟨fs, hret, hrun, hended, hW, hframe⟩ := X.leave (v := some (.int 1)) (hlocks := hlocks) (fun h => by rw [hr] at h; cases h)
  have hmeth' : T.vm.method? m = some meth := X.method'
  refine ⟨T.setFrames fs, ?_, .returned (some (.int 1)), hrun, hended, rfl, ⟨_, rfl⟩, hW, hframe⟩
  jvm_step X.here [X.here.top, hx, hb, hdg, hmeth', hr, ret, narrow_b1]
  (try refine ⟨rfl, ?_⟩); (try refine ⟨rfl, ?_⟩)
  first | (intro acts; rw [hret _ acts rfl rfl rfl]) | rw [hret _ _ rfl rfl rfl]
  exact Steps.refl _
/-- what holds at the law's entry: the machine, the code, the tables' words (any of lw_tbl by 'hts w (by decide +kernel)'), the script of L ints xs at the cell b, what the Statement gives of the start (any of its parts by flat_of_before) -/
def lw_At (p : Program) (s : State) (m : MethodId) (meth : Method) (c : Code) (b L : Nat) (xs : Nat → Int32) : Prop :=
  p.tables.exec = Jvm.exec ∧ c.code = code ∧ meth.sig.returnType = ret ∧ c.maxLocals = 4 ∧ s.vm.findClass R_law = some m.cls ∧ (∀ w ∈ lw_tbl, w.before #[Value.ref b] s = true) ∧ va_X b L xs s s.heap ∧ b < s.heap.size ∧ meth.locks = false ∧ (Jvm.Cond.and given_1 narrow_1).before #[Value.ref b] s = true
end
