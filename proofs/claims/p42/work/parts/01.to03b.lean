/-! parts 01 .. 03b, joined -/
section
-- 01.names
-- ===== PART A: goes FIRST, ahead of the names: the tables' words, and 'selects' of the private methods out of them =====
/-- a private method of a class that the tables say can be made, by its rows of tables_1 -/
def lw_okq (q : MethodName × Nat) : Prop := (q.1.cls ≠ "java/lang/invoke/MethodHandle" ∧ q.1.cls ≠ "java/lang/invoke/VarHandle") ∧ Cond.instantiable q.1.cls q.2 ∈ tables_1 ∧ Cond.privateMethod q.1 ∈ tables_1 ∧ Cond.instanceMethod q.1 ∈ tables_1
theorem lw_p0 : lw_okq (⟨"SaidTwice$Tokens", "append", "(I)V"⟩, 6) := ⟨⟨by decide +kernel, by decide +kernel⟩, List.mem_of_getElem? (i := 25) (by decide +kernel), List.mem_of_getElem? (i := 230) (by decide +kernel), List.mem_of_getElem? (i := 231) (by decide +kernel)⟩
theorem lw_p1 : lw_okq (⟨"SaidTwice$Grammar", "readText", "()Z"⟩, 2) := ⟨⟨by decide +kernel, by decide +kernel⟩, List.mem_of_getElem? (i := 80) (by decide +kernel), List.mem_of_getElem? (i := 239) (by decide +kernel), List.mem_of_getElem? (i := 240) (by decide +kernel)⟩
theorem lw_p2 : lw_okq (⟨"SaidTwice$Tokens", "start", "()V"⟩, 6) := ⟨⟨by decide +kernel, by decide +kernel⟩, List.mem_of_getElem? (i := 25) (by decide +kernel), List.mem_of_getElem? (i := 243) (by decide +kernel), List.mem_of_getElem? (i := 244) (by decide +kernel)⟩
theorem lw_p3 : lw_okq (⟨"SaidTwice$Tokens", "advance", "()V"⟩, 6) := ⟨⟨by decide +kernel, by decide +kernel⟩, List.mem_of_getElem? (i := 25) (by decide +kernel), List.mem_of_getElem? (i := 247) (by decide +kernel), List.mem_of_getElem? (i := 248) (by decide +kernel)⟩
theorem lw_p4 : lw_okq (⟨"SaidTwice$Tokens", "readWord", "()V"⟩, 6) := ⟨⟨by decide +kernel, by decide +kernel⟩, List.mem_of_getElem? (i := 25) (by decide +kernel), List.mem_of_getElem? (i := 260) (by decide +kernel), List.mem_of_getElem? (i := 261) (by decide +kernel)⟩
theorem lw_p5 : lw_okq (⟨"SaidTwice$Tokens", "spells", "(Ljava/lang/String;)Z"⟩, 6) := ⟨⟨by decide +kernel, by decide +kernel⟩, List.mem_of_getElem? (i := 25) (by decide +kernel), List.mem_of_getElem? (i := 265) (by decide +kernel), List.mem_of_getElem? (i := 266) (by decide +kernel)⟩
theorem lw_p6 : lw_okq (⟨"SaidTwice$Tokens", "readNumber", "()V"⟩, 6) := ⟨⟨by decide +kernel, by decide +kernel⟩, List.mem_of_getElem? (i := 25) (by decide +kernel), List.mem_of_getElem? (i := 326) (by decide +kernel), List.mem_of_getElem? (i := 327) (by decide +kernel)⟩
theorem lw_p7 : lw_okq (⟨"SaidTwice$Code", "clear", "()V"⟩, 6) := ⟨⟨by decide +kernel, by decide +kernel⟩, List.mem_of_getElem? (i := 55) (by decide +kernel), List.mem_of_getElem? (i := 333) (by decide +kernel), List.mem_of_getElem? (i := 334) (by decide +kernel)⟩
theorem lw_p8 : lw_okq (⟨"SaidTwice$Grammar", "readToken", "(I)Z"⟩, 2) := ⟨⟨by decide +kernel, by decide +kernel⟩, List.mem_of_getElem? (i := 80) (by decide +kernel), List.mem_of_getElem? (i := 337) (by decide +kernel), List.mem_of_getElem? (i := 338) (by decide +kernel)⟩
theorem lw_p9 : lw_okq (⟨"SaidTwice$Grammar", "readOr", "(I)Z"⟩, 2) := ⟨⟨by decide +kernel, by decide +kernel⟩, List.mem_of_getElem? (i := 80) (by decide +kernel), List.mem_of_getElem? (i := 342) (by decide +kernel), List.mem_of_getElem? (i := 343) (by decide +kernel)⟩
theorem lw_p10 : lw_okq (⟨"SaidTwice$Grammar", "readAnd", "(I)Z"⟩, 2) := ⟨⟨by decide +kernel, by decide +kernel⟩, List.mem_of_getElem? (i := 80) (by decide +kernel), List.mem_of_getElem? (i := 346) (by decide +kernel), List.mem_of_getElem? (i := 347) (by decide +kernel)⟩
theorem lw_p11 : lw_okq (⟨"SaidTwice$Grammar", "readNot", "(I)Z"⟩, 2) := ⟨⟨by decide +kernel, by decide +kernel⟩, List.mem_of_getElem? (i := 80) (by decide +kernel), List.mem_of_getElem? (i := 350) (by decide +kernel), List.mem_of_getElem? (i := 351) (by decide +kernel)⟩
theorem lw_p12 : lw_okq (⟨"SaidTwice$Grammar", "readCompared", "(I)Z"⟩, 2) := ⟨⟨by decide +kernel, by decide +kernel⟩, List.mem_of_getElem? (i := 80) (by decide +kernel), List.mem_of_getElem? (i := 354) (by decide +kernel), List.mem_of_getElem? (i := 355) (by decide +kernel)⟩
theorem lw_p13 : lw_okq (⟨"SaidTwice$Grammar", "readSum", "(I)Z"⟩, 2) := ⟨⟨by decide +kernel, by decide +kernel⟩, List.mem_of_getElem? (i := 80) (by decide +kernel), List.mem_of_getElem? (i := 358) (by decide +kernel), List.mem_of_getElem? (i := 359) (by decide +kernel)⟩
theorem lw_p14 : lw_okq (⟨"SaidTwice$Grammar", "readTerm", "(I)Z"⟩, 2) := ⟨⟨by decide +kernel, by decide +kernel⟩, List.mem_of_getElem? (i := 80) (by decide +kernel), List.mem_of_getElem? (i := 362) (by decide +kernel), List.mem_of_getElem? (i := 363) (by decide +kernel)⟩
theorem lw_p15 : lw_okq (⟨"SaidTwice$Grammar", "readOne", "(I)Z"⟩, 2) := ⟨⟨by decide +kernel, by decide +kernel⟩, List.mem_of_getElem? (i := 80) (by decide +kernel), List.mem_of_getElem? (i := 366) (by decide +kernel), List.mem_of_getElem? (i := 367) (by decide +kernel)⟩
def lw_privs_1 : List (MethodName × Nat) := [(⟨"SaidTwice$Tokens", "append", "(I)V"⟩, 6), (⟨"SaidTwice$Grammar", "readText", "()Z"⟩, 2), (⟨"SaidTwice$Tokens", "start", "()V"⟩, 6), (⟨"SaidTwice$Tokens", "advance", "()V"⟩, 6), (⟨"SaidTwice$Tokens", "readWord", "()V"⟩, 6), (⟨"SaidTwice$Tokens", "spells", "(Ljava/lang/String;)Z"⟩, 6), (⟨"SaidTwice$Tokens", "readNumber", "()V"⟩, 6), (⟨"SaidTwice$Code", "clear", "()V"⟩, 6), (⟨"SaidTwice$Grammar", "readToken", "(I)Z"⟩, 2), (⟨"SaidTwice$Grammar", "readOr", "(I)Z"⟩, 2), (⟨"SaidTwice$Grammar", "readAnd", "(I)Z"⟩, 2), (⟨"SaidTwice$Grammar", "readNot", "(I)Z"⟩, 2), (⟨"SaidTwice$Grammar", "readCompared", "(I)Z"⟩, 2), (⟨"SaidTwice$Grammar", "readSum", "(I)Z"⟩, 2), (⟨"SaidTwice$Grammar", "readTerm", "(I)Z"⟩, 2), (⟨"SaidTwice$Grammar", "readOne", "(I)Z"⟩, 2)]
theorem lw_r1 : ∀ q ∈ lw_privs_1, lw_okq q := List.forall_mem_cons.mpr ⟨lw_p0, List.forall_mem_cons.mpr ⟨lw_p1, List.forall_mem_cons.mpr ⟨lw_p2, List.forall_mem_cons.mpr ⟨lw_p3, List.forall_mem_cons.mpr ⟨lw_p4, List.forall_mem_cons.mpr ⟨lw_p5, List.forall_mem_cons.mpr ⟨lw_p6, List.forall_mem_cons.mpr ⟨lw_p7, List.forall_mem_cons.mpr ⟨lw_p8, List.forall_mem_cons.mpr ⟨lw_p9, List.forall_mem_cons.mpr ⟨lw_p10, List.forall_mem_cons.mpr ⟨lw_p11, List.forall_mem_cons.mpr ⟨lw_p12, List.forall_mem_cons.mpr ⟨lw_p13, List.forall_mem_cons.mpr ⟨lw_p14, List.forall_mem_cons.mpr ⟨lw_p15, fun _ h => absurd h List.not_mem_nil⟩⟩⟩⟩⟩⟩⟩⟩⟩⟩⟩⟩⟩⟩⟩⟩
theorem lw_p16 : lw_okq (⟨"SaidTwice$Code", "add", "(II)V"⟩, 6) := ⟨⟨by decide +kernel, by decide +kernel⟩, List.mem_of_getElem? (i := 55) (by decide +kernel), List.mem_of_getElem? (i := 370) (by decide +kernel), List.mem_of_getElem? (i := 371) (by decide +kernel)⟩
theorem lw_p17 : lw_okq (⟨"SaidTwice$Grammar", "readBracket", "(I)Z"⟩, 2) := ⟨⟨by decide +kernel, by decide +kernel⟩, List.mem_of_getElem? (i := 80) (by decide +kernel), List.mem_of_getElem? (i := 375) (by decide +kernel), List.mem_of_getElem? (i := 376) (by decide +kernel)⟩
theorem lw_p18 : lw_okq (⟨"SaidTwice$Code", "endPart", "(I)V"⟩, 6) := ⟨⟨by decide +kernel, by decide +kernel⟩, List.mem_of_getElem? (i := 55) (by decide +kernel), List.mem_of_getElem? (i := 379) (by decide +kernel), List.mem_of_getElem? (i := 380) (by decide +kernel)⟩
theorem lw_p19 : lw_okq (⟨"SaidTwice$Texts", "add", "(LSaidTwice$Code;)V"⟩, 4) := ⟨⟨by decide +kernel, by decide +kernel⟩, List.mem_of_getElem? (i := 93) (by decide +kernel), List.mem_of_getElem? (i := 383) (by decide +kernel), List.mem_of_getElem? (i := 384) (by decide +kernel)⟩
theorem lw_p20 : lw_okq (⟨"SaidTwice$Code", "truths", "(II)I"⟩, 6) := ⟨⟨by decide +kernel, by decide +kernel⟩, List.mem_of_getElem? (i := 55) (by decide +kernel), List.mem_of_getElem? (i := 387) (by decide +kernel), List.mem_of_getElem? (i := 388) (by decide +kernel)⟩
theorem lw_p21 : lw_okq (⟨"SaidTwice$Code", "valueOf", "(III)I"⟩, 6) := ⟨⟨by decide +kernel, by decide +kernel⟩, List.mem_of_getElem? (i := 55) (by decide +kernel), List.mem_of_getElem? (i := 391) (by decide +kernel), List.mem_of_getElem? (i := 392) (by decide +kernel)⟩
theorem lw_p22 : lw_okq (⟨"SaidTwice$Code", "step", "(IIII)V"⟩, 6) := ⟨⟨by decide +kernel, by decide +kernel⟩, List.mem_of_getElem? (i := 55) (by decide +kernel), List.mem_of_getElem? (i := 396) (by decide +kernel), List.mem_of_getElem? (i := 397) (by decide +kernel)⟩
theorem lw_p23 : lw_okq (⟨"SaidTwice$Code", "push", "(I)V"⟩, 6) := ⟨⟨by decide +kernel, by decide +kernel⟩, List.mem_of_getElem? (i := 55) (by decide +kernel), List.mem_of_getElem? (i := 400) (by decide +kernel), List.mem_of_getElem? (i := 401) (by decide +kernel)⟩
theorem lw_p24 : lw_okq (⟨"SaidTwice$Code", "pop", "()I"⟩, 6) := ⟨⟨by decide +kernel, by decide +kernel⟩, List.mem_of_getElem? (i := 55) (by decide +kernel), List.mem_of_getElem? (i := 407) (by decide +kernel), List.mem_of_getElem? (i := 408) (by decide +kernel)⟩
theorem lw_p25 : lw_okq (⟨"SaidTwice", "isText", "(I)Z"⟩, 9) := ⟨⟨by decide +kernel, by decide +kernel⟩, List.mem_of_getElem? (i := 17) (by decide +kernel), List.mem_of_getElem? (i := 426) (by decide +kernel), List.mem_of_getElem? (i := 427) (by decide +kernel)⟩
theorem lw_p26 : lw_okq (⟨"SaidTwice$Texts", "costOf", "(II)I"⟩, 4) := ⟨⟨by decide +kernel, by decide +kernel⟩, List.mem_of_getElem? (i := 93) (by decide +kernel), List.mem_of_getElem? (i := 440) (by decide +kernel), List.mem_of_getElem? (i := 441) (by decide +kernel)⟩
theorem lw_p27 : lw_okq (⟨"SaidTwice$Texts", "side", "(III)I"⟩, 4) := ⟨⟨by decide +kernel, by decide +kernel⟩, List.mem_of_getElem? (i := 93) (by decide +kernel), List.mem_of_getElem? (i := 445) (by decide +kernel), List.mem_of_getElem? (i := 446) (by decide +kernel)⟩
theorem lw_p28 : lw_okq (⟨"SaidTwice$Talk", "become", "(III)V"⟩, 6) := ⟨⟨by decide +kernel, by decide +kernel⟩, List.mem_of_getElem? (i := 116) (by decide +kernel), List.mem_of_getElem? (i := 473) (by decide +kernel), List.mem_of_getElem? (i := 474) (by decide +kernel)⟩
theorem lw_p29 : lw_okq (⟨"SaidTwice", "isSpeaker", "(I)Z"⟩, 9) := ⟨⟨by decide +kernel, by decide +kernel⟩, List.mem_of_getElem? (i := 17) (by decide +kernel), List.mem_of_getElem? (i := 482) (by decide +kernel), List.mem_of_getElem? (i := 483) (by decide +kernel)⟩
theorem lw_p30 : lw_okq (⟨"SaidTwice$Talk", "append", "(III)V"⟩, 6) := ⟨⟨by decide +kernel, by decide +kernel⟩, List.mem_of_getElem? (i := 116) (by decide +kernel), List.mem_of_getElem? (i := 495) (by decide +kernel), List.mem_of_getElem? (i := 496) (by decide +kernel)⟩
theorem lw_p31 : lw_okq (⟨"SaidTwice$Talk", "sayingPart", "(II)I"⟩, 6) := ⟨⟨by decide +kernel, by decide +kernel⟩, List.mem_of_getElem? (i := 116) (by decide +kernel), List.mem_of_getElem? (i := 507) (by decide +kernel), List.mem_of_getElem? (i := 508) (by decide +kernel)⟩
def lw_privs_2 : List (MethodName × Nat) := [(⟨"SaidTwice$Code", "add", "(II)V"⟩, 6), (⟨"SaidTwice$Grammar", "readBracket", "(I)Z"⟩, 2), (⟨"SaidTwice$Code", "endPart", "(I)V"⟩, 6), (⟨"SaidTwice$Texts", "add", "(LSaidTwice$Code;)V"⟩, 4), (⟨"SaidTwice$Code", "truths", "(II)I"⟩, 6), (⟨"SaidTwice$Code", "valueOf", "(III)I"⟩, 6), (⟨"SaidTwice$Code", "step", "(IIII)V"⟩, 6), (⟨"SaidTwice$Code", "push", "(I)V"⟩, 6), (⟨"SaidTwice$Code", "pop", "()I"⟩, 6), (⟨"SaidTwice", "isText", "(I)Z"⟩, 9), (⟨"SaidTwice$Texts", "costOf", "(II)I"⟩, 4), (⟨"SaidTwice$Texts", "side", "(III)I"⟩, 4), (⟨"SaidTwice$Talk", "become", "(III)V"⟩, 6), (⟨"SaidTwice", "isSpeaker", "(I)Z"⟩, 9), (⟨"SaidTwice$Talk", "append", "(III)V"⟩, 6), (⟨"SaidTwice$Talk", "sayingPart", "(II)I"⟩, 6)]
theorem lw_r2 : ∀ q ∈ lw_privs_2, lw_okq q := List.forall_mem_cons.mpr ⟨lw_p16, List.forall_mem_cons.mpr ⟨lw_p17, List.forall_mem_cons.mpr ⟨lw_p18, List.forall_mem_cons.mpr ⟨lw_p19, List.forall_mem_cons.mpr ⟨lw_p20, List.forall_mem_cons.mpr ⟨lw_p21, List.forall_mem_cons.mpr ⟨lw_p22, List.forall_mem_cons.mpr ⟨lw_p23, List.forall_mem_cons.mpr ⟨lw_p24, List.forall_mem_cons.mpr ⟨lw_p25, List.forall_mem_cons.mpr ⟨lw_p26, List.forall_mem_cons.mpr ⟨lw_p27, List.forall_mem_cons.mpr ⟨lw_p28, List.forall_mem_cons.mpr ⟨lw_p29, List.forall_mem_cons.mpr ⟨lw_p30, List.forall_mem_cons.mpr ⟨lw_p31, fun _ h => absurd h List.not_mem_nil⟩⟩⟩⟩⟩⟩⟩⟩⟩⟩⟩⟩⟩⟩⟩⟩
theorem lw_p32 : lw_okq (⟨"SaidTwice", "fitting", "()I"⟩, 9) := ⟨⟨by decide +kernel, by decide +kernel⟩, List.mem_of_getElem? (i := 17) (by decide +kernel), List.mem_of_getElem? (i := 516) (by decide +kernel), List.mem_of_getElem? (i := 517) (by decide +kernel)⟩
theorem lw_p33 : lw_okq (⟨"SaidTwice", "fittingFirst", "(I)I"⟩, 9) := ⟨⟨by decide +kernel, by decide +kernel⟩, List.mem_of_getElem? (i := 17) (by decide +kernel), List.mem_of_getElem? (i := 520) (by decide +kernel), List.mem_of_getElem? (i := 521) (by decide +kernel)⟩
theorem lw_p34 : lw_okq (⟨"SaidTwice", "lawful", "()I"⟩, 9) := ⟨⟨by decide +kernel, by decide +kernel⟩, List.mem_of_getElem? (i := 17) (by decide +kernel), List.mem_of_getElem? (i := 524) (by decide +kernel), List.mem_of_getElem? (i := 525) (by decide +kernel)⟩
theorem lw_p35 : lw_okq (⟨"SaidTwice", "onceOf", "(I)I"⟩, 9) := ⟨⟨by decide +kernel, by decide +kernel⟩, List.mem_of_getElem? (i := 17) (by decide +kernel), List.mem_of_getElem? (i := 528) (by decide +kernel), List.mem_of_getElem? (i := 529) (by decide +kernel)⟩
theorem lw_p36 : lw_okq (⟨"SaidTwice", "sayable", "(I)I"⟩, 9) := ⟨⟨by decide +kernel, by decide +kernel⟩, List.mem_of_getElem? (i := 17) (by decide +kernel), List.mem_of_getElem? (i := 532) (by decide +kernel), List.mem_of_getElem? (i := 533) (by decide +kernel)⟩
theorem lw_p37 : lw_okq (⟨"SaidTwice", "sayableAs", "(II)I"⟩, 9) := ⟨⟨by decide +kernel, by decide +kernel⟩, List.mem_of_getElem? (i := 17) (by decide +kernel), List.mem_of_getElem? (i := 536) (by decide +kernel), List.mem_of_getElem? (i := 537) (by decide +kernel)⟩
theorem lw_p38 : lw_okq (⟨"SaidTwice", "firstSaid", "(I)I"⟩, 9) := ⟨⟨by decide +kernel, by decide +kernel⟩, List.mem_of_getElem? (i := 17) (by decide +kernel), List.mem_of_getElem? (i := 540) (by decide +kernel), List.mem_of_getElem? (i := 541) (by decide +kernel)⟩
theorem lw_p39 : lw_okq (⟨"SaidTwice", "secondSaid", "(I)I"⟩, 9) := ⟨⟨by decide +kernel, by decide +kernel⟩, List.mem_of_getElem? (i := 17) (by decide +kernel), List.mem_of_getElem? (i := 544) (by decide +kernel), List.mem_of_getElem? (i := 545) (by decide +kernel)⟩
theorem lw_p40 : lw_okq (⟨"SaidTwice", "fittingWithout", "(I)I"⟩, 9) := ⟨⟨by decide +kernel, by decide +kernel⟩, List.mem_of_getElem? (i := 17) (by decide +kernel), List.mem_of_getElem? (i := 583) (by decide +kernel), List.mem_of_getElem? (i := 584) (by decide +kernel)⟩
theorem lw_p41 : lw_okq (⟨"SaidTwice", "misfits", "(I)I"⟩, 9) := ⟨⟨by decide +kernel, by decide +kernel⟩, List.mem_of_getElem? (i := 17) (by decide +kernel), List.mem_of_getElem? (i := 591) (by decide +kernel), List.mem_of_getElem? (i := 592) (by decide +kernel)⟩
theorem lw_p42 : lw_okq (⟨"SaidTwice", "fittingWereMad", "(I)I"⟩, 9) := ⟨⟨by decide +kernel, by decide +kernel⟩, List.mem_of_getElem? (i := 17) (by decide +kernel), List.mem_of_getElem? (i := 602) (by decide +kernel), List.mem_of_getElem? (i := 603) (by decide +kernel)⟩
theorem lw_p43 : lw_okq (⟨"SaidTwice", "allSayableWere", "(II)I"⟩, 9) := ⟨⟨by decide +kernel, by decide +kernel⟩, List.mem_of_getElem? (i := 17) (by decide +kernel), List.mem_of_getElem? (i := 620) (by decide +kernel), List.mem_of_getElem? (i := 621) (by decide +kernel)⟩
theorem lw_p44 : lw_okq (⟨"SaidTwice", "findBest", "(II)Z"⟩, 9) := ⟨⟨by decide +kernel, by decide +kernel⟩, List.mem_of_getElem? (i := 17) (by decide +kernel), List.mem_of_getElem? (i := 628) (by decide +kernel), List.mem_of_getElem? (i := 629) (by decide +kernel)⟩
theorem lw_p45 : lw_okq (⟨"SaidTwice", "worstOf", "(IIII)I"⟩, 9) := ⟨⟨by decide +kernel, by decide +kernel⟩, List.mem_of_getElem? (i := 17) (by decide +kernel), List.mem_of_getElem? (i := 632) (by decide +kernel), List.mem_of_getElem? (i := 633) (by decide +kernel)⟩
theorem lw_p46 : lw_okq (⟨"SaidTwice", "sayableNext", "(IIII)I"⟩, 9) := ⟨⟨by decide +kernel, by decide +kernel⟩, List.mem_of_getElem? (i := 17) (by decide +kernel), List.mem_of_getElem? (i := 636) (by decide +kernel), List.mem_of_getElem? (i := 637) (by decide +kernel)⟩
theorem lw_p47 : lw_okq (⟨"SaidTwice$Question", "consider", "(IIII)V"⟩, 4) := ⟨⟨by decide +kernel, by decide +kernel⟩, List.mem_of_getElem? (i := 168) (by decide +kernel), List.mem_of_getElem? (i := 641) (by decide +kernel), List.mem_of_getElem? (i := 642) (by decide +kernel)⟩
def lw_privs_3 : List (MethodName × Nat) := [(⟨"SaidTwice", "fitting", "()I"⟩, 9), (⟨"SaidTwice", "fittingFirst", "(I)I"⟩, 9), (⟨"SaidTwice", "lawful", "()I"⟩, 9), (⟨"SaidTwice", "onceOf", "(I)I"⟩, 9), (⟨"SaidTwice", "sayable", "(I)I"⟩, 9), (⟨"SaidTwice", "sayableAs", "(II)I"⟩, 9), (⟨"SaidTwice", "firstSaid", "(I)I"⟩, 9), (⟨"SaidTwice", "secondSaid", "(I)I"⟩, 9), (⟨"SaidTwice", "fittingWithout", "(I)I"⟩, 9), (⟨"SaidTwice", "misfits", "(I)I"⟩, 9), (⟨"SaidTwice", "fittingWereMad", "(I)I"⟩, 9), (⟨"SaidTwice", "allSayableWere", "(II)I"⟩, 9), (⟨"SaidTwice", "findBest", "(II)Z"⟩, 9), (⟨"SaidTwice", "worstOf", "(IIII)I"⟩, 9), (⟨"SaidTwice", "sayableNext", "(IIII)I"⟩, 9), (⟨"SaidTwice$Question", "consider", "(IIII)V"⟩, 4)]
theorem lw_r3 : ∀ q ∈ lw_privs_3, lw_okq q := List.forall_mem_cons.mpr ⟨lw_p32, List.forall_mem_cons.mpr ⟨lw_p33, List.forall_mem_cons.mpr ⟨lw_p34, List.forall_mem_cons.mpr ⟨lw_p35, List.forall_mem_cons.mpr ⟨lw_p36, List.forall_mem_cons.mpr ⟨lw_p37, List.forall_mem_cons.mpr ⟨lw_p38, List.forall_mem_cons.mpr ⟨lw_p39, List.forall_mem_cons.mpr ⟨lw_p40, List.forall_mem_cons.mpr ⟨lw_p41, List.forall_mem_cons.mpr ⟨lw_p42, List.forall_mem_cons.mpr ⟨lw_p43, List.forall_mem_cons.mpr ⟨lw_p44, List.forall_mem_cons.mpr ⟨lw_p45, List.forall_mem_cons.mpr ⟨lw_p46, List.forall_mem_cons.mpr ⟨lw_p47, fun _ h => absurd h List.not_mem_nil⟩⟩⟩⟩⟩⟩⟩⟩⟩⟩⟩⟩⟩⟩⟩⟩
theorem lw_p48 : lw_okq (⟨"SaidTwice", "worstBehind", "(III)I"⟩, 9) := ⟨⟨by decide +kernel, by decide +kernel⟩, List.mem_of_getElem? (i := 17) (by decide +kernel), List.mem_of_getElem? (i := 649) (by decide +kernel), List.mem_of_getElem? (i := 650) (by decide +kernel)⟩
theorem lw_p49 : lw_okq (⟨"SaidTwice", "settles", "(II)Z"⟩, 9) := ⟨⟨by decide +kernel, by decide +kernel⟩, List.mem_of_getElem? (i := 17) (by decide +kernel), List.mem_of_getElem? (i := 673) (by decide +kernel), List.mem_of_getElem? (i := 674) (by decide +kernel)⟩
theorem lw_p50 : lw_okq (⟨"SaidTwice", "markOf", "(II)I"⟩, 9) := ⟨⟨by decide +kernel, by decide +kernel⟩, List.mem_of_getElem? (i := 17) (by decide +kernel), List.mem_of_getElem? (i := 677) (by decide +kernel), List.mem_of_getElem? (i := 678) (by decide +kernel)⟩
theorem lw_p51 : lw_okq (⟨"SaidTwice$Sheets", "isMissing", "(I)Z"⟩, 4) := ⟨⟨by decide +kernel, by decide +kernel⟩, List.mem_of_getElem? (i := 146) (by decide +kernel), List.mem_of_getElem? (i := 694) (by decide +kernel), List.mem_of_getElem? (i := 695) (by decide +kernel)⟩
theorem lw_p52 : lw_okq (⟨"SaidTwice", "rowFits", "(III)Z"⟩, 9) := ⟨⟨by decide +kernel, by decide +kernel⟩, List.mem_of_getElem? (i := 17) (by decide +kernel), List.mem_of_getElem? (i := 699) (by decide +kernel), List.mem_of_getElem? (i := 700) (by decide +kernel)⟩
theorem lw_p53 : lw_okq (⟨"SaidTwice$Sheets", "read", "(II)I"⟩, 4) := ⟨⟨by decide +kernel, by decide +kernel⟩, List.mem_of_getElem? (i := 146) (by decide +kernel), List.mem_of_getElem? (i := 703) (by decide +kernel), List.mem_of_getElem? (i := 704) (by decide +kernel)⟩
theorem lw_p54 : lw_okq (⟨"SaidTwice$Sheets", "make", "(III)V"⟩, 4) := ⟨⟨by decide +kernel, by decide +kernel⟩, List.mem_of_getElem? (i := 146) (by decide +kernel), List.mem_of_getElem? (i := 711) (by decide +kernel), List.mem_of_getElem? (i := 712) (by decide +kernel)⟩
theorem lw_p55 : lw_okq (⟨"SaidTwice$Sheets", "write", "(III)V"⟩, 4) := ⟨⟨by decide +kernel, by decide +kernel⟩, List.mem_of_getElem? (i := 146) (by decide +kernel), List.mem_of_getElem? (i := 715) (by decide +kernel), List.mem_of_getElem? (i := 716) (by decide +kernel)⟩
theorem lw_p56 : lw_okq (⟨"SaidTwice", "strangerAsks", "(II)I"⟩, 9) := ⟨⟨by decide +kernel, by decide +kernel⟩, List.mem_of_getElem? (i := 17) (by decide +kernel), List.mem_of_getElem? (i := 724) (by decide +kernel), List.mem_of_getElem? (i := 725) (by decide +kernel)⟩
theorem lw_p57 : lw_okq (⟨"SaidTwice", "answered", "(IIZ)I"⟩, 9) := ⟨⟨by decide +kernel, by decide +kernel⟩, List.mem_of_getElem? (i := 17) (by decide +kernel), List.mem_of_getElem? (i := 734) (by decide +kernel), List.mem_of_getElem? (i := 735) (by decide +kernel)⟩
theorem lw_p58 : lw_okq (⟨"SaidTwice$Talk", "becomeLike", "(LSaidTwice$Talk;)V"⟩, 6) := ⟨⟨by decide +kernel, by decide +kernel⟩, List.mem_of_getElem? (i := 116) (by decide +kernel), List.mem_of_getElem? (i := 746) (by decide +kernel), List.mem_of_getElem? (i := 747) (by decide +kernel)⟩
theorem lw_p59 : lw_okq (⟨"SaidTwice$Sheets", "holds", "(II)Z"⟩, 4) := ⟨⟨by decide +kernel, by decide +kernel⟩, List.mem_of_getElem? (i := 146) (by decide +kernel), List.mem_of_getElem? (i := 763) (by decide +kernel), List.mem_of_getElem? (i := 764) (by decide +kernel)⟩
theorem lw_p60 : lw_okq (⟨"SaidTwice$Sheets", "holdsRun", "(III)Z"⟩, 4) := ⟨⟨by decide +kernel, by decide +kernel⟩, List.mem_of_getElem? (i := 146) (by decide +kernel), List.mem_of_getElem? (i := 772) (by decide +kernel), List.mem_of_getElem? (i := 773) (by decide +kernel)⟩
theorem lw_p61 : lw_okq (⟨"SaidTwice$Sheets", "move", "(IIIII)V"⟩, 4) := ⟨⟨by decide +kernel, by decide +kernel⟩, List.mem_of_getElem? (i := 146) (by decide +kernel), List.mem_of_getElem? (i := 776) (by decide +kernel), List.mem_of_getElem? (i := 777) (by decide +kernel)⟩
theorem lw_p62 : lw_okq (⟨"SaidTwice", "sayingTaken", "(II)I"⟩, 9) := ⟨⟨by decide +kernel, by decide +kernel⟩, List.mem_of_getElem? (i := 17) (by decide +kernel), List.mem_of_getElem? (i := 791) (by decide +kernel), List.mem_of_getElem? (i := 792) (by decide +kernel)⟩
theorem lw_p63 : lw_okq (⟨"SaidTwice", "speakerTaken", "(II)I"⟩, 9) := ⟨⟨by decide +kernel, by decide +kernel⟩, List.mem_of_getElem? (i := 17) (by decide +kernel), List.mem_of_getElem? (i := 795) (by decide +kernel), List.mem_of_getElem? (i := 796) (by decide +kernel)⟩
def lw_privs_4 : List (MethodName × Nat) := [(⟨"SaidTwice", "worstBehind", "(III)I"⟩, 9), (⟨"SaidTwice", "settles", "(II)Z"⟩, 9), (⟨"SaidTwice", "markOf", "(II)I"⟩, 9), (⟨"SaidTwice$Sheets", "isMissing", "(I)Z"⟩, 4), (⟨"SaidTwice", "rowFits", "(III)Z"⟩, 9), (⟨"SaidTwice$Sheets", "read", "(II)I"⟩, 4), (⟨"SaidTwice$Sheets", "make", "(III)V"⟩, 4), (⟨"SaidTwice$Sheets", "write", "(III)V"⟩, 4), (⟨"SaidTwice", "strangerAsks", "(II)I"⟩, 9), (⟨"SaidTwice", "answered", "(IIZ)I"⟩, 9), (⟨"SaidTwice$Talk", "becomeLike", "(LSaidTwice$Talk;)V"⟩, 6), (⟨"SaidTwice$Sheets", "holds", "(II)Z"⟩, 4), (⟨"SaidTwice$Sheets", "holdsRun", "(III)Z"⟩, 4), (⟨"SaidTwice$Sheets", "move", "(IIIII)V"⟩, 4), (⟨"SaidTwice", "sayingTaken", "(II)I"⟩, 9), (⟨"SaidTwice", "speakerTaken", "(II)I"⟩, 9)]
theorem lw_r4 : ∀ q ∈ lw_privs_4, lw_okq q := List.forall_mem_cons.mpr ⟨lw_p48, List.forall_mem_cons.mpr ⟨lw_p49, List.forall_mem_cons.mpr ⟨lw_p50, List.forall_mem_cons.mpr ⟨lw_p51, List.forall_mem_cons.mpr ⟨lw_p52, List.forall_mem_cons.mpr ⟨lw_p53, List.forall_mem_cons.mpr ⟨lw_p54, List.forall_mem_cons.mpr ⟨lw_p55, List.forall_mem_cons.mpr ⟨lw_p56, List.forall_mem_cons.mpr ⟨lw_p57, List.forall_mem_cons.mpr ⟨lw_p58, List.forall_mem_cons.mpr ⟨lw_p59, List.forall_mem_cons.mpr ⟨lw_p60, List.forall_mem_cons.mpr ⟨lw_p61, List.forall_mem_cons.mpr ⟨lw_p62, List.forall_mem_cons.mpr ⟨lw_p63, fun _ h => absurd h List.not_mem_nil⟩⟩⟩⟩⟩⟩⟩⟩⟩⟩⟩⟩⟩⟩⟩⟩
theorem lw_p64 : lw_okq (⟨"SaidTwiceModel", "next", "()V"⟩, 37) := ⟨⟨by decide +kernel, by decide +kernel⟩, List.mem_of_getElem? (i := 802) (by decide +kernel), List.mem_of_getElem? (i := 812) (by decide +kernel), List.mem_of_getElem? (i := 813) (by decide +kernel)⟩
theorem lw_p65 : lw_okq (⟨"SaidTwiceModel", "wordFrom", "(II)I"⟩, 37) := ⟨⟨by decide +kernel, by decide +kernel⟩, List.mem_of_getElem? (i := 802) (by decide +kernel), List.mem_of_getElem? (i := 819) (by decide +kernel), List.mem_of_getElem? (i := 820) (by decide +kernel)⟩
theorem lw_p66 : lw_okq (⟨"SaidTwiceModel", "eRead", "()Z"⟩, 37) := ⟨⟨by decide +kernel, by decide +kernel⟩, List.mem_of_getElem? (i := 802) (by decide +kernel), List.mem_of_getElem? (i := 823) (by decide +kernel), List.mem_of_getElem? (i := 824) (by decide +kernel)⟩
theorem lw_p67 : lw_okq (⟨"SaidTwiceModel", "puts", "(I)V"⟩, 37) := ⟨⟨by decide +kernel, by decide +kernel⟩, List.mem_of_getElem? (i := 802) (by decide +kernel), List.mem_of_getElem? (i := 828) (by decide +kernel), List.mem_of_getElem? (i := 829) (by decide +kernel)⟩
theorem lw_p68 : lw_okq (⟨"SaidTwiceModel", "unwinds", "(I)V"⟩, 37) := ⟨⟨by decide +kernel, by decide +kernel⟩, List.mem_of_getElem? (i := 802) (by decide +kernel), List.mem_of_getElem? (i := 832) (by decide +kernel), List.mem_of_getElem? (i := 833) (by decide +kernel)⟩
theorem lw_p69 : lw_okq (⟨"SaidTwiceModel", "opensOne", "(I)Z"⟩, 37) := ⟨⟨by decide +kernel, by decide +kernel⟩, List.mem_of_getElem? (i := 802) (by decide +kernel), List.mem_of_getElem? (i := 839) (by decide +kernel), List.mem_of_getElem? (i := 840) (by decide +kernel)⟩
theorem lw_p70 : lw_okq (⟨"SaidTwiceModel", "holds", "(I)V"⟩, 37) := ⟨⟨by decide +kernel, by decide +kernel⟩, List.mem_of_getElem? (i := 802) (by decide +kernel), List.mem_of_getElem? (i := 843) (by decide +kernel), List.mem_of_getElem? (i := 844) (by decide +kernel)⟩
theorem lw_p71 : lw_okq (⟨"SaidTwiceModel", "signOf", "()I"⟩, 37) := ⟨⟨by decide +kernel, by decide +kernel⟩, List.mem_of_getElem? (i := 802) (by decide +kernel), List.mem_of_getElem? (i := 847) (by decide +kernel), List.mem_of_getElem? (i := 848) (by decide +kernel)⟩
theorem lw_p72 : lw_okq (⟨"SaidTwiceModel", "between", "(I)Z"⟩, 37) := ⟨⟨by decide +kernel, by decide +kernel⟩, List.mem_of_getElem? (i := 802) (by decide +kernel), List.mem_of_getElem? (i := 851) (by decide +kernel), List.mem_of_getElem? (i := 852) (by decide +kernel)⟩
theorem lw_p73 : lw_okq (⟨"SaidTwiceModel", "isOfTexts", "(I)Z"⟩, 37) := ⟨⟨by decide +kernel, by decide +kernel⟩, List.mem_of_getElem? (i := 802) (by decide +kernel), List.mem_of_getElem? (i := 988) (by decide +kernel), List.mem_of_getElem? (i := 989) (by decide +kernel)⟩
theorem lw_p74 : lw_okq (⟨"SaidTwiceModel", "saysOf", "(IIII)I"⟩, 37) := ⟨⟨by decide +kernel, by decide +kernel⟩, List.mem_of_getElem? (i := 802) (by decide +kernel), List.mem_of_getElem? (i := 995) (by decide +kernel), List.mem_of_getElem? (i := 996) (by decide +kernel)⟩
theorem lw_p75 : lw_okq (⟨"SaidTwiceModel", "says", "(I)I"⟩, 37) := ⟨⟨by decide +kernel, by decide +kernel⟩, List.mem_of_getElem? (i := 802) (by decide +kernel), List.mem_of_getElem? (i := 999) (by decide +kernel), List.mem_of_getElem? (i := 1000) (by decide +kernel)⟩
theorem lw_p76 : lw_okq (⟨"SaidTwiceModel", "soIn", "(III)J"⟩, 37) := ⟨⟨by decide +kernel, by decide +kernel⟩, List.mem_of_getElem? (i := 802) (by decide +kernel), List.mem_of_getElem? (i := 1013) (by decide +kernel), List.mem_of_getElem? (i := 1014) (by decide +kernel)⟩
theorem lw_p77 : lw_okq (⟨"SaidTwiceModel", "isSpeaker", "(I)Z"⟩, 37) := ⟨⟨by decide +kernel, by decide +kernel⟩, List.mem_of_getElem? (i := 802) (by decide +kernel), List.mem_of_getElem? (i := 1034) (by decide +kernel), List.mem_of_getElem? (i := 1035) (by decide +kernel)⟩
theorem lw_p78 : lw_okq (⟨"SaidTwiceModel", "worldsNow", "()J"⟩, 37) := ⟨⟨by decide +kernel, by decide +kernel⟩, List.mem_of_getElem? (i := 802) (by decide +kernel), List.mem_of_getElem? (i := 1058) (by decide +kernel), List.mem_of_getElem? (i := 1059) (by decide +kernel)⟩
theorem lw_p79 : lw_okq (⟨"SaidTwiceModel", "reads", "()V"⟩, 37) := ⟨⟨by decide +kernel, by decide +kernel⟩, List.mem_of_getElem? (i := 802) (by decide +kernel), List.mem_of_getElem? (i := 1062) (by decide +kernel), List.mem_of_getElem? (i := 1063) (by decide +kernel)⟩
def lw_privs_5 : List (MethodName × Nat) := [(⟨"SaidTwiceModel", "next", "()V"⟩, 37), (⟨"SaidTwiceModel", "wordFrom", "(II)I"⟩, 37), (⟨"SaidTwiceModel", "eRead", "()Z"⟩, 37), (⟨"SaidTwiceModel", "puts", "(I)V"⟩, 37), (⟨"SaidTwiceModel", "unwinds", "(I)V"⟩, 37), (⟨"SaidTwiceModel", "opensOne", "(I)Z"⟩, 37), (⟨"SaidTwiceModel", "holds", "(I)V"⟩, 37), (⟨"SaidTwiceModel", "signOf", "()I"⟩, 37), (⟨"SaidTwiceModel", "between", "(I)Z"⟩, 37), (⟨"SaidTwiceModel", "isOfTexts", "(I)Z"⟩, 37), (⟨"SaidTwiceModel", "saysOf", "(IIII)I"⟩, 37), (⟨"SaidTwiceModel", "says", "(I)I"⟩, 37), (⟨"SaidTwiceModel", "soIn", "(III)J"⟩, 37), (⟨"SaidTwiceModel", "isSpeaker", "(I)Z"⟩, 37), (⟨"SaidTwiceModel", "worldsNow", "()J"⟩, 37), (⟨"SaidTwiceModel", "reads", "()V"⟩, 37)]
theorem lw_r5 : ∀ q ∈ lw_privs_5, lw_okq q := List.forall_mem_cons.mpr ⟨lw_p64, List.forall_mem_cons.mpr ⟨lw_p65, List.forall_mem_cons.mpr ⟨lw_p66, List.forall_mem_cons.mpr ⟨lw_p67, List.forall_mem_cons.mpr ⟨lw_p68, List.forall_mem_cons.mpr ⟨lw_p69, List.forall_mem_cons.mpr ⟨lw_p70, List.forall_mem_cons.mpr ⟨lw_p71, List.forall_mem_cons.mpr ⟨lw_p72, List.forall_mem_cons.mpr ⟨lw_p73, List.forall_mem_cons.mpr ⟨lw_p74, List.forall_mem_cons.mpr ⟨lw_p75, List.forall_mem_cons.mpr ⟨lw_p76, List.forall_mem_cons.mpr ⟨lw_p77, List.forall_mem_cons.mpr ⟨lw_p78, List.forall_mem_cons.mpr ⟨lw_p79, fun _ h => absurd h List.not_mem_nil⟩⟩⟩⟩⟩⟩⟩⟩⟩⟩⟩⟩⟩⟩⟩⟩
theorem lw_p80 : lw_okq (⟨"SaidTwiceModel", "worldsOf", "(I)J"⟩, 37) := ⟨⟨by decide +kernel, by decide +kernel⟩, List.mem_of_getElem? (i := 802) (by decide +kernel), List.mem_of_getElem? (i := 1066) (by decide +kernel), List.mem_of_getElem? (i := 1067) (by decide +kernel)⟩
theorem lw_p81 : lw_okq (⟨"SaidTwiceModel", "once", "(I)J"⟩, 37) := ⟨⟨by decide +kernel, by decide +kernel⟩, List.mem_of_getElem? (i := 802) (by decide +kernel), List.mem_of_getElem? (i := 1070) (by decide +kernel), List.mem_of_getElem? (i := 1071) (by decide +kernel)⟩
theorem lw_p82 : lw_okq (⟨"SaidTwiceModel", "fitsSaying", "(I)J"⟩, 37) := ⟨⟨by decide +kernel, by decide +kernel⟩, List.mem_of_getElem? (i := 802) (by decide +kernel), List.mem_of_getElem? (i := 1074) (by decide +kernel), List.mem_of_getElem? (i := 1075) (by decide +kernel)⟩
theorem lw_p83 : lw_okq (⟨"SaidTwiceModel", "fits", "(IIII)J"⟩, 37) := ⟨⟨by decide +kernel, by decide +kernel⟩, List.mem_of_getElem? (i := 802) (by decide +kernel), List.mem_of_getElem? (i := 1078) (by decide +kernel), List.mem_of_getElem? (i := 1079) (by decide +kernel)⟩
theorem lw_p84 : lw_okq (⟨"SaidTwiceModel", "canSay", "(IIIIII)J"⟩, 37) := ⟨⟨by decide +kernel, by decide +kernel⟩, List.mem_of_getElem? (i := 802) (by decide +kernel), List.mem_of_getElem? (i := 1082) (by decide +kernel), List.mem_of_getElem? (i := 1083) (by decide +kernel)⟩
theorem lw_p85 : lw_okq (⟨"SaidTwiceModel", "findsFitting", "()V"⟩, 37) := ⟨⟨by decide +kernel, by decide +kernel⟩, List.mem_of_getElem? (i := 802) (by decide +kernel), List.mem_of_getElem? (i := 1114) (by decide +kernel), List.mem_of_getElem? (i := 1115) (by decide +kernel)⟩
theorem lw_p86 : lw_okq (⟨"SaidTwiceModel", "without", "(I)J"⟩, 37) := ⟨⟨by decide +kernel, by decide +kernel⟩, List.mem_of_getElem? (i := 802) (by decide +kernel), List.mem_of_getElem? (i := 1118) (by decide +kernel), List.mem_of_getElem? (i := 1119) (by decide +kernel)⟩
theorem lw_p87 : lw_okq (⟨"SaidTwiceModel", "worldsMad", "(I)J"⟩, 37) := ⟨⟨by decide +kernel, by decide +kernel⟩, List.mem_of_getElem? (i := 802) (by decide +kernel), List.mem_of_getElem? (i := 1130) (by decide +kernel), List.mem_of_getElem? (i := 1131) (by decide +kernel)⟩
theorem lw_p88 : lw_okq (⟨"SaidTwiceModel", "findsQuestion", "(JI)V"⟩, 37) := ⟨⟨by decide +kernel, by decide +kernel⟩, List.mem_of_getElem? (i := 802) (by decide +kernel), List.mem_of_getElem? (i := 1149) (by decide +kernel), List.mem_of_getElem? (i := 1150) (by decide +kernel)⟩
theorem lw_p89 : lw_okq (⟨"SaidTwiceModel", "worstOf", "(JIII)I"⟩, 37) := ⟨⟨by decide +kernel, by decide +kernel⟩, List.mem_of_getElem? (i := 802) (by decide +kernel), List.mem_of_getElem? (i := 1153) (by decide +kernel), List.mem_of_getElem? (i := 1154) (by decide +kernel)⟩
theorem lw_p90 : lw_okq (⟨"SaidTwiceModel", "worstBehind", "(J)I"⟩, 37) := ⟨⟨by decide +kernel, by decide +kernel⟩, List.mem_of_getElem? (i := 802) (by decide +kernel), List.mem_of_getElem? (i := 1161) (by decide +kernel), List.mem_of_getElem? (i := 1162) (by decide +kernel)⟩
theorem lw_p91 : lw_okq (⟨"SaidTwiceModel", "settles", "(JI)Z"⟩, 37) := ⟨⟨by decide +kernel, by decide +kernel⟩, List.mem_of_getElem? (i := 802) (by decide +kernel), List.mem_of_getElem? (i := 1188) (by decide +kernel), List.mem_of_getElem? (i := 1189) (by decide +kernel)⟩
theorem lw_p92 : lw_okq (⟨"SaidTwiceModel", "isRow", "(III)Z"⟩, 37) := ⟨⟨by decide +kernel, by decide +kernel⟩, List.mem_of_getElem? (i := 802) (by decide +kernel), List.mem_of_getElem? (i := 1204) (by decide +kernel), List.mem_of_getElem? (i := 1205) (by decide +kernel)⟩
theorem lw_p93 : lw_okq (⟨"SaidTwiceModel", "asksBy", "(JI)I"⟩, 37) := ⟨⟨by decide +kernel, by decide +kernel⟩, List.mem_of_getElem? (i := 802) (by decide +kernel), List.mem_of_getElem? (i := 1217) (by decide +kernel), List.mem_of_getElem? (i := 1218) (by decide +kernel)⟩
def lw_privs_6 : List (MethodName × Nat) := [(⟨"SaidTwiceModel", "worldsOf", "(I)J"⟩, 37), (⟨"SaidTwiceModel", "once", "(I)J"⟩, 37), (⟨"SaidTwiceModel", "fitsSaying", "(I)J"⟩, 37), (⟨"SaidTwiceModel", "fits", "(IIII)J"⟩, 37), (⟨"SaidTwiceModel", "canSay", "(IIIIII)J"⟩, 37), (⟨"SaidTwiceModel", "findsFitting", "()V"⟩, 37), (⟨"SaidTwiceModel", "without", "(I)J"⟩, 37), (⟨"SaidTwiceModel", "worldsMad", "(I)J"⟩, 37), (⟨"SaidTwiceModel", "findsQuestion", "(JI)V"⟩, 37), (⟨"SaidTwiceModel", "worstOf", "(JIII)I"⟩, 37), (⟨"SaidTwiceModel", "worstBehind", "(J)I"⟩, 37), (⟨"SaidTwiceModel", "settles", "(JI)Z"⟩, 37), (⟨"SaidTwiceModel", "isRow", "(III)Z"⟩, 37), (⟨"SaidTwiceModel", "asksBy", "(JI)I"⟩, 37)]
theorem lw_r6 : ∀ q ∈ lw_privs_6, lw_okq q := List.forall_mem_cons.mpr ⟨lw_p80, List.forall_mem_cons.mpr ⟨lw_p81, List.forall_mem_cons.mpr ⟨lw_p82, List.forall_mem_cons.mpr ⟨lw_p83, List.forall_mem_cons.mpr ⟨lw_p84, List.forall_mem_cons.mpr ⟨lw_p85, List.forall_mem_cons.mpr ⟨lw_p86, List.forall_mem_cons.mpr ⟨lw_p87, List.forall_mem_cons.mpr ⟨lw_p88, List.forall_mem_cons.mpr ⟨lw_p89, List.forall_mem_cons.mpr ⟨lw_p90, List.forall_mem_cons.mpr ⟨lw_p91, List.forall_mem_cons.mpr ⟨lw_p92, List.forall_mem_cons.mpr ⟨lw_p93, fun _ h => absurd h List.not_mem_nil⟩⟩⟩⟩⟩⟩⟩⟩⟩⟩⟩⟩⟩⟩
def lw_privs : List (MethodName × Nat) := lw_privs_1 ++ (lw_privs_2 ++ (lw_privs_3 ++ (lw_privs_4 ++ (lw_privs_5 ++ (lw_privs_6)))))
def lw_tbl : List Cond := k2_sels lw_privs ++ tables_1
theorem lw_privs_ok : ∀ q ∈ lw_privs, lw_okq q := by
  show ∀ q ∈ lw_privs_1 ++ (lw_privs_2 ++ (lw_privs_3 ++ (lw_privs_4 ++ (lw_privs_5 ++ (lw_privs_6))))), lw_okq q
  exact List.forall_mem_append.mpr ⟨lw_r1, List.forall_mem_append.mpr ⟨lw_r2, List.forall_mem_append.mpr ⟨lw_r3, List.forall_mem_append.mpr ⟨lw_r4, List.forall_mem_append.mpr ⟨lw_r5, lw_r6⟩⟩⟩⟩⟩
def RX0 : String := "SaidTwice$Code"
def TX0 : u_T := fun k => match k with
  | 0 => ("SaidTwice$Code", "sorts", "[I", true)
  | 1 => ("SaidTwice$Code", "values", "[I", true)
  | 2 => ("SaidTwice$Code", "starts", "[I", true)
  | 3 => ("SaidTwice$Code", "stack", "[I", true)
  | 4 => ("SaidTwice$Code", "size", "I", false)
  | _ => ("SaidTwice$Code", "height", "I", false)
def tyX0 : Nat → FieldType := fun k => match k with
  | 0 => .array .int
  | 1 => .array .int
  | 2 => .array .int
  | 3 => .array .int
  | 4 => .int
  | _ => .int
abbrev wsX00 : List Cond := u_ws RX0 TX0 6
theorem nmX0 : ∀ a, a < 6 → ∀ b, b < 6 → a ≠ b → (TX0 a).2.1 ≠ (TX0 b).2.1 := by decide +kernel
theorem tyX0_ok : ∀ k, k < 6 → parseFieldDescriptor (TX0 k).2.2.1 = some (tyX0 k) := by decide +kernel
abbrev cX0_init : ByteArray := prog_2_method_1_code
def yX0_init : MethodName := ⟨RX0, "<init>", "()V"⟩
abbrev cX0_clear : ByteArray := prog_2_method_2_code
def yX0_clear : MethodName := ⟨RX0, "clear", "()V"⟩
abbrev cX0_add : ByteArray := prog_2_method_3_code
def yX0_add : MethodName := ⟨RX0, "add", "(II)V"⟩
abbrev cX0_endPart : ByteArray := prog_2_method_4_code
def yX0_endPart : MethodName := ⟨RX0, "endPart", "(I)V"⟩
abbrev cX0_truths : ByteArray := prog_2_method_5_code
def yX0_truths : MethodName := ⟨RX0, "truths", "(II)I"⟩
abbrev cX0_valueOf : ByteArray := prog_2_method_6_code
def yX0_valueOf : MethodName := ⟨RX0, "valueOf", "(III)I"⟩
abbrev cX0_step : ByteArray := prog_2_method_7_code
def yX0_step : MethodName := ⟨RX0, "step", "(IIII)V"⟩
abbrev cX0_joined : ByteArray := prog_2_method_8_code
def yX0_joined : MethodName := ⟨RX0, "joined", "(III)I"⟩
abbrev cX0_push : ByteArray := prog_2_method_9_code
def yX0_push : MethodName := ⟨RX0, "push", "(I)V"⟩
abbrev cX0_pop : ByteArray := prog_2_method_10_code
def yX0_pop : MethodName := ⟨RX0, "pop", "()I"⟩
def RX1 : String := "SaidTwice$Grammar"
def TX1 : u_T := fun k => match k with
  | 0 => ("SaidTwice$Grammar", "tokens", "LSaidTwice$Tokens;", true)
  | _ => ("SaidTwice$Grammar", "code", "LSaidTwice$Code;", true)
def tyX1 : Nat → FieldType := fun k => match k with
  | 0 => .object "SaidTwice$Tokens"
  | _ => .object "SaidTwice$Code"
abbrev wsX10 : List Cond := u_ws RX1 TX1 2
theorem nmX1 : ∀ a, a < 2 → ∀ b, b < 2 → a ≠ b → (TX1 a).2.1 ≠ (TX1 b).2.1 := by decide +kernel
theorem tyX1_ok : ∀ k, k < 2 → parseFieldDescriptor (TX1 k).2.2.1 = some (tyX1 k) := by decide +kernel
abbrev cX1_init : ByteArray := prog_3_method_1_code
def yX1_init : MethodName := ⟨RX1, "<init>", "(LSaidTwice$Tokens;LSaidTwice$Code;)V"⟩
abbrev cX1_readText : ByteArray := prog_3_method_2_code
def yX1_readText : MethodName := ⟨RX1, "readText", "()Z"⟩
abbrev cX1_readToken : ByteArray := prog_3_method_3_code
def yX1_readToken : MethodName := ⟨RX1, "readToken", "(I)Z"⟩
abbrev cX1_readOr : ByteArray := prog_3_method_4_code
def yX1_readOr : MethodName := ⟨RX1, "readOr", "(I)Z"⟩
abbrev cX1_readAnd : ByteArray := prog_3_method_5_code
def yX1_readAnd : MethodName := ⟨RX1, "readAnd", "(I)Z"⟩
abbrev cX1_readNot : ByteArray := prog_3_method_6_code
def yX1_readNot : MethodName := ⟨RX1, "readNot", "(I)Z"⟩
abbrev cX1_readCompared : ByteArray := prog_3_method_7_code
def yX1_readCompared : MethodName := ⟨RX1, "readCompared", "(I)Z"⟩
abbrev cX1_readSum : ByteArray := prog_3_method_8_code
def yX1_readSum : MethodName := ⟨RX1, "readSum", "(I)Z"⟩
abbrev cX1_readTerm : ByteArray := prog_3_method_9_code
def yX1_readTerm : MethodName := ⟨RX1, "readTerm", "(I)Z"⟩
abbrev cX1_readOne : ByteArray := prog_3_method_10_code
def yX1_readOne : MethodName := ⟨RX1, "readOne", "(I)Z"⟩
abbrev cX1_readBracket : ByteArray := prog_3_method_11_code
def yX1_readBracket : MethodName := ⟨RX1, "readBracket", "(I)Z"⟩
def RX2 : String := "SaidTwice$Question"
def TX2 : u_T := fun k => match k with
  | 0 => ("SaidTwice$Question", "speaker", "I", false)
  | 1 => ("SaidTwice$Question", "text", "I", false)
  | 2 => ("SaidTwice$Question", "worst", "I", false)
  | _ => ("SaidTwice$Question", "cost", "I", false)
def tyX2 : Nat → FieldType := fun k => match k with
  | 0 => .int
  | 1 => .int
  | 2 => .int
  | _ => .int
abbrev wsX20 : List Cond := u_ws RX2 TX2 4
theorem nmX2 : ∀ a, a < 4 → ∀ b, b < 4 → a ≠ b → (TX2 a).2.1 ≠ (TX2 b).2.1 := by decide +kernel
theorem tyX2_ok : ∀ k, k < 4 → parseFieldDescriptor (TX2 k).2.2.1 = some (tyX2 k) := by decide +kernel
abbrev cX2_init : ByteArray := prog_4_method_1_code
def yX2_init : MethodName := ⟨RX2, "<init>", "()V"⟩
abbrev cX2_consider : ByteArray := prog_4_method_2_code
def yX2_consider : MethodName := ⟨RX2, "consider", "(IIII)V"⟩
def RX3 : String := "SaidTwice$Sheets"
def TX3 : u_T := fun k => match k with
  | 0 => ("SaidTwice$Sheets", "sorts", "[I", true)
  | 1 => ("SaidTwice$Sheets", "sizes", "[I", true)
  | 2 => ("SaidTwice$Sheets", "cells", "[I", true)
  | _ => ("SaidTwice$Sheets", "moved", "[I", true)
def tyX3 : Nat → FieldType := fun k => match k with
  | 0 => .array .int
  | 1 => .array .int
  | 2 => .array .int
  | _ => .array .int
abbrev wsX30 : List Cond := u_ws RX3 TX3 4
theorem nmX3 : ∀ a, a < 4 → ∀ b, b < 4 → a ≠ b → (TX3 a).2.1 ≠ (TX3 b).2.1 := by decide +kernel
theorem tyX3_ok : ∀ k, k < 4 → parseFieldDescriptor (TX3 k).2.2.1 = some (tyX3 k) := by decide +kernel
abbrev cX3_init : ByteArray := prog_5_method_1_code
def yX3_init : MethodName := ⟨RX3, "<init>", "()V"⟩
abbrev cX3_isMissing : ByteArray := prog_5_method_2_code
def yX3_isMissing : MethodName := ⟨RX3, "isMissing", "(I)Z"⟩
abbrev cX3_make : ByteArray := prog_5_method_3_code
def yX3_make : MethodName := ⟨RX3, "make", "(III)V"⟩
abbrev cX3_holds : ByteArray := prog_5_method_4_code
def yX3_holds : MethodName := ⟨RX3, "holds", "(II)Z"⟩
abbrev cX3_holdsRun : ByteArray := prog_5_method_5_code
def yX3_holdsRun : MethodName := ⟨RX3, "holdsRun", "(III)Z"⟩
abbrev cX3_read : ByteArray := prog_5_method_6_code
def yX3_read : MethodName := ⟨RX3, "read", "(II)I"⟩
abbrev cX3_write : ByteArray := prog_5_method_7_code
def yX3_write : MethodName := ⟨RX3, "write", "(III)V"⟩
abbrev cX3_move : ByteArray := prog_5_method_8_code
def yX3_move : MethodName := ⟨RX3, "move", "(IIIII)V"⟩
def RX4 : String := "SaidTwice$Talk"
def TX4 : u_T := fun k => match k with
  | 0 => ("SaidTwice$Talk", "kindOf", "[I", true)
  | 1 => ("SaidTwice$Talk", "moreOf", "[I", true)
  | 2 => ("SaidTwice$Talk", "rows", "[I", true)
  | 3 => ("SaidTwice$Talk", "speakers", "I", false)
  | 4 => ("SaidTwice$Talk", "sayings", "I", false)
  | _ => ("SaidTwice$Talk", "law", "I", false)
def tyX4 : Nat → FieldType := fun k => match k with
  | 0 => .array .int
  | 1 => .array .int
  | 2 => .array .int
  | 3 => .int
  | 4 => .int
  | _ => .int
abbrev wsX40 : List Cond := u_ws RX4 TX4 6
theorem nmX4 : ∀ a, a < 6 → ∀ b, b < 6 → a ≠ b → (TX4 a).2.1 ≠ (TX4 b).2.1 := by decide +kernel
theorem tyX4_ok : ∀ k, k < 6 → parseFieldDescriptor (TX4 k).2.2.1 = some (tyX4 k) := by decide +kernel
abbrev cX4_init : ByteArray := prog_6_method_1_code
def yX4_init : MethodName := ⟨RX4, "<init>", "()V"⟩
abbrev cX4_become : ByteArray := prog_6_method_2_code
def yX4_become : MethodName := ⟨RX4, "become", "(III)V"⟩
abbrev cX4_append : ByteArray := prog_6_method_3_code
def yX4_append : MethodName := ⟨RX4, "append", "(III)V"⟩
abbrev cX4_sayingPart : ByteArray := prog_6_method_4_code
def yX4_sayingPart : MethodName := ⟨RX4, "sayingPart", "(II)I"⟩
abbrev cX4_becomeLike : ByteArray := prog_6_method_5_code
def yX4_becomeLike : MethodName := ⟨RX4, "becomeLike", "(LSaidTwice$Talk;)V"⟩
def RX5 : String := "SaidTwice$Texts"
def TX5 : u_T := fun k => match k with
  | 0 => ("SaidTwice$Texts", "once", "[I", true)
  | 1 => ("SaidTwice$Texts", "twice", "[I", true)
  | 2 => ("SaidTwice$Texts", "costs", "[I", true)
  | _ => ("SaidTwice$Texts", "size", "I", false)
def tyX5 : Nat → FieldType := fun k => match k with
  | 0 => .array .int
  | 1 => .array .int
  | 2 => .array .int
  | _ => .int
abbrev wsX50 : List Cond := u_ws RX5 TX5 4
theorem nmX5 : ∀ a, a < 4 → ∀ b, b < 4 → a ≠ b → (TX5 a).2.1 ≠ (TX5 b).2.1 := by decide +kernel
theorem tyX5_ok : ∀ k, k < 4 → parseFieldDescriptor (TX5 k).2.2.1 = some (tyX5 k) := by decide +kernel
abbrev cX5_init : ByteArray := prog_7_method_1_code
def yX5_init : MethodName := ⟨RX5, "<init>", "()V"⟩
abbrev cX5_add : ByteArray := prog_7_method_2_code
def yX5_add : MethodName := ⟨RX5, "add", "(LSaidTwice$Code;)V"⟩
abbrev cX5_side : ByteArray := prog_7_method_3_code
def yX5_side : MethodName := ⟨RX5, "side", "(III)I"⟩
abbrev cX5_costOf : ByteArray := prog_7_method_4_code
def yX5_costOf : MethodName := ⟨RX5, "costOf", "(II)I"⟩
def RX6 : String := "SaidTwice$Tokens"
def TX6 : u_T := fun k => match k with
  | 0 => ("SaidTwice$Tokens", "tape", "[I", true)
  | 1 => ("SaidTwice$Tokens", "size", "I", false)
  | 2 => ("SaidTwice$Tokens", "sort", "I", false)
  | 3 => ("SaidTwice$Tokens", "value", "I", false)
  | 4 => ("SaidTwice$Tokens", "place", "I", false)
  | _ => ("SaidTwice$Tokens", "after", "I", false)
def tyX6 : Nat → FieldType := fun k => match k with
  | 0 => .array .int
  | 1 => .int
  | 2 => .int
  | 3 => .int
  | 4 => .int
  | _ => .int
abbrev wsX60 : List Cond := u_ws RX6 TX6 6
theorem nmX6 : ∀ a, a < 6 → ∀ b, b < 6 → a ≠ b → (TX6 a).2.1 ≠ (TX6 b).2.1 := by decide +kernel
theorem tyX6_ok : ∀ k, k < 6 → parseFieldDescriptor (TX6 k).2.2.1 = some (tyX6 k) := by decide +kernel
abbrev cX6_init : ByteArray := prog_8_method_1_code
def yX6_init : MethodName := ⟨RX6, "<init>", "()V"⟩
abbrev cX6_append : ByteArray := prog_8_method_2_code
def yX6_append : MethodName := ⟨RX6, "append", "(I)V"⟩
abbrev cX6_start : ByteArray := prog_8_method_3_code
def yX6_start : MethodName := ⟨RX6, "start", "()V"⟩
abbrev cX6_advance : ByteArray := prog_8_method_4_code
def yX6_advance : MethodName := ⟨RX6, "advance", "()V"⟩
abbrev cX6_readWord : ByteArray := prog_8_method_5_code
def yX6_readWord : MethodName := ⟨RX6, "readWord", "()V"⟩
abbrev cX6_spells : ByteArray := prog_8_method_6_code
def yX6_spells : MethodName := ⟨RX6, "spells", "(Ljava/lang/String;)Z"⟩
abbrev cX6_readNumber : ByteArray := prog_8_method_7_code
def yX6_readNumber : MethodName := ⟨RX6, "readNumber", "()V"⟩
abbrev cX6_isBlank : ByteArray := prog_8_method_8_code
def yX6_isBlank : MethodName := ⟨RX6, "isBlank", "(I)Z"⟩
abbrev cX6_isLetter : ByteArray := prog_8_method_9_code
def yX6_isLetter : MethodName := ⟨RX6, "isLetter", "(I)Z"⟩
abbrev cX6_isDigit : ByteArray := prog_8_method_10_code
def yX6_isDigit : MethodName := ⟨RX6, "isDigit", "(I)Z"⟩
abbrev cX6_isSign : ByteArray := prog_8_method_11_code
def yX6_isSign : MethodName := ⟨RX6, "isSign", "(I)Z"⟩
def RX7 : String := "SaidTwice"
def TX7 : u_T := fun k => match k with
  | 0 => ("SaidTwice", "tokens", "LSaidTwice$Tokens;", true)
  | 1 => ("SaidTwice", "code", "LSaidTwice$Code;", true)
  | 2 => ("SaidTwice", "grammar", "LSaidTwice$Grammar;", true)
  | 3 => ("SaidTwice", "texts", "LSaidTwice$Texts;", true)
  | 4 => ("SaidTwice", "talk", "LSaidTwice$Talk;", true)
  | 5 => ("SaidTwice", "kept", "LSaidTwice$Talk;", true)
  | 6 => ("SaidTwice", "sheets", "LSaidTwice$Sheets;", true)
  | 7 => ("SaidTwice", "best", "LSaidTwice$Question;", true)
  | _ => ("SaidTwice", "hasImage", "Z", false)
def tyX7 : Nat → FieldType := fun k => match k with
  | 0 => .object "SaidTwice$Tokens"
  | 1 => .object "SaidTwice$Code"
  | 2 => .object "SaidTwice$Grammar"
  | 3 => .object "SaidTwice$Texts"
  | 4 => .object "SaidTwice$Talk"
  | 5 => .object "SaidTwice$Talk"
  | 6 => .object "SaidTwice$Sheets"
  | 7 => .object "SaidTwice$Question"
  | _ => .boolean
abbrev wsX70 : List Cond := u_ws RX7 TX7 9
theorem nmX7 : ∀ a, a < 9 → ∀ b, b < 9 → a ≠ b → (TX7 a).2.1 ≠ (TX7 b).2.1 := by decide +kernel
theorem tyX7_ok : ∀ k, k < 9 → parseFieldDescriptor (TX7 k).2.2.1 = some (tyX7 k) := by decide +kernel
abbrev cX7_init : ByteArray := prog_1_method_1_code
def yX7_init : MethodName := ⟨RX7, "<init>", "()V"⟩
abbrev cX7_count : ByteArray := prog_1_method_2_code
def yX7_count : MethodName := ⟨RX7, "count", "(I)I"⟩
abbrev cX7_feed : ByteArray := prog_1_method_3_code
def yX7_feed : MethodName := ⟨RX7, "feed", "(IIIIII)I"⟩
abbrev cX7_text : ByteArray := prog_1_method_4_code
def yX7_text : MethodName := ⟨RX7, "text", "()I"⟩
abbrev cX7_force : ByteArray := prog_1_method_5_code
def yX7_force : MethodName := ⟨RX7, "force", "(I)I"⟩
abbrev cX7_asks : ByteArray := prog_1_method_6_code
def yX7_asks : MethodName := ⟨RX7, "asks", "(IIII)I"⟩
abbrev cX7_means : ByteArray := prog_1_method_7_code
def yX7_means : MethodName := ⟨RX7, "means", "(II)J"⟩
abbrev cX7_pairs : ByteArray := prog_1_method_8_code
def yX7_pairs : MethodName := ⟨RX7, "pairs", "(I)I"⟩
abbrev cX7_speaker : ByteArray := prog_1_method_9_code
def yX7_speaker : MethodName := ⟨RX7, "speaker", "(II)I"⟩
abbrev cX7_turn : ByteArray := prog_1_method_10_code
def yX7_turn : MethodName := ⟨RX7, "turn", "(III)I"⟩
abbrev cX7_told : ByteArray := prog_1_method_11_code
def yX7_told : MethodName := ⟨RX7, "told", "(II)I"⟩
abbrev cX7_say : ByteArray := prog_1_method_12_code
def yX7_say : MethodName := ⟨RX7, "say", "(III)I"⟩
abbrev cX7_unsay : ByteArray := prog_1_method_13_code
def yX7_unsay : MethodName := ⟨RX7, "unsay", "()I"⟩
abbrev cX7_said : ByteArray := prog_1_method_14_code
def yX7_said : MethodName := ⟨RX7, "said", "(II)I"⟩
abbrev cX7_worlds : ByteArray := prog_1_method_15_code
def yX7_worlds : MethodName := ⟨RX7, "worlds", "()J"⟩
abbrev cX7_behind : ByteArray := prog_1_method_16_code
def yX7_behind : MethodName := ⟨RX7, "behind", "(II)I"⟩
abbrev cX7_cannot : ByteArray := prog_1_method_17_code
def yX7_cannot : MethodName := ⟨RX7, "cannot", "()I"⟩
abbrev cX7_lies : ByteArray := prog_1_method_18_code
def yX7_lies : MethodName := ⟨RX7, "lies", "()I"⟩
abbrev cX7_least : ByteArray := prog_1_method_19_code
def yX7_least : MethodName := ⟨RX7, "least", "(I)I"⟩
abbrev cX7_mad : ByteArray := prog_1_method_20_code
def yX7_mad : MethodName := ⟨RX7, "mad", "(I)I"⟩
abbrev cX7_habit : ByteArray := prog_1_method_21_code
def yX7_habit : MethodName := ⟨RX7, "habit", "(III)J"⟩
abbrev cX7_kinds : ByteArray := prog_1_method_22_code
def yX7_kinds : MethodName := ⟨RX7, "kinds", "(II)I"⟩
abbrev cX7_ask : ByteArray := prog_1_method_23_code
def yX7_ask : MethodName := ⟨RX7, "ask", "(I)I"⟩
abbrev cX7_two : ByteArray := prog_1_method_24_code
def yX7_two : MethodName := ⟨RX7, "two", "(I)I"⟩
abbrev cX7_parts : ByteArray := prog_1_method_25_code
def yX7_parts : MethodName := ⟨RX7, "parts", "(III)J"⟩
abbrev cX7_hide : ByteArray := prog_1_method_26_code
def yX7_hide : MethodName := ⟨RX7, "hide", "(III)I"⟩
abbrev cX7_same : ByteArray := prog_1_method_27_code
def yX7_same : MethodName := ⟨RX7, "same", "(III)I"⟩
abbrev cX7_claims : ByteArray := prog_1_method_28_code
def yX7_claims : MethodName := ⟨RX7, "claims", "(I)I"⟩
abbrev cX7_settle : ByteArray := prog_1_method_29_code
def yX7_settle : MethodName := ⟨RX7, "settle", "(I)I"⟩
abbrev cX7_thrice : ByteArray := prog_1_method_30_code
def yX7_thrice : MethodName := ⟨RX7, "thrice", "(III)J"⟩
abbrev cX7_many : ByteArray := prog_1_method_31_code
def yX7_many : MethodName := ⟨RX7, "many", "(I)I"⟩
abbrev cX7_judge : ByteArray := prog_1_method_32_code
def yX7_judge : MethodName := ⟨RX7, "judge", "(II)I"⟩
abbrev cX7_film : ByteArray := prog_1_method_33_code
def yX7_film : MethodName := ⟨RX7, "film", "(I)I"⟩
abbrev cX7_drawn : ByteArray := prog_1_method_34_code
def yX7_drawn : MethodName := ⟨RX7, "drawn", "(I)I"⟩
abbrev cX7_mean : ByteArray := prog_1_method_35_code
def yX7_mean : MethodName := ⟨RX7, "mean", "(III)J"⟩
abbrev cX7_image : ByteArray := prog_1_method_36_code
def yX7_image : MethodName := ⟨RX7, "image", "()I"⟩
abbrev cX7_back : ByteArray := prog_1_method_37_code
def yX7_back : MethodName := ⟨RX7, "back", "()I"⟩
abbrev cX7_sheet : ByteArray := prog_1_method_38_code
def yX7_sheet : MethodName := ⟨RX7, "sheet", "(III)I"⟩
abbrev cX7_cell : ByteArray := prog_1_method_39_code
def yX7_cell : MethodName := ⟨RX7, "cell", "(III)I"⟩
abbrev cX7_copy : ByteArray := prog_1_method_40_code
def yX7_copy : MethodName := ⟨RX7, "copy", "(IIIII)I"⟩
abbrev cX7_sayingsBy : ByteArray := prog_1_method_41_code
def yX7_sayingsBy : MethodName := ⟨RX7, "sayingsBy", "(IIII)I"⟩
abbrev cX7_taken : ByteArray := prog_1_method_42_code
def yX7_taken : MethodName := ⟨RX7, "taken", "(II)I"⟩
abbrev cX7_isBelow : ByteArray := prog_1_method_43_code
def yX7_isBelow : MethodName := ⟨RX7, "isBelow", "(II)Z"⟩
abbrev cX7_isByte : ByteArray := prog_1_method_44_code
def yX7_isByte : MethodName := ⟨RX7, "isByte", "(I)Z"⟩
abbrev cX7_isKind : ByteArray := prog_1_method_45_code
def yX7_isKind : MethodName := ⟨RX7, "isKind", "(I)Z"⟩
abbrev cX7_isMore : ByteArray := prog_1_method_46_code
def yX7_isMore : MethodName := ⟨RX7, "isMore", "(I)Z"⟩
abbrev cX7_isWorld : ByteArray := prog_1_method_47_code
def yX7_isWorld : MethodName := ⟨RX7, "isWorld", "(I)Z"⟩
abbrev cX7_isText : ByteArray := prog_1_method_48_code
def yX7_isText : MethodName := ⟨RX7, "isText", "(I)Z"⟩
abbrev cX7_isSpeaker : ByteArray := prog_1_method_49_code
def yX7_isSpeaker : MethodName := ⟨RX7, "isSpeaker", "(I)Z"⟩
abbrev cX7_at : ByteArray := prog_1_method_50_code
def yX7_at : MethodName := ⟨RX7, "at", "([II)I"⟩
abbrev cX7_put : ByteArray := prog_1_method_51_code
def yX7_put : MethodName := ⟨RX7, "put", "([III)V"⟩
abbrev cX7_bit : ByteArray := prog_1_method_52_code
def yX7_bit : MethodName := ⟨RX7, "bit", "(II)I"⟩
abbrev cX7_bits : ByteArray := prog_1_method_53_code
def yX7_bits : MethodName := ⟨RX7, "bits", "(I)J"⟩
abbrev cX7_worldNumber : ByteArray := prog_1_method_54_code
def yX7_worldNumber : MethodName := ⟨RX7, "worldNumber", "(II)I"⟩
abbrev cX7_fewer : ByteArray := prog_1_method_55_code
def yX7_fewer : MethodName := ⟨RX7, "fewer", "(II)I"⟩
abbrev cX7_inLowestTerms : ByteArray := prog_1_method_56_code
def yX7_inLowestTerms : MethodName := ⟨RX7, "inLowestTerms", "(III)J"⟩
abbrev cX7_commonDivisor : ByteArray := prog_1_method_57_code
def yX7_commonDivisor : MethodName := ⟨RX7, "commonDivisor", "(II)I"⟩
abbrev cX7_canSay : ByteArray := prog_1_method_58_code
def yX7_canSay : MethodName := ⟨RX7, "canSay", "(IIIII)I"⟩
abbrev cX7_turnsAt : ByteArray := prog_1_method_59_code
def yX7_turnsAt : MethodName := ⟨RX7, "turnsAt", "(II)Z"⟩
abbrev cX7_onceOf : ByteArray := prog_1_method_60_code
def yX7_onceOf : MethodName := ⟨RX7, "onceOf", "(I)I"⟩
abbrev cX7_lawful : ByteArray := prog_1_method_61_code
def yX7_lawful : MethodName := ⟨RX7, "lawful", "()I"⟩
abbrev cX7_firstSaid : ByteArray := prog_1_method_62_code
def yX7_firstSaid : MethodName := ⟨RX7, "firstSaid", "(I)I"⟩
abbrev cX7_secondSaid : ByteArray := prog_1_method_63_code
def yX7_secondSaid : MethodName := ⟨RX7, "secondSaid", "(I)I"⟩
abbrev cX7_sayableNext : ByteArray := prog_1_method_64_code
def yX7_sayableNext : MethodName := ⟨RX7, "sayableNext", "(IIII)I"⟩
abbrev cX7_sayable : ByteArray := prog_1_method_65_code
def yX7_sayable : MethodName := ⟨RX7, "sayable", "(I)I"⟩
abbrev cX7_sayableAs : ByteArray := prog_1_method_66_code
def yX7_sayableAs : MethodName := ⟨RX7, "sayableAs", "(II)I"⟩
abbrev cX7_allSayableWere : ByteArray := prog_1_method_67_code
def yX7_allSayableWere : MethodName := ⟨RX7, "allSayableWere", "(II)I"⟩
abbrev cX7_fittingFirst : ByteArray := prog_1_method_68_code
def yX7_fittingFirst : MethodName := ⟨RX7, "fittingFirst", "(I)I"⟩
abbrev cX7_fitting : ByteArray := prog_1_method_69_code
def yX7_fitting : MethodName := ⟨RX7, "fitting", "()I"⟩
abbrev cX7_fittingWithout : ByteArray := prog_1_method_70_code
def yX7_fittingWithout : MethodName := ⟨RX7, "fittingWithout", "(I)I"⟩
abbrev cX7_fittingWereMad : ByteArray := prog_1_method_71_code
def yX7_fittingWereMad : MethodName := ⟨RX7, "fittingWereMad", "(I)I"⟩
abbrev cX7_misfits : ByteArray := prog_1_method_72_code
def yX7_misfits : MethodName := ⟨RX7, "misfits", "(I)I"⟩
abbrev cX7_isSure : ByteArray := prog_1_method_73_code
def yX7_isSure : MethodName := ⟨RX7, "isSure", "(II)Z"⟩
abbrev cX7_thingsSure : ByteArray := prog_1_method_74_code
def yX7_thingsSure : MethodName := ⟨RX7, "thingsSure", "(IZ)I"⟩
abbrev cX7_findBest : ByteArray := prog_1_method_75_code
def yX7_findBest : MethodName := ⟨RX7, "findBest", "(II)Z"⟩
abbrev cX7_worstOf : ByteArray := prog_1_method_76_code
def yX7_worstOf : MethodName := ⟨RX7, "worstOf", "(IIII)I"⟩
abbrev cX7_worstBehind : ByteArray := prog_1_method_77_code
def yX7_worstBehind : MethodName := ⟨RX7, "worstBehind", "(III)I"⟩
abbrev cX7_strangerAsks : ByteArray := prog_1_method_78_code
def yX7_strangerAsks : MethodName := ⟨RX7, "strangerAsks", "(II)I"⟩
abbrev cX7_answered : ByteArray := prog_1_method_79_code
def yX7_answered : MethodName := ⟨RX7, "answered", "(IIZ)I"⟩
abbrev cX7_lotBehind : ByteArray := prog_1_method_80_code
def yX7_lotBehind : MethodName := ⟨RX7, "lotBehind", "(J)J"⟩
abbrev cX7_settles : ByteArray := prog_1_method_81_code
def yX7_settles : MethodName := ⟨RX7, "settles", "(II)Z"⟩
abbrev cX7_markOf : ByteArray := prog_1_method_82_code
def yX7_markOf : MethodName := ⟨RX7, "markOf", "(II)I"⟩
abbrev cX7_rowFits : ByteArray := prog_1_method_83_code
def yX7_rowFits : MethodName := ⟨RX7, "rowFits", "(III)Z"⟩
abbrev cX7_sayingTaken : ByteArray := prog_1_method_84_code
def yX7_sayingTaken : MethodName := ⟨RX7, "sayingTaken", "(II)I"⟩
abbrev cX7_speakerTaken : ByteArray := prog_1_method_85_code
def yX7_speakerTaken : MethodName := ⟨RX7, "speakerTaken", "(II)I"⟩
abbrev cX7_isOneOf : ByteArray := prog_1_method_86_code
def yX7_isOneOf : MethodName := ⟨RX7, "isOneOf", "(II)Z"⟩
def RX8 : String := "SaidTwiceModel"
def TX8 : u_T := fun k => match k with
  | 0 => ("SaidTwiceModel", "speakers", "I", false)
  | 1 => ("SaidTwiceModel", "kind", "[I", true)
  | 2 => ("SaidTwiceModel", "more", "[I", true)
  | 3 => ("SaidTwiceModel", "sayings", "I", false)
  | 4 => ("SaidTwiceModel", "talk", "[I", true)
  | 5 => ("SaidTwiceModel", "tape", "[I", true)
  | 6 => ("SaidTwiceModel", "taped", "I", false)
  | 7 => ("SaidTwiceModel", "codes", "[I", true)
  | 8 => ("SaidTwiceModel", "starts", "[I", true)
  | 9 => ("SaidTwiceModel", "texts", "I", false)
  | 10 => ("SaidTwiceModel", "rule", "I", false)
  | 11 => ("SaidTwiceModel", "hasImage", "Z", false)
  | 12 => ("SaidTwiceModel", "imageSpeakers", "I", false)
  | 13 => ("SaidTwiceModel", "imageSayings", "I", false)
  | 14 => ("SaidTwiceModel", "imageRule", "I", false)
  | 15 => ("SaidTwiceModel", "imageKinds", "[I", true)
  | 16 => ("SaidTwiceModel", "imageTalk", "[I", true)
  | 17 => ("SaidTwiceModel", "sheetSort", "[I", true)
  | 18 => ("SaidTwiceModel", "sheetSize", "[I", true)
  | 19 => ("SaidTwiceModel", "cells", "[I", true)
  | 20 => ("SaidTwiceModel", "law", "[I", true)
  | 21 => ("SaidTwiceModel", "at", "I", false)
  | 22 => ("SaidTwiceModel", "begun", "I", false)
  | 23 => ("SaidTwiceModel", "token", "I", false)
  | 24 => ("SaidTwiceModel", "value", "I", false)
  | 25 => ("SaidTwiceModel", "words", "[I", true)
  | 26 => ("SaidTwiceModel", "held", "[I", true)
  | 27 => ("SaidTwiceModel", "heldMany", "I", false)
  | 28 => ("SaidTwiceModel", "opens", "I", false)
  | 29 => ("SaidTwiceModel", "out", "I", false)
  | 30 => ("SaidTwiceModel", "stack", "[I", true)
  | 31 => ("SaidTwiceModel", "named", "[I", true)
  | 32 => ("SaidTwiceModel", "meant", "[J", true)
  | 33 => ("SaidTwiceModel", "fitting", "[J", true)
  | 34 => ("SaidTwiceModel", "bestAsked", "I", false)
  | 35 => ("SaidTwiceModel", "bestWorst", "I", false)
  | _ => ("SaidTwiceModel", "bestCosts", "I", false)
def tyX8 : Nat → FieldType := fun k => match k with
  | 0 => .int
  | 1 => .array .int
  | 2 => .array .int
  | 3 => .int
  | 4 => .array .int
  | 5 => .array .int
  | 6 => .int
  | 7 => .array .int
  | 8 => .array .int
  | 9 => .int
  | 10 => .int
  | 11 => .boolean
  | 12 => .int
  | 13 => .int
  | 14 => .int
  | 15 => .array .int
  | 16 => .array .int
  | 17 => .array .int
  | 18 => .array .int
  | 19 => .array .int
  | 20 => .array .int
  | 21 => .int
  | 22 => .int
  | 23 => .int
  | 24 => .int
  | 25 => .array .int
  | 26 => .array .int
  | 27 => .int
  | 28 => .int
  | 29 => .int
  | 30 => .array .int
  | 31 => .array .int
  | 32 => .array .long
  | 33 => .array .long
  | 34 => .int
  | 35 => .int
  | _ => .int
abbrev wsX80 : List Cond := u_ws RX8 TX8 37
theorem nmX8 : ∀ a, a < 37 → ∀ b, b < 37 → a ≠ b → (TX8 a).2.1 ≠ (TX8 b).2.1 := by decide +kernel
theorem tyX8_ok : ∀ k, k < 37 → parseFieldDescriptor (TX8 k).2.2.1 = some (tyX8 k) := by decide +kernel
abbrev cX8_init : ByteArray := prog_10_method_1_code
def yX8_init : MethodName := ⟨RX8, "<init>", "()V"⟩
abbrev cX8_in : ByteArray := prog_10_method_3_code
def yX8_in : MethodName := ⟨RX8, "in", "(III)Z"⟩
abbrev cX8_within : ByteArray := prog_10_method_4_code
def yX8_within : MethodName := ⟨RX8, "within", "(III)I"⟩
abbrev cX8_isSpeaker : ByteArray := prog_10_method_5_code
def yX8_isSpeaker : MethodName := ⟨RX8, "isSpeaker", "(I)Z"⟩
abbrev cX8_isOfTexts : ByteArray := prog_10_method_6_code
def yX8_isOfTexts : MethodName := ⟨RX8, "isOfTexts", "(I)Z"⟩
abbrev cX8_isWorld : ByteArray := prog_10_method_7_code
def yX8_isWorld : MethodName := ⟨RX8, "isWorld", "(I)Z"⟩
abbrev cX8_has : ByteArray := prog_10_method_8_code
def yX8_has : MethodName := ⟨RX8, "has", "(JI)Z"⟩
abbrev cX8_bitsOf : ByteArray := prog_10_method_9_code
def yX8_bitsOf : MethodName := ⟨RX8, "bitsOf", "(J)I"⟩
abbrev cX8_count : ByteArray := prog_10_method_10_code
def yX8_count : MethodName := ⟨RX8, "count", "(I)I"⟩
abbrev cX8_isByte : ByteArray := prog_10_method_11_code
def yX8_isByte : MethodName := ⟨RX8, "isByte", "(I)Z"⟩
abbrev cX8_feed : ByteArray := prog_10_method_12_code
def yX8_feed : MethodName := ⟨RX8, "feed", "(IIIIII)I"⟩
abbrev cX8_wordFrom : ByteArray := prog_10_method_13_code
def yX8_wordFrom : MethodName := ⟨RX8, "wordFrom", "(II)I"⟩
abbrev cX8_next : ByteArray := prog_10_method_14_code
def yX8_next : MethodName := ⟨RX8, "next", "()V"⟩
abbrev cX8_rank : ByteArray := prog_10_method_15_code
def yX8_rank : MethodName := ⟨RX8, "rank", "(I)I"⟩
abbrev cX8_puts : ByteArray := prog_10_method_16_code
def yX8_puts : MethodName := ⟨RX8, "puts", "(I)V"⟩
abbrev cX8_unwinds : ByteArray := prog_10_method_17_code
def yX8_unwinds : MethodName := ⟨RX8, "unwinds", "(I)V"⟩
abbrev cX8_holds : ByteArray := prog_10_method_18_code
def yX8_holds : MethodName := ⟨RX8, "holds", "(I)V"⟩
abbrev cX8_opensOne : ByteArray := prog_10_method_19_code
def yX8_opensOne : MethodName := ⟨RX8, "opensOne", "(I)Z"⟩
abbrev cX8_between : ByteArray := prog_10_method_20_code
def yX8_between : MethodName := ⟨RX8, "between", "(I)Z"⟩
abbrev cX8_signOf : ByteArray := prog_10_method_21_code
def yX8_signOf : MethodName := ⟨RX8, "signOf", "()I"⟩
abbrev cX8_eRead : ByteArray := prog_10_method_22_code
def yX8_eRead : MethodName := ⟨RX8, "eRead", "()Z"⟩
abbrev cX8_text : ByteArray := prog_10_method_23_code
def yX8_text : MethodName := ⟨RX8, "text", "()I"⟩
abbrev cX8_two : ByteArray := prog_10_method_24_code
def yX8_two : MethodName := ⟨RX8, "two", "(III)I"⟩
abbrev cX8_says : ByteArray := prog_10_method_25_code
def yX8_says : MethodName := ⟨RX8, "says", "(I)I"⟩
abbrev cX8_force : ByteArray := prog_10_method_26_code
def yX8_force : MethodName := ⟨RX8, "force", "(I)I"⟩
abbrev cX8_saysOf : ByteArray := prog_10_method_27_code
def yX8_saysOf : MethodName := ⟨RX8, "saysOf", "(IIII)I"⟩
abbrev cX8_asks : ByteArray := prog_10_method_28_code
def yX8_asks : MethodName := ⟨RX8, "asks", "(IIII)I"⟩
abbrev cX8_soIn : ByteArray := prog_10_method_29_code
def yX8_soIn : MethodName := ⟨RX8, "soIn", "(III)J"⟩
abbrev cX8_means : ByteArray := prog_10_method_30_code
def yX8_means : MethodName := ⟨RX8, "means", "(II)J"⟩
abbrev cX8_pairs : ByteArray := prog_10_method_31_code
def yX8_pairs : MethodName := ⟨RX8, "pairs", "(I)I"⟩
abbrev cX8_reads : ByteArray := prog_10_method_32_code
def yX8_reads : MethodName := ⟨RX8, "reads", "()V"⟩
abbrev cX8_once : ByteArray := prog_10_method_33_code
def yX8_once : MethodName := ⟨RX8, "once", "(I)J"⟩
abbrev cX8_isSo : ByteArray := prog_10_method_34_code
def yX8_isSo : MethodName := ⟨RX8, "isSo", "(II)Z"⟩
abbrev cX8_speaker : ByteArray := prog_10_method_35_code
def yX8_speaker : MethodName := ⟨RX8, "speaker", "(II)I"⟩
abbrev cX8_turn : ByteArray := prog_10_method_36_code
def yX8_turn : MethodName := ⟨RX8, "turn", "(III)I"⟩
abbrev cX8_told : ByteArray := prog_10_method_37_code
def yX8_told : MethodName := ⟨RX8, "told", "(II)I"⟩
abbrev cX8_say : ByteArray := prog_10_method_38_code
def yX8_say : MethodName := ⟨RX8, "say", "(III)I"⟩
abbrev cX8_unsay : ByteArray := prog_10_method_39_code
def yX8_unsay : MethodName := ⟨RX8, "unsay", "()I"⟩
abbrev cX8_said : ByteArray := prog_10_method_40_code
def yX8_said : MethodName := ⟨RX8, "said", "(II)I"⟩
abbrev cX8_canSay : ByteArray := prog_10_method_41_code
def yX8_canSay : MethodName := ⟨RX8, "canSay", "(IIIIII)J"⟩
abbrev cX8_fits : ByteArray := prog_10_method_42_code
def yX8_fits : MethodName := ⟨RX8, "fits", "(IIII)J"⟩
abbrev cX8_fitsSaying : ByteArray := prog_10_method_43_code
def yX8_fitsSaying : MethodName := ⟨RX8, "fitsSaying", "(I)J"⟩
abbrev cX8_worldsOf : ByteArray := prog_10_method_44_code
def yX8_worldsOf : MethodName := ⟨RX8, "worldsOf", "(I)J"⟩
abbrev cX8_worldsNow : ByteArray := prog_10_method_45_code
def yX8_worldsNow : MethodName := ⟨RX8, "worldsNow", "()J"⟩
abbrev cX8_worlds : ByteArray := prog_10_method_46_code
def yX8_worlds : MethodName := ⟨RX8, "worlds", "()J"⟩
abbrev cX8_allIn : ByteArray := prog_10_method_47_code
def yX8_allIn : MethodName := ⟨RX8, "allIn", "(J)I"⟩
abbrev cX8_noneIn : ByteArray := prog_10_method_48_code
def yX8_noneIn : MethodName := ⟨RX8, "noneIn", "(J)I"⟩
abbrev cX8_leastOf : ByteArray := prog_10_method_49_code
def yX8_leastOf : MethodName := ⟨RX8, "leastOf", "(J)I"⟩
abbrev cX8_behind : ByteArray := prog_10_method_50_code
def yX8_behind : MethodName := ⟨RX8, "behind", "(II)I"⟩
abbrev cX8_cannot : ByteArray := prog_10_method_51_code
def yX8_cannot : MethodName := ⟨RX8, "cannot", "()I"⟩
abbrev cX8_findsFitting : ByteArray := prog_10_method_52_code
def yX8_findsFitting : MethodName := ⟨RX8, "findsFitting", "()V"⟩
abbrev cX8_without : ByteArray := prog_10_method_53_code
def yX8_without : MethodName := ⟨RX8, "without", "(I)J"⟩
abbrev cX8_lies : ByteArray := prog_10_method_54_code
def yX8_lies : MethodName := ⟨RX8, "lies", "()I"⟩
abbrev cX8_least : ByteArray := prog_10_method_55_code
def yX8_least : MethodName := ⟨RX8, "least", "(I)I"⟩
abbrev cX8_worldsMad : ByteArray := prog_10_method_56_code
def yX8_worldsMad : MethodName := ⟨RX8, "worldsMad", "(I)J"⟩
abbrev cX8_mad : ByteArray := prog_10_method_57_code
def yX8_mad : MethodName := ⟨RX8, "mad", "(I)I"⟩
abbrev cX8_lowest : ByteArray := prog_10_method_58_code
def yX8_lowest : MethodName := ⟨RX8, "lowest", "(JJI)J"⟩
abbrev cX8_habit : ByteArray := prog_10_method_59_code
def yX8_habit : MethodName := ⟨RX8, "habit", "(III)J"⟩
abbrev cX8_kinds : ByteArray := prog_10_method_60_code
def yX8_kinds : MethodName := ⟨RX8, "kinds", "(II)I"⟩
abbrev cX8_worstOf : ByteArray := prog_10_method_61_code
def yX8_worstOf : MethodName := ⟨RX8, "worstOf", "(JIII)I"⟩
abbrev cX8_findsQuestion : ByteArray := prog_10_method_62_code
def yX8_findsQuestion : MethodName := ⟨RX8, "findsQuestion", "(JI)V"⟩
abbrev cX8_ask : ByteArray := prog_10_method_63_code
def yX8_ask : MethodName := ⟨RX8, "ask", "(I)I"⟩
abbrev cX8_worstBehind : ByteArray := prog_10_method_64_code
def yX8_worstBehind : MethodName := ⟨RX8, "worstBehind", "(J)I"⟩
abbrev cX8_two_ : ByteArray := prog_10_method_65_code
def yX8_two_ : MethodName := ⟨RX8, "two", "(I)I"⟩
abbrev cX8_parts : ByteArray := prog_10_method_66_code
def yX8_parts : MethodName := ⟨RX8, "parts", "(III)J"⟩
abbrev cX8_isSure : ByteArray := prog_10_method_67_code
def yX8_isSure : MethodName := ⟨RX8, "isSure", "(JI)Z"⟩
abbrev cX8_hide : ByteArray := prog_10_method_68_code
def yX8_hide : MethodName := ⟨RX8, "hide", "(III)I"⟩
abbrev cX8_same : ByteArray := prog_10_method_69_code
def yX8_same : MethodName := ⟨RX8, "same", "(III)I"⟩
abbrev cX8_claims : ByteArray := prog_10_method_70_code
def yX8_claims : MethodName := ⟨RX8, "claims", "(I)I"⟩
abbrev cX8_settles : ByteArray := prog_10_method_71_code
def yX8_settles : MethodName := ⟨RX8, "settles", "(JI)Z"⟩
abbrev cX8_settle : ByteArray := prog_10_method_72_code
def yX8_settle : MethodName := ⟨RX8, "settle", "(I)I"⟩
abbrev cX8_thrice : ByteArray := prog_10_method_73_code
def yX8_thrice : MethodName := ⟨RX8, "thrice", "(III)J"⟩
abbrev cX8_many : ByteArray := prog_10_method_74_code
def yX8_many : MethodName := ⟨RX8, "many", "(I)I"⟩
abbrev cX8_isRow : ByteArray := prog_10_method_75_code
def yX8_isRow : MethodName := ⟨RX8, "isRow", "(III)Z"⟩
abbrev cX8_judge : ByteArray := prog_10_method_76_code
def yX8_judge : MethodName := ⟨RX8, "judge", "(II)I"⟩
abbrev cX8_film : ByteArray := prog_10_method_77_code
def yX8_film : MethodName := ⟨RX8, "film", "(I)I"⟩
abbrev cX8_worldAt : ByteArray := prog_10_method_78_code
def yX8_worldAt : MethodName := ⟨RX8, "worldAt", "(JI)I"⟩
abbrev cX8_asksBy : ByteArray := prog_10_method_79_code
def yX8_asksBy : MethodName := ⟨RX8, "asksBy", "(JI)I"⟩
abbrev cX8_drawn : ByteArray := prog_10_method_80_code
def yX8_drawn : MethodName := ⟨RX8, "drawn", "(I)I"⟩
abbrev cX8_mean : ByteArray := prog_10_method_81_code
def yX8_mean : MethodName := ⟨RX8, "mean", "(III)J"⟩
abbrev cX8_image : ByteArray := prog_10_method_82_code
def yX8_image : MethodName := ⟨RX8, "image", "()I"⟩
abbrev cX8_back : ByteArray := prog_10_method_83_code
def yX8_back : MethodName := ⟨RX8, "back", "()I"⟩
abbrev cX8_sheet : ByteArray := prog_10_method_84_code
def yX8_sheet : MethodName := ⟨RX8, "sheet", "(III)I"⟩
abbrev cX8_cell : ByteArray := prog_10_method_85_code
def yX8_cell : MethodName := ⟨RX8, "cell", "(III)I"⟩
abbrev cX8_copy : ByteArray := prog_10_method_86_code
def yX8_copy : MethodName := ⟨RX8, "copy", "(IIIII)I"⟩
abbrev cX8_sayingsBy : ByteArray := prog_10_method_87_code
def yX8_sayingsBy : MethodName := ⟨RX8, "sayingsBy", "(IIII)I"⟩
abbrev cX8_isUnder : ByteArray := prog_10_method_88_code
def yX8_isUnder : MethodName := ⟨RX8, "isUnder", "(II)Z"⟩
abbrev cX8_taken : ByteArray := prog_10_method_89_code
def yX8_taken : MethodName := ⟨RX8, "taken", "(II)I"⟩
def RJ6 : String := "java/lang/Integer"
abbrev cJ6_bitCount_0f7a4 : ByteArray := prog_11_method_49_code
def yJ6_bitCount_0f7a4 : MethodName := ⟨RJ6, "bitCount", "(I)I"⟩
def RJ0 : String := "java/lang/String"
abbrev cJ0_length_8abf5 : ByteArray := prog_13_method_54_code
def yJ0_length_8abf5 : MethodName := ⟨RJ0, "length", "()I"⟩
abbrev cJ0_charAt_5068e : ByteArray := prog_13_method_56_code
def yJ0_charAt_5068e : MethodName := ⟨RJ0, "charAt", "(I)C"⟩
abbrev cJ0_coder_7d493 : ByteArray := prog_13_method_152_code
def yJ0_coder_7d493 : MethodName := ⟨RJ0, "coder", "()B"⟩
abbrev cJ0_isLatin1_aae02 : ByteArray := prog_13_method_154_code
def yJ0_isLatin1_aae02 : MethodName := ⟨RJ0, "isLatin1", "()Z"⟩
abbrev cJ0_checkIndex_df160 : ByteArray := prog_13_method_155_code
def yJ0_checkIndex_df160 : MethodName := ⟨RJ0, "checkIndex", "(II)V"⟩
def RJ1 : String := "java/lang/StringLatin1"
abbrev cJ1_charAt_3b067 : ByteArray := prog_14_method_2_code
def yJ1_charAt_3b067 : MethodName := ⟨RJ1, "charAt", "([BI)C"⟩
def RJ2 : String := "java/lang/StringUTF16"
abbrev cJ2_charAt_3b067 : ByteArray := prog_15_method_83_code
def yJ2_charAt_3b067 : MethodName := ⟨RJ2, "charAt", "([BI)C"⟩
def RJ3 : String := "jdk/internal/util/Preconditions"
abbrev cJ3_checkIndex_8e157 : ByteArray := prog_16_method_11_code
def yJ3_checkIndex_8e157 : MethodName := ⟨RJ3, "checkIndex", "(IILjava/util/function/BiFunction;)I"⟩
def RL : String := "SaidTwiceLaw"
abbrev cL_law : ByteArray := code
def yL_law : MethodName := ⟨RL, "law", "([I)Z"⟩
abbrev vwCl : List vw_C := [(RX0, TX0, 6), (RX1, TX1, 2), (RX2, TX2, 4), (RX3, TX3, 4), (RX4, TX4, 6), (RX5, TX5, 4), (RX6, TX6, 6), (RX7, TX7, 9), (RX8, TX8, 37)]

/-- the words of the tables that any method may be given -/
def TBL : List Cond := lw_tbl.filter goodWord
theorem tb_good : ∀ w ∈ TBL, goodWord w = true := fun w h => (List.mem_filter.mp h).2
end
section
-- 02.rows
/-! THE ABSTRACT MACHINE: methods run over a list of cells whose references are places; what it reaches, the machine itself reaches (part 03). -/
abbrev AC : Type := (Nat × List Value) ⊕ (List Int32 ⊕ List Int64)
abbrev AO (ci : Nat) (fs : List Value) : AC := .inl (ci, fs)
abbrev AI (xs : List Int32) : AC := .inr (.inl xs)
abbrev AL (xs : List Int64) : AC := .inr (.inr xs)
abbrev AH : Type := List AC
abbrev LO : Type := List (Option Value)
/-- a method: its name, bytes, locals, return type, how many arguments (the receiver too), cells and slots that it makes -/
abbrev Sig : Type := MethodName × ByteArray × Nat × Option FieldType × Nat × Nat × Nat
abbrev sY (g : Sig) : MethodName := g.1
abbrev sB (g : Sig) : ByteArray := g.2.1
abbrev sL (g : Sig) : Nat := g.2.2.1
abbrev sR (g : Sig) : Option FieldType := g.2.2.2.1
abbrev sA (g : Sig) : Nat := g.2.2.2.2.1
abbrev sC (g : Sig) : Nat := g.2.2.2.2.2.1
abbrev sS (g : Sig) : Nat := g.2.2.2.2.2.2
/-- a row: the instruction, its place, the next row, two numbers and a whole number of its kind, targets of a switch, the method that it calls -/
abbrev Row : Type := Instr × Nat × Nat × Nat × Nat × Int × List Nat × Sig
/-- the classes, what their fields are -/
def clTy : List (Nat → FieldType) := [tyX0, tyX1, tyX2, tyX3, tyX4, tyX5, tyX6, tyX7, tyX8]
/-- the length of the instructions that have one -/
def ilen : Instr → Nat
  | .aload _ | .astore _ | .iload _ | .istore _ | .lload _ | .lstore _ | .bipush _ | .ldc _ | .newarray _ => 2
  | .sipush _ | .ldc_w _ | .ldc2_w _ | .getfield _ | .putfield _ | .getstatic _ | .invokevirtual _ | .invokestatic _ | .invokespecial _ | .new _ | .goto _ | .if_icmp _ _ | .ifCond _ _ | .ifnull _ | .ifnonnull _ | .iinc _ _ => 3
  | _ => 1
def isNest : Cond → Bool
  | .fieldLinkNest _ _ _ _ _ _ => true
  | .methodLinkNest _ _ _ _ => true
  | _ => false
def NWL : List Cond := lw_tbl.filter isNest
/-- the String constants: their entries, texts, lengths, bytes; their places are 1100 .. and, their rows', 1200 .. -/
def sIx : List Nat := [61, 67, 69, 71, 73, 75, 77]
def sTx : List String := ["who", "once", "twice", "costs", "or", "and", "not"]
def lenS : List Nat := [3, 4, 5, 5, 2, 3, 3]
def bytS : List (List Int32) := [[119, 104, 111], [111, 110, 99, 101], [116, 119, 105, 99, 101], [99, 111, 115, 116, 115], [111, 114], [97, 110, 100], [110, 111, 116]]
def strF (b : Nat) : String × String := match b with
  | 0 => ("coder", "B")
  | _ => ("value", "[B")
def strQ (q : Nat) : Option Nat := match Nat.ble 1100 q && Nat.blt q 1107 with
  | true => some (q - 1100)
  | false => none
def bytQ (q : Nat) : Option Nat := match Nat.ble 1200 q && Nat.blt q 1207 with
  | true => some (q - 1200)
  | false => none
theorem strQ_spec {q i : Nat} (h : strQ q = some i) : q = 1100 + i ∧ i < 7 := by
  unfold strQ at h
  split at h
  · rename_i e
    simp only [Bool.and_eq_true] at e
    have h1 := Nat.le_of_ble_eq_true e.1
    have h2 := Nat.blt_eq.mp e.2
    have h3 := Option.some.inj h
    omega
  · cases h
theorem bytQ_spec {q i : Nat} (h : bytQ q = some i) : q = 1200 + i ∧ i < 7 := by
  unfold bytQ at h
  split at h
  · rename_i e
    simp only [Bool.and_eq_true] at e
    have h1 := Nat.le_of_ble_eq_true e.1
    have h2 := Nat.blt_eq.mp e.2
    have h3 := Option.some.inj h
    omega
  · cases h
end
section
-- 03.chk
/-! WHAT THE ABSTRACT MACHINE REACHES, THE MACHINE REACHES. -/
def pcO (code : List Row) (i : Nat) : Nat := match code[i]? with
  | some r => r.2.1
  | none => 0
def clOk (a b : Nat) : Bool := match vwCl[a]? with
  | some q => Nat.blt b q.2.2
  | none => false
def sgOk (g : Sig) (n : Nat) : Bool := decide ((sY g).cls ≠ "java/lang/invoke/MethodHandle") && decide ((sY g).cls ≠ "java/lang/invoke/VarHandle") && decide ((parseMethodDescriptor (sY g).desc).map (fun d => d.parameters.length) = some n)
def clN (a : Nat) : String := (vwCl.getD a (RX0, TX0, 6)).1
def clF (a b : Nat) : String × String × String × Bool := ((vwCl.getD a (RX0, TX0, 6)).2.1) b
def clS (a : Nat) : Nat := (vwCl.getD a (RX0, TX0, 6)).2.2
/-- the words of a row, out of the tables -/
def needT (own : String) (r : Row) : List Cond := match r with
  | (ins, _, _, a, b, c, _, cs) => match ins with
    | .getfield ix => if a = 50 then [.fieldLink own ix "java/lang/String" (strF b).1 (strF b).2] else if c = 0 then [.fieldLink own ix (clN a) (clF a b).2.1 (clF a b).2.2.1] else []
    | .putfield ix => if c = 0 then [.fieldLink own ix (clN a) (clF a b).2.1 (clF a b).2.2.1] else []
    | .getstatic ix => if a = 51 then [.fieldLink own ix "java/lang/String" "COMPACT_STRINGS" "Z"] else if a = 52 then [.fieldLink own ix "jdk/internal/util/Preconditions" "SIOOBE_FORMATTER" "Ljava/util/function/BiFunction;"] else [.fieldLink own ix "SaidTwice" "SO_IN" "[I"]
    | .invokevirtual ix => if c = 0 then [.methodLink own ix (sY cs)] else []
    | .invokestatic ix => if b = 7 then [.methodLink own ix Lib.Math.max.name, .static Lib.Math.max.name, .initialized "java/lang/Math", .code Lib.Math.max.name Lib.Math.max.code 2 (some .int)] else if b = 8 then [.methodLink own ix Lib.Math.min.name, .static Lib.Math.min.name, .initialized "java/lang/Math", .code Lib.Math.min.name Lib.Math.min.code 2 (some .int)] else if c = 0 then [.methodLink own ix (sY cs)] else []
    | .invokespecial ix => if b = 9 then [.methodLink own ix Lib.objectInit, .instanceMethod Lib.objectInit, .code Lib.objectInit ⟨#[0xb1]⟩ 1 none] else if c = 0 then [.methodLink own ix (sY cs)] else []
    | .new ix => [.classLink own ix (clN a), .instantiable (clN a) (clS a), .initialized (clN a)]
    | .newarray t => [.arrayClass (newarray.typeOf t)]
    | .ldc ix => if a = 50 then [] else [.constant own ix (Int32.ofInt c)]
    | .ldc_w ix => [.constant own ix (Int32.ofInt c)]
    | .ldc2_w ix => [.constantLong own ix (Int64.ofInt c)]
    | _ => []
/-- the words of a row between nest mates -/
def needN (own : String) (r : Row) : List Cond := match r with
  | (ins, _, _, a, b, c, _, cs) => if c = 1 then (match ins with
    | .getfield ix => [.fieldLinkNest own ix (clN a) (clF a b).2.1 (clF a b).2.2.1 "SaidTwice"]
    | .putfield ix => [.fieldLinkNest own ix (clN a) (clF a b).2.1 (clF a b).2.2.1 "SaidTwice"]
    | .invokevirtual ix => [.methodLinkNest own ix (sY cs) "SaidTwice"]
    | .invokestatic ix => [.methodLinkNest own ix (sY cs) "SaidTwice"]
    | .invokespecial ix => if b = 9 then [] else [.methodLinkNest own ix (sY cs) "SaidTwice"]
    | _ => []) else []
/-- what is said of a method that is called: a static one, an object's, a constructor -/
def SgS (cs : Sig) : Prop := sgOk cs (sA cs) = true ∧ ∀ w ∈ [Cond.static (sY cs), .initialized (sY cs).cls, .code (sY cs) (sB cs) (sL cs) (sR cs)], w ∈ TBL
def SgV (cs : Sig) (a : Nat) : Prop := (sgOk cs (sA cs - 1) && (decide ((sY cs).cls = clN a) && (clOk a 0 && decide (1 ≤ sA cs)))) = true ∧ ∀ w ∈ [Cond.instanceMethod (sY cs), .selects (clN a) (sY cs) (sY cs), .initialized (sY cs).cls, .code (sY cs) (sB cs) (sL cs) (sR cs)], w ∈ TBL
/-- a String's -/
def SgX (cs : Sig) : Prop := (sgOk cs (sA cs - 1) && (decide ((sY cs).cls = "java/lang/String") && (decide (1 ≤ sA cs) && decide (sC cs = 0)))) = true ∧ ∀ w ∈ [Cond.instanceMethod (sY cs), .selects "java/lang/String" (sY cs) (sY cs), .initialized (sY cs).cls, .code (sY cs) (sB cs) (sL cs) (sR cs)], w ∈ TBL
def SgI (cs : Sig) : Prop := (sgOk cs (sA cs - 1) && (decide (1 ≤ sA cs) && (decide ((sY cs).name = "<init>") && decide (sR cs = none)))) = true ∧ ∀ w ∈ [Cond.instanceMethod (sY cs), .initialized (sY cs).cls, .code (sY cs) (sB cs) (sL cs) (sR cs)], w ∈ TBL
def callOk (r : Row) : Prop := match r with
  | (ins, _, _, a, b, _, _, cs) => match ins with
    | .invokestatic _ => match Nat.beq b 7 || Nat.beq b 8 with
      | true => True
      | false => SgS cs
    | .invokevirtual _ => match Nat.beq a 50 with
      | true => SgX cs
      | false => SgV cs a
    | .invokespecial _ => match Nat.beq b 9 with
      | true => True
      | false => SgI cs
    | _ => True
/-- the same of all rows -/
def allC : List Row → Prop
  | [] => True
  | (ins, _, _, a, b, _, _, cs) :: rs => match ins with
    | .invokestatic _ => match Nat.beq b 7 || Nat.beq b 8 with
      | true => allC rs
      | false => SgS cs ∧ allC rs
    | .invokevirtual _ => match Nat.beq a 50 with
      | true => SgX cs ∧ allC rs
      | false => SgV cs a ∧ allC rs
    | .invokespecial _ => match Nat.beq b 9 with
      | true => allC rs
      | false => SgI cs ∧ allC rs
    | _ => allC rs
theorem allC_mem : ∀ {rs : List Row}, allC rs → ∀ r ∈ rs, callOk r := by
  intro rs
  induction rs with
  | nil => intro _ r hr; cases hr
  | cons q rs ih =>
    intro h r hr
    obtain ⟨ins, pc, nx, a, b, c, ts, cs⟩ := q
    have both : callOk (ins, pc, nx, a, b, c, ts, cs) ∧ allC rs := by
      cases ins
      case invokevirtual ix =>
        cases hb : Nat.beq a 50 with
        | true =>
          simp only [allC, hb] at h
          exact ⟨by simp only [callOk, hb]; exact h.1, h.2⟩
        | false =>
          simp only [allC, hb] at h
          exact ⟨by simp only [callOk, hb]; exact h.1, h.2⟩
      case invokestatic ix =>
        cases hb : (Nat.beq b 7 || Nat.beq b 8) with
        | true =>
          simp only [allC, hb] at h
          exact ⟨by simp only [callOk, hb], h⟩
        | false =>
          simp only [allC, hb] at h
          exact ⟨by simp only [callOk, hb]; exact h.1, h.2⟩
      case invokespecial ix =>
        cases hb : Nat.beq b 9 with
        | true =>
          simp only [allC, hb] at h
          exact ⟨by simp only [callOk, hb], h⟩
        | false =>
          simp only [allC, hb] at h
          exact ⟨by simp only [callOk, hb]; exact h.1, h.2⟩
      all_goals exact ⟨trivial, h⟩
    rcases List.mem_cons.mp hr with rfl | hr
    · exact both.1
    · exact ih both.2 r hr
/-- what a program decides of a row: pn is where the next one stands -/
def rowP (g : Sig) (code : List Row) (pn : Nat) (r : Row) : Bool := match r with
  | (ins, pc, nx, a, b, c, ts, cs) => match ins with
    | .nop => true
    | .tableswitch d lo hi offs => decide (decode (sB g) pc = .ok (ins, pn - pc)) && (decide ((pc : Int) + d = (pcO code a : Int)) && (decide (offs.toList.map (fun o => (pc : Int) + o) = ts.map (fun t => (pcO code t : Int))) && decide (hi = lo + (ts.length : Int) - 1)))
    | .lookupswitch d ps => decide (decode (sB g) pc = .ok (ins, pn - pc)) && (decide ((pc : Int) + d = (pcO code a : Int)) && (decide (ps.toList.map (fun o => (pc : Int) + o.2) = ts.map (fun t => (pcO code t : Int))) && ((ps.toList.zip (ps.toList.drop 1)).all (fun (a, next) => a.1 < next.1) && ps.toList.all (fun o => decide ((Int32.ofInt o.1).toInt = o.1)))))
    | _ => decide (decode (sB g) pc = .ok (ins, ilen ins)) && (match ins with
      | .ireturn | .lreturn | .return_ => true
      | .goto o => decide ((pc : Int) + o = (pcO code a : Int))
      | .ifCond _ o | .if_icmp _ o | .ifnull o | .ifnonnull o => decide ((pc : Int) + o = (pcO code a : Int)) && decide (pn = pc + 3)
      | .iconst z => decide (Int32.ofInt z = Int32.ofInt c) && decide (pn = pc + 1)
      | .bipush z => decide ((Int8.ofInt z).toInt32 = Int32.ofInt c) && decide (pn = pc + 2)
      | .sipush z => decide ((Int16.ofInt z).toInt32 = Int32.ofInt c) && decide (pn = pc + 3)
      | .lconst z => decide (Int64.ofNat z.val = Int64.ofInt c) && decide (pn = pc + 1)
      | .iinc _ z => decide (Int32.ofInt z = Int32.ofInt c) && decide (pn = pc + 3)
      | .getfield _ => (match Nat.beq a 50 with | true => Nat.ble b 1 | false => clOk a b) && (decide (c = 0 ∨ c = 1) && decide (pn = pc + 3))
      | .ldc ix => (match Nat.beq a 50 with | true => decide (sIx[b]? = some ix) && decide ((sY g).cls = "SaidTwice$Tokens") | false => true) && decide (pn = pc + 2)
      | .putfield _ => clOk a b && (decide (c = 0 ∨ c = 1) && (decide ((clF a b).2.2.2 = false ∨ ((sY g).name = "<init>" ∧ (clF a b).1 = (sY g).cls ∧ c = 0)) && decide (pn = pc + 3)))
      | .invokevirtual _ | .invokestatic _ | .invokespecial _ => decide (c = 0 ∨ c = 1) && decide (pn = pc + 3)
      | .new _ => clOk a 0 && decide (pn = pc + 3)
      | i => decide (pn = pc + ilen i))
def rowB (g : Sig) (code : List Row) (r : Row) : Bool := rowP g code (pcO code r.2.2.1) r
def nxPc : List Row → Nat
  | [] => 0
  | q :: _ => q.2.1
/-- the rows from the i-th on, in one pass -/
def linB (g : Sig) (code : List Row) : Nat → List Row → Bool
  | _, [] => true
  | i, r :: rs => rowP g code (nxPc rs) r && (Nat.beq r.2.2.1 (i + 1) && linB g code (i + 1) rs)
theorem linB_spec {g : Sig} {code : List Row} : ∀ {rs pre : List Row}, code = pre ++ rs → linB g code pre.length rs = true → ∀ r ∈ rs, rowB g code r = true := by
  intro rs
  induction rs with
  | nil => intro pre _ _ r hr; cases hr
  | cons q rs ih =>
    intro pre hc h r hr
    simp only [linB, Bool.and_eq_true] at h
    obtain ⟨h1, h2, h3⟩ := h
    have hnx : q.2.2.1 = pre.length + 1 := Nat.eq_of_beq_eq_true h2
    rcases List.mem_cons.mp hr with rfl | hr
    · unfold rowB
      rw [hnx]
      have : pcO code (pre.length + 1) = (nxPc rs) := by
        unfold pcO
        rw [hc]
        cases rs with
        | nil => simp [nxPc]
        | cons a rs => simp [nxPc]
      rw [this]
      exact h1
    · exact ih (pre := pre ++ [q]) (by simp [hc]) (by simpa using h3) r hr
/-- a stretch of rows, the row behind which stands at pe -/
def linE (g : Sig) (code : List Row) (pe : Nat) : Nat → List Row → Bool
  | _, [] => true
  | i, r :: rs => rowP g code (match rs with | [] => pe | q :: _ => q.2.1) r && (Nat.beq r.2.2.1 (i + 1) && linE g code pe (i + 1) rs)
theorem linB_app {g : Sig} {code : List Row} : ∀ {a b : List Row} {i : Nat}, linE g code (nxPc b) i a = true → linB g code (i + a.length) b = true → linB g code i (a ++ b) = true := by
  intro a
  induction a with
  | nil => intro b i _ h; simpa using h
  | cons x a ih =>
    intro b i h1 h2
    simp only [linE, Bool.and_eq_true] at h1
    obtain ⟨g1, g2, g3⟩ := h1
    simp only [List.cons_append, linB, Bool.and_eq_true]
    refine ⟨?_, g2, ih g3 (by rw [show i + 1 + a.length = i + (x :: a).length by simp; omega]; exact h2)⟩
    cases a with
    | cons y a => exact g1
    | nil => exact g1
/-- what is checked of a method -/
def Chk (g : Sig) (code : List Row) : Prop := linB g code 0 code = true ∧ allC code ∧ (∀ w ∈ code.flatMap (needT (sY g).cls), w ∈ TBL) ∧ (∀ w ∈ code.flatMap (needN (sY g).cls), w ∈ NWL) ∧ plainName (sY g).cls = true
end
section
-- 03b.fast
/-! ROWS AGAINST THE BYTES, IN ONE PASS: what is left of the bytes goes along with the rows. -/
section FAST
variable {α β : Type}
theorem bindD (r : Decoder α) (f : α → Decoder β) (c : ByteArray) (p : Nat) : (r >>= f) c p = (match r c p with | .ok (a, q) => f a c q | .error e => .error e) := by
  show Except.bind (r c p) _ = _
  cases r c p with
  | error e => rfl
  | ok v => cases v; rfl
theorem mapD (r : Decoder α) (f : α → β) (c : ByteArray) (p : Nat) : (f <$> r) c p = (match r c p with | .ok (a, q) => .ok (f a, q) | .error e => .error e) := by
  show Except.bind (r c p) _ = _
  cases r c p with
  | error e => rfl
  | ok v => cases v; rfl
end FAST
def dropB (c : ByteArray) (p : Nat) : List UInt8 := c.data.toList.drop p
theorem dropB_cons {c : ByteArray} {p : Nat} {x : UInt8} {t : List UInt8} (hb : dropB c p = x :: t) : (∃ h : p < c.size, c[p]'h = x) ∧ dropB c (p + 1) = t := by
  obtain ⟨⟨l⟩⟩ := c
  have hb : l.drop p = x :: t := hb
  have hl : p < l.length := by
    rcases Nat.lt_or_ge p l.length with h | h
    · exact h
    · rw [List.drop_eq_nil_of_le h] at hb; cases hb
  rw [List.drop_eq_getElem_cons hl] at hb
  obtain ⟨h1, h2⟩ := List.cons.inj hb
  exact ⟨⟨hl, h1⟩, h2⟩
theorem u1_at {c : ByteArray} {p : Nat} {x : UInt8} {t : List UInt8} (hb : dropB c p = x :: t) : (Reader.u1 : Decoder Nat) c p = .ok (x.toNat, p + 1) := by
  obtain ⟨⟨h, hx⟩, -⟩ := dropB_cons hb
  show (if h : p < c.size then (do set (p + 1); Pure.pure (c[p]'h).toNat : Decoder Nat) else throw (HasTruncated.truncated p)) c p = _
  rw [dif_pos h, ← hx]
  rfl
theorem u2_at {c : ByteArray} {p : Nat} {x y : UInt8} {t : List UInt8} (hb : dropB c p = x :: y :: t) : (Reader.u2 : Decoder Nat) c p = .ok (x.toNat * 256 + y.toNat, p + 2) := by
  have h1 := u1_at hb
  have h2 := u1_at (dropB_cons hb).2
  unfold Reader.u2
  simp only [bindD, h1, h2]
  rfl
theorem s1_at {c : ByteArray} {p : Nat} {x : UInt8} {t : List UInt8} (hb : dropB c p = x :: t) : (Reader.s1 : Decoder Int) c p = .ok (Reader.signed 8 x.toNat, p + 1) := by
  unfold Reader.s1
  rw [mapD, u1_at hb]
theorem s2_at {c : ByteArray} {p : Nat} {x y : UInt8} {t : List UInt8} (hb : dropB c p = x :: y :: t) : (Reader.s2 : Decoder Int) c p = .ok (Reader.signed 16 (x.toNat * 256 + y.toNat), p + 2) := by
  unfold Reader.s2
  rw [mapD, u2_at hb]
/-- what is done behind the first byte, by its number -/
noncomputable def fFDs (pc : Nat) : { F : Nat → Decoder Instr // Decoder.instr pc = Reader.u1 >>= F } := ⟨_, rfl⟩
noncomputable abbrev fFD (pc : Nat) : Nat → Decoder Instr := (fFDs pc).1
theorem dec_at {c : ByteArray} {pc q : Nat} {x : UInt8} {t : List UInt8} {i : Instr} (hb : dropB c pc = x :: t) (h : fFD pc x.toNat c (pc + 1) = .ok (i, q)) : decode c pc = .ok (i, q - pc) := by
  have e : Decoder.instr pc c pc = .ok (i, q) := by
    rw [(fFDs pc).2, bindD, u1_at hb]
    exact h
  show Except.bind (Decoder.instr pc c pc) _ = _
  rw [e]
  rfl
/-- said of an instruction that stands at a place: it is read there, and what is left behind it -/
def DD (c : ByteArray) (pc : Nat) (i : Instr) (n : Nat) (t : List UInt8) : Prop := decode c pc = .ok (i, n) ∧ dropB c (pc + n) = t
def fe0 (k : Nat) : List UInt8 → Option (List UInt8)
  | x :: t => match Nat.beq x.toNat k with | true => some t | false => none
  | _ => none
def fe1 (k n : Nat) : List UInt8 → Option (List UInt8)
  | x :: y :: t => match Nat.beq x.toNat k && Nat.beq y.toNat n with | true => some t | false => none
  | _ => none
def fe2 (k : Nat) (z : Int) : List UInt8 → Option (List UInt8)
  | x :: y :: t => match Nat.beq x.toNat k && decide (Reader.signed 8 y.toNat = z) with | true => some t | false => none
  | _ => none
def fe3 (k n : Nat) : List UInt8 → Option (List UInt8)
  | x :: y :: v :: t => match Nat.beq x.toNat k && Nat.beq (y.toNat * 256 + v.toNat) n with | true => some t | false => none
  | _ => none
def fe4 (k : Nat) (z : Int) : List UInt8 → Option (List UInt8)
  | x :: y :: v :: t => match Nat.beq x.toNat k && decide (Reader.signed 16 (y.toNat * 256 + v.toNat) = z) with | true => some t | false => none
  | _ => none
def fe5 (k n : Nat) (z : Int) : List UInt8 → Option (List UInt8)
  | x :: y :: v :: t => match Nat.beq x.toNat k && (Nat.beq y.toNat n && decide (Reader.signed 8 v.toNat = z)) with | true => some t | false => none
  | _ => none
section DDS
variable {c : ByteArray} {pc k n : Nat} {z : Int} {bs t : List UInt8}
theorem D0 {i : Instr} (h : fe0 k bs = some t) (hb : dropB c pc = bs) (hk : fFD pc k = Pure.pure i) : DD c pc i 1 t := by
  unfold fe0 at h
  split at h
  · rename_i x s
    split at h
    · rename_i hq
      cases h
      have hx := Nat.eq_of_beq_eq_true hq
      refine ⟨?_, (dropB_cons hb).2⟩
      have := dec_at (q := pc + 1) (i := i) hb (by rw [hx, hk]; rfl)
      rw [this, Nat.add_sub_cancel_left]
    · cases h
  · cases h
theorem D1 {i : Nat → Instr} (h : fe1 k n bs = some t) (hb : dropB c pc = bs) (hk : fFD pc k = (Reader.u1 >>= fun a => Pure.pure (i a))) : DD c pc (i n) 2 t := by
  unfold fe1 at h
  split at h
  · rename_i x y s
    split at h
    · rename_i hq
      rw [Bool.and_eq_true] at hq
      cases h
      have hx := Nat.eq_of_beq_eq_true hq.1
      have hy := Nat.eq_of_beq_eq_true hq.2
      have b1 := (dropB_cons hb).2
      refine ⟨?_, (dropB_cons b1).2⟩
      have := dec_at (q := pc + 2) (i := i n) hb (by rw [hx, hk, bindD, u1_at b1, hy]; rfl)
      rw [this, Nat.add_sub_cancel_left]
    · cases h
  · cases h
theorem D2 {i : Int → Instr} (h : fe2 k z bs = some t) (hb : dropB c pc = bs) (hk : fFD pc k = (Reader.s1 >>= fun a => Pure.pure (i a))) : DD c pc (i z) 2 t := by
  unfold fe2 at h
  split at h
  · rename_i x y s
    split at h
    · rename_i hq
      rw [Bool.and_eq_true] at hq
      cases h
      have hx := Nat.eq_of_beq_eq_true hq.1
      have hy := of_decide_eq_true hq.2
      have b1 := (dropB_cons hb).2
      refine ⟨?_, (dropB_cons b1).2⟩
      have := dec_at (q := pc + 2) (i := i z) hb (by rw [hx, hk, bindD, s1_at b1, hy]; rfl)
      rw [this, Nat.add_sub_cancel_left]
    · cases h
  · cases h
theorem D3 {i : Nat → Instr} (h : fe3 k n bs = some t) (hb : dropB c pc = bs) (hk : fFD pc k = (Reader.u2 >>= fun a => Pure.pure (i a))) : DD c pc (i n) 3 t := by
  unfold fe3 at h
  split at h
  · rename_i x y v s
    split at h
    · rename_i hq
      rw [Bool.and_eq_true] at hq
      cases h
      have hx := Nat.eq_of_beq_eq_true hq.1
      have hy := Nat.eq_of_beq_eq_true hq.2
      have b1 := (dropB_cons hb).2
      refine ⟨?_, (dropB_cons (dropB_cons b1).2).2⟩
      have := dec_at (q := pc + 3) (i := i n) hb (by rw [hx, hk, bindD, u2_at b1, hy]; rfl)
      rw [this, Nat.add_sub_cancel_left]
    · cases h
  · cases h
theorem D4 {i : Int → Instr} (h : fe4 k z bs = some t) (hb : dropB c pc = bs) (hk : fFD pc k = (Reader.s2 >>= fun a => Pure.pure (i a))) : DD c pc (i z) 3 t := by
  unfold fe4 at h
  split at h
  · rename_i x y v s
    split at h
    · rename_i hq
      rw [Bool.and_eq_true] at hq
      cases h
      have hx := Nat.eq_of_beq_eq_true hq.1
      have hy := of_decide_eq_true hq.2
      have b1 := (dropB_cons hb).2
      refine ⟨?_, (dropB_cons (dropB_cons b1).2).2⟩
      have := dec_at (q := pc + 3) (i := i z) hb (by rw [hx, hk, bindD, s2_at b1, hy]; rfl)
      rw [this, Nat.add_sub_cancel_left]
    · cases h
  · cases h
theorem D5 {i : Nat → Int → Instr} (h : fe5 k n z bs = some t) (hb : dropB c pc = bs) (hk : fFD pc k = (Reader.u1 >>= fun a => Reader.s1 >>= fun b => Pure.pure (i a b))) : DD c pc (i n z) 3 t := by
  unfold fe5 at h
  split at h
  · rename_i x y v s
    split at h
    · rename_i hq
      rw [Bool.and_eq_true, Bool.and_eq_true] at hq
      cases h
      have hx := Nat.eq_of_beq_eq_true hq.1
      have hy := Nat.eq_of_beq_eq_true hq.2.1
      have hz := of_decide_eq_true hq.2.2
      have b1 := (dropB_cons hb).2
      have b2 := (dropB_cons b1).2
      refine ⟨?_, (dropB_cons b2).2⟩
      have fe2 : (Reader.s1 >>= fun b => Pure.pure (i n b) : Decoder Instr) c (pc + 2) = .ok (i n z, pc + 3) := by
        rw [bindD, s1_at b2, hz]; rfl
      have := dec_at (q := pc + 3) (i := i n z) hb (by rw [hx, hk, bindD, u1_at b1, hy]; exact fe2)
      rw [this, Nat.add_sub_cancel_left]
    · cases h
  · cases h
theorem e_none {P : Prop} {t : List UInt8} (h : (none : Option (List UInt8)) = some t) : P := by cases h
end DDS
theorem fd_iload_n (pc : Nat) : ∀ n : Fin 4, fFD pc (26 + n.val) = Pure.pure (.iload_n n) := by
  rintro ⟨_ | _ | _ | _ | n, h⟩
  · rfl
  · rfl
  · rfl
  · rfl
  · exact absurd h (by omega)
theorem fd_lload_n (pc : Nat) : ∀ n : Fin 4, fFD pc (30 + n.val) = Pure.pure (.lload_n n) := by
  rintro ⟨_ | _ | _ | _ | n, h⟩
  · rfl
  · rfl
  · rfl
  · rfl
  · exact absurd h (by omega)
theorem fd_aload_n (pc : Nat) : ∀ n : Fin 4, fFD pc (42 + n.val) = Pure.pure (.aload_n n) := by
  rintro ⟨_ | _ | _ | _ | n, h⟩
  · rfl
  · rfl
  · rfl
  · rfl
  · exact absurd h (by omega)
theorem fd_istore_n (pc : Nat) : ∀ n : Fin 4, fFD pc (59 + n.val) = Pure.pure (.istore_n n) := by
  rintro ⟨_ | _ | _ | _ | n, h⟩
  · rfl
  · rfl
  · rfl
  · rfl
  · exact absurd h (by omega)
theorem fd_lstore_n (pc : Nat) : ∀ n : Fin 4, fFD pc (63 + n.val) = Pure.pure (.lstore_n n) := by
  rintro ⟨_ | _ | _ | _ | n, h⟩
  · rfl
  · rfl
  · rfl
  · rfl
  · exact absurd h (by omega)
theorem fd_astore_n (pc : Nat) : ∀ n : Fin 4, fFD pc (75 + n.val) = Pure.pure (.astore_n n) := by
  rintro ⟨_ | _ | _ | _ | n, h⟩
  · rfl
  · rfl
  · rfl
  · rfl
  · exact absurd h (by omega)
theorem fd_lconst (pc : Nat) : ∀ n : Fin 2, fFD pc (9 + n.val) = Pure.pure (.lconst n) := by
  rintro ⟨_ | _ | n, h⟩
  · rfl
  · rfl
  · exact absurd h (by omega)
theorem fd_iconst (pc : Nat) : ∀ m, Nat.ble m 5 = true → fFD pc (m + 3) = Pure.pure (.iconst (Int.ofNat m)) := by
  rintro (_ | _ | _ | _ | _ | _ | n) h
  · rfl
  · rfl
  · rfl
  · rfl
  · rfl
  · rfl
  · have := Nat.le_of_ble_eq_true h
    omega
def eat : Instr → List UInt8 → Option (List UInt8)
  | .iload_n n, bs => fe0 (26 + n.val) bs
  | .lload_n n, bs => fe0 (30 + n.val) bs
  | .aload_n n, bs => fe0 (42 + n.val) bs
  | .istore_n n, bs => fe0 (59 + n.val) bs
  | .lstore_n n, bs => fe0 (63 + n.val) bs
  | .astore_n n, bs => fe0 (75 + n.val) bs
  | .lconst n, bs => fe0 (9 + n.val) bs
  | .iconst (.ofNat m), bs => match Nat.ble m 5 with | true => fe0 (m + 3) bs | false => none
  | .iconst (.negSucc m), bs => match m with | 0 => fe0 2 bs | _ + 1 => none
  | .iaload, bs => fe0 46 bs
  | .laload, bs => fe0 47 bs
  | .baload, bs => fe0 51 bs
  | .iastore, bs => fe0 79 bs
  | .lastore, bs => fe0 80 bs
  | .pop, bs => fe0 87 bs
  | .pop2, bs => fe0 88 bs
  | .dup, bs => fe0 89 bs
  | .iadd, bs => fe0 96 bs
  | .ladd, bs => fe0 97 bs
  | .isub, bs => fe0 100 bs
  | .imul, bs => fe0 104 bs
  | .lmul, bs => fe0 105 bs
  | .idiv, bs => fe0 108 bs
  | .ldiv, bs => fe0 109 bs
  | .irem, bs => fe0 112 bs
  | .lrem, bs => fe0 113 bs
  | .ineg, bs => fe0 116 bs
  | .ishl, bs => fe0 120 bs
  | .lshl, bs => fe0 121 bs
  | .ishr, bs => fe0 122 bs
  | .lshr, bs => fe0 123 bs
  | .iushr, bs => fe0 124 bs
  | .iand, bs => fe0 126 bs
  | .land, bs => fe0 127 bs
  | .ior, bs => fe0 128 bs
  | .lor, bs => fe0 129 bs
  | .ixor, bs => fe0 130 bs
  | .lxor, bs => fe0 131 bs
  | .i2l, bs => fe0 133 bs
  | .l2i, bs => fe0 136 bs
  | .i2b, bs => fe0 145 bs
  | .i2c, bs => fe0 146 bs
  | .i2s, bs => fe0 147 bs
  | .lcmp, bs => fe0 148 bs
  | .ireturn, bs => fe0 172 bs
  | .lreturn, bs => fe0 173 bs
  | .return_, bs => fe0 177 bs
  | .arraylength, bs => fe0 190 bs
  | .ldc n, bs => fe1 18 n bs
  | .iload n, bs => fe1 21 n bs
  | .lload n, bs => fe1 22 n bs
  | .istore n, bs => fe1 54 n bs
  | .lstore n, bs => fe1 55 n bs
  | .bipush z, bs => fe2 16 z bs
  | .ldc_w n, bs => fe3 19 n bs
  | .ldc2_w n, bs => fe3 20 n bs
  | .getstatic n, bs => fe3 178 n bs
  | .getfield n, bs => fe3 180 n bs
  | .putfield n, bs => fe3 181 n bs
  | .invokevirtual n, bs => fe3 182 n bs
  | .invokespecial n, bs => fe3 183 n bs
  | .invokestatic n, bs => fe3 184 n bs
  | .new n, bs => fe3 187 n bs
  | .sipush z, bs => fe4 17 z bs
  | .goto z, bs => fe4 167 z bs
  | .ifnull z, bs => fe4 198 z bs
  | .ifnonnull z, bs => fe4 199 z bs
  | .ifCond .eq z, bs => fe4 153 z bs
  | .ifCond .ne z, bs => fe4 154 z bs
  | .ifCond .lt z, bs => fe4 155 z bs
  | .ifCond .ge z, bs => fe4 156 z bs
  | .ifCond .gt z, bs => fe4 157 z bs
  | .ifCond .le z, bs => fe4 158 z bs
  | .if_icmp .eq z, bs => fe4 159 z bs
  | .if_icmp .ne z, bs => fe4 160 z bs
  | .if_icmp .lt z, bs => fe4 161 z bs
  | .if_icmp .ge z, bs => fe4 162 z bs
  | .if_icmp .gt z, bs => fe4 163 z bs
  | .if_icmp .le z, bs => fe4 164 z bs
  | .iinc n z, bs => fe5 132 n z bs
  | _, _ => none
def isSw : Instr → Bool
  | .nop | .tableswitch _ _ _ _ | .lookupswitch _ _ => true
  | _ => false
theorem eat_ok {c : ByteArray} {pc : Nat} {bs t : List UInt8} {i : Instr} (h : eat i bs = some t) (hb : dropB c pc = bs) : DD c pc i (ilen i) t ∧ isSw i = false := by
  cases i
  case iload_n n => exact ⟨D0 h hb (fd_iload_n pc n), rfl⟩
  case lload_n n => exact ⟨D0 h hb (fd_lload_n pc n), rfl⟩
  case aload_n n => exact ⟨D0 h hb (fd_aload_n pc n), rfl⟩
  case istore_n n => exact ⟨D0 h hb (fd_istore_n pc n), rfl⟩
  case lstore_n n => exact ⟨D0 h hb (fd_lstore_n pc n), rfl⟩
  case astore_n n => exact ⟨D0 h hb (fd_astore_n pc n), rfl⟩
  case lconst n => exact ⟨D0 h hb (fd_lconst pc n), rfl⟩
  case iconst z =>
    cases z with
    | ofNat m =>
      have h : (match Nat.ble m 5 with | true => fe0 (m + 3) bs | false => none) = some t := h
      cases hm : Nat.ble m 5 with
      | true => rw [hm] at h; exact ⟨D0 h hb (fd_iconst pc m hm), rfl⟩
      | false => rw [hm] at h; cases h
    | negSucc m =>
      cases m with
      | zero => exact ⟨D0 (k := 2) h hb rfl, rfl⟩
      | succ m => exact e_none h
  case iaload => exact ⟨D0 (k := 46) h hb rfl, rfl⟩
  case laload => exact ⟨D0 (k := 47) h hb rfl, rfl⟩
  case baload => exact ⟨D0 (k := 51) h hb rfl, rfl⟩
  case iastore => exact ⟨D0 (k := 79) h hb rfl, rfl⟩
  case lastore => exact ⟨D0 (k := 80) h hb rfl, rfl⟩
  case pop => exact ⟨D0 (k := 87) h hb rfl, rfl⟩
  case pop2 => exact ⟨D0 (k := 88) h hb rfl, rfl⟩
  case dup => exact ⟨D0 (k := 89) h hb rfl, rfl⟩
  case iadd => exact ⟨D0 (k := 96) h hb rfl, rfl⟩
  case ladd => exact ⟨D0 (k := 97) h hb rfl, rfl⟩
  case isub => exact ⟨D0 (k := 100) h hb rfl, rfl⟩
  case imul => exact ⟨D0 (k := 104) h hb rfl, rfl⟩
  case lmul => exact ⟨D0 (k := 105) h hb rfl, rfl⟩
  case idiv => exact ⟨D0 (k := 108) h hb rfl, rfl⟩
  case ldiv => exact ⟨D0 (k := 109) h hb rfl, rfl⟩
  case irem => exact ⟨D0 (k := 112) h hb rfl, rfl⟩
  case lrem => exact ⟨D0 (k := 113) h hb rfl, rfl⟩
  case ineg => exact ⟨D0 (k := 116) h hb rfl, rfl⟩
  case ishl => exact ⟨D0 (k := 120) h hb rfl, rfl⟩
  case lshl => exact ⟨D0 (k := 121) h hb rfl, rfl⟩
  case ishr => exact ⟨D0 (k := 122) h hb rfl, rfl⟩
  case lshr => exact ⟨D0 (k := 123) h hb rfl, rfl⟩
  case iushr => exact ⟨D0 (k := 124) h hb rfl, rfl⟩
  case iand => exact ⟨D0 (k := 126) h hb rfl, rfl⟩
  case land => exact ⟨D0 (k := 127) h hb rfl, rfl⟩
  case ior => exact ⟨D0 (k := 128) h hb rfl, rfl⟩
  case lor => exact ⟨D0 (k := 129) h hb rfl, rfl⟩
  case ixor => exact ⟨D0 (k := 130) h hb rfl, rfl⟩
  case lxor => exact ⟨D0 (k := 131) h hb rfl, rfl⟩
  case i2l => exact ⟨D0 (k := 133) h hb rfl, rfl⟩
  case l2i => exact ⟨D0 (k := 136) h hb rfl, rfl⟩
  case i2b => exact ⟨D0 (k := 145) h hb rfl, rfl⟩
  case i2c => exact ⟨D0 (k := 146) h hb rfl, rfl⟩
  case i2s => exact ⟨D0 (k := 147) h hb rfl, rfl⟩
  case lcmp => exact ⟨D0 (k := 148) h hb rfl, rfl⟩
  case ireturn => exact ⟨D0 (k := 172) h hb rfl, rfl⟩
  case lreturn => exact ⟨D0 (k := 173) h hb rfl, rfl⟩
  case return_ => exact ⟨D0 (k := 177) h hb rfl, rfl⟩
  case arraylength => exact ⟨D0 (k := 190) h hb rfl, rfl⟩
  case ldc n => exact ⟨D1 (k := 18) (i := .ldc) h hb rfl, rfl⟩
  case iload n => exact ⟨D1 (k := 21) (i := .iload) h hb rfl, rfl⟩
  case lload n => exact ⟨D1 (k := 22) (i := .lload) h hb rfl, rfl⟩
  case istore n => exact ⟨D1 (k := 54) (i := .istore) h hb rfl, rfl⟩
  case lstore n => exact ⟨D1 (k := 55) (i := .lstore) h hb rfl, rfl⟩
  case bipush z => exact ⟨D2 (k := 16) (i := .bipush) h hb rfl, rfl⟩
  case ldc_w n => exact ⟨D3 (k := 19) (i := .ldc_w) h hb rfl, rfl⟩
  case ldc2_w n => exact ⟨D3 (k := 20) (i := .ldc2_w) h hb rfl, rfl⟩
  case getstatic n => exact ⟨D3 (k := 178) (i := .getstatic) h hb rfl, rfl⟩
  case getfield n => exact ⟨D3 (k := 180) (i := .getfield) h hb rfl, rfl⟩
  case putfield n => exact ⟨D3 (k := 181) (i := .putfield) h hb rfl, rfl⟩
  case invokevirtual n => exact ⟨D3 (k := 182) (i := .invokevirtual) h hb rfl, rfl⟩
  case invokespecial n => exact ⟨D3 (k := 183) (i := .invokespecial) h hb rfl, rfl⟩
  case invokestatic n => exact ⟨D3 (k := 184) (i := .invokestatic) h hb rfl, rfl⟩
  case new n => exact ⟨D3 (k := 187) (i := .new) h hb rfl, rfl⟩
  case sipush z => exact ⟨D4 (k := 17) (i := .sipush) h hb rfl, rfl⟩
  case goto z => exact ⟨D4 (k := 167) (i := .goto) h hb rfl, rfl⟩
  case ifnull z => exact ⟨D4 (k := 198) (i := .ifnull) h hb rfl, rfl⟩
  case ifnonnull z => exact ⟨D4 (k := 199) (i := .ifnonnull) h hb rfl, rfl⟩
  case ifCond q z =>
    cases q
    · exact ⟨D4 (k := 153) (i := .ifCond .eq) h hb rfl, rfl⟩
    · exact ⟨D4 (k := 154) (i := .ifCond .ne) h hb rfl, rfl⟩
    · exact ⟨D4 (k := 155) (i := .ifCond .lt) h hb rfl, rfl⟩
    · exact ⟨D4 (k := 156) (i := .ifCond .ge) h hb rfl, rfl⟩
    · exact ⟨D4 (k := 157) (i := .ifCond .gt) h hb rfl, rfl⟩
    · exact ⟨D4 (k := 158) (i := .ifCond .le) h hb rfl, rfl⟩
  case if_icmp q z =>
    cases q
    · exact ⟨D4 (k := 159) (i := .if_icmp .eq) h hb rfl, rfl⟩
    · exact ⟨D4 (k := 160) (i := .if_icmp .ne) h hb rfl, rfl⟩
    · exact ⟨D4 (k := 161) (i := .if_icmp .lt) h hb rfl, rfl⟩
    · exact ⟨D4 (k := 162) (i := .if_icmp .ge) h hb rfl, rfl⟩
    · exact ⟨D4 (k := 163) (i := .if_icmp .gt) h hb rfl, rfl⟩
    · exact ⟨D4 (k := 164) (i := .if_icmp .le) h hb rfl, rfl⟩
  case iinc n z => exact ⟨D5 (k := 132) (i := .iinc) h hb rfl, rfl⟩
  all_goals exact e_none h
/-- the rest of what is decided of a row -/
def rowR (g : Sig) (code : List Row) (pn : Nat) (r : Row) : Bool := match r with
  | (ins, pc, nx, a, b, c, ts, cs) => (match ins with
      | .ireturn | .lreturn | .return_ => true
      | .goto o => decide ((pc : Int) + o = (pcO code a : Int))
      | .ifCond _ o | .if_icmp _ o | .ifnull o | .ifnonnull o => decide ((pc : Int) + o = (pcO code a : Int)) && decide (pn = pc + 3)
      | .iconst z => decide (Int32.ofInt z = Int32.ofInt c) && decide (pn = pc + 1)
      | .bipush z => decide ((Int8.ofInt z).toInt32 = Int32.ofInt c) && decide (pn = pc + 2)
      | .sipush z => decide ((Int16.ofInt z).toInt32 = Int32.ofInt c) && decide (pn = pc + 3)
      | .lconst z => decide (Int64.ofNat z.val = Int64.ofInt c) && decide (pn = pc + 1)
      | .iinc _ z => decide (Int32.ofInt z = Int32.ofInt c) && decide (pn = pc + 3)
      | .getfield _ => (match Nat.beq a 50 with | true => Nat.ble b 1 | false => clOk a b) && (decide (c = 0 ∨ c = 1) && decide (pn = pc + 3))
      | .ldc ix => (match Nat.beq a 50 with | true => decide (sIx[b]? = some ix) && decide ((sY g).cls = "SaidTwice$Tokens") | false => true) && decide (pn = pc + 2)
      | .putfield _ => clOk a b && (decide (c = 0 ∨ c = 1) && (decide ((clF a b).2.2.2 = false ∨ ((sY g).name = "<init>" ∧ (clF a b).1 = (sY g).cls ∧ c = 0)) && decide (pn = pc + 3)))
      | .invokevirtual _ | .invokestatic _ | .invokespecial _ => decide (c = 0 ∨ c = 1) && decide (pn = pc + 3)
      | .new _ => clOk a 0 && decide (pn = pc + 3)
      | i => decide (pn = pc + ilen i))
theorem rowP_of {g : Sig} {code : List Row} {pn : Nat} {r : Row} (hd : decode (sB g) r.2.1 = .ok (r.1, ilen r.1)) (hn : isSw r.1 = false) (hr : rowR g code pn r = true) : rowP g code pn r = true := by
  obtain ⟨ins, pc, nx, a, b, c, ts, cs⟩ := r
  have hd : decode (sB g) pc = .ok (ins, ilen ins) := hd
  have hn : isSw ins = false := hn
  unfold rowP
  split
  rename_i heq
  cases heq
  split
  · rfl
  · cases hn
  · cases hn
  · rw [Bool.and_eq_true]
    exact ⟨decide_eq_true hd, hr⟩
def pnx (pe : Nat) : List Row → Nat
  | [] => pe
  | q :: _ => q.2.1
def ordB (r : Row) : List Row → Bool
  | [] => true
  | q :: _ => Nat.ble r.2.1 q.2.1
def nxB (r : Row) : List Row → Bool
  | [] => true
  | q :: _ => Nat.beq q.2.1 (r.2.1 + ilen r.1)
/-- the rows from the i-th on, the bytes behind them going along -/
def linL (g : Sig) (code : List Row) (pe : Nat) : Nat → List UInt8 → List Row → Bool
  | _, _, [] => true
  | i, bs, r :: rs => match eat r.1 bs with
    | some bs' => nxB r rs && (rowR g code (pnx pe rs) r && (Nat.beq r.2.2.1 (i + 1) && linL g code pe r.2.2.1 bs' rs))
    | none => rowP g code (pnx pe rs) r && (ordB r rs && (Nat.beq r.2.2.1 (i + 1) && linL g code pe r.2.2.1 (bs.drop (pnx pe rs - r.2.1)) rs))
theorem linE_cons {g : Sig} {code : List Row} {pe i : Nat} {r : Row} {rs : List Row} : linE g code pe i (r :: rs) = (rowP g code (pnx pe rs) r && (Nat.beq r.2.2.1 (i + 1) && linE g code pe (i + 1) rs)) := by cases rs <;> rfl
theorem linL_ok {g : Sig} {code : List Row} {pe : Nat} : ∀ {rs : List Row} {i : Nat} {bs : List UInt8}, (∀ q rs', rs = q :: rs' → dropB (sB g) q.2.1 = bs) → linL g code pe i bs rs = true → linE g code pe i rs = true := by
  intro rs
  induction rs with
  | nil => intro i bs _ _; rfl
  | cons r rs ih =>
    intro i bs hd h
    have hb := hd r rs rfl
    rw [linE_cons, Bool.and_eq_true, Bool.and_eq_true]
    cases he : eat r.1 bs with
    | some bs' =>
      obtain ⟨⟨h1, h2⟩, h3⟩ := eat_ok he hb
      simp only [linL, he, Bool.and_eq_true] at h
      obtain ⟨g1, g2, g3, g4⟩ := h
      have fe3 : r.2.2.1 = i + 1 := Nat.eq_of_beq_eq_true g3
      refine ⟨rowP_of h1 h3 g2, g3, ?_⟩
      rw [← fe3]
      refine ih ?_ g4
      rintro q rs' rfl
      have g1 : q.2.1 = r.2.1 + ilen r.1 := Nat.eq_of_beq_eq_true g1
      rw [g1]
      exact h2
    | none =>
      simp only [linL, he, Bool.and_eq_true] at h
      obtain ⟨g1, g2, g3, g4⟩ := h
      have fe3 : r.2.2.1 = i + 1 := Nat.eq_of_beq_eq_true g3
      refine ⟨g1, g3, ?_⟩
      rw [← fe3]
      refine ih ?_ g4
      rintro q rs' rfl
      have g2 : r.2.1 ≤ q.2.1 := Nat.le_of_ble_eq_true g2
      show dropB (sB g) q.2.1 = bs.drop (q.2.1 - r.2.1)
      rw [← hb]
      unfold dropB
      rw [List.drop_drop, Nat.add_sub_cancel' g2]
theorem linB_cons {g : Sig} {code : List Row} {i : Nat} {r : Row} {rs : List Row} : linB g code i (r :: rs) = (rowP g code (pnx 0 rs) r && (Nat.beq r.2.2.1 (i + 1) && linB g code (i + 1) rs)) := by cases rs <;> rfl
theorem linE_0 {g : Sig} {code : List Row} : ∀ {rs : List Row} {i : Nat}, linE g code 0 i rs = true → linB g code i rs = true := by
  intro rs
  induction rs with
  | nil => intro i _; rfl
  | cons r rs ih =>
    intro i h
    rw [linE_cons, Bool.and_eq_true, Bool.and_eq_true] at h
    rw [linB_cons, Bool.and_eq_true, Bool.and_eq_true]
    exact ⟨h.1, h.2.1, ih h.2.2⟩
theorem linEQ {g : Sig} {code rs : List Row} {pe i : Nat} (h : linL g code pe i (dropB (sB g) (nxPc rs)) rs = true) : linE g code pe i rs = true := linL_ok (by rintro q rs' rfl; rfl) h
theorem linBQ {g : Sig} {code rs : List Row} {i : Nat} (h : linL g code 0 i (dropB (sB g) (nxPc rs)) rs = true) : linB g code i rs = true := linE_0 (linEQ h)
end
