-- ===== PART A: goes FIRST, ahead of the names: the tables' words, and 'selects' of the private methods out of them =====
/-- a private method of a class that the tables say can be made, by its rows of tables_1 -/
def lw_okq (q : MethodName × Nat) : Prop := (q.1.cls ≠ "java/lang/invoke/MethodHandle" ∧ q.1.cls ≠ "java/lang/invoke/VarHandle") ∧ Cond.instantiable q.1.cls q.2 ∈ tables_1 ∧ Cond.privateMethod q.1 ∈ tables_1 ∧ Cond.instanceMethod q.1 ∈ tables_1
theorem lw_p0 : lw_okq (⟨"TapedLines$LineReader", "open", "(LTapedLines$Sheet;)V"⟩, 6) := ⟨⟨by decide +kernel, by decide +kernel⟩, List.mem_of_getElem? (i := 49) (by decide +kernel), List.mem_of_getElem? (i := 250) (by decide +kernel), List.mem_of_getElem? (i := 251) (by decide +kernel)⟩
theorem lw_p1 : lw_okq (⟨"TapedLines$LineReader", "readNumber", "(II)I"⟩, 6) := ⟨⟨by decide +kernel, by decide +kernel⟩, List.mem_of_getElem? (i := 49) (by decide +kernel), List.mem_of_getElem? (i := 254) (by decide +kernel), List.mem_of_getElem? (i := 255) (by decide +kernel)⟩
theorem lw_p2 : lw_okq (⟨"TapedLines$LineReader", "skipSpaces", "()V"⟩, 6) := ⟨⟨by decide +kernel, by decide +kernel⟩, List.mem_of_getElem? (i := 49) (by decide +kernel), List.mem_of_getElem? (i := 258) (by decide +kernel), List.mem_of_getElem? (i := 259) (by decide +kernel)⟩
theorem lw_p3 : lw_okq (⟨"TapedLines$LineReader", "take", "()Z"⟩, 6) := ⟨⟨by decide +kernel, by decide +kernel⟩, List.mem_of_getElem? (i := 49) (by decide +kernel), List.mem_of_getElem? (i := 265) (by decide +kernel), List.mem_of_getElem? (i := 266) (by decide +kernel)⟩
theorem lw_p4 : lw_okq (⟨"TapedLines$LineReader", "put", "(I)V"⟩, 6) := ⟨⟨by decide +kernel, by decide +kernel⟩, List.mem_of_getElem? (i := 49) (by decide +kernel), List.mem_of_getElem? (i := 269) (by decide +kernel), List.mem_of_getElem? (i := 270) (by decide +kernel)⟩
theorem lw_p5 : lw_okq (⟨"TapedLines$LineReader", "reachesEnd", "()Z"⟩, 6) := ⟨⟨by decide +kernel, by decide +kernel⟩, List.mem_of_getElem? (i := 49) (by decide +kernel), List.mem_of_getElem? (i := 273) (by decide +kernel), List.mem_of_getElem? (i := 274) (by decide +kernel)⟩
theorem lw_p6 : lw_okq (⟨"TapedLines$LineReader", "readStatement", "()Z"⟩, 6) := ⟨⟨by decide +kernel, by decide +kernel⟩, List.mem_of_getElem? (i := 49) (by decide +kernel), List.mem_of_getElem? (i := 277) (by decide +kernel), List.mem_of_getElem? (i := 278) (by decide +kernel)⟩
theorem lw_p7 : lw_okq (⟨"TapedLines$LineReader", "ahead", "(I)I"⟩, 6) := ⟨⟨by decide +kernel, by decide +kernel⟩, List.mem_of_getElem? (i := 49) (by decide +kernel), List.mem_of_getElem? (i := 281) (by decide +kernel), List.mem_of_getElem? (i := 282) (by decide +kernel)⟩
theorem lw_p8 : lw_okq (⟨"TapedLines$LineReader", "readWord", "(I)Z"⟩, 6) := ⟨⟨by decide +kernel, by decide +kernel⟩, List.mem_of_getElem? (i := 49) (by decide +kernel), List.mem_of_getElem? (i := 285) (by decide +kernel), List.mem_of_getElem? (i := 286) (by decide +kernel)⟩
theorem lw_p9 : lw_okq (⟨"TapedLines$LineReader", "readLineNumber", "()Z"⟩, 6) := ⟨⟨by decide +kernel, by decide +kernel⟩, List.mem_of_getElem? (i := 49) (by decide +kernel), List.mem_of_getElem? (i := 348) (by decide +kernel), List.mem_of_getElem? (i := 349) (by decide +kernel)⟩
theorem lw_p10 : lw_okq (⟨"TapedLines$LineReader", "readExpression", "()Z"⟩, 6) := ⟨⟨by decide +kernel, by decide +kernel⟩, List.mem_of_getElem? (i := 49) (by decide +kernel), List.mem_of_getElem? (i := 352) (by decide +kernel), List.mem_of_getElem? (i := 353) (by decide +kernel)⟩
theorem lw_p11 : lw_okq (⟨"TapedLines$LineReader", "readMark", "(C)Z"⟩, 6) := ⟨⟨by decide +kernel, by decide +kernel⟩, List.mem_of_getElem? (i := 49) (by decide +kernel), List.mem_of_getElem? (i := 356) (by decide +kernel), List.mem_of_getElem? (i := 357) (by decide +kernel)⟩
theorem lw_p12 : lw_okq (⟨"TapedLines$LineReader", "readVariable", "()Z"⟩, 6) := ⟨⟨by decide +kernel, by decide +kernel⟩, List.mem_of_getElem? (i := 49) (by decide +kernel), List.mem_of_getElem? (i := 360) (by decide +kernel), List.mem_of_getElem? (i := 361) (by decide +kernel)⟩
theorem lw_p13 : lw_okq (⟨"TapedLines$LineReader", "readPrinted", "()Z"⟩, 6) := ⟨⟨by decide +kernel, by decide +kernel⟩, List.mem_of_getElem? (i := 49) (by decide +kernel), List.mem_of_getElem? (i := 373) (by decide +kernel), List.mem_of_getElem? (i := 374) (by decide +kernel)⟩
theorem lw_p14 : lw_okq (⟨"TapedLines$Program", "firstFrom", "(I)I"⟩, 2) := ⟨⟨by decide +kernel, by decide +kernel⟩, List.mem_of_getElem? (i := 87) (by decide +kernel), List.mem_of_getElem? (i := 382) (by decide +kernel), List.mem_of_getElem? (i := 383) (by decide +kernel)⟩
theorem lw_p15 : lw_okq (⟨"TapedLines$Machine", "arriveAt", "(I)V"⟩, 15) := ⟨⟨by decide +kernel, by decide +kernel⟩, List.mem_of_getElem? (i := 81) (by decide +kernel), List.mem_of_getElem? (i := 414) (by decide +kernel), List.mem_of_getElem? (i := 415) (by decide +kernel)⟩
def lw_privs_1 : List (MethodName × Nat) := [(⟨"TapedLines$LineReader", "open", "(LTapedLines$Sheet;)V"⟩, 6), (⟨"TapedLines$LineReader", "readNumber", "(II)I"⟩, 6), (⟨"TapedLines$LineReader", "skipSpaces", "()V"⟩, 6), (⟨"TapedLines$LineReader", "take", "()Z"⟩, 6), (⟨"TapedLines$LineReader", "put", "(I)V"⟩, 6), (⟨"TapedLines$LineReader", "reachesEnd", "()Z"⟩, 6), (⟨"TapedLines$LineReader", "readStatement", "()Z"⟩, 6), (⟨"TapedLines$LineReader", "ahead", "(I)I"⟩, 6), (⟨"TapedLines$LineReader", "readWord", "(I)Z"⟩, 6), (⟨"TapedLines$LineReader", "readLineNumber", "()Z"⟩, 6), (⟨"TapedLines$LineReader", "readExpression", "()Z"⟩, 6), (⟨"TapedLines$LineReader", "readMark", "(C)Z"⟩, 6), (⟨"TapedLines$LineReader", "readVariable", "()Z"⟩, 6), (⟨"TapedLines$LineReader", "readPrinted", "()Z"⟩, 6), (⟨"TapedLines$Program", "firstFrom", "(I)I"⟩, 2), (⟨"TapedLines$Machine", "arriveAt", "(I)V"⟩, 15)]
theorem lw_r1 : ∀ q ∈ lw_privs_1, lw_okq q := List.forall_mem_cons.mpr ⟨lw_p0, List.forall_mem_cons.mpr ⟨lw_p1, List.forall_mem_cons.mpr ⟨lw_p2, List.forall_mem_cons.mpr ⟨lw_p3, List.forall_mem_cons.mpr ⟨lw_p4, List.forall_mem_cons.mpr ⟨lw_p5, List.forall_mem_cons.mpr ⟨lw_p6, List.forall_mem_cons.mpr ⟨lw_p7, List.forall_mem_cons.mpr ⟨lw_p8, List.forall_mem_cons.mpr ⟨lw_p9, List.forall_mem_cons.mpr ⟨lw_p10, List.forall_mem_cons.mpr ⟨lw_p11, List.forall_mem_cons.mpr ⟨lw_p12, List.forall_mem_cons.mpr ⟨lw_p13, List.forall_mem_cons.mpr ⟨lw_p14, List.forall_mem_cons.mpr ⟨lw_p15, fun _ h => absurd h List.not_mem_nil⟩⟩⟩⟩⟩⟩⟩⟩⟩⟩⟩⟩⟩⟩⟩⟩
theorem lw_p16 : lw_okq (⟨"TapedLines$Tape", "putBit", "(I)V"⟩, 4) := ⟨⟨by decide +kernel, by decide +kernel⟩, List.mem_of_getElem? (i := 186) (by decide +kernel), List.mem_of_getElem? (i := 443) (by decide +kernel), List.mem_of_getElem? (i := 444) (by decide +kernel)⟩
theorem lw_p17 : lw_okq (⟨"TapedLines$Tape", "putByte", "(I)V"⟩, 4) := ⟨⟨by decide +kernel, by decide +kernel⟩, List.mem_of_getElem? (i := 186) (by decide +kernel), List.mem_of_getElem? (i := 447) (by decide +kernel), List.mem_of_getElem? (i := 448) (by decide +kernel)⟩
theorem lw_p18 : lw_okq (⟨"TapedLines$Tape", "hearByte", "()I"⟩, 4) := ⟨⟨by decide +kernel, by decide +kernel⟩, List.mem_of_getElem? (i := 186) (by decide +kernel), List.mem_of_getElem? (i := 463) (by decide +kernel), List.mem_of_getElem? (i := 464) (by decide +kernel)⟩
theorem lw_p19 : lw_okq (⟨"TapedLines$Tape", "hearBit", "()I"⟩, 4) := ⟨⟨by decide +kernel, by decide +kernel⟩, List.mem_of_getElem? (i := 186) (by decide +kernel), List.mem_of_getElem? (i := 467) (by decide +kernel), List.mem_of_getElem? (i := 468) (by decide +kernel)⟩
theorem lw_p20 : lw_okq (⟨"TapedLines$LineReader", "acceptsStatement", "([III)Z"⟩, 6) := ⟨⟨by decide +kernel, by decide +kernel⟩, List.mem_of_getElem? (i := 49) (by decide +kernel), List.mem_of_getElem? (i := 480) (by decide +kernel), List.mem_of_getElem? (i := 481) (by decide +kernel)⟩
theorem lw_p21 : lw_okq (⟨"TapedLines$Sheet", "appendWord", "(Ljava/lang/String;ZZ)V"⟩, 2) := ⟨⟨by decide +kernel, by decide +kernel⟩, List.mem_of_getElem? (i := 30) (by decide +kernel), List.mem_of_getElem? (i := 489) (by decide +kernel), List.mem_of_getElem? (i := 490) (by decide +kernel)⟩
theorem lw_p22 : lw_okq (⟨"java/lang/Throwable", "fillInStackTrace", "(I)Ljava/lang/Throwable;"⟩, 6) := ⟨⟨by decide +kernel, by decide +kernel⟩, List.mem_of_getElem? (i := 561) (by decide +kernel), List.mem_of_getElem? (i := 559) (by decide +kernel), List.mem_of_getElem? (i := 560) (by decide +kernel)⟩
theorem lw_p23 : lw_okq (⟨"TapedLines$Machine", "jump", "()I"⟩, 15) := ⟨⟨by decide +kernel, by decide +kernel⟩, List.mem_of_getElem? (i := 81) (by decide +kernel), List.mem_of_getElem? (i := 653) (by decide +kernel), List.mem_of_getElem? (i := 654) (by decide +kernel)⟩
theorem lw_p24 : lw_okq (⟨"TapedLines$Machine", "jumpAndKeep", "()I"⟩, 15) := ⟨⟨by decide +kernel, by decide +kernel⟩, List.mem_of_getElem? (i := 81) (by decide +kernel), List.mem_of_getElem? (i := 667) (by decide +kernel), List.mem_of_getElem? (i := 668) (by decide +kernel)⟩
theorem lw_p25 : lw_okq (⟨"TapedLines$Machine", "jumpBack", "()I"⟩, 15) := ⟨⟨by decide +kernel, by decide +kernel⟩, List.mem_of_getElem? (i := 81) (by decide +kernel), List.mem_of_getElem? (i := 671) (by decide +kernel), List.mem_of_getElem? (i := 672) (by decide +kernel)⟩
theorem lw_p26 : lw_okq (⟨"TapedLines$Machine", "jumpIf", "()I"⟩, 15) := ⟨⟨by decide +kernel, by decide +kernel⟩, List.mem_of_getElem? (i := 81) (by decide +kernel), List.mem_of_getElem? (i := 675) (by decide +kernel), List.mem_of_getElem? (i := 676) (by decide +kernel)⟩
theorem lw_p27 : lw_okq (⟨"TapedLines$Calculator", "worth", "(II)I"⟩, 6) := ⟨⟨by decide +kernel, by decide +kernel⟩, List.mem_of_getElem? (i := 104) (by decide +kernel), List.mem_of_getElem? (i := 683) (by decide +kernel), List.mem_of_getElem? (i := 684) (by decide +kernel)⟩
theorem lw_p28 : lw_okq (⟨"TapedLines$Calculator", "one", "(I)I"⟩, 6) := ⟨⟨by decide +kernel, by decide +kernel⟩, List.mem_of_getElem? (i := 104) (by decide +kernel), List.mem_of_getElem? (i := 687) (by decide +kernel), List.mem_of_getElem? (i := 688) (by decide +kernel)⟩
theorem lw_p29 : lw_okq (⟨"TapedLines$Calculator", "cellAt", "(I)I"⟩, 6) := ⟨⟨by decide +kernel, by decide +kernel⟩, List.mem_of_getElem? (i := 104) (by decide +kernel), List.mem_of_getElem? (i := 699) (by decide +kernel), List.mem_of_getElem? (i := 700) (by decide +kernel)⟩
theorem lw_p30 : lw_okq (⟨"TapedLines$Calculator", "combine", "(III)I"⟩, 6) := ⟨⟨by decide +kernel, by decide +kernel⟩, List.mem_of_getElem? (i := 104) (by decide +kernel), List.mem_of_getElem? (i := 704) (by decide +kernel), List.mem_of_getElem? (i := 705) (by decide +kernel)⟩
theorem lw_p31 : lw_okq (⟨"TapedLines$Calculator", "divide", "(III)I"⟩, 6) := ⟨⟨by decide +kernel, by decide +kernel⟩, List.mem_of_getElem? (i := 104) (by decide +kernel), List.mem_of_getElem? (i := 708) (by decide +kernel), List.mem_of_getElem? (i := 709) (by decide +kernel)⟩
def lw_privs_2 : List (MethodName × Nat) := [(⟨"TapedLines$Tape", "putBit", "(I)V"⟩, 4), (⟨"TapedLines$Tape", "putByte", "(I)V"⟩, 4), (⟨"TapedLines$Tape", "hearByte", "()I"⟩, 4), (⟨"TapedLines$Tape", "hearBit", "()I"⟩, 4), (⟨"TapedLines$LineReader", "acceptsStatement", "([III)Z"⟩, 6), (⟨"TapedLines$Sheet", "appendWord", "(Ljava/lang/String;ZZ)V"⟩, 2), (⟨"java/lang/Throwable", "fillInStackTrace", "(I)Ljava/lang/Throwable;"⟩, 6), (⟨"TapedLines$Machine", "jump", "()I"⟩, 15), (⟨"TapedLines$Machine", "jumpAndKeep", "()I"⟩, 15), (⟨"TapedLines$Machine", "jumpBack", "()I"⟩, 15), (⟨"TapedLines$Machine", "jumpIf", "()I"⟩, 15), (⟨"TapedLines$Calculator", "worth", "(II)I"⟩, 6), (⟨"TapedLines$Calculator", "one", "(I)I"⟩, 6), (⟨"TapedLines$Calculator", "cellAt", "(I)I"⟩, 6), (⟨"TapedLines$Calculator", "combine", "(III)I"⟩, 6), (⟨"TapedLines$Calculator", "divide", "(III)I"⟩, 6)]
theorem lw_r2 : ∀ q ∈ lw_privs_2, lw_okq q := List.forall_mem_cons.mpr ⟨lw_p16, List.forall_mem_cons.mpr ⟨lw_p17, List.forall_mem_cons.mpr ⟨lw_p18, List.forall_mem_cons.mpr ⟨lw_p19, List.forall_mem_cons.mpr ⟨lw_p20, List.forall_mem_cons.mpr ⟨lw_p21, List.forall_mem_cons.mpr ⟨lw_p22, List.forall_mem_cons.mpr ⟨lw_p23, List.forall_mem_cons.mpr ⟨lw_p24, List.forall_mem_cons.mpr ⟨lw_p25, List.forall_mem_cons.mpr ⟨lw_p26, List.forall_mem_cons.mpr ⟨lw_p27, List.forall_mem_cons.mpr ⟨lw_p28, List.forall_mem_cons.mpr ⟨lw_p29, List.forall_mem_cons.mpr ⟨lw_p30, List.forall_mem_cons.mpr ⟨lw_p31, fun _ h => absurd h List.not_mem_nil⟩⟩⟩⟩⟩⟩⟩⟩⟩⟩⟩⟩⟩⟩⟩⟩
theorem lw_p32 : lw_okq (⟨"TapedLines$Machine", "openLoop", "()I"⟩, 15) := ⟨⟨by decide +kernel, by decide +kernel⟩, List.mem_of_getElem? (i := 81) (by decide +kernel), List.mem_of_getElem? (i := 712) (by decide +kernel), List.mem_of_getElem? (i := 713) (by decide +kernel)⟩
theorem lw_p33 : lw_okq (⟨"TapedLines$Machine", "loopOf", "(I)I"⟩, 15) := ⟨⟨by decide +kernel, by decide +kernel⟩, List.mem_of_getElem? (i := 81) (by decide +kernel), List.mem_of_getElem? (i := 717) (by decide +kernel), List.mem_of_getElem? (i := 718) (by decide +kernel)⟩
theorem lw_p34 : lw_okq (⟨"TapedLines$Machine", "closeLoop", "()I"⟩, 15) := ⟨⟨by decide +kernel, by decide +kernel⟩, List.mem_of_getElem? (i := 81) (by decide +kernel), List.mem_of_getElem? (i := 721) (by decide +kernel), List.mem_of_getElem? (i := 722) (by decide +kernel)⟩
theorem lw_p35 : lw_okq (⟨"TapedLines$Machine", "write", "()I"⟩, 15) := ⟨⟨by decide +kernel, by decide +kernel⟩, List.mem_of_getElem? (i := 81) (by decide +kernel), List.mem_of_getElem? (i := 725) (by decide +kernel), List.mem_of_getElem? (i := 726) (by decide +kernel)⟩
theorem lw_p36 : lw_okq (⟨"TapedLines$Machine", "writeRow", "()I"⟩, 15) := ⟨⟨by decide +kernel, by decide +kernel⟩, List.mem_of_getElem? (i := 81) (by decide +kernel), List.mem_of_getElem? (i := 729) (by decide +kernel), List.mem_of_getElem? (i := 730) (by decide +kernel)⟩
theorem lw_p37 : lw_okq (⟨"TapedLines$Machine", "setCell", "()I"⟩, 15) := ⟨⟨by decide +kernel, by decide +kernel⟩, List.mem_of_getElem? (i := 81) (by decide +kernel), List.mem_of_getElem? (i := 740) (by decide +kernel), List.mem_of_getElem? (i := 741) (by decide +kernel)⟩
theorem lw_p38 : lw_okq (⟨"TapedLines$Machine", "setVariable", "()I"⟩, 15) := ⟨⟨by decide +kernel, by decide +kernel⟩, List.mem_of_getElem? (i := 81) (by decide +kernel), List.mem_of_getElem? (i := 744) (by decide +kernel), List.mem_of_getElem? (i := 745) (by decide +kernel)⟩
theorem lw_p39 : lw_okq (⟨"TapedLinesModel", "begin", "(I)V"⟩, 39) := ⟨⟨by decide +kernel, by decide +kernel⟩, List.mem_of_getElem? (i := 798) (by decide +kernel), List.mem_of_getElem? (i := 938) (by decide +kernel), List.mem_of_getElem? (i := 939) (by decide +kernel)⟩
theorem lw_p40 : lw_okq (⟨"TapedLinesModel", "take", "(I)Z"⟩, 39) := ⟨⟨by decide +kernel, by decide +kernel⟩, List.mem_of_getElem? (i := 798) (by decide +kernel), List.mem_of_getElem? (i := 942) (by decide +kernel), List.mem_of_getElem? (i := 943) (by decide +kernel)⟩
theorem lw_p41 : lw_okq (⟨"TapedLinesModel", "takeQuoted", "(I)Z"⟩, 39) := ⟨⟨by decide +kernel, by decide +kernel⟩, List.mem_of_getElem? (i := 798) (by decide +kernel), List.mem_of_getElem? (i := 946) (by decide +kernel), List.mem_of_getElem? (i := 947) (by decide +kernel)⟩
theorem lw_p42 : lw_okq (⟨"TapedLinesModel", "keep", "(I)V"⟩, 39) := ⟨⟨by decide +kernel, by decide +kernel⟩, List.mem_of_getElem? (i := 798) (by decide +kernel), List.mem_of_getElem? (i := 950) (by decide +kernel), List.mem_of_getElem? (i := 951) (by decide +kernel)⟩
theorem lw_p43 : lw_okq (⟨"TapedLinesModel", "go", "(I)Z"⟩, 39) := ⟨⟨by decide +kernel, by decide +kernel⟩, List.mem_of_getElem? (i := 798) (by decide +kernel), List.mem_of_getElem? (i := 954) (by decide +kernel), List.mem_of_getElem? (i := 955) (by decide +kernel)⟩
theorem lw_p44 : lw_okq (⟨"TapedLinesModel", "spell", "(I)Z"⟩, 39) := ⟨⟨by decide +kernel, by decide +kernel⟩, List.mem_of_getElem? (i := 798) (by decide +kernel), List.mem_of_getElem? (i := 958) (by decide +kernel), List.mem_of_getElem? (i := 959) (by decide +kernel)⟩
theorem lw_p45 : lw_okq (⟨"TapedLinesModel", "pass", "(I)Z"⟩, 39) := ⟨⟨by decide +kernel, by decide +kernel⟩, List.mem_of_getElem? (i := 798) (by decide +kernel), List.mem_of_getElem? (i := 969) (by decide +kernel), List.mem_of_getElem? (i := 970) (by decide +kernel)⟩
theorem lw_p46 : lw_okq (⟨"TapedLinesModel", "open", "(I)Z"⟩, 39) := ⟨⟨by decide +kernel, by decide +kernel⟩, List.mem_of_getElem? (i := 798) (by decide +kernel), List.mem_of_getElem? (i := 973) (by decide +kernel), List.mem_of_getElem? (i := 974) (by decide +kernel)⟩
theorem lw_p47 : lw_okq (⟨"TapedLinesModel", "takeSpace", "()Z"⟩, 39) := ⟨⟨by decide +kernel, by decide +kernel⟩, List.mem_of_getElem? (i := 798) (by decide +kernel), List.mem_of_getElem? (i := 977) (by decide +kernel), List.mem_of_getElem? (i := 978) (by decide +kernel)⟩
def lw_privs_3 : List (MethodName × Nat) := [(⟨"TapedLines$Machine", "openLoop", "()I"⟩, 15), (⟨"TapedLines$Machine", "loopOf", "(I)I"⟩, 15), (⟨"TapedLines$Machine", "closeLoop", "()I"⟩, 15), (⟨"TapedLines$Machine", "write", "()I"⟩, 15), (⟨"TapedLines$Machine", "writeRow", "()I"⟩, 15), (⟨"TapedLines$Machine", "setCell", "()I"⟩, 15), (⟨"TapedLines$Machine", "setVariable", "()I"⟩, 15), (⟨"TapedLinesModel", "begin", "(I)V"⟩, 39), (⟨"TapedLinesModel", "take", "(I)Z"⟩, 39), (⟨"TapedLinesModel", "takeQuoted", "(I)Z"⟩, 39), (⟨"TapedLinesModel", "keep", "(I)V"⟩, 39), (⟨"TapedLinesModel", "go", "(I)Z"⟩, 39), (⟨"TapedLinesModel", "spell", "(I)Z"⟩, 39), (⟨"TapedLinesModel", "pass", "(I)Z"⟩, 39), (⟨"TapedLinesModel", "open", "(I)Z"⟩, 39), (⟨"TapedLinesModel", "takeSpace", "()Z"⟩, 39)]
theorem lw_r3 : ∀ q ∈ lw_privs_3, lw_okq q := List.forall_mem_cons.mpr ⟨lw_p32, List.forall_mem_cons.mpr ⟨lw_p33, List.forall_mem_cons.mpr ⟨lw_p34, List.forall_mem_cons.mpr ⟨lw_p35, List.forall_mem_cons.mpr ⟨lw_p36, List.forall_mem_cons.mpr ⟨lw_p37, List.forall_mem_cons.mpr ⟨lw_p38, List.forall_mem_cons.mpr ⟨lw_p39, List.forall_mem_cons.mpr ⟨lw_p40, List.forall_mem_cons.mpr ⟨lw_p41, List.forall_mem_cons.mpr ⟨lw_p42, List.forall_mem_cons.mpr ⟨lw_p43, List.forall_mem_cons.mpr ⟨lw_p44, List.forall_mem_cons.mpr ⟨lw_p45, List.forall_mem_cons.mpr ⟨lw_p46, List.forall_mem_cons.mpr ⟨lw_p47, fun _ h => absurd h List.not_mem_nil⟩⟩⟩⟩⟩⟩⟩⟩⟩⟩⟩⟩⟩⟩⟩⟩
theorem lw_p48 : lw_okq (⟨"TapedLinesModel", "takeDigit", "(I)Z"⟩, 39) := ⟨⟨by decide +kernel, by decide +kernel⟩, List.mem_of_getElem? (i := 798) (by decide +kernel), List.mem_of_getElem? (i := 984) (by decide +kernel), List.mem_of_getElem? (i := 985) (by decide +kernel)⟩
theorem lw_p49 : lw_okq (⟨"TapedLinesModel", "lengthen", "(IIZ)Z"⟩, 39) := ⟨⟨by decide +kernel, by decide +kernel⟩, List.mem_of_getElem? (i := 798) (by decide +kernel), List.mem_of_getElem? (i := 988) (by decide +kernel), List.mem_of_getElem? (i := 989) (by decide +kernel)⟩
theorem lw_p50 : lw_okq (⟨"TapedLinesModel", "possible", "()I"⟩, 39) := ⟨⟨by decide +kernel, by decide +kernel⟩, List.mem_of_getElem? (i := 798) (by decide +kernel), List.mem_of_getElem? (i := 992) (by decide +kernel), List.mem_of_getElem? (i := 993) (by decide +kernel)⟩
theorem lw_p51 : lw_okq (⟨"TapedLinesModel", "takeOther", "(I)Z"⟩, 39) := ⟨⟨by decide +kernel, by decide +kernel⟩, List.mem_of_getElem? (i := 798) (by decide +kernel), List.mem_of_getElem? (i := 996) (by decide +kernel), List.mem_of_getElem? (i := 997) (by decide +kernel)⟩
theorem lw_p52 : lw_okq (⟨"TapedLinesModel", "takeFirst", "(I)Z"⟩, 39) := ⟨⟨by decide +kernel, by decide +kernel⟩, List.mem_of_getElem? (i := 798) (by decide +kernel), List.mem_of_getElem? (i := 1000) (by decide +kernel), List.mem_of_getElem? (i := 1001) (by decide +kernel)⟩
theorem lw_p53 : lw_okq (⟨"TapedLinesModel", "takeBegin", "(I)Z"⟩, 39) := ⟨⟨by decide +kernel, by decide +kernel⟩, List.mem_of_getElem? (i := 798) (by decide +kernel), List.mem_of_getElem? (i := 1004) (by decide +kernel), List.mem_of_getElem? (i := 1005) (by decide +kernel)⟩
theorem lw_p54 : lw_okq (⟨"TapedLinesModel", "takeOne", "(I)Z"⟩, 39) := ⟨⟨by decide +kernel, by decide +kernel⟩, List.mem_of_getElem? (i := 798) (by decide +kernel), List.mem_of_getElem? (i := 1011) (by decide +kernel), List.mem_of_getElem? (i := 1012) (by decide +kernel)⟩
theorem lw_p55 : lw_okq (⟨"TapedLinesModel", "takeSign", "(III)Z"⟩, 39) := ⟨⟨by decide +kernel, by decide +kernel⟩, List.mem_of_getElem? (i := 798) (by decide +kernel), List.mem_of_getElem? (i := 1015) (by decide +kernel), List.mem_of_getElem? (i := 1016) (by decide +kernel)⟩
theorem lw_p56 : lw_okq (⟨"TapedLinesModel", "takeBehind", "(I)Z"⟩, 39) := ⟨⟨by decide +kernel, by decide +kernel⟩, List.mem_of_getElem? (i := 798) (by decide +kernel), List.mem_of_getElem? (i := 1019) (by decide +kernel), List.mem_of_getElem? (i := 1020) (by decide +kernel)⟩
theorem lw_p57 : lw_okq (⟨"TapedLinesModel", "isWhole", "()Z"⟩, 39) := ⟨⟨by decide +kernel, by decide +kernel⟩, List.mem_of_getElem? (i := 798) (by decide +kernel), List.mem_of_getElem? (i := 1023) (by decide +kernel), List.mem_of_getElem? (i := 1024) (by decide +kernel)⟩
theorem lw_p58 : lw_okq (⟨"TapedLinesModel", "find", "(I)I"⟩, 39) := ⟨⟨by decide +kernel, by decide +kernel⟩, List.mem_of_getElem? (i := 798) (by decide +kernel), List.mem_of_getElem? (i := 1027) (by decide +kernel), List.mem_of_getElem? (i := 1028) (by decide +kernel)⟩
theorem lw_p59 : lw_okq (⟨"TapedLinesModel", "remove", "(I)V"⟩, 39) := ⟨⟨by decide +kernel, by decide +kernel⟩, List.mem_of_getElem? (i := 798) (by decide +kernel), List.mem_of_getElem? (i := 1031) (by decide +kernel), List.mem_of_getElem? (i := 1032) (by decide +kernel)⟩
theorem lw_p60 : lw_okq (⟨"TapedLinesModel", "insert", "(I)V"⟩, 39) := ⟨⟨by decide +kernel, by decide +kernel⟩, List.mem_of_getElem? (i := 798) (by decide +kernel), List.mem_of_getElem? (i := 1035) (by decide +kernel), List.mem_of_getElem? (i := 1036) (by decide +kernel)⟩
theorem lw_p61 : lw_okq (⟨"TapedLinesModel", "countLines", "()I"⟩, 39) := ⟨⟨by decide +kernel, by decide +kernel⟩, List.mem_of_getElem? (i := 798) (by decide +kernel), List.mem_of_getElem? (i := 1043) (by decide +kernel), List.mem_of_getElem? (i := 1044) (by decide +kernel)⟩
theorem lw_p62 : lw_okq (⟨"TapedLinesModel", "refused", "(ZZ)Z"⟩, 39) := ⟨⟨by decide +kernel, by decide +kernel⟩, List.mem_of_getElem? (i := 798) (by decide +kernel), List.mem_of_getElem? (i := 1051) (by decide +kernel), List.mem_of_getElem? (i := 1052) (by decide +kernel)⟩
theorem lw_p63 : lw_okq (⟨"TapedLinesModel", "lineAt", "(I)I"⟩, 39) := ⟨⟨by decide +kernel, by decide +kernel⟩, List.mem_of_getElem? (i := 798) (by decide +kernel), List.mem_of_getElem? (i := 1055) (by decide +kernel), List.mem_of_getElem? (i := 1056) (by decide +kernel)⟩
def lw_privs_4 : List (MethodName × Nat) := [(⟨"TapedLinesModel", "takeDigit", "(I)Z"⟩, 39), (⟨"TapedLinesModel", "lengthen", "(IIZ)Z"⟩, 39), (⟨"TapedLinesModel", "possible", "()I"⟩, 39), (⟨"TapedLinesModel", "takeOther", "(I)Z"⟩, 39), (⟨"TapedLinesModel", "takeFirst", "(I)Z"⟩, 39), (⟨"TapedLinesModel", "takeBegin", "(I)Z"⟩, 39), (⟨"TapedLinesModel", "takeOne", "(I)Z"⟩, 39), (⟨"TapedLinesModel", "takeSign", "(III)Z"⟩, 39), (⟨"TapedLinesModel", "takeBehind", "(I)Z"⟩, 39), (⟨"TapedLinesModel", "isWhole", "()Z"⟩, 39), (⟨"TapedLinesModel", "find", "(I)I"⟩, 39), (⟨"TapedLinesModel", "remove", "(I)V"⟩, 39), (⟨"TapedLinesModel", "insert", "(I)V"⟩, 39), (⟨"TapedLinesModel", "countLines", "()I"⟩, 39), (⟨"TapedLinesModel", "refused", "(ZZ)Z"⟩, 39), (⟨"TapedLinesModel", "lineAt", "(I)I"⟩, 39)]
theorem lw_r4 : ∀ q ∈ lw_privs_4, lw_okq q := List.forall_mem_cons.mpr ⟨lw_p48, List.forall_mem_cons.mpr ⟨lw_p49, List.forall_mem_cons.mpr ⟨lw_p50, List.forall_mem_cons.mpr ⟨lw_p51, List.forall_mem_cons.mpr ⟨lw_p52, List.forall_mem_cons.mpr ⟨lw_p53, List.forall_mem_cons.mpr ⟨lw_p54, List.forall_mem_cons.mpr ⟨lw_p55, List.forall_mem_cons.mpr ⟨lw_p56, List.forall_mem_cons.mpr ⟨lw_p57, List.forall_mem_cons.mpr ⟨lw_p58, List.forall_mem_cons.mpr ⟨lw_p59, List.forall_mem_cons.mpr ⟨lw_p60, List.forall_mem_cons.mpr ⟨lw_p61, List.forall_mem_cons.mpr ⟨lw_p62, List.forall_mem_cons.mpr ⟨lw_p63, fun _ h => absurd h List.not_mem_nil⟩⟩⟩⟩⟩⟩⟩⟩⟩⟩⟩⟩⟩⟩⟩⟩
theorem lw_p64 : lw_okq (⟨"TapedLinesModel", "putNumber", "(I)V"⟩, 39) := ⟨⟨by decide +kernel, by decide +kernel⟩, List.mem_of_getElem? (i := 798) (by decide +kernel), List.mem_of_getElem? (i := 1059) (by decide +kernel), List.mem_of_getElem? (i := 1060) (by decide +kernel)⟩
theorem lw_p65 : lw_okq (⟨"TapedLinesModel", "put", "(I)V"⟩, 39) := ⟨⟨by decide +kernel, by decide +kernel⟩, List.mem_of_getElem? (i := 798) (by decide +kernel), List.mem_of_getElem? (i := 1063) (by decide +kernel), List.mem_of_getElem? (i := 1064) (by decide +kernel)⟩
theorem lw_p66 : lw_okq (⟨"TapedLinesModel", "putWord", "(I)V"⟩, 39) := ⟨⟨by decide +kernel, by decide +kernel⟩, List.mem_of_getElem? (i := 798) (by decide +kernel), List.mem_of_getElem? (i := 1067) (by decide +kernel), List.mem_of_getElem? (i := 1068) (by decide +kernel)⟩
theorem lw_p67 : lw_okq (⟨"TapedLinesModel", "step", "()Z"⟩, 39) := ⟨⟨by decide +kernel, by decide +kernel⟩, List.mem_of_getElem? (i := 798) (by decide +kernel), List.mem_of_getElem? (i := 1083) (by decide +kernel), List.mem_of_getElem? (i := 1084) (by decide +kernel)⟩
theorem lw_p68 : lw_okq (⟨"TapedLinesModel", "doWord", "(III)V"⟩, 39) := ⟨⟨by decide +kernel, by decide +kernel⟩, List.mem_of_getElem? (i := 798) (by decide +kernel), List.mem_of_getElem? (i := 1087) (by decide +kernel), List.mem_of_getElem? (i := 1088) (by decide +kernel)⟩
theorem lw_p69 : lw_okq (⟨"TapedLinesModel", "jump", "(II)V"⟩, 39) := ⟨⟨by decide +kernel, by decide +kernel⟩, List.mem_of_getElem? (i := 798) (by decide +kernel), List.mem_of_getElem? (i := 1091) (by decide +kernel), List.mem_of_getElem? (i := 1092) (by decide +kernel)⟩
theorem lw_p70 : lw_okq (⟨"TapedLinesModel", "numberAt", "(II)I"⟩, 39) := ⟨⟨by decide +kernel, by decide +kernel⟩, List.mem_of_getElem? (i := 798) (by decide +kernel), List.mem_of_getElem? (i := 1095) (by decide +kernel), List.mem_of_getElem? (i := 1096) (by decide +kernel)⟩
theorem lw_p71 : lw_okq (⟨"TapedLinesModel", "doGosub", "(II)V"⟩, 39) := ⟨⟨by decide +kernel, by decide +kernel⟩, List.mem_of_getElem? (i := 798) (by decide +kernel), List.mem_of_getElem? (i := 1099) (by decide +kernel), List.mem_of_getElem? (i := 1100) (by decide +kernel)⟩
theorem lw_p72 : lw_okq (⟨"TapedLinesModel", "doReturn", "()V"⟩, 39) := ⟨⟨by decide +kernel, by decide +kernel⟩, List.mem_of_getElem? (i := 798) (by decide +kernel), List.mem_of_getElem? (i := 1103) (by decide +kernel), List.mem_of_getElem? (i := 1104) (by decide +kernel)⟩
theorem lw_p73 : lw_okq (⟨"TapedLinesModel", "doIf", "(II)V"⟩, 39) := ⟨⟨by decide +kernel, by decide +kernel⟩, List.mem_of_getElem? (i := 798) (by decide +kernel), List.mem_of_getElem? (i := 1107) (by decide +kernel), List.mem_of_getElem? (i := 1108) (by decide +kernel)⟩
theorem lw_p74 : lw_okq (⟨"TapedLinesModel", "work", "(II)V"⟩, 39) := ⟨⟨by decide +kernel, by decide +kernel⟩, List.mem_of_getElem? (i := 798) (by decide +kernel), List.mem_of_getElem? (i := 1111) (by decide +kernel), List.mem_of_getElem? (i := 1112) (by decide +kernel)⟩
theorem lw_p75 : lw_okq (⟨"TapedLinesModel", "workOne", "(II)I"⟩, 39) := ⟨⟨by decide +kernel, by decide +kernel⟩, List.mem_of_getElem? (i := 798) (by decide +kernel), List.mem_of_getElem? (i := 1115) (by decide +kernel), List.mem_of_getElem? (i := 1116) (by decide +kernel)⟩
theorem lw_p76 : lw_okq (⟨"TapedLinesModel", "push", "(I)V"⟩, 39) := ⟨⟨by decide +kernel, by decide +kernel⟩, List.mem_of_getElem? (i := 798) (by decide +kernel), List.mem_of_getElem? (i := 1119) (by decide +kernel), List.mem_of_getElem? (i := 1120) (by decide +kernel)⟩
theorem lw_p77 : lw_okq (⟨"TapedLinesModel", "close", "()V"⟩, 39) := ⟨⟨by decide +kernel, by decide +kernel⟩, List.mem_of_getElem? (i := 798) (by decide +kernel), List.mem_of_getElem? (i := 1123) (by decide +kernel), List.mem_of_getElem? (i := 1124) (by decide +kernel)⟩
theorem lw_p78 : lw_okq (⟨"TapedLinesModel", "applyDown", "(I)V"⟩, 39) := ⟨⟨by decide +kernel, by decide +kernel⟩, List.mem_of_getElem? (i := 798) (by decide +kernel), List.mem_of_getElem? (i := 1127) (by decide +kernel), List.mem_of_getElem? (i := 1128) (by decide +kernel)⟩
theorem lw_p79 : lw_okq (⟨"TapedLinesModel", "apply", "()V"⟩, 39) := ⟨⟨by decide +kernel, by decide +kernel⟩, List.mem_of_getElem? (i := 798) (by decide +kernel), List.mem_of_getElem? (i := 1134) (by decide +kernel), List.mem_of_getElem? (i := 1135) (by decide +kernel)⟩
def lw_privs_5 : List (MethodName × Nat) := [(⟨"TapedLinesModel", "putNumber", "(I)V"⟩, 39), (⟨"TapedLinesModel", "put", "(I)V"⟩, 39), (⟨"TapedLinesModel", "putWord", "(I)V"⟩, 39), (⟨"TapedLinesModel", "step", "()Z"⟩, 39), (⟨"TapedLinesModel", "doWord", "(III)V"⟩, 39), (⟨"TapedLinesModel", "jump", "(II)V"⟩, 39), (⟨"TapedLinesModel", "numberAt", "(II)I"⟩, 39), (⟨"TapedLinesModel", "doGosub", "(II)V"⟩, 39), (⟨"TapedLinesModel", "doReturn", "()V"⟩, 39), (⟨"TapedLinesModel", "doIf", "(II)V"⟩, 39), (⟨"TapedLinesModel", "work", "(II)V"⟩, 39), (⟨"TapedLinesModel", "workOne", "(II)I"⟩, 39), (⟨"TapedLinesModel", "push", "(I)V"⟩, 39), (⟨"TapedLinesModel", "close", "()V"⟩, 39), (⟨"TapedLinesModel", "applyDown", "(I)V"⟩, 39), (⟨"TapedLinesModel", "apply", "()V"⟩, 39)]
theorem lw_r5 : ∀ q ∈ lw_privs_5, lw_okq q := List.forall_mem_cons.mpr ⟨lw_p64, List.forall_mem_cons.mpr ⟨lw_p65, List.forall_mem_cons.mpr ⟨lw_p66, List.forall_mem_cons.mpr ⟨lw_p67, List.forall_mem_cons.mpr ⟨lw_p68, List.forall_mem_cons.mpr ⟨lw_p69, List.forall_mem_cons.mpr ⟨lw_p70, List.forall_mem_cons.mpr ⟨lw_p71, List.forall_mem_cons.mpr ⟨lw_p72, List.forall_mem_cons.mpr ⟨lw_p73, List.forall_mem_cons.mpr ⟨lw_p74, List.forall_mem_cons.mpr ⟨lw_p75, List.forall_mem_cons.mpr ⟨lw_p76, List.forall_mem_cons.mpr ⟨lw_p77, List.forall_mem_cons.mpr ⟨lw_p78, List.forall_mem_cons.mpr ⟨lw_p79, fun _ h => absurd h List.not_mem_nil⟩⟩⟩⟩⟩⟩⟩⟩⟩⟩⟩⟩⟩⟩⟩⟩
theorem lw_p80 : lw_okq (⟨"TapedLinesModel", "doFor", "(II)V"⟩, 39) := ⟨⟨by decide +kernel, by decide +kernel⟩, List.mem_of_getElem? (i := 798) (by decide +kernel), List.mem_of_getElem? (i := 1138) (by decide +kernel), List.mem_of_getElem? (i := 1139) (by decide +kernel)⟩
theorem lw_p81 : lw_okq (⟨"TapedLinesModel", "loopOf", "(I)I"⟩, 39) := ⟨⟨by decide +kernel, by decide +kernel⟩, List.mem_of_getElem? (i := 798) (by decide +kernel), List.mem_of_getElem? (i := 1142) (by decide +kernel), List.mem_of_getElem? (i := 1143) (by decide +kernel)⟩
theorem lw_p82 : lw_okq (⟨"TapedLinesModel", "doNext", "(II)V"⟩, 39) := ⟨⟨by decide +kernel, by decide +kernel⟩, List.mem_of_getElem? (i := 798) (by decide +kernel), List.mem_of_getElem? (i := 1146) (by decide +kernel), List.mem_of_getElem? (i := 1147) (by decide +kernel)⟩
theorem lw_p83 : lw_okq (⟨"TapedLinesModel", "doPrint", "(II)V"⟩, 39) := ⟨⟨by decide +kernel, by decide +kernel⟩, List.mem_of_getElem? (i := 798) (by decide +kernel), List.mem_of_getElem? (i := 1150) (by decide +kernel), List.mem_of_getElem? (i := 1151) (by decide +kernel)⟩
theorem lw_p84 : lw_okq (⟨"TapedLinesModel", "show", "(I)V"⟩, 39) := ⟨⟨by decide +kernel, by decide +kernel⟩, List.mem_of_getElem? (i := 798) (by decide +kernel), List.mem_of_getElem? (i := 1154) (by decide +kernel), List.mem_of_getElem? (i := 1155) (by decide +kernel)⟩
theorem lw_p85 : lw_okq (⟨"TapedLinesModel", "doCell", "(II)V"⟩, 39) := ⟨⟨by decide +kernel, by decide +kernel⟩, List.mem_of_getElem? (i := 798) (by decide +kernel), List.mem_of_getElem? (i := 1158) (by decide +kernel), List.mem_of_getElem? (i := 1159) (by decide +kernel)⟩
theorem lw_p86 : lw_okq (⟨"TapedLinesModel", "writeBit", "(I)V"⟩, 39) := ⟨⟨by decide +kernel, by decide +kernel⟩, List.mem_of_getElem? (i := 798) (by decide +kernel), List.mem_of_getElem? (i := 1186) (by decide +kernel), List.mem_of_getElem? (i := 1187) (by decide +kernel)⟩
theorem lw_p87 : lw_okq (⟨"TapedLinesModel", "writeByte", "(I)V"⟩, 39) := ⟨⟨by decide +kernel, by decide +kernel⟩, List.mem_of_getElem? (i := 798) (by decide +kernel), List.mem_of_getElem? (i := 1190) (by decide +kernel), List.mem_of_getElem? (i := 1191) (by decide +kernel)⟩
theorem lw_p88 : lw_okq (⟨"TapedLinesModel", "readByte", "()I"⟩, 39) := ⟨⟨by decide +kernel, by decide +kernel⟩, List.mem_of_getElem? (i := 798) (by decide +kernel), List.mem_of_getElem? (i := 1202) (by decide +kernel), List.mem_of_getElem? (i := 1203) (by decide +kernel)⟩
theorem lw_p89 : lw_okq (⟨"TapedLinesModel", "readBit", "()I"⟩, 39) := ⟨⟨by decide +kernel, by decide +kernel⟩, List.mem_of_getElem? (i := 798) (by decide +kernel), List.mem_of_getElem? (i := 1206) (by decide +kernel), List.mem_of_getElem? (i := 1207) (by decide +kernel)⟩
theorem lw_p90 : lw_okq (⟨"TapedLinesModel", "isProgram", "(I)Z"⟩, 39) := ⟨⟨by decide +kernel, by decide +kernel⟩, List.mem_of_getElem? (i := 798) (by decide +kernel), List.mem_of_getElem? (i := 1210) (by decide +kernel), List.mem_of_getElem? (i := 1211) (by decide +kernel)⟩
theorem lw_p91 : lw_okq (⟨"TapedLinesModel", "isStatement", "(II)Z"⟩, 39) := ⟨⟨by decide +kernel, by decide +kernel⟩, List.mem_of_getElem? (i := 798) (by decide +kernel), List.mem_of_getElem? (i := 1214) (by decide +kernel), List.mem_of_getElem? (i := 1215) (by decide +kernel)⟩
theorem lw_p92 : lw_okq (⟨"TapedLinesModel", "takeByte", "(I)Z"⟩, 39) := ⟨⟨by decide +kernel, by decide +kernel⟩, List.mem_of_getElem? (i := 798) (by decide +kernel), List.mem_of_getElem? (i := 1218) (by decide +kernel), List.mem_of_getElem? (i := 1219) (by decide +kernel)⟩
def lw_privs_6 : List (MethodName × Nat) := [(⟨"TapedLinesModel", "doFor", "(II)V"⟩, 39), (⟨"TapedLinesModel", "loopOf", "(I)I"⟩, 39), (⟨"TapedLinesModel", "doNext", "(II)V"⟩, 39), (⟨"TapedLinesModel", "doPrint", "(II)V"⟩, 39), (⟨"TapedLinesModel", "show", "(I)V"⟩, 39), (⟨"TapedLinesModel", "doCell", "(II)V"⟩, 39), (⟨"TapedLinesModel", "writeBit", "(I)V"⟩, 39), (⟨"TapedLinesModel", "writeByte", "(I)V"⟩, 39), (⟨"TapedLinesModel", "readByte", "()I"⟩, 39), (⟨"TapedLinesModel", "readBit", "()I"⟩, 39), (⟨"TapedLinesModel", "isProgram", "(I)Z"⟩, 39), (⟨"TapedLinesModel", "isStatement", "(II)Z"⟩, 39), (⟨"TapedLinesModel", "takeByte", "(I)Z"⟩, 39)]
theorem lw_r6 : ∀ q ∈ lw_privs_6, lw_okq q := List.forall_mem_cons.mpr ⟨lw_p80, List.forall_mem_cons.mpr ⟨lw_p81, List.forall_mem_cons.mpr ⟨lw_p82, List.forall_mem_cons.mpr ⟨lw_p83, List.forall_mem_cons.mpr ⟨lw_p84, List.forall_mem_cons.mpr ⟨lw_p85, List.forall_mem_cons.mpr ⟨lw_p86, List.forall_mem_cons.mpr ⟨lw_p87, List.forall_mem_cons.mpr ⟨lw_p88, List.forall_mem_cons.mpr ⟨lw_p89, List.forall_mem_cons.mpr ⟨lw_p90, List.forall_mem_cons.mpr ⟨lw_p91, List.forall_mem_cons.mpr ⟨lw_p92, fun _ h => absurd h List.not_mem_nil⟩⟩⟩⟩⟩⟩⟩⟩⟩⟩⟩⟩⟩
def lw_privs : List (MethodName × Nat) := lw_privs_1 ++ (lw_privs_2 ++ (lw_privs_3 ++ (lw_privs_4 ++ (lw_privs_5 ++ (lw_privs_6)))))
def lw_tbl : List Cond := k2_sels lw_privs ++ tables_1
theorem lw_privs_ok : ∀ q ∈ lw_privs, lw_okq q := by
  show ∀ q ∈ lw_privs_1 ++ (lw_privs_2 ++ (lw_privs_3 ++ (lw_privs_4 ++ (lw_privs_5 ++ (lw_privs_6))))), lw_okq q
  exact List.forall_mem_append.mpr ⟨lw_r1, List.forall_mem_append.mpr ⟨lw_r2, List.forall_mem_append.mpr ⟨lw_r3, List.forall_mem_append.mpr ⟨lw_r4, List.forall_mem_append.mpr ⟨lw_r5, lw_r6⟩⟩⟩⟩⟩
def RQ0 : String := "TapedLines$Calculator"
def FQ0 : u_T := fun k => match k with
  | 0 => ("TapedLines$Calculator", "variables", "[I", true)
  | 1 => ("TapedLines$Calculator", "cells", "[I", true)
  | 2 => ("TapedLines$Calculator", "error", "I", false)
  | 3 => ("TapedLines$Calculator", "bytes", "[I", false)
  | 4 => ("TapedLines$Calculator", "at", "I", false)
  | _ => ("TapedLines$Calculator", "end", "I", false)
def yQ0 : Nat → FieldType := fun k => match k with
  | 0 => .array .int
  | 1 => .array .int
  | 2 => .int
  | 3 => .array .int
  | 4 => .int
  | _ => .int
def RQ1 : String := "TapedLines$LineReader"
def FQ1 : u_T := fun k => match k with
  | 0 => ("TapedLines$LineReader", "bytes", "[I", true)
  | 1 => ("TapedLines$LineReader", "count", "I", false)
  | 2 => ("TapedLines$LineReader", "number", "I", false)
  | 3 => ("TapedLines$LineReader", "at", "I", false)
  | 4 => ("TapedLines$LineReader", "source", "LTapedLines$Sheet;", false)
  | _ => ("TapedLines$LineReader", "spelled", "LTapedLines$Sheet;", true)
def yQ1 : Nat → FieldType := fun k => match k with
  | 0 => .array .int
  | 1 => .int
  | 2 => .int
  | 3 => .int
  | 4 => .object "TapedLines$Sheet"
  | _ => .object "TapedLines$Sheet"
def RQ2 : String := "TapedLines$Machine"
def FQ2 : u_T := fun k => match k with
  | 0 => ("TapedLines$Machine", "program", "LTapedLines$Program;", true)
  | 1 => ("TapedLines$Machine", "variables", "[I", true)
  | 2 => ("TapedLines$Machine", "cells", "[I", true)
  | 3 => ("TapedLines$Machine", "written", "LTapedLines$Sheet;", true)
  | 4 => ("TapedLines$Machine", "state", "I", false)
  | 5 => ("TapedLines$Machine", "line", "I", false)
  | 6 => ("TapedLines$Machine", "calculator", "LTapedLines$Calculator;", true)
  | 7 => ("TapedLines$Machine", "told", "LTapedLines$Sheet;", true)
  | 8 => ("TapedLines$Machine", "loopVariables", "[I", true)
  | 9 => ("TapedLines$Machine", "loopLimits", "[I", true)
  | 10 => ("TapedLines$Machine", "loopLines", "[I", true)
  | 11 => ("TapedLines$Machine", "returns", "[I", true)
  | 12 => ("TapedLines$Machine", "loopCount", "I", false)
  | 13 => ("TapedLines$Machine", "returnCount", "I", false)
  | _ => ("TapedLines$Machine", "next", "I", false)
def yQ2 : Nat → FieldType := fun k => match k with
  | 0 => .object "TapedLines$Program"
  | 1 => .array .int
  | 2 => .array .int
  | 3 => .object "TapedLines$Sheet"
  | 4 => .int
  | 5 => .int
  | 6 => .object "TapedLines$Calculator"
  | 7 => .object "TapedLines$Sheet"
  | 8 => .array .int
  | 9 => .array .int
  | 10 => .array .int
  | 11 => .array .int
  | 12 => .int
  | 13 => .int
  | _ => .int
def RQ3 : String := "TapedLines$Program"
def FQ3 : u_T := fun k => match k with
  | 0 => ("TapedLines$Program", "bytes", "[I", true)
  | _ => ("TapedLines$Program", "count", "I", false)
def yQ3 : Nat → FieldType := fun k => match k with
  | 0 => .array .int
  | _ => .int
def RQ4 : String := "TapedLines$Sheet"
def FQ4 : u_T := fun k => match k with
  | 0 => ("TapedLines$Sheet", "marks", "[C", true)
  | _ => ("TapedLines$Sheet", "count", "I", false)
def yQ4 : Nat → FieldType := fun k => match k with
  | 0 => .array .char
  | _ => .int
def RQ5 : String := "TapedLines$Tape"
def FQ5 : u_T := fun k => match k with
  | 0 => ("TapedLines$Tape", "lengths", "[I", true)
  | 1 => ("TapedLines$Tape", "heard", "[I", true)
  | 2 => ("TapedLines$Tape", "count", "I", false)
  | _ => ("TapedLines$Tape", "at", "I", false)
def yQ5 : Nat → FieldType := fun k => match k with
  | 0 => .array .int
  | 1 => .array .int
  | 2 => .int
  | _ => .int
def RQ6 : String := "TapedLines"
def FQ6 : u_T := fun k => match k with
  | 0 => ("TapedLines", "text", "LTapedLines$Sheet;", true)
  | 1 => ("TapedLines", "page", "LTapedLines$Sheet;", true)
  | 2 => ("TapedLines", "reader", "LTapedLines$LineReader;", true)
  | 3 => ("TapedLines", "program", "LTapedLines$Program;", true)
  | 4 => ("TapedLines", "machine", "LTapedLines$Machine;", true)
  | _ => ("TapedLines", "tape", "LTapedLines$Tape;", true)
def yQ6 : Nat → FieldType := fun k => match k with
  | 0 => .object "TapedLines$Sheet"
  | 1 => .object "TapedLines$Sheet"
  | 2 => .object "TapedLines$LineReader"
  | 3 => .object "TapedLines$Program"
  | 4 => .object "TapedLines$Machine"
  | _ => .object "TapedLines$Tape"
def RQ7 : String := "TapedLinesModel"
def FQ7 : u_T := fun k => match k with
  | 0 => ("TapedLinesModel", "fault", "I", false)
  | 1 => ("TapedLinesModel", "typed", "I", false)
  | 2 => ("TapedLinesModel", "text", "[I", true)
  | 3 => ("TapedLinesModel", "stage", "I", false)
  | 4 => ("TapedLinesModel", "purpose", "I", false)
  | 5 => ("TapedLinesModel", "deep", "I", false)
  | 6 => ("TapedLinesModel", "number", "I", false)
  | 7 => ("TapedLinesModel", "line", "I", false)
  | 8 => ("TapedLinesModel", "words", "I", false)
  | 9 => ("TapedLinesModel", "letters", "I", false)
  | 10 => ("TapedLinesModel", "madeCount", "I", false)
  | 11 => ("TapedLinesModel", "made", "[I", true)
  | 12 => ("TapedLinesModel", "size", "I", false)
  | 13 => ("TapedLinesModel", "program", "[I", true)
  | 14 => ("TapedLinesModel", "state", "I", false)
  | 15 => ("TapedLinesModel", "at", "I", false)
  | 16 => ("TapedLinesModel", "variables", "[I", true)
  | 17 => ("TapedLinesModel", "cells", "[I", true)
  | 18 => ("TapedLinesModel", "loops", "I", false)
  | 19 => ("TapedLinesModel", "loopVariable", "[I", true)
  | 20 => ("TapedLinesModel", "loopLimit", "[I", true)
  | 21 => ("TapedLinesModel", "loopLine", "[I", true)
  | 22 => ("TapedLinesModel", "returns", "I", false)
  | 23 => ("TapedLinesModel", "returnLine", "[I", true)
  | 24 => ("TapedLinesModel", "shown", "I", false)
  | 25 => ("TapedLinesModel", "output", "[I", true)
  | 26 => ("TapedLinesModel", "error", "I", false)
  | 27 => ("TapedLinesModel", "result", "I", false)
  | 28 => ("TapedLinesModel", "place", "I", false)
  | 29 => ("TapedLinesModel", "valueCount", "I", false)
  | 30 => ("TapedLinesModel", "values", "[I", true)
  | 31 => ("TapedLinesModel", "signCount", "I", false)
  | 32 => ("TapedLinesModel", "signs", "[I", true)
  | 33 => ("TapedLinesModel", "waves", "I", false)
  | 34 => ("TapedLinesModel", "wave", "[I", true)
  | 35 => ("TapedLinesModel", "head", "I", false)
  | 36 => ("TapedLinesModel", "torn", "Z", false)
  | 37 => ("TapedLinesModel", "written", "I", false)
  | _ => ("TapedLinesModel", "page", "[I", true)
def yQ7 : Nat → FieldType := fun k => match k with
  | 0 => .int
  | 1 => .int
  | 2 => .array .int
  | 3 => .int
  | 4 => .int
  | 5 => .int
  | 6 => .int
  | 7 => .int
  | 8 => .int
  | 9 => .int
  | 10 => .int
  | 11 => .array .int
  | 12 => .int
  | 13 => .array .int
  | 14 => .int
  | 15 => .int
  | 16 => .array .int
  | 17 => .array .int
  | 18 => .int
  | 19 => .array .int
  | 20 => .array .int
  | 21 => .array .int
  | 22 => .int
  | 23 => .array .int
  | 24 => .int
  | 25 => .array .int
  | 26 => .int
  | 27 => .int
  | 28 => .int
  | 29 => .int
  | 30 => .array .int
  | 31 => .int
  | 32 => .array .int
  | 33 => .int
  | 34 => .array .int
  | 35 => .int
  | 36 => .boolean
  | 37 => .int
  | _ => .array .int
/-- the classes whose objects the world holds -/
abbrev vwCl : List vw_C := [(RQ0, FQ0, 6), (RQ1, FQ1, 6), (RQ2, FQ2, 15), (RQ3, FQ3, 2), (RQ4, FQ4, 2), (RQ5, FQ5, 4), (RQ6, FQ6, 6), (RQ7, FQ7, 39)]
/-- the objects by number: an array (kind 0 int, 1 char, 2 long; length), or an object (class, kinds of its slots) -/
def oT : List ((Nat × Nat) ⊕ (Nat × List Nat)) := [.inr (6, [4, 6, 8, 13, 12, 27]), .inr (4, [5, 0]), .inl (1, 60), .inr (4, [7, 0]), .inl (1, 256), .inr (1, [9, 0, 0, 0, 1, 10]), .inl (0, 256), .inr (4, [11, 0]), .inl (1, 256), .inr (2, [13, 16, 17, 19, 0, 0, 15, 21, 23, 24, 25, 26, 0, 0, 0]), .inr (3, [14, 0]), .inl (0, 200), .inr (0, [16, 17, 0, 1, 0, 0]), .inl (0, 8), .inl (0, 16), .inl (0, 0), .inr (4, [20, 0]), .inl (1, 100), .inr (4, [22, 0]), .inl (1, 8), .inl (0, 6), .inl (0, 6), .inl (0, 6), .inl (0, 6), .inr (5, [28, 29, 0, 0]), .inl (0, 7754), .inl (0, 257), .inr (7, [0, 0, 31, 0, 0, 0, 0, 0, 0, 0, 0, 32, 0, 33, 0, 0, 34, 35, 0, 36, 37, 38, 0, 39, 0, 40, 0, 0, 0, 0, 41, 0, 42, 0, 43, 0, 2, 0, 44]), .inl (0, 60), .inl (0, 260), .inl (0, 260), .inl (0, 8), .inl (0, 16), .inl (0, 6), .inl (0, 6), .inl (0, 6), .inl (0, 6), .inl (0, 100), .inl (0, 260), .inl (0, 260), .inl (0, 8200), .inl (0, 400), .inl (2, 1)]
def cp (o : Nat) : Nat := match oT[o]? with
  | some (.inl (_, n)) => n
  | _ => 0
def mN : List (MethodName × Nat) := [(⟨"TapedLines", "type", "(C)Z"⟩, 1), (⟨"TapedLines", "wipe", "()I"⟩, 0), (⟨"TapedLines", "enter", "()I"⟩, 0), (⟨"TapedLines", "lines", "()I"⟩, 0), (⟨"TapedLines", "list", "(I)I"⟩, 1), (⟨"TapedLines", "programByte", "(I)I"⟩, 1), (⟨"TapedLines", "start", "()V"⟩, 0), (⟨"TapedLines", "run", "(I)I"⟩, 1), (⟨"TapedLines", "state", "()I"⟩, 0), (⟨"TapedLines", "place", "()I"⟩, 0), (⟨"TapedLines", "variable", "(I)I"⟩, 1), (⟨"TapedLines", "cell", "(I)I"⟩, 1), (⟨"TapedLines", "output", "()I"⟩, 0), (⟨"TapedLines", "save", "()I"⟩, 0), (⟨"TapedLines", "load", "()I"⟩, 0), (⟨"TapedLines", "wobble", "(II)V"⟩, 2), (⟨"TapedLines", "waves", "()I"⟩, 0), (⟨"TapedLines", "wave", "(I)I"⟩, 1), (⟨"TapedLines", "setWave", "(II)I"⟩, 2), (⟨"TapedLines", "length", "()I"⟩, 0), (⟨"TapedLines", "charAt", "(I)C"⟩, 1), (⟨"TapedLines", "isCharacter", "(I)Z"⟩, 1), (⟨"TapedLines", "isDigit", "(I)Z"⟩, 1), (⟨"TapedLines", "isVariable", "(I)Z"⟩, 1), (⟨"TapedLines", "isOperator", "(I)Z"⟩, 1), (⟨"TapedLines", "tierOf", "(I)I"⟩, 1), (⟨"TapedLines", "spelling", "(I)Ljava/lang/String;"⟩, 1), (⟨"TapedLines", "sumOf", "([II)I"⟩, 2), (⟨"TapedLinesModel", "thrown", "()I"⟩, 0), (⟨"TapedLinesModel", "refused", "(ZZ)Z"⟩, 2), (⟨"TapedLinesModel", "type", "(C)Z"⟩, 1), (⟨"TapedLinesModel", "wipe", "()I"⟩, 0), (⟨"TapedLinesModel", "letter", "(II)I"⟩, 2), (⟨"TapedLinesModel", "isDigit", "(I)Z"⟩, 1), (⟨"TapedLinesModel", "isVariable", "(I)Z"⟩, 1), (⟨"TapedLinesModel", "go", "(I)Z"⟩, 1), (⟨"TapedLinesModel", "keep", "(I)V"⟩, 1), (⟨"TapedLinesModel", "begin", "(I)V"⟩, 1), (⟨"TapedLinesModel", "open", "(I)Z"⟩, 1), (⟨"TapedLinesModel", "possible", "()I"⟩, 0), (⟨"TapedLinesModel", "pass", "(I)Z"⟩, 1), (⟨"TapedLinesModel", "spell", "(I)Z"⟩, 1), (⟨"TapedLinesModel", "takeOne", "(I)Z"⟩, 1), (⟨"TapedLinesModel", "takeBehind", "(I)Z"⟩, 1), (⟨"TapedLinesModel", "takeBegin", "(I)Z"⟩, 1), (⟨"TapedLinesModel", "lengthen", "(IIZ)Z"⟩, 3), (⟨"TapedLinesModel", "takeFirst", "(I)Z"⟩, 1), (⟨"TapedLinesModel", "takeDigit", "(I)Z"⟩, 1), (⟨"TapedLinesModel", "takeSign", "(III)Z"⟩, 3), (⟨"TapedLinesModel", "takeOther", "(I)Z"⟩, 1), (⟨"TapedLinesModel", "takeQuoted", "(I)Z"⟩, 1), (⟨"TapedLinesModel", "takeSpace", "()Z"⟩, 0), (⟨"TapedLinesModel", "take", "(I)Z"⟩, 1), (⟨"TapedLinesModel", "isWhole", "()Z"⟩, 0), (⟨"TapedLinesModel", "takeByte", "(I)Z"⟩, 1), (⟨"TapedLinesModel", "find", "(I)I"⟩, 1), (⟨"TapedLinesModel", "insert", "(I)V"⟩, 1), (⟨"TapedLinesModel", "remove", "(I)V"⟩, 1), (⟨"TapedLinesModel", "enter", "()I"⟩, 0), (⟨"TapedLinesModel", "lineAt", "(I)I"⟩, 1), (⟨"TapedLinesModel", "lines", "()I"⟩, 0), (⟨"TapedLinesModel", "countLines", "()I"⟩, 0), (⟨"TapedLinesModel", "put", "(I)V"⟩, 1), (⟨"TapedLinesModel", "putNumber", "(I)V"⟩, 1), (⟨"TapedLinesModel", "putWord", "(I)V"⟩, 1), (⟨"TapedLinesModel", "list", "(I)I"⟩, 1), (⟨"TapedLinesModel", "programByte", "(I)I"⟩, 1), (⟨"TapedLinesModel", "start", "()V"⟩, 0), (⟨"TapedLinesModel", "rank", "(I)I"⟩, 1), (⟨"TapedLinesModel", "push", "(I)V"⟩, 1), (⟨"TapedLinesModel", "apply", "()V"⟩, 0), (⟨"TapedLinesModel", "applyDown", "(I)V"⟩, 1), (⟨"TapedLinesModel", "workOne", "(II)I"⟩, 2), (⟨"TapedLinesModel", "close", "()V"⟩, 0), (⟨"TapedLinesModel", "work", "(II)V"⟩, 2), (⟨"TapedLinesModel", "numberAt", "(II)I"⟩, 2), (⟨"TapedLinesModel", "jump", "(II)V"⟩, 2), (⟨"TapedLinesModel", "loopOf", "(I)I"⟩, 1), (⟨"TapedLinesModel", "doFor", "(II)V"⟩, 2), (⟨"TapedLinesModel", "doNext", "(II)V"⟩, 2), (⟨"TapedLinesModel", "doGosub", "(II)V"⟩, 2), (⟨"TapedLinesModel", "doReturn", "()V"⟩, 0), (⟨"TapedLinesModel", "doIf", "(II)V"⟩, 2), (⟨"TapedLinesModel", "show", "(I)V"⟩, 1), (⟨"TapedLinesModel", "doPrint", "(II)V"⟩, 2), (⟨"TapedLinesModel", "doWord", "(III)V"⟩, 3), (⟨"TapedLinesModel", "doCell", "(II)V"⟩, 2), (⟨"TapedLinesModel", "step", "()Z"⟩, 0), (⟨"TapedLinesModel", "run", "(I)I"⟩, 1), (⟨"TapedLinesModel", "state", "()I"⟩, 0), (⟨"TapedLinesModel", "place", "()I"⟩, 0), (⟨"TapedLinesModel", "variable", "(I)I"⟩, 1), (⟨"TapedLinesModel", "cell", "(I)I"⟩, 1), (⟨"TapedLinesModel", "output", "()I"⟩, 0), (⟨"TapedLinesModel", "writeBit", "(I)V"⟩, 1), (⟨"TapedLinesModel", "writeByte", "(I)V"⟩, 1), (⟨"TapedLinesModel", "sumWith", "(III)I"⟩, 3), (⟨"TapedLinesModel", "save", "()I"⟩, 0), (⟨"TapedLinesModel", "readBit", "()I"⟩, 0), (⟨"TapedLinesModel", "readByte", "()I"⟩, 0), (⟨"TapedLinesModel", "isProgram", "(I)Z"⟩, 1), (⟨"TapedLinesModel", "isStatement", "(II)Z"⟩, 2), (⟨"TapedLinesModel", "load", "()I"⟩, 0), (⟨"TapedLinesModel", "wobble", "(II)V"⟩, 2), (⟨"TapedLinesModel", "waves", "()I"⟩, 0), (⟨"TapedLinesModel", "wave", "(I)I"⟩, 1), (⟨"TapedLinesModel", "setWave", "(II)I"⟩, 2), (⟨"TapedLinesModel", "length", "()I"⟩, 0), (⟨"TapedLinesModel", "charAt", "(I)C"⟩, 1), (⟨"TapedLines$Calculator", "open", "([III)V"⟩, 3), (⟨"TapedLines$Calculator", "ahead", "()I"⟩, 0), (⟨"TapedLines$Calculator", "take", "()I"⟩, 0), (⟨"TapedLines$Calculator", "takeVariable", "()I"⟩, 0), (⟨"TapedLines$Calculator", "takeNumber", "()I"⟩, 0), (⟨"TapedLines$Calculator", "expression", "()I"⟩, 0), (⟨"TapedLines$Calculator", "worth", "(II)I"⟩, 2), (⟨"TapedLines$Calculator", "one", "(I)I"⟩, 1), (⟨"TapedLines$Calculator", "cellAt", "(I)I"⟩, 1), (⟨"TapedLines$Calculator", "combine", "(III)I"⟩, 3), (⟨"TapedLines$Calculator", "divide", "(III)I"⟩, 3), (⟨"TapedLines$LineReader", "readLine", "(LTapedLines$Sheet;)Z"⟩, 1), (⟨"TapedLines$LineReader", "acceptsProgram", "([II)Z"⟩, 2), (⟨"TapedLines$LineReader", "acceptsStatement", "([III)Z"⟩, 3), (⟨"TapedLines$LineReader", "open", "(LTapedLines$Sheet;)V"⟩, 1), (⟨"TapedLines$LineReader", "reachesEnd", "()Z"⟩, 0), (⟨"TapedLines$LineReader", "readStatement", "()Z"⟩, 0), (⟨"TapedLines$LineReader", "readWord", "(I)Z"⟩, 1), (⟨"TapedLines$LineReader", "readVariable", "()Z"⟩, 0), (⟨"TapedLines$LineReader", "readMark", "(C)Z"⟩, 1), (⟨"TapedLines$LineReader", "readLineNumber", "()Z"⟩, 0), (⟨"TapedLines$LineReader", "readNumber", "(II)I"⟩, 2), (⟨"TapedLines$LineReader", "readPrinted", "()Z"⟩, 0), (⟨"TapedLines$LineReader", "readExpression", "()Z"⟩, 0), (⟨"TapedLines$LineReader", "skipSpaces", "()V"⟩, 0), (⟨"TapedLines$LineReader", "ahead", "(I)I"⟩, 1), (⟨"TapedLines$LineReader", "take", "()Z"⟩, 0), (⟨"TapedLines$LineReader", "put", "(I)V"⟩, 1), (⟨"TapedLines$Machine", "begin", "()V"⟩, 0), (⟨"TapedLines$Machine", "settle", "(I)Z"⟩, 1), (⟨"TapedLines$Machine", "arriveAt", "(I)V"⟩, 1), (⟨"TapedLines$Machine", "perform", "()I"⟩, 0), (⟨"TapedLines$Machine", "jump", "()I"⟩, 0), (⟨"TapedLines$Machine", "jumpAndKeep", "()I"⟩, 0), (⟨"TapedLines$Machine", "jumpBack", "()I"⟩, 0), (⟨"TapedLines$Machine", "jumpIf", "()I"⟩, 0), (⟨"TapedLines$Machine", "openLoop", "()I"⟩, 0), (⟨"TapedLines$Machine", "closeLoop", "()I"⟩, 0), (⟨"TapedLines$Machine", "loopOf", "(I)I"⟩, 1), (⟨"TapedLines$Machine", "write", "()I"⟩, 0), (⟨"TapedLines$Machine", "writeRow", "()I"⟩, 0), (⟨"TapedLines$Machine", "setCell", "()I"⟩, 0), (⟨"TapedLines$Machine", "setVariable", "()I"⟩, 0), (⟨"TapedLines$Program", "countLines", "()I"⟩, 0), (⟨"TapedLines$Program", "lineAt", "(I)I"⟩, 1), (⟨"TapedLines$Program", "lineNumbered", "(I)I"⟩, 1), (⟨"TapedLines$Program", "behind", "(I)I"⟩, 1), (⟨"TapedLines$Program", "replace", "(I[II)Z"⟩, 3), (⟨"TapedLines$Program", "become", "([II)V"⟩, 2), (⟨"TapedLines$Program", "firstFrom", "(I)I"⟩, 1), (⟨"TapedLines$Sheet", "append", "(C)Z"⟩, 1), (⟨"TapedLines$Sheet", "hasRoomFor", "(I)Z"⟩, 1), (⟨"TapedLines$Sheet", "appendSheet", "(LTapedLines$Sheet;)V"⟩, 1), (⟨"TapedLines$Sheet", "appendNumber", "(I)V"⟩, 1), (⟨"TapedLines$Sheet", "spell", "([III)V"⟩, 3), (⟨"TapedLines$Sheet", "appendWord", "(Ljava/lang/String;ZZ)V"⟩, 3), (⟨"TapedLines$Tape", "record", "([II)V"⟩, 2), (⟨"TapedLines$Tape", "hear", "()I"⟩, 0), (⟨"TapedLines$Tape", "heardSum", "(I)I"⟩, 1), (⟨"TapedLines$Tape", "shake", "(II)V"⟩, 2), (⟨"TapedLines$Tape", "putByte", "(I)V"⟩, 1), (⟨"TapedLines$Tape", "putBit", "(I)V"⟩, 1), (⟨"TapedLines$Tape", "hearByte", "()I"⟩, 0), (⟨"TapedLines$Tape", "hearBit", "()I"⟩, 0)]
def MW : List (Nat × Nat × Nat × Bool) := [(94, 320, 321, true), (94, 331, 332, true), (94, 335, 336, true), (94, 491, 492, true), (94, 608, 609, true), (94, 690, 691, true), (94, 499, 500, true), (94, 699, 700, true), (94, 511, 512, true), (94, 515, 516, true), (94, 848, 849, true), (94, 855, 856, true), (94, 519, 520, true), (94, 528, 529, true), (94, 548, 549, true), (94, 862, 863, true), (94, 592, 593, true), (94, 880, 881, true), (94, 887, 888, true), (94, 596, 597, true), (94, 600, 601, true), (94, 324, 0, false), (94, 355, 0, false), (94, 457, 0, false), (94, 460, 0, false), (94, 463, 0, false), (94, 382, 0, false), (94, 544, 0, false), (101, 1015, 1016, true), (101, 1145, 62, true), (101, 1019, 1020, true), (101, 1023, 1024, true), (101, 1055, 0, false), (101, 1074, 0, false), (101, 1101, 0, false), (101, 1048, 43, true), (101, 1044, 42, true), (101, 1032, 39, true), (101, 1067, 46, true), (101, 1086, 50, true), (101, 1063, 45, true), (101, 1052, 44, true), (101, 1105, 54, true), (101, 1113, 56, true), (101, 1098, 53, true), (101, 1082, 49, true), (101, 1094, 52, true), (101, 1078, 48, true), (101, 1109, 55, true), (101, 1090, 51, true), (101, 1040, 41, true), (101, 1071, 47, true), (101, 1036, 40, true), (101, 1117, 57, true), (101, 1312, 92, true), (101, 1121, 58, true), (101, 1129, 60, true), (101, 1125, 59, true), (101, 1027, 1028, true), (101, 1149, 63, true), (101, 1132, 1133, true), (101, 1137, 61, true), (101, 1157, 65, true), (101, 1153, 64, true), (101, 1161, 66, true), (101, 1140, 1141, true), (101, 1164, 1165, true), (101, 1168, 1169, true), (101, 1224, 0, false), (101, 1213, 76, true), (101, 1228, 79, true), (101, 1221, 78, true), (101, 1209, 75, true), (101, 1217, 77, true), (101, 1205, 74, true), (101, 1189, 70, true), (101, 1185, 69, true), (101, 1236, 81, true), (101, 1232, 80, true), (101, 1240, 82, true), (101, 1193, 71, true), (101, 1197, 72, true), (101, 1201, 73, true), (101, 1248, 84, true), (101, 1244, 83, true), (101, 1181, 68, true), (101, 1252, 85, true), (101, 1177, 67, true), (101, 1172, 1173, true), (101, 1255, 1256, true), (101, 1259, 1260, true), (101, 1263, 1264, true), (101, 1267, 1268, true), (101, 1271, 1272, true), (101, 1280, 86, true), (101, 1284, 87, true), (101, 1287, 0, false), (101, 1275, 1276, true), (101, 1300, 89, true), (101, 1296, 88, true), (101, 1304, 90, true), (101, 1308, 91, true), (101, 1291, 1292, true), (101, 1315, 1316, true), (101, 1320, 1321, true), (101, 1324, 1325, true), (101, 1328, 1329, true), (101, 1332, 1333, true), (101, 1336, 1337, true), (99, 738, 739, true), (99, 742, 743, true), (99, 750, 751, true), (99, 788, 789, true), (99, 754, 755, true), (99, 772, 773, true), (99, 777, 27, true), (99, 781, 28, true), (99, 793, 29, true), (99, 798, 30, true), (99, 802, 31, true), (96, 339, 340, true), (96, 569, 570, true), (96, 574, 20, true), (96, 344, 0, true), (96, 367, 5, true), (96, 371, 6, true), (96, 379, 8, true), (96, 454, 12, true), (96, 450, 11, true), (96, 442, 9, true), (96, 348, 1, true), (96, 467, 13, true), (96, 446, 10, true), (96, 352, 2, true), (96, 375, 7, true), (96, 359, 3, true), (96, 363, 4, true), (97, 503, 504, true), (97, 841, 842, true), (97, 508, 15, true), (97, 733, 734, true), (97, 747, 23, true), (97, 761, 24, true), (97, 765, 25, true), (97, 769, 26, true), (97, 806, 32, true), (97, 815, 34, true), (97, 811, 33, true), (97, 819, 35, true), (97, 823, 36, true), (97, 834, 37, true), (97, 838, 38, true), (98, 495, 496, true), (98, 612, 613, true), (98, 479, 480, true), (98, 483, 484, true), (98, 471, 472, true), (98, 588, 589, true), (98, 476, 14, true), (95, 327, 328, true), (95, 826, 827, true), (95, 523, 524, true), (95, 679, 680, true), (95, 577, 578, true), (95, 583, 21, true), (100, 532, 533, true), (100, 552, 553, true), (100, 564, 565, true), (100, 866, 867, true), (100, 541, 17, true), (100, 537, 16, true), (100, 557, 18, true), (100, 561, 19, true)]
def CN : List String := ["TapedLines$Calculator", "TapedLines$LineReader", "TapedLines$Machine", "TapedLines$Program", "TapedLines$Sheet", "TapedLines$Tape", "TapedLines", "TapedLinesModel", "TapedLinesLaw"]
def FL : List (List (Nat × Nat × Nat)) := [[(9, 0, 0), (15, 1, 0), (18, 3, 0), (21, 4, 0), (25, 5, 0), (28, 2, 0)], [(9, 0, 1), (20, 5, 1), (24, 4, 1), (35, 2, 1), (39, 1, 1), (53, 1, 4), (58, 3, 1), (111, 0, 4)], [(12, 0, 2), (21, 6, 2), (25, 0, 0), (29, 1, 2), (30, 1, 0), (33, 2, 2), (39, 3, 2), (43, 7, 2), (46, 8, 2), (49, 9, 2), (52, 10, 2), (55, 11, 2), (58, 4, 2), (62, 12, 2), (65, 13, 2), (68, 1, 4), (74, 14, 2), (77, 5, 2), (80, 1, 3), (85, 0, 3), (135, 2, 0)], [(9, 0, 3), (15, 1, 3)], [(9, 0, 4), (15, 1, 4)], [(11, 0, 5), (15, 1, 5), (18, 2, 5), (33, 3, 5)], [(14, 0, 6), (18, 1, 6), (24, 2, 6), (31, 4, 6), (35, 0, 2), (39, 3, 6), (43, 5, 6), (55, 1, 4), (63, 3, 1), (66, 2, 1), (69, 0, 1), (73, 1, 1), (80, 4, 2), (83, 1, 3), (95, 0, 3), (118, 5, 2), (121, 1, 2), (124, 2, 2), (127, 3, 2), (138, 2, 5), (145, 1, 5), (163, 0, 5), (166, 0, 4)], [(7, 2, 7), (13, 11, 7), (16, 13, 7), (19, 16, 7), (22, 17, 7), (25, 19, 7), (28, 20, 7), (31, 21, 7), (34, 23, 7), (37, 25, 7), (40, 30, 7), (43, 32, 7), (46, 34, 7), (49, 38, 7), (52, 0, 7), (56, 1, 7), (63, 3, 7), (66, 10, 7), (69, 7, 7), (72, 5, 7), (75, 4, 7), (89, 8, 7), (92, 9, 7), (105, 6, 7), (151, 12, 7), (173, 14, 7), (179, 37, 7), (198, 15, 7), (201, 18, 7), (204, 22, 7), (207, 24, 7), (210, 29, 7), (213, 31, 7), (219, 26, 7), (231, 28, 7), (240, 27, 7), (287, 33, 7), (301, 35, 7), (304, 36, 7)], []]
def ML : List (List (Nat × Nat × Nat × Nat)) := [[(31, 111, 0, 784), (35, 22, 3, 0), (39, 115, 0, 775), (43, 116, 0, 779), (47, 110, 0, 783), (50, 25, 3, 0), (53, 118, 0, 796), (57, 113, 0, 785), (60, 23, 3, 0), (63, 112, 0, 787), (66, 117, 0, 791), (69, 119, 0, 800)], [(27, 123, 0, 342), (31, 130, 0, 346), (42, 124, 0, 365), (46, 125, 0, 369), (49, 122, 0, 572), (54, 163, 0, 576), (61, 133, 0, 350), (64, 134, 0, 373), (68, 126, 0, 377), (72, 129, 0, 440), (75, 132, 0, 444), (78, 127, 0, 452), (81, 128, 0, 448), (85, 131, 0, 465), (88, 26, 3, 0), (102, 136, 0, 361), (105, 23, 3, 0), (108, 135, 0, 357), (115, 22, 3, 0), (118, 21, 3, 0), (121, 24, 3, 0)], [(71, 139, 0, 506), (81, 155, 0, 736), (88, 109, 0, 737), (92, 110, 0, 741), (96, 141, 0, 745), (99, 142, 0, 759), (102, 143, 0, 763), (105, 144, 0, 767), (108, 145, 0, 804), (111, 146, 0, 813), (114, 148, 0, 817), (117, 150, 0, 832), (120, 151, 0, 836), (123, 111, 0, 749), (126, 113, 0, 753), (129, 154, 0, 758), (132, 114, 0, 771), (138, 112, 0, 808), (141, 147, 0, 809), (144, 149, 0, 821), (147, 162, 0, 830), (150, 159, 0, 829), (154, 160, 0, 825), (158, 161, 0, 831)], [(19, 158, 0, 474), (23, 154, 0, 478), (26, 155, 0, 482)], [(19, 159, 0, 526), (29, 26, 3, 0), (33, 164, 0, 581)], [(22, 170, 0, 535), (26, 169, 0, 539), (29, 27, 3, 0), (36, 171, 0, 555), (50, 172, 0, 559)], [(47, 21, 2, 323), (51, 159, 0, 326), (59, 120, 0, 338), (74, 156, 0, 470), (84, 152, 0, 494), (88, 153, 0, 611), (96, 162, 0, 678), (99, 163, 0, 685), (103, 137, 0, 502), (112, 140, 0, 732), (115, 138, 0, 840), (130, 161, 0, 522), (134, 165, 0, 531), (139, 166, 0, 551), (142, 167, 0, 563), (148, 27, 2, 567), (152, 121, 0, 568), (156, 157, 0, 587), (159, 168, 0, 865), (170, 25, 2, 462)], [(78, 35, 0, 1046), (82, 36, 0, 1042), (86, 38, 0, 1065), (95, 32, 2, 1054), (99, 40, 0, 1061), (102, 33, 2, 1073), (108, 34, 2, 1100), (111, 45, 0, 1080), (115, 46, 0, 1092), (118, 44, 0, 1096), (121, 42, 0, 1103), (124, 48, 0, 1107), (128, 43, 0, 1111), (131, 50, 0, 1038), (134, 41, 0, 1050), (137, 51, 0, 1069), (141, 47, 0, 1076), (144, 39, 0, 1084), (148, 49, 0, 1088), (154, 37, 0, 1030), (157, 52, 0, 1034), (160, 53, 0, 1115), (163, 55, 0, 1119), (167, 57, 0, 1123), (170, 56, 0, 1127), (176, 61, 0, 1135), (182, 62, 0, 1155), (185, 29, 0, 1143), (189, 59, 0, 1147), (192, 63, 0, 1151), (195, 64, 0, 1159), (216, 69, 0, 1211), (222, 68, 2, 1223), (225, 70, 0, 1226), (228, 71, 0, 1219), (234, 72, 0, 1207), (237, 73, 0, 1215), (243, 75, 0, 1187), (246, 74, 0, 1203), (250, 77, 0, 1234), (253, 76, 0, 1183), (256, 83, 0, 1246), (259, 80, 0, 1191), (262, 81, 0, 1195), (265, 82, 0, 1199), (268, 78, 0, 1230), (271, 79, 0, 1238), (274, 85, 0, 1179), (278, 84, 0, 1242), (281, 86, 0, 1250), (284, 87, 0, 1175), (290, 94, 0, 1278), (294, 95, 0, 1282), (297, 96, 2, 1286), (308, 98, 0, 1298), (311, 101, 0, 1306), (315, 54, 0, 1310), (318, 99, 0, 1294), (321, 100, 0, 1302)], [(7, 4, 0, 607), (15, 5, 0, 689), (18, 7, 0, 698), (25, 10, 0, 847), (28, 11, 0, 854), (31, 15, 0, 861), (35, 17, 0, 879), (38, 18, 0, 886), (46, 0, 0, 319), (50, 30, 0, 1018), (51, 1, 0, 330), (55, 31, 0, 1022), (56, 2, 0, 334), (59, 58, 0, 1026), (60, 3, 0, 490), (63, 60, 0, 1131), (69, 65, 0, 1139), (70, 28, 0, 1014), (75, 66, 0, 1163), (76, 6, 0, 498), (79, 67, 0, 1167), (82, 88, 0, 1171), (83, 8, 0, 510), (86, 89, 0, 1254), (87, 9, 0, 514), (90, 90, 0, 1258), (93, 91, 0, 1262), (96, 92, 0, 1266), (97, 12, 0, 518), (100, 93, 0, 1270), (101, 13, 0, 527), (104, 97, 0, 1274), (105, 14, 0, 547), (108, 102, 0, 1290), (112, 103, 0, 1314), (113, 16, 0, 591), (116, 104, 0, 1319), (119, 105, 0, 1323), (123, 106, 0, 1327), (124, 19, 0, 595), (127, 107, 0, 1331), (128, 20, 0, 599), (132, 108, 0, 1335)]]
def KL : List (List (Nat × Nat)) := [[], [], [], [], [], [(40, 1103515245)], [(189, 65535)], [(59, 512487), (60, 2805223), (61, 489345202), (62, 680110), (293, 65535), (324, 1103515245)], []]
def XC : List String := ["java/lang/IndexOutOfBoundsException", "java/lang/IllegalArgumentException", "java/lang/IllegalStateException"]
def XD : List MethodName := [⟨"java/lang/RuntimeException", "<init>", "()V"⟩, ⟨"java/lang/Exception", "<init>", "()V"⟩, ⟨"java/lang/Throwable", "<init>", "()V"⟩]
def XL : List (String × String × String) := [("java/lang/Throwable", "UNASSIGNED_STACK", "[Ljava/lang/StackTraceElement;"), ("java/lang/Throwable", "SUPPRESSED_SENTINEL", "Ljava/util/List;")]
def XN : List (Nat × Nat) := [(2, 1), (1, 0)]
def q_host : String := "TapedLines"
def NF : List (String × Nat × String × String × String × String) := []
def NM : List (String × Nat × MethodName × String) := [("TapedLines$LineReader", 115, ⟨"TapedLines", "isDigit", "(I)Z"⟩, "TapedLines"), ("TapedLines$LineReader", 88, ⟨"TapedLines", "spelling", "(I)Ljava/lang/String;"⟩, "TapedLines"), ("TapedLines$LineReader", 105, ⟨"TapedLines", "isVariable", "(I)Z"⟩, "TapedLines"), ("TapedLines$LineReader", 121, ⟨"TapedLines", "isOperator", "(I)Z"⟩, "TapedLines"), ("TapedLines$LineReader", 118, ⟨"TapedLines", "isCharacter", "(I)Z"⟩, "TapedLines"), ("TapedLines$Tape", 29, ⟨"TapedLines", "sumOf", "([II)I"⟩, "TapedLines"), ("TapedLines$Sheet", 29, ⟨"TapedLines", "spelling", "(I)Ljava/lang/String;"⟩, "TapedLines"), ("TapedLines$Calculator", 35, ⟨"TapedLines", "isDigit", "(I)Z"⟩, "TapedLines"), ("TapedLines$Calculator", 60, ⟨"TapedLines", "isVariable", "(I)Z"⟩, "TapedLines"), ("TapedLines$Calculator", 50, ⟨"TapedLines", "tierOf", "(I)I"⟩, "TapedLines")]
def SR : List (String × Nat × String × Nat) := [("TapedLines", 173, "GOTO", 0), ("TapedLines", 175, "GOSUB", 1), ("TapedLines", 177, "RETURN", 2), ("TapedLines", 179, "IF", 3), ("TapedLines", 181, "FOR", 4), ("TapedLines", 183, "TO", 5), ("TapedLines", 185, "NEXT", 6), ("TapedLines", 187, "END", 7)]
def q_len : List Nat := [4, 5, 6, 2, 3, 2, 4, 3]
def q_byt : List (List Int32) := [[71, 79, 84, 79], [71, 79, 83, 85, 66], [82, 69, 84, 85, 82, 78], [73, 70], [70, 79, 82], [84, 79], [78, 69, 88, 84], [69, 78, 68]]
def q_exn : Nat → String
  | 0 => "java/lang/IndexOutOfBoundsException"
  | 1 => "java/lang/IllegalArgumentException"
  | _ => "java/lang/IllegalStateException"
def WG : List Cond := lw_tbl.filter goodWord
def q_in (w : Cond) : Bool := goodWord w && decide (w ∈ lw_tbl)
theorem q_in_spec {w : Cond} (h : q_in w = true) : w ∈ WG := by
  simp only [q_in, Bool.and_eq_true, decide_eq_true_eq] at h
  exact List.mem_filter.mpr ⟨h.2, h.1⟩
theorem q_wgood : ∀ w ∈ WG, (w.onTables && w.keeps) = true ∨ ∃ ty, w = .arrayClass ty := fun w h => good_of_word (List.mem_filter.mp h).2
theorem q_t1 {w : Cond} (hg : goodWord w = true) (h : w ∈ tables_1_1) : w ∈ WG := List.mem_filter.mpr ⟨List.mem_append_right _ (show w ∈ tables_1_1 ++ (tables_1_2 ++ (tables_1_3 ++ (tables_1_4 ++ (tables_1_5 ++ tables_1_6)))) from List.mem_append_left _ h), hg⟩
theorem q_t2 {w : Cond} (hg : goodWord w = true) (h : w ∈ tables_1_2) : w ∈ WG := List.mem_filter.mpr ⟨List.mem_append_right _ (show w ∈ tables_1_1 ++ (tables_1_2 ++ (tables_1_3 ++ (tables_1_4 ++ (tables_1_5 ++ tables_1_6)))) from List.mem_append_right _ (List.mem_append_left _ h)), hg⟩
theorem q_t3 {w : Cond} (hg : goodWord w = true) (h : w ∈ tables_1_3) : w ∈ WG := List.mem_filter.mpr ⟨List.mem_append_right _ (show w ∈ tables_1_1 ++ (tables_1_2 ++ (tables_1_3 ++ (tables_1_4 ++ (tables_1_5 ++ tables_1_6)))) from List.mem_append_right _ (List.mem_append_right _ (List.mem_append_left _ h))), hg⟩
theorem q_t4 {w : Cond} (hg : goodWord w = true) (h : w ∈ tables_1_4) : w ∈ WG := List.mem_filter.mpr ⟨List.mem_append_right _ (show w ∈ tables_1_1 ++ (tables_1_2 ++ (tables_1_3 ++ (tables_1_4 ++ (tables_1_5 ++ tables_1_6)))) from List.mem_append_right _ (List.mem_append_right _ (List.mem_append_right _ (List.mem_append_left _ h)))), hg⟩
theorem q_t5 {w : Cond} (hg : goodWord w = true) (h : w ∈ tables_1_5) : w ∈ WG := List.mem_filter.mpr ⟨List.mem_append_right _ (show w ∈ tables_1_1 ++ (tables_1_2 ++ (tables_1_3 ++ (tables_1_4 ++ (tables_1_5 ++ tables_1_6)))) from List.mem_append_right _ (List.mem_append_right _ (List.mem_append_right _ (List.mem_append_right _ (List.mem_append_left _ h))))), hg⟩
theorem q_t6 {w : Cond} (hg : goodWord w = true) (h : w ∈ tables_1_6) : w ∈ WG := List.mem_filter.mpr ⟨List.mem_append_right _ (show w ∈ tables_1_1 ++ (tables_1_2 ++ (tables_1_3 ++ (tables_1_4 ++ (tables_1_5 ++ tables_1_6)))) from List.mem_append_right _ (List.mem_append_right _ (List.mem_append_right _ (List.mem_append_right _ (List.mem_append_right _ (h)))))), hg⟩
def q_classesOk : Bool := vwCl.all (fun q => (List.range q.2.2).all (fun k => q_in (u_lay q.1 q.2.1 k)) && (List.range q.2.2).all (fun a => (List.range q.2.2).all (fun b => decide (a = b) || decide ((q.2.1 a).2.1 ≠ (q.2.1 b).2.1))))
theorem q_classes_ok : q_classesOk = true := by decide +kernel
theorem q_lays (b : Nat) (q : vw_C) (h : vwCl[b]? = some q) : ∀ w ∈ u_ws q.1 q.2.1 q.2.2, w ∈ WG := by
  intro w hw
  have h1 := List.all_eq_true.mp q_classes_ok q (List.mem_of_getElem? h)
  rw [Bool.and_eq_true] at h1
  obtain ⟨k, hk, rfl⟩ := List.mem_map.mp hw
  exact q_in_spec (List.all_eq_true.mp h1.1 k hk)
theorem q_names (b : Nat) (q : vw_C) (h : vwCl[b]? = some q) : ∀ a, a < q.2.2 → ∀ b, b < q.2.2 → a ≠ b → (q.2.1 a).2.1 ≠ (q.2.1 b).2.1 := by
  intro x hx y hy hne
  have h1 := List.all_eq_true.mp q_classes_ok q (List.mem_of_getElem? h)
  rw [Bool.and_eq_true] at h1
  have h2 := List.all_eq_true.mp (List.all_eq_true.mp h1.2 x (List.mem_range.mpr hx)) y (List.mem_range.mpr hy)
  rw [Bool.or_eq_true, decide_eq_true_eq, decide_eq_true_eq] at h2
  exact h2.resolve_left hne
def q_tys : Nat → Nat → FieldType
  | 0 => yQ0
  | 1 => yQ1
  | 2 => yQ2
  | 3 => yQ3
  | 4 => yQ4
  | 5 => yQ5
  | 6 => yQ6
  | _ => yQ7
def q_tysOk : Bool := (List.range 8).all (fun b => match vwCl[b]? with
  | some q => (List.range q.2.2).all (fun k => decide (parseFieldDescriptor (q.2.1 k).2.2.1 = some (q_tys b k)))
  | none => false)
theorem q_tys_ok : q_tysOk = true := by decide +kernel
theorem q_tysok (b : Nat) (q : vw_C) (h : vwCl[b]? = some q) : ∀ k, k < q.2.2 → parseFieldDescriptor (q.2.1 k).2.2.1 = some (q_tys b k) := by
  intro k hk
  have hb : b < 8 := (List.getElem?_eq_some_iff.mp h).1
  have h1 := List.all_eq_true.mp q_tys_ok b (List.mem_range.mpr hb)
  rw [h] at h1
  exact of_decide_eq_true (List.all_eq_true.mp h1 k (List.mem_range.mpr hk))
def q_kindOk (b k : Nat) : Nat → Bool
  | 0 => decide (q_tys b k = .int)
  | 1 => match q_tys b k with
    | .object _ => true
    | .array _ => true
    | _ => false
  | 2 => decide (q_tys b k = .boolean)
  | _ => true
def q_kindsOk : Bool := oT.all (fun x => match x with
  | .inl _ => true
  | .inr (b, ks) => match vwCl[b]? with
    | some q => decide (ks.length = q.2.2) && (List.range ks.length).all (fun k => match ks[k]? with
      | some kd => q_kindOk b k kd
      | none => false)
    | none => false)
theorem q_kinds_ok : q_kindsOk = true := by decide +kernel
theorem q_kind {b : Nat} {q : vw_C} (h : vwCl[b]? = some q) {o : Nat} {ks : List Nat} (ho : oT[o]? = some (.inr (b, ks))) {a kd : Nat} (hk : ks[a]? = some kd) : a < q.2.2 ∧ q_kindOk b a kd = true := by
  have h1 := List.all_eq_true.mp q_kinds_ok _ (List.mem_of_getElem? ho)
  dsimp only at h1
  rw [h] at h1
  simp only [Bool.and_eq_true, decide_eq_true_eq] at h1
  have ha : a < ks.length := (List.getElem?_eq_some_iff.mp hk).1
  have h2 := List.all_eq_true.mp h1.2 a (List.mem_range.mpr ha)
  rw [hk] at h2
  exact ⟨h1.1 ▸ ha, h2⟩
