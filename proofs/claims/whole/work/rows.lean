section
-- ===== PART A: goes FIRST, ahead of the names: the tables' words, and 'selects' of the private methods out of them =====
/-- a private method of a class that the tables say can be made, by its rows of tables_1 -/
def lw_okq (q : MethodName × Nat) : Prop := (q.1.cls ≠ "java/lang/invoke/MethodHandle" ∧ q.1.cls ≠ "java/lang/invoke/VarHandle") ∧ Cond.instantiable q.1.cls q.2 ∈ tables_1 ∧ Cond.privateMethod q.1 ∈ tables_1 ∧ Cond.instanceMethod q.1 ∈ tables_1
theorem lw_p0 : lw_okq (⟨"TapedLines$LineReader", "open", "(LTapedLines$Sheet;)V"⟩, 6) := ⟨⟨by decide +kernel, by decide +kernel⟩, List.mem_of_getElem? (i := 49) (by decide +kernel), List.mem_of_getElem? (i := 250) (by decide +kernel), List.mem_of_getElem? (i := 251) (by decide +kernel)⟩
theorem lw_p1 : lw_okq (⟨"TapedLines$LineReader", "readNumber", "(II)I"⟩, 6) := ⟨⟨by decide +kernel, by decide +kernel⟩, List.mem_of_getElem? (i := 49) (by decide +kernel), List.mem_of_getElem? (i := 254) (by decide +kernel), List.mem_of_getElem? (i := 255) (by decide +kernel)⟩
theorem lw_p2 : lw_okq (⟨"TapedLines$LineReader", "skipSpaces", "()V"⟩, 6) := ⟨⟨by decide +kernel, by decide +kernel⟩, List.mem_of_getElem? (i := 49) (by decide +kernel), List.mem_of_getElem? (i := 258) (by decide +kernel), List.mem_of_getElem? (i := 259) (by decide +kernel)⟩
theorem lw_p3 : lw_okq (⟨"TapedLines$LineReader", "take", "()Z"⟩, 6) := ⟨⟨by decide +kernel, by decide +kernel⟩, List.mem_of_getElem? (i := 49) (by decide +kernel), List.mem_of_getElem? (i := 265) (by decide +kernel), List.mem_of_getElem? (i := 266) (by decide +kernel)⟩
theorem lw_p4 : lw_okq (⟨"TapedLines$LineReader", "put", "(I)V"⟩, 6) := ⟨⟨by decide +kernel, by decide +kernel⟩, List.mem_of_getElem? (i := 49) (by decide +kernel), List.mem_of_getElem? (i := 269) (by decide +kernel), List.mem_of_getElem? (i := 270) (by decide +kernel)⟩
theorem lw_p5 : lw_okq (⟨"TapedLines$LineReader", "reachesEnd", "()Z"⟩, 6) := ⟨⟨by decide +kernel, by decide +kernel⟩, List.mem_of_getElem? (i := 49) (by decide +kernel), List.mem_of_getElem? (i := 273) (by decide +kernel), List.mem_of_getElem? (i := 274) (by decide +kernel)⟩
theorem lw_p6 : lw_okq (⟨"TapedLines$LineReader", "readStatement", "()Z"⟩, 6) := ⟨⟨by decide +kernel, by decide +kernel⟩, List.mem_of_getElem? (i := 49) (by decide +kernel), List.mem_of_getElem? (i := 277) (by decide +kernel), List.mem_of_getElem? (i := 278) (by decide +kernel)⟩
theorem lw_p7 : lw_okq (⟨"TapedLines$LineReader", "ahead", "(I)I"⟩, 6) := ⟨⟨by decide +kernel, by decide +kernel⟩, List.mem_of_getElem? (i := 49) (by decide +kernel), List.mem_of_getElem? (i := 281) (by decide +kernel), List.mem_of_getElem? (i := 282) (by decide +kernel)⟩
theorem lw_p8 : lw_okq (⟨"TapedLines$LineReader", "readWord", "(I)Z"⟩, 6) := ⟨⟨by decide +kernel, by decide +kernel⟩, List.mem_of_getElem? (i := 49) (by decide +kernel), List.mem_of_getElem? (i := 285) (by decide +kernel), List.mem_of_getElem? (i := 286) (by decide +kernel)⟩
theorem lw_p9 : lw_okq (⟨"TapedLines$LineReader", "readLineNumber", "()Z"⟩, 6) := ⟨⟨by decide +kernel, by decide +kernel⟩, List.mem_of_getElem? (i := 49) (by decide +kernel), List.mem_of_getElem? (i := 348) (by decide +kernel), List.mem_of_getElem? (i := 349) (by decide +kernel)⟩
theorem lw_p10 : lw_okq (⟨"TapedLines$LineReader", "readExpression", "()Z"⟩, 6) := ⟨⟨by decide +kernel, by decide +kernel⟩, List.mem_of_getElem? (i := 49) (by decide +kernel), List.mem_of_getElem? (i := 352) (by decide +kernel), List.mem_of_getElem? (i := 353) (by decide +kernel)⟩
theorem lw_p11 : lw_okq (⟨"TapedLines$LineReader", "readMark", "(C)Z"⟩, 6) := ⟨⟨by decide +kernel, by decide +kernel⟩, List.mem_of_getElem? (i := 49) (by decide +kernel), List.mem_of_getElem? (i := 356) (by decide +kernel), List.mem_of_getElem? (i := 357) (by decide +kernel)⟩
theorem lw_p12 : lw_okq (⟨"TapedLines$LineReader", "readVariable", "()Z"⟩, 6) := ⟨⟨by decide +kernel, by decide +kernel⟩, List.mem_of_getElem? (i := 49) (by decide +kernel), List.mem_of_getElem? (i := 360) (by decide +kernel), List.mem_of_getElem? (i := 361) (by decide +kernel)⟩
theorem lw_p13 : lw_okq (⟨"TapedLines$LineReader", "readPrinted", "()Z"⟩, 6) := ⟨⟨by decide +kernel, by decide +kernel⟩, List.mem_of_getElem? (i := 49) (by decide +kernel), List.mem_of_getElem? (i := 373) (by decide +kernel), List.mem_of_getElem? (i := 374) (by decide +kernel)⟩
theorem lw_p14 : lw_okq (⟨"TapedLines$Program", "firstFrom", "(I)I"⟩, 2) := ⟨⟨by decide +kernel, by decide +kernel⟩, List.mem_of_getElem? (i := 87) (by decide +kernel), List.mem_of_getElem? (i := 382) (by decide +kernel), List.mem_of_getElem? (i := 383) (by decide +kernel)⟩
theorem lw_p15 : lw_okq (⟨"TapedLines$Machine", "arriveAt", "(I)V"⟩, 15) := ⟨⟨by decide +kernel, by decide +kernel⟩, List.mem_of_getElem? (i := 81) (by decide +kernel), List.mem_of_getElem? (i := 414) (by decide +kernel), List.mem_of_getElem? (i := 415) (by decide +kernel)⟩
def lw_privs_1 : List (MethodName × Nat) := [(⟨"TapedLines$LineReader", "open", "(LTapedLines$Sheet;)V"⟩, 6), (⟨"TapedLines$LineReader", "readNumber", "(II)I"⟩, 6), (⟨"TapedLines$LineReader", "skipSpaces", "()V"⟩, 6), (⟨"TapedLines$LineReader", "take", "()Z"⟩, 6), (⟨"TapedLines$LineReader", "put", "(I)V"⟩, 6), (⟨"TapedLines$LineReader", "reachesEnd", "()Z"⟩, 6), (⟨"TapedLines$LineReader", "readStatement", "()Z"⟩, 6), (⟨"TapedLines$LineReader", "ahead", "(I)I"⟩, 6), (⟨"TapedLines$LineReader", "readWord", "(I)Z"⟩, 6), (⟨"TapedLines$LineReader", "readLineNumber", "()Z"⟩, 6), (⟨"TapedLines$LineReader", "readExpression", "()Z"⟩, 6), (⟨"TapedLines$LineReader", "readMark", "(C)Z"⟩, 6), (⟨"TapedLines$LineReader", "readVariable", "()Z"⟩, 6), (⟨"TapedLines$LineReader", "readPrinted", "()Z"⟩, 6), (⟨"TapedLines$Program", "firstFrom", "(I)I"⟩, 2), (⟨"TapedLines$Machine", "arriveAt", "(I)V"⟩, 15)]
theorem lw_r1 : ∀ q ∈ lw_privs_1, lw_okq q := List.forall_mem_cons.mpr ⟨lw_p0, List.forall_mem_cons.mpr ⟨lw_p1, List.forall_mem_cons.mpr ⟨lw_p2, List.forall_mem_cons.mpr ⟨lw_p3, List.forall_mem_cons.mpr ⟨lw_p4, List.forall_mem_cons.mpr ⟨lw_p5, List.forall_mem_cons.mpr ⟨lw_p6, List.forall_mem_cons.mpr ⟨lw_p7, List.forall_mem_cons.mpr ⟨lw_p8, List.forall_mem_cons.mpr ⟨lw_p9, List.forall_mem_cons.mpr ⟨lw_p10, List.forall_mem_cons.mpr ⟨lw_p11, List.forall_mem_cons.mpr ⟨lw_p12, List.forall_mem_cons.mpr ⟨lw_p13, List.forall_mem_cons.mpr ⟨lw_p14, List.forall_mem_cons.mpr ⟨lw_p15, fun _ h => absurd h List.not_mem_nil⟩⟩⟩⟩⟩⟩⟩⟩⟩⟩⟩⟩⟩⟩⟩⟩
theorem lw_p16 : lw_okq (⟨"TapedLines$Tape", "putBit", "(I)V"⟩, 4) := ⟨⟨by decide +kernel, by decide +kernel⟩, List.mem_of_getElem? (i := 186) (by decide +kernel), List.mem_of_getElem? (i := 443) (by decide +kernel), List.mem_of_getElem? (i := 444) (by decide +kernel)⟩
theorem lw_p17 : lw_okq (⟨"TapedLines$Tape", "putByte", "(I)V"⟩, 4) := ⟨⟨by decide +kernel, by decide +kernel⟩, List.mem_of_getElem? (i := 186) (by decide +kernel), List.mem_of_getElem? (i := 447) (by decide +kernel), List.mem_of_getElem? (i := 448) (by decide +kernel)⟩
theorem lw_p18 : lw_okq (⟨"TapedLines$Tape", "hearByte", "()I"⟩, 4) := ⟨⟨by decide +kernel, by decide +kernel⟩, List.mem_of_getElem? (i := 186) (by decide +kernel), List.mem_of_getElem? (i := 463) (by decide +kernel), List.mem_of_getElem? (i := 464) (by decide +kernel)⟩
theorem lw_p19 : lw_okq (⟨"TapedLines$Tape", "hearBit", "()I"⟩, 4) := ⟨⟨by decide +kernel, by decide +kernel⟩, List.mem_of_getElem? (i := 186) (by decide +kernel), List.mem_of_getElem? (i := 467) (by decide +kernel), List.mem_of_getElem? (i := 468) (by decide +kernel)⟩
theorem lw_p20 : lw_okq (⟨"TapedLines$LineReader", "acceptsStatement", "([III)Z"⟩, 6) := ⟨⟨by decide +kernel, by decide +kernel⟩, List.mem_of_getElem? (i := 49) (by decide +kernel), List.mem_of_getElem? (i := 480) (by decide +kernel), List.mem_of_getElem? (i := 481) (by decide +kernel)⟩
theorem lw_p21 : lw_okq (⟨"TapedLines$Sheet", "appendWord", "(Ljava/lang/String;ZZ)V"⟩, 2) := ⟨⟨by decide +kernel, by decide +kernel⟩, List.mem_of_getElem? (i := 30) (by decide +kernel), List.mem_of_getElem? (i := 489) (by decide +kernel), List.mem_of_getElem? (i := 490) (by decide +kernel)⟩
theorem lw_p22 : lw_okq (⟨"java/lang/Throwable", "fillInStackTrace", "(I)Ljava/lang/Throwable;"⟩, 6) := ⟨⟨by decide +kernel, by decide +kernel⟩, List.mem_of_getElem? (i := 561) (by decide +kernel), List.mem_of_getElem? (i := 559) (by decide +kernel), List.mem_of_getElem? (i := 560) (by decide +kernel)⟩
theorem lw_p23 : lw_okq (⟨"TapedLines$Machine", "jump", "()I"⟩, 15) := ⟨⟨by decide +kernel, by decide +kernel⟩, List.mem_of_getElem? (i := 81) (by decide +kernel), List.mem_of_getElem? (i := 653) (by decide +kernel), List.mem_of_getElem? (i := 654) (by decide +kernel)⟩
theorem lw_p24 : lw_okq (⟨"TapedLines$Machine", "jumpAndKeep", "()I"⟩, 15) := ⟨⟨by decide +kernel, by decide +kernel⟩, List.mem_of_getElem? (i := 81) (by decide +kernel), List.mem_of_getElem? (i := 667) (by decide +kernel), List.mem_of_getElem? (i := 668) (by decide +kernel)⟩
theorem lw_p25 : lw_okq (⟨"TapedLines$Machine", "jumpBack", "()I"⟩, 15) := ⟨⟨by decide +kernel, by decide +kernel⟩, List.mem_of_getElem? (i := 81) (by decide +kernel), List.mem_of_getElem? (i := 671) (by decide +kernel), List.mem_of_getElem? (i := 672) (by decide +kernel)⟩
theorem lw_p26 : lw_okq (⟨"TapedLines$Machine", "jumpIf", "()I"⟩, 15) := ⟨⟨by decide +kernel, by decide +kernel⟩, List.mem_of_getElem? (i := 81) (by decide +kernel), List.mem_of_getElem? (i := 675) (by decide +kernel), List.mem_of_getElem? (i := 676) (by decide +kernel)⟩
theorem lw_p27 : lw_okq (⟨"TapedLines$Calculator", "worth", "(II)I"⟩, 6) := ⟨⟨by decide +kernel, by decide +kernel⟩, List.mem_of_getElem? (i := 104) (by decide +kernel), List.mem_of_getElem? (i := 683) (by decide +kernel), List.mem_of_getElem? (i := 684) (by decide +kernel)⟩
theorem lw_p28 : lw_okq (⟨"TapedLines$Calculator", "one", "(I)I"⟩, 6) := ⟨⟨by decide +kernel, by decide +kernel⟩, List.mem_of_getElem? (i := 104) (by decide +kernel), List.mem_of_getElem? (i := 687) (by decide +kernel), List.mem_of_getElem? (i := 688) (by decide +kernel)⟩
theorem lw_p29 : lw_okq (⟨"TapedLines$Calculator", "cellAt", "(I)I"⟩, 6) := ⟨⟨by decide +kernel, by decide +kernel⟩, List.mem_of_getElem? (i := 104) (by decide +kernel), List.mem_of_getElem? (i := 699) (by decide +kernel), List.mem_of_getElem? (i := 700) (by decide +kernel)⟩
theorem lw_p30 : lw_okq (⟨"TapedLines$Calculator", "combine", "(III)I"⟩, 6) := ⟨⟨by decide +kernel, by decide +kernel⟩, List.mem_of_getElem? (i := 104) (by decide +kernel), List.mem_of_getElem? (i := 704) (by decide +kernel), List.mem_of_getElem? (i := 705) (by decide +kernel)⟩
theorem lw_p31 : lw_okq (⟨"TapedLines$Calculator", "divide", "(III)I"⟩, 6) := ⟨⟨by decide +kernel, by decide +kernel⟩, List.mem_of_getElem? (i := 104) (by decide +kernel), List.mem_of_getElem? (i := 708) (by decide +kernel), List.mem_of_getElem? (i := 709) (by decide +kernel)⟩
def lw_privs_2 : List (MethodName × Nat) := [(⟨"TapedLines$Tape", "putBit", "(I)V"⟩, 4), (⟨"TapedLines$Tape", "putByte", "(I)V"⟩, 4), (⟨"TapedLines$Tape", "hearByte", "()I"⟩, 4), (⟨"TapedLines$Tape", "hearBit", "()I"⟩, 4), (⟨"TapedLines$LineReader", "acceptsStatement", "([III)Z"⟩, 6), (⟨"TapedLines$Sheet", "appendWord", "(Ljava/lang/String;ZZ)V"⟩, 2), (⟨"java/lang/Throwable", "fillInStackTrace", "(I)Ljava/lang/Throwable;"⟩, 6), (⟨"TapedLines$Machine", "jump", "()I"⟩, 15), (⟨"TapedLines$Machine", "jumpAndKeep", "()I"⟩, 15), (⟨"TapedLines$Machine", "jumpBack", "()I"⟩, 15), (⟨"TapedLines$Machine", "jumpIf", "()I"⟩, 15), (⟨"TapedLines$Calculator", "worth", "(II)I"⟩, 6), (⟨"TapedLines$Calculator", "one", "(I)I"⟩, 6), (⟨"TapedLines$Calculator", "cellAt", "(I)I"⟩, 6), (⟨"TapedLines$Calculator", "combine", "(III)I"⟩, 6), (⟨"TapedLines$Calculator", "divide", "(III)I"⟩, 6)]
theorem lw_r2 : ∀ q ∈ lw_privs_2, lw_okq q := List.forall_mem_cons.mpr ⟨lw_p16, List.forall_mem_cons.mpr ⟨lw_p17, List.forall_mem_cons.mpr ⟨lw_p18, List.forall_mem_cons.mpr ⟨lw_p19, List.forall_mem_cons.mpr ⟨lw_p20, List.forall_mem_cons.mpr ⟨lw_p21, List.forall_mem_cons.mpr ⟨lw_p22, List.forall_mem_cons.mpr ⟨lw_p23, List.forall_mem_cons.mpr ⟨lw_p24, List.forall_mem_cons.mpr ⟨lw_p25, List.forall_mem_cons.mpr ⟨lw_p26, List.forall_mem_cons.mpr ⟨lw_p27, List.forall_mem_cons.mpr ⟨lw_p28, List.forall_mem_cons.mpr ⟨lw_p29, List.forall_mem_cons.mpr ⟨lw_p30, List.forall_mem_cons.mpr ⟨lw_p31, fun _ h => absurd h List.not_mem_nil⟩⟩⟩⟩⟩⟩⟩⟩⟩⟩⟩⟩⟩⟩⟩⟩
theorem lw_p32 : lw_okq (⟨"TapedLines$Machine", "openLoop", "()I"⟩, 15) := ⟨⟨by decide +kernel, by decide +kernel⟩, List.mem_of_getElem? (i := 81) (by decide +kernel), List.mem_of_getElem? (i := 712) (by decide +kernel), List.mem_of_getElem? (i := 713) (by decide +kernel)⟩
theorem lw_p33 : lw_okq (⟨"TapedLines$Machine", "loopOf", "(I)I"⟩, 15) := ⟨⟨by decide +kernel, by decide +kernel⟩, List.mem_of_getElem? (i := 81) (by decide +kernel), List.mem_of_getElem? (i := 717) (by decide +kernel), List.mem_of_getElem? (i := 718) (by decide +kernel)⟩
theorem lw_p34 : lw_okq (⟨"TapedLines$Machine", "closeLoop", "()I"⟩, 15) := ⟨⟨by decide +kernel, by decide +kernel⟩, List.mem_of_getElem? (i := 81) (by decide +kernel), List.mem_of_getElem? (i := 721) (by decide +kernel), List.mem_of_getElem? (i := 722) (by decide +kernel)⟩
theorem lw_p35 : lw_okq (⟨"TapedLines$Machine", "write", "()I"⟩, 15) := ⟨⟨by decide +kernel, by decide +kernel⟩, List.mem_of_getElem? (i := 81) (by decide +kernel), List.mem_of_getElem? (i := 725) (by decide +kernel), List.mem_of_getElem? (i := 726) (by decide +kernel)⟩
theorem lw_p36 : lw_okq (⟨"TapedLines$Machine", "writeRow", "()I"⟩, 15) := ⟨⟨by decide +kernel, by decide +kernel⟩, List.mem_of_getElem? (i := 81) (by decide +kernel), List.mem_of_getElem? (i := 729) (by decide +kernel), List.mem_of_getElem? (i := 730) (by decide +kernel)⟩
theorem lw_p37 : lw_okq (⟨"TapedLines$Machine", "setCell", "()I"⟩, 15) := ⟨⟨by decide +kernel, by decide +kernel⟩, List.mem_of_getElem? (i := 81) (by decide +kernel), List.mem_of_getElem? (i := 740) (by decide +kernel), List.mem_of_getElem? (i := 741) (by decide +kernel)⟩
theorem lw_p38 : lw_okq (⟨"TapedLines$Machine", "setVariable", "()I"⟩, 15) := ⟨⟨by decide +kernel, by decide +kernel⟩, List.mem_of_getElem? (i := 81) (by decide +kernel), List.mem_of_getElem? (i := 744) (by decide +kernel), List.mem_of_getElem? (i := 745) (by decide +kernel)⟩
theorem lw_p39 : lw_okq (⟨"TapedLinesModel", "begin", "(I)V"⟩, 39) := ⟨⟨by decide +kernel, by decide +kernel⟩, List.mem_of_getElem? (i := 798) (by decide +kernel), List.mem_of_getElem? (i := 938) (by decide +kernel), List.mem_of_getElem? (i := 939) (by decide +kernel)⟩
theorem lw_p40 : lw_okq (⟨"TapedLinesModel", "take", "(I)Z"⟩, 39) := ⟨⟨by decide +kernel, by decide +kernel⟩, List.mem_of_getElem? (i := 798) (by decide +kernel), List.mem_of_getElem? (i := 942) (by decide +kernel), List.mem_of_getElem? (i := 943) (by decide +kernel)⟩
theorem lw_p41 : lw_okq (⟨"TapedLinesModel", "takeQuoted", "(I)Z"⟩, 39) := ⟨⟨by decide +kernel, by decide +kernel⟩, List.mem_of_getElem? (i := 798) (by decide +kernel), List.mem_of_getElem? (i := 946) (by decide +kernel), List.mem_of_getElem? (i := 947) (by decide +kernel)⟩
theorem lw_p42 : lw_okq (⟨"TapedLinesModel", "keep", "(I)V"⟩, 39) := ⟨⟨by decide +kernel, by decide +kernel⟩, List.mem_of_getElem? (i := 798) (by decide +kernel), List.mem_of_getElem? (i := 950) (by decide +kernel), List.mem_of_getElem? (i := 951) (by decide +kernel)⟩
theorem lw_p43 : lw_okq (⟨"TapedLinesModel", "go", "(I)Z"⟩, 39) := ⟨⟨by decide +kernel, by decide +kernel⟩, List.mem_of_getElem? (i := 798) (by decide +kernel), List.mem_of_getElem? (i := 954) (by decide +kernel), List.mem_of_getElem? (i := 955) (by decide +kernel)⟩
theorem lw_p44 : lw_okq (⟨"TapedLinesModel", "spell", "(I)Z"⟩, 39) := ⟨⟨by decide +kernel, by decide +kernel⟩, List.mem_of_getElem? (i := 798) (by decide +kernel), List.mem_of_getElem? (i := 958) (by decide +kernel), List.mem_of_getElem? (i := 959) (by decide +kernel)⟩
theorem lw_p45 : lw_okq (⟨"TapedLinesModel", "pass", "(I)Z"⟩, 39) := ⟨⟨by decide +kernel, by decide +kernel⟩, List.mem_of_getElem? (i := 798) (by decide +kernel), List.mem_of_getElem? (i := 969) (by decide +kernel), List.mem_of_getElem? (i := 970) (by decide +kernel)⟩
theorem lw_p46 : lw_okq (⟨"TapedLinesModel", "open", "(I)Z"⟩, 39) := ⟨⟨by decide +kernel, by decide +kernel⟩, List.mem_of_getElem? (i := 798) (by decide +kernel), List.mem_of_getElem? (i := 973) (by decide +kernel), List.mem_of_getElem? (i := 974) (by decide +kernel)⟩
theorem lw_p47 : lw_okq (⟨"TapedLinesModel", "takeSpace", "()Z"⟩, 39) := ⟨⟨by decide +kernel, by decide +kernel⟩, List.mem_of_getElem? (i := 798) (by decide +kernel), List.mem_of_getElem? (i := 977) (by decide +kernel), List.mem_of_getElem? (i := 978) (by decide +kernel)⟩
def lw_privs_3 : List (MethodName × Nat) := [(⟨"TapedLines$Machine", "openLoop", "()I"⟩, 15), (⟨"TapedLines$Machine", "loopOf", "(I)I"⟩, 15), (⟨"TapedLines$Machine", "closeLoop", "()I"⟩, 15), (⟨"TapedLines$Machine", "write", "()I"⟩, 15), (⟨"TapedLines$Machine", "writeRow", "()I"⟩, 15), (⟨"TapedLines$Machine", "setCell", "()I"⟩, 15), (⟨"TapedLines$Machine", "setVariable", "()I"⟩, 15), (⟨"TapedLinesModel", "begin", "(I)V"⟩, 39), (⟨"TapedLinesModel", "take", "(I)Z"⟩, 39), (⟨"TapedLinesModel", "takeQuoted", "(I)Z"⟩, 39), (⟨"TapedLinesModel", "keep", "(I)V"⟩, 39), (⟨"TapedLinesModel", "go", "(I)Z"⟩, 39), (⟨"TapedLinesModel", "spell", "(I)Z"⟩, 39), (⟨"TapedLinesModel", "pass", "(I)Z"⟩, 39), (⟨"TapedLinesModel", "open", "(I)Z"⟩, 39), (⟨"TapedLinesModel", "takeSpace", "()Z"⟩, 39)]
theorem lw_r3 : ∀ q ∈ lw_privs_3, lw_okq q := List.forall_mem_cons.mpr ⟨lw_p32, List.forall_mem_cons.mpr ⟨lw_p33, List.forall_mem_cons.mpr ⟨lw_p34, List.forall_mem_cons.mpr ⟨lw_p35, List.forall_mem_cons.mpr ⟨lw_p36, List.forall_mem_cons.mpr ⟨lw_p37, List.forall_mem_cons.mpr ⟨lw_p38, List.forall_mem_cons.mpr ⟨lw_p39, List.forall_mem_cons.mpr ⟨lw_p40, List.forall_mem_cons.mpr ⟨lw_p41, List.forall_mem_cons.mpr ⟨lw_p42, List.forall_mem_cons.mpr ⟨lw_p43, List.forall_mem_cons.mpr ⟨lw_p44, List.forall_mem_cons.mpr ⟨lw_p45, List.forall_mem_cons.mpr ⟨lw_p46, List.forall_mem_cons.mpr ⟨lw_p47, fun _ h => absurd h List.not_mem_nil⟩⟩⟩⟩⟩⟩⟩⟩⟩⟩⟩⟩⟩⟩⟩⟩
theorem lw_p48 : lw_okq (⟨"TapedLinesModel", "takeDigit", "(I)Z"⟩, 39) := ⟨⟨by decide +kernel, by decide +kernel⟩, List.mem_of_getElem? (i := 798) (by decide +kernel), List.mem_of_getElem? (i := 984) (by decide +kernel), List.mem_of_getElem? (i := 985) (by decide +kernel)⟩
theorem lw_p49 : lw_okq (⟨"TapedLinesModel", "lengthen", "(IIZ)Z"⟩, 39) := ⟨⟨by decide +kernel, by decide +kernel⟩, List.mem_of_getElem? (i := 798) (by decide +kernel), List.mem_of_getElem? (i := 988) (by decide +kernel), List.mem_of_getElem? (i := 989) (by decide +kernel)⟩
theorem lw_p50 : lw_okq (⟨"TapedLinesModel", "possible", "()I"⟩, 39) := ⟨⟨by decide +kernel, by decide +kernel⟩, List.mem_of_getElem? (i := 798) (by decide +kernel), List.mem_of_getElem? (i := 992) (by decide +kernel), List.mem_of_getElem? (i := 993) (by decide +kernel)⟩
theorem lw_p51 : lw_okq (⟨"TapedLinesModel", "takeOther", "(I)Z"⟩, 39) := ⟨⟨by decide +kernel, by decide +kernel⟩, List.mem_of_getElem? (i := 798) (by decide +kernel), List.mem_of_getElem? (i := 996) (by decide +kernel), List.mem_of_getElem? (i := 997) (by decide +kernel)⟩
theorem lw_p52 : lw_okq (⟨"TapedLinesModel", "takeFirst", "(I)Z"⟩, 39) := ⟨⟨by decide +kernel, by decide +kernel⟩, List.mem_of_getElem? (i := 798) (by decide +kernel), List.mem_of_getElem? (i := 1000) (by decide +kernel), List.mem_of_getElem? (i := 1001) (by decide +kernel)⟩
theorem lw_p53 : lw_okq (⟨"TapedLinesModel", "takeBegin", "(I)Z"⟩, 39) := ⟨⟨by decide +kernel, by decide +kernel⟩, List.mem_of_getElem? (i := 798) (by decide +kernel), List.mem_of_getElem? (i := 1004) (by decide +kernel), List.mem_of_getElem? (i := 1005) (by decide +kernel)⟩
theorem lw_p54 : lw_okq (⟨"TapedLinesModel", "takeOne", "(I)Z"⟩, 39) := ⟨⟨by decide +kernel, by decide +kernel⟩, List.mem_of_getElem? (i := 798) (by decide +kernel), List.mem_of_getElem? (i := 1011) (by decide +kernel), List.mem_of_getElem? (i := 1012) (by decide +kernel)⟩
theorem lw_p55 : lw_okq (⟨"TapedLinesModel", "takeSign", "(III)Z"⟩, 39) := ⟨⟨by decide +kernel, by decide +kernel⟩, List.mem_of_getElem? (i := 798) (by decide +kernel), List.mem_of_getElem? (i := 1015) (by decide +kernel), List.mem_of_getElem? (i := 1016) (by decide +kernel)⟩
theorem lw_p56 : lw_okq (⟨"TapedLinesModel", "takeBehind", "(I)Z"⟩, 39) := ⟨⟨by decide +kernel, by decide +kernel⟩, List.mem_of_getElem? (i := 798) (by decide +kernel), List.mem_of_getElem? (i := 1019) (by decide +kernel), List.mem_of_getElem? (i := 1020) (by decide +kernel)⟩
theorem lw_p57 : lw_okq (⟨"TapedLinesModel", "isWhole", "()Z"⟩, 39) := ⟨⟨by decide +kernel, by decide +kernel⟩, List.mem_of_getElem? (i := 798) (by decide +kernel), List.mem_of_getElem? (i := 1023) (by decide +kernel), List.mem_of_getElem? (i := 1024) (by decide +kernel)⟩
theorem lw_p58 : lw_okq (⟨"TapedLinesModel", "find", "(I)I"⟩, 39) := ⟨⟨by decide +kernel, by decide +kernel⟩, List.mem_of_getElem? (i := 798) (by decide +kernel), List.mem_of_getElem? (i := 1027) (by decide +kernel), List.mem_of_getElem? (i := 1028) (by decide +kernel)⟩
theorem lw_p59 : lw_okq (⟨"TapedLinesModel", "remove", "(I)V"⟩, 39) := ⟨⟨by decide +kernel, by decide +kernel⟩, List.mem_of_getElem? (i := 798) (by decide +kernel), List.mem_of_getElem? (i := 1031) (by decide +kernel), List.mem_of_getElem? (i := 1032) (by decide +kernel)⟩
theorem lw_p60 : lw_okq (⟨"TapedLinesModel", "insert", "(I)V"⟩, 39) := ⟨⟨by decide +kernel, by decide +kernel⟩, List.mem_of_getElem? (i := 798) (by decide +kernel), List.mem_of_getElem? (i := 1035) (by decide +kernel), List.mem_of_getElem? (i := 1036) (by decide +kernel)⟩
theorem lw_p61 : lw_okq (⟨"TapedLinesModel", "countLines", "()I"⟩, 39) := ⟨⟨by decide +kernel, by decide +kernel⟩, List.mem_of_getElem? (i := 798) (by decide +kernel), List.mem_of_getElem? (i := 1043) (by decide +kernel), List.mem_of_getElem? (i := 1044) (by decide +kernel)⟩
theorem lw_p62 : lw_okq (⟨"TapedLinesModel", "refused", "(ZZ)Z"⟩, 39) := ⟨⟨by decide +kernel, by decide +kernel⟩, List.mem_of_getElem? (i := 798) (by decide +kernel), List.mem_of_getElem? (i := 1051) (by decide +kernel), List.mem_of_getElem? (i := 1052) (by decide +kernel)⟩
theorem lw_p63 : lw_okq (⟨"TapedLinesModel", "lineAt", "(I)I"⟩, 39) := ⟨⟨by decide +kernel, by decide +kernel⟩, List.mem_of_getElem? (i := 798) (by decide +kernel), List.mem_of_getElem? (i := 1055) (by decide +kernel), List.mem_of_getElem? (i := 1056) (by decide +kernel)⟩
def lw_privs_4 : List (MethodName × Nat) := [(⟨"TapedLinesModel", "takeDigit", "(I)Z"⟩, 39), (⟨"TapedLinesModel", "lengthen", "(IIZ)Z"⟩, 39), (⟨"TapedLinesModel", "possible", "()I"⟩, 39), (⟨"TapedLinesModel", "takeOther", "(I)Z"⟩, 39), (⟨"TapedLinesModel", "takeFirst", "(I)Z"⟩, 39), (⟨"TapedLinesModel", "takeBegin", "(I)Z"⟩, 39), (⟨"TapedLinesModel", "takeOne", "(I)Z"⟩, 39), (⟨"TapedLinesModel", "takeSign", "(III)Z"⟩, 39), (⟨"TapedLinesModel", "takeBehind", "(I)Z"⟩, 39), (⟨"TapedLinesModel", "isWhole", "()Z"⟩, 39), (⟨"TapedLinesModel", "find", "(I)I"⟩, 39), (⟨"TapedLinesModel", "remove", "(I)V"⟩, 39), (⟨"TapedLinesModel", "insert", "(I)V"⟩, 39), (⟨"TapedLinesModel", "countLines", "()I"⟩, 39), (⟨"TapedLinesModel", "refused", "(ZZ)Z"⟩, 39), (⟨"TapedLinesModel", "lineAt", "(I)I"⟩, 39)]
theorem lw_r4 : ∀ q ∈ lw_privs_4, lw_okq q := List.forall_mem_cons.mpr ⟨lw_p48, List.forall_mem_cons.mpr ⟨lw_p49, List.forall_mem_cons.mpr ⟨lw_p50, List.forall_mem_cons.mpr ⟨lw_p51, List.forall_mem_cons.mpr ⟨lw_p52, List.forall_mem_cons.mpr ⟨lw_p53, List.forall_mem_cons.mpr ⟨lw_p54, List.forall_mem_cons.mpr ⟨lw_p55, List.forall_mem_cons.mpr ⟨lw_p56, List.forall_mem_cons.mpr ⟨lw_p57, List.forall_mem_cons.mpr ⟨lw_p58, List.forall_mem_cons.mpr ⟨lw_p59, List.forall_mem_cons.mpr ⟨lw_p60, List.forall_mem_cons.mpr ⟨lw_p61, List.forall_mem_cons.mpr ⟨lw_p62, List.forall_mem_cons.mpr ⟨lw_p63, fun _ h => absurd h List.not_mem_nil⟩⟩⟩⟩⟩⟩⟩⟩⟩⟩⟩⟩⟩⟩⟩⟩
theorem lw_p64 : lw_okq (⟨"TapedLinesModel", "putNumber", "(I)V"⟩, 39) := ⟨⟨by decide +kernel, by decide +kernel⟩, List.mem_of_getElem? (i := 798) (by decide +kernel), List.mem_of_getElem? (i := 1059) (by decide +kernel), List.mem_of_getElem? (i := 1060) (by decide +kernel)⟩
theorem lw_p65 : lw_okq (⟨"TapedLinesModel", "put", "(I)V"⟩, 39) := ⟨⟨by decide +kernel, by decide +kernel⟩, List.mem_of_getElem? (i := 798) (by decide +kernel), List.mem_of_getElem? (i := 1063) (by decide +kernel), List.mem_of_getElem? (i := 1064) (by decide +kernel)⟩
theorem lw_p66 : lw_okq (⟨"TapedLinesModel", "putWord", "(I)V"⟩, 39) := ⟨⟨by decide +kernel, by decide +kernel⟩, List.mem_of_getElem? (i := 798) (by decide +kernel), List.mem_of_getElem? (i := 1067) (by decide +kernel), List.mem_of_getElem? (i := 1068) (by decide +kernel)⟩
theorem lw_p67 : lw_okq (⟨"TapedLinesModel", "step", "()Z"⟩, 39) := ⟨⟨by decide +kernel, by decide +kernel⟩, List.mem_of_getElem? (i := 798) (by decide +kernel), List.mem_of_getElem? (i := 1083) (by decide +kernel), List.mem_of_getElem? (i := 1084) (by decide +kernel)⟩
theorem lw_p68 : lw_okq (⟨"TapedLinesModel", "doWord", "(III)V"⟩, 39) := ⟨⟨by decide +kernel, by decide +kernel⟩, List.mem_of_getElem? (i := 798) (by decide +kernel), List.mem_of_getElem? (i := 1087) (by decide +kernel), List.mem_of_getElem? (i := 1088) (by decide +kernel)⟩
theorem lw_p69 : lw_okq (⟨"TapedLinesModel", "jump", "(II)V"⟩, 39) := ⟨⟨by decide +kernel, by decide +kernel⟩, List.mem_of_getElem? (i := 798) (by decide +kernel), List.mem_of_getElem? (i := 1091) (by decide +kernel), List.mem_of_getElem? (i := 1092) (by decide +kernel)⟩
theorem lw_p70 : lw_okq (⟨"TapedLinesModel", "numberAt", "(II)I"⟩, 39) := ⟨⟨by decide +kernel, by decide +kernel⟩, List.mem_of_getElem? (i := 798) (by decide +kernel), List.mem_of_getElem? (i := 1095) (by decide +kernel), List.mem_of_getElem? (i := 1096) (by decide +kernel)⟩
theorem lw_p71 : lw_okq (⟨"TapedLinesModel", "doGosub", "(II)V"⟩, 39) := ⟨⟨by decide +kernel, by decide +kernel⟩, List.mem_of_getElem? (i := 798) (by decide +kernel), List.mem_of_getElem? (i := 1099) (by decide +kernel), List.mem_of_getElem? (i := 1100) (by decide +kernel)⟩
theorem lw_p72 : lw_okq (⟨"TapedLinesModel", "doReturn", "()V"⟩, 39) := ⟨⟨by decide +kernel, by decide +kernel⟩, List.mem_of_getElem? (i := 798) (by decide +kernel), List.mem_of_getElem? (i := 1103) (by decide +kernel), List.mem_of_getElem? (i := 1104) (by decide +kernel)⟩
theorem lw_p73 : lw_okq (⟨"TapedLinesModel", "doIf", "(II)V"⟩, 39) := ⟨⟨by decide +kernel, by decide +kernel⟩, List.mem_of_getElem? (i := 798) (by decide +kernel), List.mem_of_getElem? (i := 1107) (by decide +kernel), List.mem_of_getElem? (i := 1108) (by decide +kernel)⟩
theorem lw_p74 : lw_okq (⟨"TapedLinesModel", "work", "(II)V"⟩, 39) := ⟨⟨by decide +kernel, by decide +kernel⟩, List.mem_of_getElem? (i := 798) (by decide +kernel), List.mem_of_getElem? (i := 1111) (by decide +kernel), List.mem_of_getElem? (i := 1112) (by decide +kernel)⟩
theorem lw_p75 : lw_okq (⟨"TapedLinesModel", "workOne", "(II)I"⟩, 39) := ⟨⟨by decide +kernel, by decide +kernel⟩, List.mem_of_getElem? (i := 798) (by decide +kernel), List.mem_of_getElem? (i := 1115) (by decide +kernel), List.mem_of_getElem? (i := 1116) (by decide +kernel)⟩
theorem lw_p76 : lw_okq (⟨"TapedLinesModel", "push", "(I)V"⟩, 39) := ⟨⟨by decide +kernel, by decide +kernel⟩, List.mem_of_getElem? (i := 798) (by decide +kernel), List.mem_of_getElem? (i := 1119) (by decide +kernel), List.mem_of_getElem? (i := 1120) (by decide +kernel)⟩
theorem lw_p77 : lw_okq (⟨"TapedLinesModel", "close", "()V"⟩, 39) := ⟨⟨by decide +kernel, by decide +kernel⟩, List.mem_of_getElem? (i := 798) (by decide +kernel), List.mem_of_getElem? (i := 1123) (by decide +kernel), List.mem_of_getElem? (i := 1124) (by decide +kernel)⟩
theorem lw_p78 : lw_okq (⟨"TapedLinesModel", "applyDown", "(I)V"⟩, 39) := ⟨⟨by decide +kernel, by decide +kernel⟩, List.mem_of_getElem? (i := 798) (by decide +kernel), List.mem_of_getElem? (i := 1127) (by decide +kernel), List.mem_of_getElem? (i := 1128) (by decide +kernel)⟩
theorem lw_p79 : lw_okq (⟨"TapedLinesModel", "apply", "()V"⟩, 39) := ⟨⟨by decide +kernel, by decide +kernel⟩, List.mem_of_getElem? (i := 798) (by decide +kernel), List.mem_of_getElem? (i := 1134) (by decide +kernel), List.mem_of_getElem? (i := 1135) (by decide +kernel)⟩
def lw_privs_5 : List (MethodName × Nat) := [(⟨"TapedLinesModel", "putNumber", "(I)V"⟩, 39), (⟨"TapedLinesModel", "put", "(I)V"⟩, 39), (⟨"TapedLinesModel", "putWord", "(I)V"⟩, 39), (⟨"TapedLinesModel", "step", "()Z"⟩, 39), (⟨"TapedLinesModel", "doWord", "(III)V"⟩, 39), (⟨"TapedLinesModel", "jump", "(II)V"⟩, 39), (⟨"TapedLinesModel", "numberAt", "(II)I"⟩, 39), (⟨"TapedLinesModel", "doGosub", "(II)V"⟩, 39), (⟨"TapedLinesModel", "doReturn", "()V"⟩, 39), (⟨"TapedLinesModel", "doIf", "(II)V"⟩, 39), (⟨"TapedLinesModel", "work", "(II)V"⟩, 39), (⟨"TapedLinesModel", "workOne", "(II)I"⟩, 39), (⟨"TapedLinesModel", "push", "(I)V"⟩, 39), (⟨"TapedLinesModel", "close", "()V"⟩, 39), (⟨"TapedLinesModel", "applyDown", "(I)V"⟩, 39), (⟨"TapedLinesModel", "apply", "()V"⟩, 39)]
theorem lw_r5 : ∀ q ∈ lw_privs_5, lw_okq q := List.forall_mem_cons.mpr ⟨lw_p64, List.forall_mem_cons.mpr ⟨lw_p65, List.forall_mem_cons.mpr ⟨lw_p66, List.forall_mem_cons.mpr ⟨lw_p67, List.forall_mem_cons.mpr ⟨lw_p68, List.forall_mem_cons.mpr ⟨lw_p69, List.forall_mem_cons.mpr ⟨lw_p70, List.forall_mem_cons.mpr ⟨lw_p71, List.forall_mem_cons.mpr ⟨lw_p72, List.forall_mem_cons.mpr ⟨lw_p73, List.forall_mem_cons.mpr ⟨lw_p74, List.forall_mem_cons.mpr ⟨lw_p75, List.forall_mem_cons.mpr ⟨lw_p76, List.forall_mem_cons.mpr ⟨lw_p77, List.forall_mem_cons.mpr ⟨lw_p78, List.forall_mem_cons.mpr ⟨lw_p79, fun _ h => absurd h List.not_mem_nil⟩⟩⟩⟩⟩⟩⟩⟩⟩⟩⟩⟩⟩⟩⟩⟩
theorem lw_p80 : lw_okq (⟨"TapedLinesModel", "doFor", "(II)V"⟩, 39) := ⟨⟨by decide +kernel, by decide +kernel⟩, List.mem_of_getElem? (i := 798) (by decide +kernel), List.mem_of_getElem? (i := 1138) (by decide +kernel), List.mem_of_getElem? (i := 1139) (by decide +kernel)⟩
theorem lw_p81 : lw_okq (⟨"TapedLinesModel", "loopOf", "(I)I"⟩, 39) := ⟨⟨by decide +kernel, by decide +kernel⟩, List.mem_of_getElem? (i := 798) (by decide +kernel), List.mem_of_getElem? (i := 1142) (by decide +kernel), List.mem_of_getElem? (i := 1143) (by decide +kernel)⟩
theorem lw_p82 : lw_okq (⟨"TapedLinesModel", "doNext", "(II)V"⟩, 39) := ⟨⟨by decide +kernel, by decide +kernel⟩, List.mem_of_getElem? (i := 798) (by decide +kernel), List.mem_of_getElem? (i := 1146) (by decide +kernel), List.mem_of_getElem? (i := 1147) (by decide +kernel)⟩
theorem lw_p83 : lw_okq (⟨"TapedLinesModel", "doPrint", "(II)V"⟩, 39) := ⟨⟨by decide +kernel, by decide +kernel⟩, List.mem_of_getElem? (i := 798) (by decide +kernel), List.mem_of_getElem? (i := 1150) (by decide +kernel), List.mem_of_getElem? (i := 1151) (by decide +kernel)⟩
theorem lw_p84 : lw_okq (⟨"TapedLinesModel", "show", "(I)V"⟩, 39) := ⟨⟨by decide +kernel, by decide +kernel⟩, List.mem_of_getElem? (i := 798) (by decide +kernel), List.mem_of_getElem? (i := 1154) (by decide +kernel), List.mem_of_getElem? (i := 1155) (by decide +kernel)⟩
theorem lw_p85 : lw_okq (⟨"TapedLinesModel", "doCell", "(II)V"⟩, 39) := ⟨⟨by decide +kernel, by decide +kernel⟩, List.mem_of_getElem? (i := 798) (by decide +kernel), List.mem_of_getElem? (i := 1158) (by decide +kernel), List.mem_of_getElem? (i := 1159) (by decide +kernel)⟩
theorem lw_p86 : lw_okq (⟨"TapedLinesModel", "writeBit", "(I)V"⟩, 39) := ⟨⟨by decide +kernel, by decide +kernel⟩, List.mem_of_getElem? (i := 798) (by decide +kernel), List.mem_of_getElem? (i := 1186) (by decide +kernel), List.mem_of_getElem? (i := 1187) (by decide +kernel)⟩
theorem lw_p87 : lw_okq (⟨"TapedLinesModel", "writeByte", "(I)V"⟩, 39) := ⟨⟨by decide +kernel, by decide +kernel⟩, List.mem_of_getElem? (i := 798) (by decide +kernel), List.mem_of_getElem? (i := 1190) (by decide +kernel), List.mem_of_getElem? (i := 1191) (by decide +kernel)⟩
theorem lw_p88 : lw_okq (⟨"TapedLinesModel", "readByte", "()I"⟩, 39) := ⟨⟨by decide +kernel, by decide +kernel⟩, List.mem_of_getElem? (i := 798) (by decide +kernel), List.mem_of_getElem? (i := 1202) (by decide +kernel), List.mem_of_getElem? (i := 1203) (by decide +kernel)⟩
theorem lw_p89 : lw_okq (⟨"TapedLinesModel", "readBit", "()I"⟩, 39) := ⟨⟨by decide +kernel, by decide +kernel⟩, List.mem_of_getElem? (i := 798) (by decide +kernel), List.mem_of_getElem? (i := 1206) (by decide +kernel), List.mem_of_getElem? (i := 1207) (by decide +kernel)⟩
theorem lw_p90 : lw_okq (⟨"TapedLinesModel", "isProgram", "(I)Z"⟩, 39) := ⟨⟨by decide +kernel, by decide +kernel⟩, List.mem_of_getElem? (i := 798) (by decide +kernel), List.mem_of_getElem? (i := 1210) (by decide +kernel), List.mem_of_getElem? (i := 1211) (by decide +kernel)⟩
theorem lw_p91 : lw_okq (⟨"TapedLinesModel", "isStatement", "(II)Z"⟩, 39) := ⟨⟨by decide +kernel, by decide +kernel⟩, List.mem_of_getElem? (i := 798) (by decide +kernel), List.mem_of_getElem? (i := 1214) (by decide +kernel), List.mem_of_getElem? (i := 1215) (by decide +kernel)⟩
theorem lw_p92 : lw_okq (⟨"TapedLinesModel", "takeByte", "(I)Z"⟩, 39) := ⟨⟨by decide +kernel, by decide +kernel⟩, List.mem_of_getElem? (i := 798) (by decide +kernel), List.mem_of_getElem? (i := 1218) (by decide +kernel), List.mem_of_getElem? (i := 1219) (by decide +kernel)⟩
def lw_privs_6 : List (MethodName × Nat) := [(⟨"TapedLinesModel", "doFor", "(II)V"⟩, 39), (⟨"TapedLinesModel", "loopOf", "(I)I"⟩, 39), (⟨"TapedLinesModel", "doNext", "(II)V"⟩, 39), (⟨"TapedLinesModel", "doPrint", "(II)V"⟩, 39), (⟨"TapedLinesModel", "show", "(I)V"⟩, 39), (⟨"TapedLinesModel", "doCell", "(II)V"⟩, 39), (⟨"TapedLinesModel", "writeBit", "(I)V"⟩, 39), (⟨"TapedLinesModel", "writeByte", "(I)V"⟩, 39), (⟨"TapedLinesModel", "readByte", "()I"⟩, 39), (⟨"TapedLinesModel", "readBit", "()I"⟩, 39), (⟨"TapedLinesModel", "isProgram", "(I)Z"⟩, 39), (⟨"TapedLinesModel", "isStatement", "(II)Z"⟩, 39), (⟨"TapedLinesModel", "takeByte", "(I)Z"⟩, 39)]
theorem lw_r6 : ∀ q ∈ lw_privs_6, lw_okq q := List.forall_mem_cons.mpr ⟨lw_p80, List.forall_mem_cons.mpr ⟨lw_p81, List.forall_mem_cons.mpr ⟨lw_p82, List.forall_mem_cons.mpr ⟨lw_p83, List.forall_mem_cons.mpr ⟨lw_p84, List.forall_mem_cons.mpr ⟨lw_p85, List.forall_mem_cons.mpr ⟨lw_p86, List.forall_mem_cons.mpr ⟨lw_p87, List.forall_mem_cons.mpr ⟨lw_p88, List.forall_mem_cons.mpr ⟨lw_p89, List.forall_mem_cons.mpr ⟨lw_p90, List.forall_mem_cons.mpr ⟨lw_p91, List.forall_mem_cons.mpr ⟨lw_p92, fun _ h => absurd h List.not_mem_nil⟩⟩⟩⟩⟩⟩⟩⟩⟩⟩⟩⟩⟩
def lw_privs : List (MethodName × Nat) := lw_privs_1 ++ (lw_privs_2 ++ (lw_privs_3 ++ (lw_privs_4 ++ (lw_privs_5 ++ (lw_privs_6)))))
def lw_tbl : List Cond := k2_sels lw_privs ++ tables_1
theorem lw_privs_ok : ∀ q ∈ lw_privs, lw_okq q := by
  show ∀ q ∈ lw_privs_1 ++ (lw_privs_2 ++ (lw_privs_3 ++ (lw_privs_4 ++ (lw_privs_5 ++ (lw_privs_6))))), lw_okq q
  exact List.forall_mem_append.mpr ⟨lw_r1, List.forall_mem_append.mpr ⟨lw_r2, List.forall_mem_append.mpr ⟨lw_r3, List.forall_mem_append.mpr ⟨lw_r4, List.forall_mem_append.mpr ⟨lw_r5, lw_r6⟩⟩⟩⟩⟩
def RQ0 : String := "TapedLines$Calculator"
def FQ0 : u_T := fun k => match k with
  | 0 => ("TapedLines$Calculator", "variables", "[I", true)
  | 1 => ("TapedLines$Calculator", "cells", "[I", true)
  | 2 => ("TapedLines$Calculator", "error", "I", false)
  | 3 => ("TapedLines$Calculator", "bytes", "[I", false)
  | 4 => ("TapedLines$Calculator", "at", "I", false)
  | _ => ("TapedLines$Calculator", "end", "I", false)
def yQ0 : Nat → FieldType := fun k => match k with
  | 0 => .array .int
  | 1 => .array .int
  | 2 => .int
  | 3 => .array .int
  | 4 => .int
  | _ => .int
def RQ1 : String := "TapedLines$LineReader"
def FQ1 : u_T := fun k => match k with
  | 0 => ("TapedLines$LineReader", "bytes", "[I", true)
  | 1 => ("TapedLines$LineReader", "count", "I", false)
  | 2 => ("TapedLines$LineReader", "number", "I", false)
  | 3 => ("TapedLines$LineReader", "at", "I", false)
  | 4 => ("TapedLines$LineReader", "source", "LTapedLines$Sheet;", false)
  | _ => ("TapedLines$LineReader", "spelled", "LTapedLines$Sheet;", true)
def yQ1 : Nat → FieldType := fun k => match k with
  | 0 => .array .int
  | 1 => .int
  | 2 => .int
  | 3 => .int
  | 4 => .object "TapedLines$Sheet"
  | _ => .object "TapedLines$Sheet"
def RQ2 : String := "TapedLines$Machine"
def FQ2 : u_T := fun k => match k with
  | 0 => ("TapedLines$Machine", "program", "LTapedLines$Program;", true)
  | 1 => ("TapedLines$Machine", "variables", "[I", true)
  | 2 => ("TapedLines$Machine", "cells", "[I", true)
  | 3 => ("TapedLines$Machine", "written", "LTapedLines$Sheet;", true)
  | 4 => ("TapedLines$Machine", "state", "I", false)
  | 5 => ("TapedLines$Machine", "line", "I", false)
  | 6 => ("TapedLines$Machine", "calculator", "LTapedLines$Calculator;", true)
  | 7 => ("TapedLines$Machine", "told", "LTapedLines$Sheet;", true)
  | 8 => ("TapedLines$Machine", "loopVariables", "[I", true)
  | 9 => ("TapedLines$Machine", "loopLimits", "[I", true)
  | 10 => ("TapedLines$Machine", "loopLines", "[I", true)
  | 11 => ("TapedLines$Machine", "returns", "[I", true)
  | 12 => ("TapedLines$Machine", "loopCount", "I", false)
  | 13 => ("TapedLines$Machine", "returnCount", "I", false)
  | _ => ("TapedLines$Machine", "next", "I", false)
def yQ2 : Nat → FieldType := fun k => match k with
  | 0 => .object "TapedLines$Program"
  | 1 => .array .int
  | 2 => .array .int
  | 3 => .object "TapedLines$Sheet"
  | 4 => .int
  | 5 => .int
  | 6 => .object "TapedLines$Calculator"
  | 7 => .object "TapedLines$Sheet"
  | 8 => .array .int
  | 9 => .array .int
  | 10 => .array .int
  | 11 => .array .int
  | 12 => .int
  | 13 => .int
  | _ => .int
def RQ3 : String := "TapedLines$Program"
def FQ3 : u_T := fun k => match k with
  | 0 => ("TapedLines$Program", "bytes", "[I", true)
  | _ => ("TapedLines$Program", "count", "I", false)
def yQ3 : Nat → FieldType := fun k => match k with
  | 0 => .array .int
  | _ => .int
def RQ4 : String := "TapedLines$Sheet"
def FQ4 : u_T := fun k => match k with
  | 0 => ("TapedLines$Sheet", "marks", "[C", true)
  | _ => ("TapedLines$Sheet", "count", "I", false)
def yQ4 : Nat → FieldType := fun k => match k with
  | 0 => .array .char
  | _ => .int
def RQ5 : String := "TapedLines$Tape"
def FQ5 : u_T := fun k => match k with
  | 0 => ("TapedLines$Tape", "lengths", "[I", true)
  | 1 => ("TapedLines$Tape", "heard", "[I", true)
  | 2 => ("TapedLines$Tape", "count", "I", false)
  | _ => ("TapedLines$Tape", "at", "I", false)
def yQ5 : Nat → FieldType := fun k => match k with
  | 0 => .array .int
  | 1 => .array .int
  | 2 => .int
  | _ => .int
def RQ6 : String := "TapedLines"
def FQ6 : u_T := fun k => match k with
  | 0 => ("TapedLines", "text", "LTapedLines$Sheet;", true)
  | 1 => ("TapedLines", "page", "LTapedLines$Sheet;", true)
  | 2 => ("TapedLines", "reader", "LTapedLines$LineReader;", true)
  | 3 => ("TapedLines", "program", "LTapedLines$Program;", true)
  | 4 => ("TapedLines", "machine", "LTapedLines$Machine;", true)
  | _ => ("TapedLines", "tape", "LTapedLines$Tape;", true)
def yQ6 : Nat → FieldType := fun k => match k with
  | 0 => .object "TapedLines$Sheet"
  | 1 => .object "TapedLines$Sheet"
  | 2 => .object "TapedLines$LineReader"
  | 3 => .object "TapedLines$Program"
  | 4 => .object "TapedLines$Machine"
  | _ => .object "TapedLines$Tape"
def RQ7 : String := "TapedLinesModel"
def FQ7 : u_T := fun k => match k with
  | 0 => ("TapedLinesModel", "fault", "I", false)
  | 1 => ("TapedLinesModel", "typed", "I", false)
  | 2 => ("TapedLinesModel", "text", "[I", true)
  | 3 => ("TapedLinesModel", "stage", "I", false)
  | 4 => ("TapedLinesModel", "purpose", "I", false)
  | 5 => ("TapedLinesModel", "deep", "I", false)
  | 6 => ("TapedLinesModel", "number", "I", false)
  | 7 => ("TapedLinesModel", "line", "I", false)
  | 8 => ("TapedLinesModel", "words", "I", false)
  | 9 => ("TapedLinesModel", "letters", "I", false)
  | 10 => ("TapedLinesModel", "madeCount", "I", false)
  | 11 => ("TapedLinesModel", "made", "[I", true)
  | 12 => ("TapedLinesModel", "size", "I", false)
  | 13 => ("TapedLinesModel", "program", "[I", true)
  | 14 => ("TapedLinesModel", "state", "I", false)
  | 15 => ("TapedLinesModel", "at", "I", false)
  | 16 => ("TapedLinesModel", "variables", "[I", true)
  | 17 => ("TapedLinesModel", "cells", "[I", true)
  | 18 => ("TapedLinesModel", "loops", "I", false)
  | 19 => ("TapedLinesModel", "loopVariable", "[I", true)
  | 20 => ("TapedLinesModel", "loopLimit", "[I", true)
  | 21 => ("TapedLinesModel", "loopLine", "[I", true)
  | 22 => ("TapedLinesModel", "returns", "I", false)
  | 23 => ("TapedLinesModel", "returnLine", "[I", true)
  | 24 => ("TapedLinesModel", "shown", "I", false)
  | 25 => ("TapedLinesModel", "output", "[I", true)
  | 26 => ("TapedLinesModel", "error", "I", false)
  | 27 => ("TapedLinesModel", "result", "I", false)
  | 28 => ("TapedLinesModel", "place", "I", false)
  | 29 => ("TapedLinesModel", "valueCount", "I", false)
  | 30 => ("TapedLinesModel", "values", "[I", true)
  | 31 => ("TapedLinesModel", "signCount", "I", false)
  | 32 => ("TapedLinesModel", "signs", "[I", true)
  | 33 => ("TapedLinesModel", "waves", "I", false)
  | 34 => ("TapedLinesModel", "wave", "[I", true)
  | 35 => ("TapedLinesModel", "head", "I", false)
  | 36 => ("TapedLinesModel", "torn", "Z", false)
  | 37 => ("TapedLinesModel", "written", "I", false)
  | _ => ("TapedLinesModel", "page", "[I", true)
def yQ7 : Nat → FieldType := fun k => match k with
  | 0 => .int
  | 1 => .int
  | 2 => .array .int
  | 3 => .int
  | 4 => .int
  | 5 => .int
  | 6 => .int
  | 7 => .int
  | 8 => .int
  | 9 => .int
  | 10 => .int
  | 11 => .array .int
  | 12 => .int
  | 13 => .array .int
  | 14 => .int
  | 15 => .int
  | 16 => .array .int
  | 17 => .array .int
  | 18 => .int
  | 19 => .array .int
  | 20 => .array .int
  | 21 => .array .int
  | 22 => .int
  | 23 => .array .int
  | 24 => .int
  | 25 => .array .int
  | 26 => .int
  | 27 => .int
  | 28 => .int
  | 29 => .int
  | 30 => .array .int
  | 31 => .int
  | 32 => .array .int
  | 33 => .int
  | 34 => .array .int
  | 35 => .int
  | 36 => .boolean
  | 37 => .int
  | _ => .array .int
/-- the classes whose objects the world holds -/
abbrev vwCl : List vw_C := [(RQ0, FQ0, 6), (RQ1, FQ1, 6), (RQ2, FQ2, 15), (RQ3, FQ3, 2), (RQ4, FQ4, 2), (RQ5, FQ5, 4), (RQ6, FQ6, 6), (RQ7, FQ7, 39)]
/-- the objects by number: an array (kind 0 int, 1 char, 2 long; length), or an object (class, kinds of its slots) -/
def oT : List ((Nat × Nat) ⊕ (Nat × List Nat)) := [.inr (6, [4, 6, 8, 13, 12, 27]), .inr (4, [5, 0]), .inl (1, 60), .inr (4, [7, 0]), .inl (1, 256), .inr (1, [9, 0, 0, 0, 1, 10]), .inl (0, 256), .inr (4, [11, 0]), .inl (1, 256), .inr (2, [13, 16, 17, 19, 0, 0, 15, 21, 23, 24, 25, 26, 0, 0, 0]), .inr (3, [14, 0]), .inl (0, 200), .inr (0, [16, 17, 0, 1, 0, 0]), .inl (0, 8), .inl (0, 16), .inl (0, 0), .inr (4, [20, 0]), .inl (1, 100), .inr (4, [22, 0]), .inl (1, 8), .inl (0, 6), .inl (0, 6), .inl (0, 6), .inl (0, 6), .inr (5, [28, 29, 0, 0]), .inl (0, 7754), .inl (0, 257), .inr (7, [0, 0, 31, 0, 0, 0, 0, 0, 0, 0, 0, 32, 0, 33, 0, 0, 34, 35, 0, 36, 37, 38, 0, 39, 0, 40, 0, 0, 0, 0, 41, 0, 42, 0, 43, 0, 2, 0, 44]), .inl (0, 60), .inl (0, 260), .inl (0, 260), .inl (0, 8), .inl (0, 16), .inl (0, 6), .inl (0, 6), .inl (0, 6), .inl (0, 6), .inl (0, 100), .inl (0, 260), .inl (0, 260), .inl (0, 8200), .inl (0, 400), .inl (2, 1)]
def cp (o : Nat) : Nat := match oT[o]? with
  | some (.inl (_, n)) => n
  | _ => 0
def mN : List (MethodName × Nat) := [(⟨"TapedLines", "type", "(C)Z"⟩, 1), (⟨"TapedLines", "wipe", "()I"⟩, 0), (⟨"TapedLines", "enter", "()I"⟩, 0), (⟨"TapedLines", "lines", "()I"⟩, 0), (⟨"TapedLines", "list", "(I)I"⟩, 1), (⟨"TapedLines", "programByte", "(I)I"⟩, 1), (⟨"TapedLines", "start", "()V"⟩, 0), (⟨"TapedLines", "run", "(I)I"⟩, 1), (⟨"TapedLines", "state", "()I"⟩, 0), (⟨"TapedLines", "place", "()I"⟩, 0), (⟨"TapedLines", "variable", "(I)I"⟩, 1), (⟨"TapedLines", "cell", "(I)I"⟩, 1), (⟨"TapedLines", "output", "()I"⟩, 0), (⟨"TapedLines", "save", "()I"⟩, 0), (⟨"TapedLines", "load", "()I"⟩, 0), (⟨"TapedLines", "wobble", "(II)V"⟩, 2), (⟨"TapedLines", "waves", "()I"⟩, 0), (⟨"TapedLines", "wave", "(I)I"⟩, 1), (⟨"TapedLines", "setWave", "(II)I"⟩, 2), (⟨"TapedLines", "length", "()I"⟩, 0), (⟨"TapedLines", "charAt", "(I)C"⟩, 1), (⟨"TapedLines", "isCharacter", "(I)Z"⟩, 1), (⟨"TapedLines", "isDigit", "(I)Z"⟩, 1), (⟨"TapedLines", "isVariable", "(I)Z"⟩, 1), (⟨"TapedLines", "isOperator", "(I)Z"⟩, 1), (⟨"TapedLines", "tierOf", "(I)I"⟩, 1), (⟨"TapedLines", "spelling", "(I)Ljava/lang/String;"⟩, 1), (⟨"TapedLines", "sumOf", "([II)I"⟩, 2), (⟨"TapedLinesModel", "thrown", "()I"⟩, 0), (⟨"TapedLinesModel", "refused", "(ZZ)Z"⟩, 2), (⟨"TapedLinesModel", "type", "(C)Z"⟩, 1), (⟨"TapedLinesModel", "wipe", "()I"⟩, 0), (⟨"TapedLinesModel", "letter", "(II)I"⟩, 2), (⟨"TapedLinesModel", "isDigit", "(I)Z"⟩, 1), (⟨"TapedLinesModel", "isVariable", "(I)Z"⟩, 1), (⟨"TapedLinesModel", "go", "(I)Z"⟩, 1), (⟨"TapedLinesModel", "keep", "(I)V"⟩, 1), (⟨"TapedLinesModel", "begin", "(I)V"⟩, 1), (⟨"TapedLinesModel", "open", "(I)Z"⟩, 1), (⟨"TapedLinesModel", "possible", "()I"⟩, 0), (⟨"TapedLinesModel", "pass", "(I)Z"⟩, 1), (⟨"TapedLinesModel", "spell", "(I)Z"⟩, 1), (⟨"TapedLinesModel", "takeOne", "(I)Z"⟩, 1), (⟨"TapedLinesModel", "takeBehind", "(I)Z"⟩, 1), (⟨"TapedLinesModel", "takeBegin", "(I)Z"⟩, 1), (⟨"TapedLinesModel", "lengthen", "(IIZ)Z"⟩, 3), (⟨"TapedLinesModel", "takeFirst", "(I)Z"⟩, 1), (⟨"TapedLinesModel", "takeDigit", "(I)Z"⟩, 1), (⟨"TapedLinesModel", "takeSign", "(III)Z"⟩, 3), (⟨"TapedLinesModel", "takeOther", "(I)Z"⟩, 1), (⟨"TapedLinesModel", "takeQuoted", "(I)Z"⟩, 1), (⟨"TapedLinesModel", "takeSpace", "()Z"⟩, 0), (⟨"TapedLinesModel", "take", "(I)Z"⟩, 1), (⟨"TapedLinesModel", "isWhole", "()Z"⟩, 0), (⟨"TapedLinesModel", "takeByte", "(I)Z"⟩, 1), (⟨"TapedLinesModel", "find", "(I)I"⟩, 1), (⟨"TapedLinesModel", "insert", "(I)V"⟩, 1), (⟨"TapedLinesModel", "remove", "(I)V"⟩, 1), (⟨"TapedLinesModel", "enter", "()I"⟩, 0), (⟨"TapedLinesModel", "lineAt", "(I)I"⟩, 1), (⟨"TapedLinesModel", "lines", "()I"⟩, 0), (⟨"TapedLinesModel", "countLines", "()I"⟩, 0), (⟨"TapedLinesModel", "put", "(I)V"⟩, 1), (⟨"TapedLinesModel", "putNumber", "(I)V"⟩, 1), (⟨"TapedLinesModel", "putWord", "(I)V"⟩, 1), (⟨"TapedLinesModel", "list", "(I)I"⟩, 1), (⟨"TapedLinesModel", "programByte", "(I)I"⟩, 1), (⟨"TapedLinesModel", "start", "()V"⟩, 0), (⟨"TapedLinesModel", "rank", "(I)I"⟩, 1), (⟨"TapedLinesModel", "push", "(I)V"⟩, 1), (⟨"TapedLinesModel", "apply", "()V"⟩, 0), (⟨"TapedLinesModel", "applyDown", "(I)V"⟩, 1), (⟨"TapedLinesModel", "workOne", "(II)I"⟩, 2), (⟨"TapedLinesModel", "close", "()V"⟩, 0), (⟨"TapedLinesModel", "work", "(II)V"⟩, 2), (⟨"TapedLinesModel", "numberAt", "(II)I"⟩, 2), (⟨"TapedLinesModel", "jump", "(II)V"⟩, 2), (⟨"TapedLinesModel", "loopOf", "(I)I"⟩, 1), (⟨"TapedLinesModel", "doFor", "(II)V"⟩, 2), (⟨"TapedLinesModel", "doNext", "(II)V"⟩, 2), (⟨"TapedLinesModel", "doGosub", "(II)V"⟩, 2), (⟨"TapedLinesModel", "doReturn", "()V"⟩, 0), (⟨"TapedLinesModel", "doIf", "(II)V"⟩, 2), (⟨"TapedLinesModel", "show", "(I)V"⟩, 1), (⟨"TapedLinesModel", "doPrint", "(II)V"⟩, 2), (⟨"TapedLinesModel", "doWord", "(III)V"⟩, 3), (⟨"TapedLinesModel", "doCell", "(II)V"⟩, 2), (⟨"TapedLinesModel", "step", "()Z"⟩, 0), (⟨"TapedLinesModel", "run", "(I)I"⟩, 1), (⟨"TapedLinesModel", "state", "()I"⟩, 0), (⟨"TapedLinesModel", "place", "()I"⟩, 0), (⟨"TapedLinesModel", "variable", "(I)I"⟩, 1), (⟨"TapedLinesModel", "cell", "(I)I"⟩, 1), (⟨"TapedLinesModel", "output", "()I"⟩, 0), (⟨"TapedLinesModel", "writeBit", "(I)V"⟩, 1), (⟨"TapedLinesModel", "writeByte", "(I)V"⟩, 1), (⟨"TapedLinesModel", "sumWith", "(III)I"⟩, 3), (⟨"TapedLinesModel", "save", "()I"⟩, 0), (⟨"TapedLinesModel", "readBit", "()I"⟩, 0), (⟨"TapedLinesModel", "readByte", "()I"⟩, 0), (⟨"TapedLinesModel", "isProgram", "(I)Z"⟩, 1), (⟨"TapedLinesModel", "isStatement", "(II)Z"⟩, 2), (⟨"TapedLinesModel", "load", "()I"⟩, 0), (⟨"TapedLinesModel", "wobble", "(II)V"⟩, 2), (⟨"TapedLinesModel", "waves", "()I"⟩, 0), (⟨"TapedLinesModel", "wave", "(I)I"⟩, 1), (⟨"TapedLinesModel", "setWave", "(II)I"⟩, 2), (⟨"TapedLinesModel", "length", "()I"⟩, 0), (⟨"TapedLinesModel", "charAt", "(I)C"⟩, 1), (⟨"TapedLines$Calculator", "open", "([III)V"⟩, 3), (⟨"TapedLines$Calculator", "ahead", "()I"⟩, 0), (⟨"TapedLines$Calculator", "take", "()I"⟩, 0), (⟨"TapedLines$Calculator", "takeVariable", "()I"⟩, 0), (⟨"TapedLines$Calculator", "takeNumber", "()I"⟩, 0), (⟨"TapedLines$Calculator", "expression", "()I"⟩, 0), (⟨"TapedLines$Calculator", "worth", "(II)I"⟩, 2), (⟨"TapedLines$Calculator", "one", "(I)I"⟩, 1), (⟨"TapedLines$Calculator", "cellAt", "(I)I"⟩, 1), (⟨"TapedLines$Calculator", "combine", "(III)I"⟩, 3), (⟨"TapedLines$Calculator", "divide", "(III)I"⟩, 3), (⟨"TapedLines$LineReader", "readLine", "(LTapedLines$Sheet;)Z"⟩, 1), (⟨"TapedLines$LineReader", "acceptsProgram", "([II)Z"⟩, 2), (⟨"TapedLines$LineReader", "acceptsStatement", "([III)Z"⟩, 3), (⟨"TapedLines$LineReader", "open", "(LTapedLines$Sheet;)V"⟩, 1), (⟨"TapedLines$LineReader", "reachesEnd", "()Z"⟩, 0), (⟨"TapedLines$LineReader", "readStatement", "()Z"⟩, 0), (⟨"TapedLines$LineReader", "readWord", "(I)Z"⟩, 1), (⟨"TapedLines$LineReader", "readVariable", "()Z"⟩, 0), (⟨"TapedLines$LineReader", "readMark", "(C)Z"⟩, 1), (⟨"TapedLines$LineReader", "readLineNumber", "()Z"⟩, 0), (⟨"TapedLines$LineReader", "readNumber", "(II)I"⟩, 2), (⟨"TapedLines$LineReader", "readPrinted", "()Z"⟩, 0), (⟨"TapedLines$LineReader", "readExpression", "()Z"⟩, 0), (⟨"TapedLines$LineReader", "skipSpaces", "()V"⟩, 0), (⟨"TapedLines$LineReader", "ahead", "(I)I"⟩, 1), (⟨"TapedLines$LineReader", "take", "()Z"⟩, 0), (⟨"TapedLines$LineReader", "put", "(I)V"⟩, 1), (⟨"TapedLines$Machine", "begin", "()V"⟩, 0), (⟨"TapedLines$Machine", "settle", "(I)Z"⟩, 1), (⟨"TapedLines$Machine", "arriveAt", "(I)V"⟩, 1), (⟨"TapedLines$Machine", "perform", "()I"⟩, 0), (⟨"TapedLines$Machine", "jump", "()I"⟩, 0), (⟨"TapedLines$Machine", "jumpAndKeep", "()I"⟩, 0), (⟨"TapedLines$Machine", "jumpBack", "()I"⟩, 0), (⟨"TapedLines$Machine", "jumpIf", "()I"⟩, 0), (⟨"TapedLines$Machine", "openLoop", "()I"⟩, 0), (⟨"TapedLines$Machine", "closeLoop", "()I"⟩, 0), (⟨"TapedLines$Machine", "loopOf", "(I)I"⟩, 1), (⟨"TapedLines$Machine", "write", "()I"⟩, 0), (⟨"TapedLines$Machine", "writeRow", "()I"⟩, 0), (⟨"TapedLines$Machine", "setCell", "()I"⟩, 0), (⟨"TapedLines$Machine", "setVariable", "()I"⟩, 0), (⟨"TapedLines$Program", "countLines", "()I"⟩, 0), (⟨"TapedLines$Program", "lineAt", "(I)I"⟩, 1), (⟨"TapedLines$Program", "lineNumbered", "(I)I"⟩, 1), (⟨"TapedLines$Program", "behind", "(I)I"⟩, 1), (⟨"TapedLines$Program", "replace", "(I[II)Z"⟩, 3), (⟨"TapedLines$Program", "become", "([II)V"⟩, 2), (⟨"TapedLines$Program", "firstFrom", "(I)I"⟩, 1), (⟨"TapedLines$Sheet", "append", "(C)Z"⟩, 1), (⟨"TapedLines$Sheet", "hasRoomFor", "(I)Z"⟩, 1), (⟨"TapedLines$Sheet", "appendSheet", "(LTapedLines$Sheet;)V"⟩, 1), (⟨"TapedLines$Sheet", "appendNumber", "(I)V"⟩, 1), (⟨"TapedLines$Sheet", "spell", "([III)V"⟩, 3), (⟨"TapedLines$Sheet", "appendWord", "(Ljava/lang/String;ZZ)V"⟩, 3), (⟨"TapedLines$Tape", "record", "([II)V"⟩, 2), (⟨"TapedLines$Tape", "hear", "()I"⟩, 0), (⟨"TapedLines$Tape", "heardSum", "(I)I"⟩, 1), (⟨"TapedLines$Tape", "shake", "(II)V"⟩, 2), (⟨"TapedLines$Tape", "putByte", "(I)V"⟩, 1), (⟨"TapedLines$Tape", "putBit", "(I)V"⟩, 1), (⟨"TapedLines$Tape", "hearByte", "()I"⟩, 0), (⟨"TapedLines$Tape", "hearBit", "()I"⟩, 0)]
def MW : List (Nat × Nat × Nat × Bool) := [(94, 320, 321, true), (94, 331, 332, true), (94, 335, 336, true), (94, 491, 492, true), (94, 608, 609, true), (94, 690, 691, true), (94, 499, 500, true), (94, 699, 700, true), (94, 511, 512, true), (94, 515, 516, true), (94, 848, 849, true), (94, 855, 856, true), (94, 519, 520, true), (94, 528, 529, true), (94, 548, 549, true), (94, 862, 863, true), (94, 592, 593, true), (94, 880, 881, true), (94, 887, 888, true), (94, 596, 597, true), (94, 600, 601, true), (94, 324, 0, false), (94, 355, 0, false), (94, 457, 0, false), (94, 460, 0, false), (94, 463, 0, false), (94, 382, 0, false), (94, 544, 0, false), (101, 1015, 1016, true), (101, 1145, 62, true), (101, 1019, 1020, true), (101, 1023, 1024, true), (101, 1055, 0, false), (101, 1074, 0, false), (101, 1101, 0, false), (101, 1048, 43, true), (101, 1044, 42, true), (101, 1032, 39, true), (101, 1067, 46, true), (101, 1086, 50, true), (101, 1063, 45, true), (101, 1052, 44, true), (101, 1105, 54, true), (101, 1113, 56, true), (101, 1098, 53, true), (101, 1082, 49, true), (101, 1094, 52, true), (101, 1078, 48, true), (101, 1109, 55, true), (101, 1090, 51, true), (101, 1040, 41, true), (101, 1071, 47, true), (101, 1036, 40, true), (101, 1117, 57, true), (101, 1312, 92, true), (101, 1121, 58, true), (101, 1129, 60, true), (101, 1125, 59, true), (101, 1027, 1028, true), (101, 1149, 63, true), (101, 1132, 1133, true), (101, 1137, 61, true), (101, 1157, 65, true), (101, 1153, 64, true), (101, 1161, 66, true), (101, 1140, 1141, true), (101, 1164, 1165, true), (101, 1168, 1169, true), (101, 1224, 0, false), (101, 1213, 76, true), (101, 1228, 79, true), (101, 1221, 78, true), (101, 1209, 75, true), (101, 1217, 77, true), (101, 1205, 74, true), (101, 1189, 70, true), (101, 1185, 69, true), (101, 1236, 81, true), (101, 1232, 80, true), (101, 1240, 82, true), (101, 1193, 71, true), (101, 1197, 72, true), (101, 1201, 73, true), (101, 1248, 84, true), (101, 1244, 83, true), (101, 1181, 68, true), (101, 1252, 85, true), (101, 1177, 67, true), (101, 1172, 1173, true), (101, 1255, 1256, true), (101, 1259, 1260, true), (101, 1263, 1264, true), (101, 1267, 1268, true), (101, 1271, 1272, true), (101, 1280, 86, true), (101, 1284, 87, true), (101, 1287, 0, false), (101, 1275, 1276, true), (101, 1300, 89, true), (101, 1296, 88, true), (101, 1304, 90, true), (101, 1308, 91, true), (101, 1291, 1292, true), (101, 1315, 1316, true), (101, 1320, 1321, true), (101, 1324, 1325, true), (101, 1328, 1329, true), (101, 1332, 1333, true), (101, 1336, 1337, true), (99, 738, 739, true), (99, 742, 743, true), (99, 750, 751, true), (99, 788, 789, true), (99, 754, 755, true), (99, 772, 773, true), (99, 777, 27, true), (99, 781, 28, true), (99, 793, 29, true), (99, 798, 30, true), (99, 802, 31, true), (96, 339, 340, true), (96, 569, 570, true), (96, 574, 20, true), (96, 344, 0, true), (96, 367, 5, true), (96, 371, 6, true), (96, 379, 8, true), (96, 454, 12, true), (96, 450, 11, true), (96, 442, 9, true), (96, 348, 1, true), (96, 467, 13, true), (96, 446, 10, true), (96, 352, 2, true), (96, 375, 7, true), (96, 359, 3, true), (96, 363, 4, true), (97, 503, 504, true), (97, 841, 842, true), (97, 508, 15, true), (97, 733, 734, true), (97, 747, 23, true), (97, 761, 24, true), (97, 765, 25, true), (97, 769, 26, true), (97, 806, 32, true), (97, 815, 34, true), (97, 811, 33, true), (97, 819, 35, true), (97, 823, 36, true), (97, 834, 37, true), (97, 838, 38, true), (98, 495, 496, true), (98, 612, 613, true), (98, 479, 480, true), (98, 483, 484, true), (98, 471, 472, true), (98, 588, 589, true), (98, 476, 14, true), (95, 327, 328, true), (95, 826, 827, true), (95, 523, 524, true), (95, 679, 680, true), (95, 577, 578, true), (95, 583, 21, true), (100, 532, 533, true), (100, 552, 553, true), (100, 564, 565, true), (100, 866, 867, true), (100, 541, 17, true), (100, 537, 16, true), (100, 557, 18, true), (100, 561, 19, true)]
def CN : List String := ["TapedLines$Calculator", "TapedLines$LineReader", "TapedLines$Machine", "TapedLines$Program", "TapedLines$Sheet", "TapedLines$Tape", "TapedLines", "TapedLinesModel"]
def FL : List (List (Nat × Nat × Nat)) := [[(9, 0, 0), (15, 1, 0), (18, 3, 0), (21, 4, 0), (25, 5, 0), (28, 2, 0)], [(9, 0, 1), (20, 5, 1), (24, 4, 1), (35, 2, 1), (39, 1, 1), (53, 1, 4), (58, 3, 1), (111, 0, 4)], [(12, 0, 2), (21, 6, 2), (25, 0, 0), (29, 1, 2), (30, 1, 0), (33, 2, 2), (39, 3, 2), (43, 7, 2), (46, 8, 2), (49, 9, 2), (52, 10, 2), (55, 11, 2), (58, 4, 2), (62, 12, 2), (65, 13, 2), (68, 1, 4), (74, 14, 2), (77, 5, 2), (80, 1, 3), (85, 0, 3), (135, 2, 0)], [(9, 0, 3), (15, 1, 3)], [(9, 0, 4), (15, 1, 4)], [(11, 0, 5), (15, 1, 5), (18, 2, 5), (33, 3, 5)], [(14, 0, 6), (18, 1, 6), (24, 2, 6), (31, 4, 6), (35, 0, 2), (39, 3, 6), (43, 5, 6), (55, 1, 4), (63, 3, 1), (66, 2, 1), (69, 0, 1), (73, 1, 1), (80, 4, 2), (83, 1, 3), (95, 0, 3), (118, 5, 2), (121, 1, 2), (124, 2, 2), (127, 3, 2), (138, 2, 5), (145, 1, 5), (163, 0, 5), (166, 0, 4)], [(7, 2, 7), (13, 11, 7), (16, 13, 7), (19, 16, 7), (22, 17, 7), (25, 19, 7), (28, 20, 7), (31, 21, 7), (34, 23, 7), (37, 25, 7), (40, 30, 7), (43, 32, 7), (46, 34, 7), (49, 38, 7), (52, 0, 7), (56, 1, 7), (63, 3, 7), (66, 10, 7), (69, 7, 7), (72, 5, 7), (75, 4, 7), (89, 8, 7), (92, 9, 7), (105, 6, 7), (151, 12, 7), (173, 14, 7), (179, 37, 7), (198, 15, 7), (201, 18, 7), (204, 22, 7), (207, 24, 7), (210, 29, 7), (213, 31, 7), (219, 26, 7), (231, 28, 7), (240, 27, 7), (287, 33, 7), (301, 35, 7), (304, 36, 7)]]
def ML : List (List (Nat × Nat × Nat × Nat)) := [[(31, 111, 0, 784), (35, 22, 3, 0), (39, 115, 0, 775), (43, 116, 0, 779), (47, 110, 0, 783), (50, 25, 3, 0), (53, 118, 0, 796), (57, 113, 0, 785), (60, 23, 3, 0), (63, 112, 0, 787), (66, 117, 0, 791), (69, 119, 0, 800)], [(27, 123, 0, 342), (31, 130, 0, 346), (42, 124, 0, 365), (46, 125, 0, 369), (49, 122, 0, 572), (54, 163, 0, 576), (61, 133, 0, 350), (64, 134, 0, 373), (68, 126, 0, 377), (72, 129, 0, 440), (75, 132, 0, 444), (78, 127, 0, 452), (81, 128, 0, 448), (85, 131, 0, 465), (88, 26, 3, 0), (102, 136, 0, 361), (105, 23, 3, 0), (108, 135, 0, 357), (115, 22, 3, 0), (118, 21, 3, 0), (121, 24, 3, 0)], [(71, 139, 0, 506), (81, 155, 0, 736), (88, 109, 0, 737), (92, 110, 0, 741), (96, 141, 0, 745), (99, 142, 0, 759), (102, 143, 0, 763), (105, 144, 0, 767), (108, 145, 0, 804), (111, 146, 0, 813), (114, 148, 0, 817), (117, 150, 0, 832), (120, 151, 0, 836), (123, 111, 0, 749), (126, 113, 0, 753), (129, 154, 0, 758), (132, 114, 0, 771), (138, 112, 0, 808), (141, 147, 0, 809), (144, 149, 0, 821), (147, 162, 0, 830), (150, 159, 0, 829), (154, 160, 0, 825), (158, 161, 0, 831)], [(19, 158, 0, 474), (23, 154, 0, 478), (26, 155, 0, 482)], [(19, 159, 0, 526), (29, 26, 3, 0), (33, 164, 0, 581)], [(22, 170, 0, 535), (26, 169, 0, 539), (29, 27, 3, 0), (36, 171, 0, 555), (50, 172, 0, 559)], [(47, 21, 2, 323), (51, 159, 0, 326), (59, 120, 0, 338), (74, 156, 0, 470), (84, 152, 0, 494), (88, 153, 0, 611), (96, 162, 0, 678), (99, 163, 0, 685), (103, 137, 0, 502), (112, 140, 0, 732), (115, 138, 0, 840), (130, 161, 0, 522), (134, 165, 0, 531), (139, 166, 0, 551), (142, 167, 0, 563), (148, 27, 2, 567), (152, 121, 0, 568), (156, 157, 0, 587), (159, 168, 0, 865), (170, 25, 2, 462)], [(78, 35, 0, 1046), (82, 36, 0, 1042), (86, 38, 0, 1065), (95, 32, 2, 1054), (99, 40, 0, 1061), (102, 33, 2, 1073), (108, 34, 2, 1100), (111, 45, 0, 1080), (115, 46, 0, 1092), (118, 44, 0, 1096), (121, 42, 0, 1103), (124, 48, 0, 1107), (128, 43, 0, 1111), (131, 50, 0, 1038), (134, 41, 0, 1050), (137, 51, 0, 1069), (141, 47, 0, 1076), (144, 39, 0, 1084), (148, 49, 0, 1088), (154, 37, 0, 1030), (157, 52, 0, 1034), (160, 53, 0, 1115), (163, 55, 0, 1119), (167, 57, 0, 1123), (170, 56, 0, 1127), (176, 61, 0, 1135), (182, 62, 0, 1155), (185, 29, 0, 1143), (189, 59, 0, 1147), (192, 63, 0, 1151), (195, 64, 0, 1159), (216, 69, 0, 1211), (222, 68, 2, 1223), (225, 70, 0, 1226), (228, 71, 0, 1219), (234, 72, 0, 1207), (237, 73, 0, 1215), (243, 75, 0, 1187), (246, 74, 0, 1203), (250, 77, 0, 1234), (253, 76, 0, 1183), (256, 83, 0, 1246), (259, 80, 0, 1191), (262, 81, 0, 1195), (265, 82, 0, 1199), (268, 78, 0, 1230), (271, 79, 0, 1238), (274, 85, 0, 1179), (278, 84, 0, 1242), (281, 86, 0, 1250), (284, 87, 0, 1175), (290, 94, 0, 1278), (294, 95, 0, 1282), (297, 96, 2, 1286), (308, 98, 0, 1298), (311, 101, 0, 1306), (315, 54, 0, 1310), (318, 99, 0, 1294), (321, 100, 0, 1302)]]
def KL : List (List (Nat × Nat)) := [[], [], [], [], [], [(40, 1103515245)], [(189, 65535)], [(59, 512487), (60, 2805223), (61, 489345202), (62, 680110), (293, 65535), (324, 1103515245)]]
def XC : List String := ["java/lang/IndexOutOfBoundsException", "java/lang/IllegalArgumentException", "java/lang/IllegalStateException"]
def XD : List MethodName := [⟨"java/lang/RuntimeException", "<init>", "()V"⟩, ⟨"java/lang/Exception", "<init>", "()V"⟩, ⟨"java/lang/Throwable", "<init>", "()V"⟩]
def XL : List (String × String × String) := [("java/lang/Throwable", "UNASSIGNED_STACK", "[Ljava/lang/StackTraceElement;"), ("java/lang/Throwable", "SUPPRESSED_SENTINEL", "Ljava/util/List;")]
def q_host : String := "TapedLines"
def NF : List (String × Nat × String × String × String × String) := []
def NM : List (String × Nat × MethodName × String) := [("TapedLines$LineReader", 115, ⟨"TapedLines", "isDigit", "(I)Z"⟩, "TapedLines"), ("TapedLines$LineReader", 88, ⟨"TapedLines", "spelling", "(I)Ljava/lang/String;"⟩, "TapedLines"), ("TapedLines$LineReader", 105, ⟨"TapedLines", "isVariable", "(I)Z"⟩, "TapedLines"), ("TapedLines$LineReader", 121, ⟨"TapedLines", "isOperator", "(I)Z"⟩, "TapedLines"), ("TapedLines$LineReader", 118, ⟨"TapedLines", "isCharacter", "(I)Z"⟩, "TapedLines"), ("TapedLines$Tape", 29, ⟨"TapedLines", "sumOf", "([II)I"⟩, "TapedLines"), ("TapedLines$Sheet", 29, ⟨"TapedLines", "spelling", "(I)Ljava/lang/String;"⟩, "TapedLines"), ("TapedLines$Calculator", 35, ⟨"TapedLines", "isDigit", "(I)Z"⟩, "TapedLines"), ("TapedLines$Calculator", 60, ⟨"TapedLines", "isVariable", "(I)Z"⟩, "TapedLines"), ("TapedLines$Calculator", 50, ⟨"TapedLines", "tierOf", "(I)I"⟩, "TapedLines")]
def SR : List (String × Nat × String × Nat) := [("TapedLines", 173, "GOTO", 0), ("TapedLines", 175, "GOSUB", 1), ("TapedLines", 177, "RETURN", 2), ("TapedLines", 179, "IF", 3), ("TapedLines", 181, "FOR", 4), ("TapedLines", 183, "TO", 5), ("TapedLines", 185, "NEXT", 6), ("TapedLines", 187, "END", 7)]
def q_len : List Nat := [4, 5, 6, 2, 3, 2, 4, 3]
def q_byt : List (List Int32) := [[71, 79, 84, 79], [71, 79, 83, 85, 66], [82, 69, 84, 85, 82, 78], [73, 70], [70, 79, 82], [84, 79], [78, 69, 88, 84], [69, 78, 68]]
def q_exn : Nat → String
  | 0 => "java/lang/IndexOutOfBoundsException"
  | 1 => "java/lang/IllegalArgumentException"
  | _ => "java/lang/IllegalStateException"
def WG : List Cond := lw_tbl.filter goodWord
def q_in (w : Cond) : Bool := goodWord w && decide (w ∈ lw_tbl)
theorem q_in_spec {w : Cond} (h : q_in w = true) : w ∈ WG := by
  simp only [q_in, Bool.and_eq_true, decide_eq_true_eq] at h
  exact List.mem_filter.mpr ⟨h.2, h.1⟩
theorem q_wgood : ∀ w ∈ WG, (w.onTables && w.keeps) = true ∨ ∃ ty, w = .arrayClass ty := fun w h => good_of_word (List.mem_filter.mp h).2
theorem q_t1 {w : Cond} (hg : goodWord w = true) (h : w ∈ tables_1_1) : w ∈ WG := List.mem_filter.mpr ⟨List.mem_append_right _ (show w ∈ tables_1_1 ++ (tables_1_2 ++ (tables_1_3 ++ (tables_1_4 ++ (tables_1_5 ++ tables_1_6)))) from List.mem_append_left _ h), hg⟩
theorem q_t2 {w : Cond} (hg : goodWord w = true) (h : w ∈ tables_1_2) : w ∈ WG := List.mem_filter.mpr ⟨List.mem_append_right _ (show w ∈ tables_1_1 ++ (tables_1_2 ++ (tables_1_3 ++ (tables_1_4 ++ (tables_1_5 ++ tables_1_6)))) from List.mem_append_right _ (List.mem_append_left _ h)), hg⟩
theorem q_t3 {w : Cond} (hg : goodWord w = true) (h : w ∈ tables_1_3) : w ∈ WG := List.mem_filter.mpr ⟨List.mem_append_right _ (show w ∈ tables_1_1 ++ (tables_1_2 ++ (tables_1_3 ++ (tables_1_4 ++ (tables_1_5 ++ tables_1_6)))) from List.mem_append_right _ (List.mem_append_right _ (List.mem_append_left _ h))), hg⟩
theorem q_t4 {w : Cond} (hg : goodWord w = true) (h : w ∈ tables_1_4) : w ∈ WG := List.mem_filter.mpr ⟨List.mem_append_right _ (show w ∈ tables_1_1 ++ (tables_1_2 ++ (tables_1_3 ++ (tables_1_4 ++ (tables_1_5 ++ tables_1_6)))) from List.mem_append_right _ (List.mem_append_right _ (List.mem_append_right _ (List.mem_append_left _ h)))), hg⟩
theorem q_t5 {w : Cond} (hg : goodWord w = true) (h : w ∈ tables_1_5) : w ∈ WG := List.mem_filter.mpr ⟨List.mem_append_right _ (show w ∈ tables_1_1 ++ (tables_1_2 ++ (tables_1_3 ++ (tables_1_4 ++ (tables_1_5 ++ tables_1_6)))) from List.mem_append_right _ (List.mem_append_right _ (List.mem_append_right _ (List.mem_append_right _ (List.mem_append_left _ h))))), hg⟩
theorem q_t6 {w : Cond} (hg : goodWord w = true) (h : w ∈ tables_1_6) : w ∈ WG := List.mem_filter.mpr ⟨List.mem_append_right _ (show w ∈ tables_1_1 ++ (tables_1_2 ++ (tables_1_3 ++ (tables_1_4 ++ (tables_1_5 ++ tables_1_6)))) from List.mem_append_right _ (List.mem_append_right _ (List.mem_append_right _ (List.mem_append_right _ (List.mem_append_right _ (h)))))), hg⟩
def q_classesOk : Bool := vwCl.all (fun q => (List.range q.2.2).all (fun k => q_in (u_lay q.1 q.2.1 k)) && (List.range q.2.2).all (fun a => (List.range q.2.2).all (fun b => decide (a = b) || decide ((q.2.1 a).2.1 ≠ (q.2.1 b).2.1))))
theorem q_classes_ok : q_classesOk = true := by decide +kernel
theorem q_lays (b : Nat) (q : vw_C) (h : vwCl[b]? = some q) : ∀ w ∈ u_ws q.1 q.2.1 q.2.2, w ∈ WG := by
  intro w hw
  have h1 := List.all_eq_true.mp q_classes_ok q (List.mem_of_getElem? h)
  rw [Bool.and_eq_true] at h1
  obtain ⟨k, hk, rfl⟩ := List.mem_map.mp hw
  exact q_in_spec (List.all_eq_true.mp h1.1 k hk)
theorem q_names (b : Nat) (q : vw_C) (h : vwCl[b]? = some q) : ∀ a, a < q.2.2 → ∀ b, b < q.2.2 → a ≠ b → (q.2.1 a).2.1 ≠ (q.2.1 b).2.1 := by
  intro x hx y hy hne
  have h1 := List.all_eq_true.mp q_classes_ok q (List.mem_of_getElem? h)
  rw [Bool.and_eq_true] at h1
  have h2 := List.all_eq_true.mp (List.all_eq_true.mp h1.2 x (List.mem_range.mpr hx)) y (List.mem_range.mpr hy)
  rw [Bool.or_eq_true, decide_eq_true_eq, decide_eq_true_eq] at h2
  exact h2.resolve_left hne
def q_tys : Nat → Nat → FieldType
  | 0 => yQ0
  | 1 => yQ1
  | 2 => yQ2
  | 3 => yQ3
  | 4 => yQ4
  | 5 => yQ5
  | 6 => yQ6
  | _ => yQ7
def q_tysOk : Bool := (List.range 8).all (fun b => match vwCl[b]? with
  | some q => (List.range q.2.2).all (fun k => decide (parseFieldDescriptor (q.2.1 k).2.2.1 = some (q_tys b k)))
  | none => false)
theorem q_tys_ok : q_tysOk = true := by decide +kernel
theorem q_tysok (b : Nat) (q : vw_C) (h : vwCl[b]? = some q) : ∀ k, k < q.2.2 → parseFieldDescriptor (q.2.1 k).2.2.1 = some (q_tys b k) := by
  intro k hk
  have hb : b < 8 := (List.getElem?_eq_some_iff.mp h).1
  have h1 := List.all_eq_true.mp q_tys_ok b (List.mem_range.mpr hb)
  rw [h] at h1
  exact of_decide_eq_true (List.all_eq_true.mp h1 k (List.mem_range.mpr hk))
def q_kindOk (b k : Nat) : Nat → Bool
  | 0 => decide (q_tys b k = .int)
  | 1 => match q_tys b k with
    | .object _ => true
    | .array _ => true
    | _ => false
  | 2 => decide (q_tys b k = .boolean)
  | _ => true
def q_kindsOk : Bool := oT.all (fun x => match x with
  | .inl _ => true
  | .inr (b, ks) => match vwCl[b]? with
    | some q => decide (ks.length = q.2.2) && (List.range ks.length).all (fun k => match ks[k]? with
      | some kd => q_kindOk b k kd
      | none => false)
    | none => false)
theorem q_kinds_ok : q_kindsOk = true := by decide +kernel
theorem q_kind {b : Nat} {q : vw_C} (h : vwCl[b]? = some q) {o : Nat} {ks : List Nat} (ho : oT[o]? = some (.inr (b, ks))) {a kd : Nat} (hk : ks[a]? = some kd) : a < q.2.2 ∧ q_kindOk b a kd = true := by
  have h1 := List.all_eq_true.mp q_kinds_ok _ (List.mem_of_getElem? ho)
  dsimp only at h1
  rw [h] at h1
  simp only [Bool.and_eq_true, decide_eq_true_eq] at h1
  have ha : a < ks.length := (List.getElem?_eq_some_iff.mp hk).1
  have h2 := List.all_eq_true.mp h1.2 a (List.mem_range.mpr ha)
  rw [hk] at h2
  exact ⟨h1.1 ▸ ha, h2⟩
end
section
-- the pure machine: objects by number, their int slots and elements as M : object → slot → Int32; one row of longs beside
def iI (z : Int) : Int32 := Int32.ofInt z
abbrev qIn : Type := Instr × Nat × Nat × Nat
abbrev qTb : Type := List (Nat × qIn)
abbrev qT : Type := MethodName × ByteArray × Nat × Option FieldType × qTb
abbrev qM : Type := Nat → Nat → Int32
abbrev qS : Type := qM × (Nat → Int64)
abbrev qO : Type := Option Value ⊕ Nat
abbrev qG : Type := va_G × List (ClassId × FieldType) × (Nat → Nat) × (Nat → Int32) × Nat
def q_ft : qTb → Nat → Option qIn
  | [], _ => none
  | (q, x) :: r, pc => match Nat.beq q pc with
    | true => some x
    | false => q_ft r pc
def q_up (M : qM) (o k : Nat) (v : Int32) : qM := va_up M o (va_up (M o) k v)
/-- a slot of an object: kind 0 int, 1 a reference that changes, 2 boolean, t + 3 the reference to t -/
def q_sl (M : qM) (o k : Nat) : Nat → Value
  | 0 => .int (M o k)
  | 1 => .ref (M o k).toNatClampNeg
  | 2 => .int (M o k)
  | t + 3 => .ref t
def q_v (ad : Nat → Nat) : Value → Value
  | .ref o => .ref (ad o)
  | v => v
def q_en (Γ : qG) (S : qS) (o : Nat) : (Nat × Nat) ⊕ (Nat × List Nat) → va_E
  | .inl (2, n) => .inl ((Γ.2.1.getD 2 (0, .int)).1, n, .inr (.inl S.2))
  | .inl (t, n) => .inl ((Γ.2.1.getD t (0, .int)).1, n, .inl (S.1 o))
  | .inr (ci, ks) => .inr (ci, ks.mapIdx (fun k kd => q_v Γ.2.2.1 (q_sl S.1 o k kd)))
def q_ws (Γ : qG) (S : qS) : va_W := oT.mapIdx (fun o x => (Γ.2.2.1 o, q_en Γ S o x))
-- plain instructions
abbrev qR : Type := Option (Nat × List Value × List Value × qS)
def q_ldi (pc k : Nat) (ls st : List Value) (S : qS) : qR := match ls[k]? with
  | some (.int v) => some (pc, ls, .int v :: st, S)
  | _ => none
def q_lda (pc k : Nat) (ls st : List Value) (S : qS) : qR := match ls[k]? with
  | some (.ref v) => some (pc, ls, .ref v :: st, S)
  | _ => none
def q_sti (pc k : Nat) (ls st : List Value) (S : qS) : qR := match st with
  | .int v :: r => some (pc, ls.set k (.int v), r, S)
  | _ => none
def q_sta (pc k : Nat) (ls st : List Value) (S : qS) : qR := match st with
  | .ref v :: r => some (pc, ls.set k (.ref v), r, S)
  | _ => none
def q_bin (f : Int32 → Int32 → Int32) (pc : Nat) (ls st : List Value) (S : qS) : qR := match st with
  | .int y :: .int x :: r => some (pc, ls, .int (f x y) :: r, S)
  | _ => none
def q_un (f : Int32 → Int32) (pc : Nat) (ls st : List Value) (S : qS) : qR := match st with
  | .int x :: r => some (pc, ls, .int (f x) :: r, S)
  | _ => none
def q_inc (pc k : Nat) (n : Int) (ls st : List Value) (S : qS) : qR := match ls[k]? with
  | some (.int v) => some (pc, ls.set k (.int (v + iI n)), st, S)
  | _ => none
def q_gf (pc a b : Nat) (ls st : List Value) (S : qS) : qR := match st with
  | .ref o :: r => match oT[o]? with
    | some (.inr (ci, ks)) => match Nat.beq ci b, ks[a]? with
      | true, some kd => some (pc, ls, q_sl S.1 o a kd :: r, S)
      | _, _ => none
    | _ => none
  | _ => none
def q_pf (pc a b : Nat) (ls st : List Value) (S : qS) : qR := match st with
  | .int v :: .ref o :: r => match oT[o]? with
    | some (.inr (ci, ks)) => match Nat.beq ci b, ks[a]? with
      | true, some 0 => some (pc, ls, r, (q_up S.1 o a v, S.2))
      | _, _ => none
    | _ => none
  | .ref t :: .ref o :: r => match oT[o]? with
    | some (.inr (ci, ks)) => match Nat.beq ci b, ks[a]?, Nat.blt t 2147483648 with
      | true, some 1, true => some (pc, ls, r, (q_up S.1 o a (Int32.ofNat t), S.2))
      | _, _, _ => none
    | _ => none
  | _ => none
def q_stp (x : qIn) (pc : Nat) (ls st : List Value) (S : qS) : qR := match x with
  | (i, len, a, b) => match i with
    | .iconst n => some (pc + len, ls, .int (iI n) :: st, S)
    | .bipush n => some (pc + len, ls, .int (iI n) :: st, S)
    | .sipush n => some (pc + len, ls, .int (iI n) :: st, S)
    | .iload_n k => q_ldi (pc + len) k.val ls st S
    | .iload k => q_ldi (pc + len) k ls st S
    | .aload_n k => q_lda (pc + len) k.val ls st S
    | .aload k => q_lda (pc + len) k ls st S
    | .istore_n k => q_sti (pc + len) k.val ls st S
    | .istore k => q_sti (pc + len) k ls st S
    | .astore_n k => q_sta (pc + len) k.val ls st S
    | .astore k => q_sta (pc + len) k ls st S
    | .iinc k n => q_inc (pc + len) k n ls st S
    | .iadd => q_bin (fun x y => x + y) (pc + len) ls st S
    | .isub => q_bin (fun x y => x - y) (pc + len) ls st S
    | .imul => q_bin (fun x y => x * y) (pc + len) ls st S
    | .iand => q_bin (fun x y => x &&& y) (pc + len) ls st S
    | .ior => q_bin (fun x y => x ||| y) (pc + len) ls st S
    | .ishl => q_bin (fun x y => x <<< (y &&& 31)) (pc + len) ls st S
    | .ishr => q_bin (fun x y => x >>> (y &&& 31)) (pc + len) ls st S
    | .iushr => q_bin (fun x y => (x.toUInt32 >>> (y.toUInt32 &&& Int32.toUInt32 31)).toInt32) (pc + len) ls st S
    | .ineg => q_un (fun x => -x) (pc + len) ls st S
    | .i2s => q_un (fun x => x.toInt16.toInt32) (pc + len) ls st S
    | .i2c => q_un (fun x => (x.toUInt32 % 65536).toInt32) (pc + len) ls st S
    | .dup => match st with
      | .int v :: r => some (pc + len, ls, .int v :: .int v :: r, S)
      | .ref v :: r => some (pc + len, ls, .ref v :: .ref v :: r, S)
      | _ => none
    | .pop => match st with
      | .int _ :: r => some (pc + len, ls, r, S)
      | .ref _ :: r => some (pc + len, ls, r, S)
      | _ => none
    | .ldc _ => match b with
      | 0 => some (pc + len, ls, .int (iI a) :: st, S)
      | _ => some (pc + len, ls, .ref (60 + a) :: st, S)
    | .ldc_w _ => some (pc + len, ls, .int (iI a) :: st, S)
    | .goto _ => some (a, ls, st, S)
    | .getfield _ => q_gf (pc + len) a b ls st S
    | .putfield _ => q_pf (pc + len) a b ls st S
    | _ => none
def q_run : Nat → qTb → Nat → List Value → List Value → qS → qR
  | 0, _, pc, ls, st, S => some (pc, ls, st, S)
  | n + 1, tb, pc, ls, st, S => match q_ft tb pc with
    | some x => match q_stp x pc ls st S with
      | some (pc', ls', st', S') => q_run n tb pc' ls' st' S'
      | none => none
    | none => none
/-- n elements of row o from sp on come to row o' from dp on -/
def q_cp (M : qM) (o o' : Nat) (sp dp n : Int32) : qM := va_up M o' (va_cpy (M o) (M o') sp.toNatClampNeg dp.toNatClampNeg n.toNatClampNeg)
end
section
-- what stands of a row of a table: the decoded instruction, its length, its resolved numbers
def q_fl (own : String) (index a b : Nat) : Bool := match vwCl[b]? with
  | some (_, Tt, N) => Nat.blt a N && (q_in (Cond.fieldLink own index (Tt a).1 (Tt a).2.1 (Tt a).2.2.1) || decide ((own, index, (Tt a).1, (Tt a).2.1, (Tt a).2.2.1, q_host) ∈ NF))
  | none => false
def q_nm (y : MethodName) (n : Nat) : Bool := decide (y.cls ≠ "java/lang/invoke/MethodHandle") && decide (y.cls ≠ "java/lang/invoke/VarHandle") && decide ((parseMethodDescriptor y.desc).map (fun d => d.parameters.length) = some n) && q_in (Cond.initialized y.cls)
def q_wv (own : String) (index : Nat) (y : MethodName) : Nat → Bool
  | 0 => q_in (Cond.methodLink own index y) && q_in (Cond.instanceMethod y) && q_in (Cond.selects y.cls y y)
  | 1 => decide ((own, index, y, q_host) ∈ NM) && q_in (Cond.instanceMethod y) && q_in (Cond.selects y.cls y y)
  | 2 => q_in (Cond.methodLink own index y) && q_in (Cond.static y)
  | 3 => decide ((own, index, y, q_host) ∈ NM) && q_in (Cond.static y)
  | _ => true
def q_iv (own : String) (index a b : Nat) : Bool := match mN[a]? with
  | some (y, n) => (Nat.blt 3 b || q_nm y n) && q_wv own index y b
  | none => Nat.blt 3 b
def q_rowG (fl iv : Nat → Nat → Nat → Bool) (ck : Nat → Nat → Bool) (T : qT) (pc : Nat) : qIn → Bool
  | (i, len, a, b) => match i with
    | .iconst _ => Nat.beq len 1
    | .bipush n => Nat.beq len 2 && decide (-128 ≤ n) && decide (n ≤ 127)
    | .sipush n => Nat.beq len 3 && decide (-32768 ≤ n) && decide (n ≤ 32767)
    | .iload_n _ | .aload_n _ => Nat.beq len 1
    | .iload _ | .aload _ => Nat.beq len 2
    | .istore_n k | .astore_n k => Nat.beq len 1 && Nat.blt k.val T.2.2.1
    | .istore k | .astore k => Nat.beq len 2 && Nat.blt k T.2.2.1
    | .iinc k _ => Nat.beq len 3 && Nat.blt k T.2.2.1
    | .goto off => Nat.beq len 3 && decide ((pc : Int) + off = (a : Int))
    | .ifCond _ off | .if_icmp _ off => Nat.beq len 3 && decide ((pc : Int) + off = (a : Int))
    | .getfield index => Nat.beq len 3 && fl index a b
    | .putfield index => Nat.beq len 3 && fl index a b && (match vwCl[b]? with
      | some (_, Tt, _) => !(Tt a).2.2.2
      | none => false)
    | .invokevirtual index | .invokestatic index => Nat.beq len 3 && iv index a b
    | .ldc index => Nat.beq len 2 && (match b with
      | 0 => ck index a
      | _ => SR.any (fun w => decide (w.1 = T.1.cls) && Nat.beq w.2.1 index && Nat.beq w.2.2.2 a))
    | .ldc_w index => Nat.beq len 3 && ck index a
    | .tableswitch .. | .lookupswitch .. => true
    | .new _ | .invokespecial _ => Nat.beq len 3
    | _ => Nat.beq len 1
def q_ck (own : String) (index a : Nat) : Bool := q_in (Cond.constant own index (iI a))
def q_row (T : qT) (pc : Nat) (x : qIn) : Bool := q_rowG (q_fl T.1.cls) (q_iv T.1.cls) (q_ck T.1.cls) T pc x
theorem q_rowG_mono {fl iv fl' iv' : Nat → Nat → Nat → Bool} {ck ck' : Nat → Nat → Bool} (h1 : ∀ i a b, fl i a b = true → fl' i a b = true) (h2 : ∀ i a b, iv i a b = true → iv' i a b = true) (h3 : ∀ i a, ck i a = true → ck' i a = true) {T : qT} {pc : Nat} {x : qIn} (h : q_rowG fl iv ck T pc x = true) : q_rowG fl' iv' ck' T pc x = true := by
  obtain ⟨i, len, a, b⟩ := x
  cases i
  case getfield index =>
    simp only [q_rowG, Bool.and_eq_true] at h ⊢
    exact ⟨h.1, h1 _ _ _ h.2⟩
  case putfield index =>
    simp only [q_rowG, Bool.and_eq_true] at h ⊢
    exact ⟨⟨h.1.1, h1 _ _ _ h.1.2⟩, h.2⟩
  case invokevirtual index =>
    simp only [q_rowG, Bool.and_eq_true] at h ⊢
    exact ⟨h.1, h2 _ _ _ h.2⟩
  case invokestatic index =>
    simp only [q_rowG, Bool.and_eq_true] at h ⊢
    exact ⟨h.1, h2 _ _ _ h.2⟩
  case ldc index =>
    simp only [q_rowG, Bool.and_eq_true] at h ⊢
    refine ⟨h.1, ?_⟩
    have h4 := h.2
    split at h4
    next => exact h3 _ _ h4
    next => exact h4
  case ldc_w index =>
    simp only [q_rowG, Bool.and_eq_true] at h ⊢
    exact ⟨h.1, h3 _ _ h.2⟩
  all_goals exact h
def q_flk (k index a b : Nat) : Bool := (FL.getD k []).any (fun e => Nat.beq e.1 index && Nat.beq e.2.1 a && Nat.beq e.2.2 b)
def q_ivk (k index a b : Nat) : Bool := (Nat.beq a 9999 && Nat.beq b 4) || (ML.getD k []).any (fun e => Nat.beq e.1 index && Nat.beq e.2.1 a && Nat.beq e.2.2.1 b)
def q_inh (w : Cond) (h : Nat) : Bool := goodWord w && decide (lw_tbl[h]? = some w)
theorem q_inh_spec {w : Cond} {h : Nat} (hh : q_inh w h = true) : q_in w = true := by
  simp only [q_inh, q_in, Bool.and_eq_true, decide_eq_true_eq] at hh ⊢
  exact ⟨hh.1, List.mem_of_getElem? hh.2⟩
def q_mh (y : MethodName) (n : Nat) (e : Nat × Nat × Nat × Bool) : Bool := decide (y.cls ≠ "java/lang/invoke/MethodHandle") && decide (y.cls ≠ "java/lang/invoke/VarHandle") && decide ((parseMethodDescriptor y.desc).map (fun d => d.parameters.length) = some n) && q_inh (Cond.initialized y.cls) e.1 && (match e.2.2.2 with
  | true => q_inh (Cond.instanceMethod y) e.2.1 && q_inh (Cond.selects y.cls y y) e.2.2.1
  | false => q_inh (Cond.static y) e.2.1)
def q_lk (own : String) (e : Nat × Nat × Nat × Nat) : Bool := match mN[e.2.1]?, MW[e.2.1]? with
  | some (y, _), some m => match e.2.2.1 with
    | 0 => m.2.2.2 && q_inh (Cond.methodLink own e.1 y) e.2.2.2
    | 1 => m.2.2.2 && decide ((own, e.1, y, q_host) ∈ NM)
    | 2 => !m.2.2.2 && q_inh (Cond.methodLink own e.1 y) e.2.2.2
    | 3 => !m.2.2.2 && decide ((own, e.1, y, q_host) ∈ NM)
    | _ => false
  | _, _ => false
def q_mhs (lo n : Nat) : Bool := (List.range n).all (fun i => match mN[lo + i]?, MW[lo + i]? with
  | some (y, n), some e => q_mh y n e
  | none, none => true
  | _, _ => false)
theorem q_mh_0 : q_mhs 0 60 = true := by decide +kernel
theorem q_mh_1 : q_mhs 60 60 = true := by decide +kernel
theorem q_mh_2 : q_mhs 120 60 = true := by decide +kernel
theorem q_mh_at {μ n : Nat} {y : MethodName} {e : Nat × Nat × Nat × Bool} (h1 : mN[μ]? = some (y, n)) (h2 : MW[μ]? = some e) : q_mh y n e = true := by
  have hlen : mN.length ≤ 180 := by decide +kernel
  have hlt : μ < 180 := Nat.lt_of_lt_of_le (List.getElem?_eq_some_iff.mp h1).1 hlen
  have key : ∀ lo, q_mhs lo 60 = true → lo ≤ μ → μ < lo + 60 → q_mh y n e = true := by
    intro lo h a1 a2
    have h3 := List.all_eq_true.mp h (μ - lo) (List.mem_range.mpr (by omega))
    have e1 : lo + (μ - lo) = μ := by omega
    rw [e1, h1, h2] at h3
    exact h3
  by_cases c1 : μ < 60
  · exact key 0 q_mh_0 (by omega) (by omega)
  · by_cases c2 : μ < 120
    · exact key 60 q_mh_1 (by omega) (by omega)
    · exact key 120 q_mh_2 (by omega) (by omega)
theorem q_lk_0 : (ML.getD 0 []).all (q_lk (CN.getD 0 "")) = true := by decide +kernel
theorem q_lk_1 : (ML.getD 1 []).all (q_lk (CN.getD 1 "")) = true := by decide +kernel
theorem q_lk_2 : (ML.getD 2 []).all (q_lk (CN.getD 2 "")) = true := by decide +kernel
theorem q_lk_3 : (ML.getD 3 []).all (q_lk (CN.getD 3 "")) = true := by decide +kernel
theorem q_lk_4 : (ML.getD 4 []).all (q_lk (CN.getD 4 "")) = true := by decide +kernel
theorem q_lk_5 : (ML.getD 5 []).all (q_lk (CN.getD 5 "")) = true := by decide +kernel
theorem q_lk_6 : (ML.getD 6 []).all (q_lk (CN.getD 6 "")) = true := by decide +kernel
theorem q_lk_7 : (ML.getD 7 []).all (q_lk (CN.getD 7 "")) = true := by decide +kernel
theorem q_lk_at {k : Nat} (hk : k < 8) : (ML.getD k []).all (q_lk (CN.getD k "")) = true := by
  match k, hk with
  | 0, _ => exact q_lk_0
  | 1, _ => exact q_lk_1
  | 2, _ => exact q_lk_2
  | 3, _ => exact q_lk_3
  | 4, _ => exact q_lk_4
  | 5, _ => exact q_lk_5
  | 6, _ => exact q_lk_6
  | 7, _ => exact q_lk_7
theorem q_lk_iv {own : String} {e : Nat × Nat × Nat × Nat} (h : q_lk own e = true) : q_iv own e.1 e.2.1 e.2.2.1 = true := by
  obtain ⟨ix, μ, b, hi⟩ := e
  unfold q_lk at h
  dsimp only at h ⊢
  cases hm : mN[μ]? with
  | none => rw [hm] at h; cases h
  | some q =>
    obtain ⟨y, n⟩ := q
    cases hw : MW[μ]? with
    | none => rw [hm, hw] at h; cases h
    | some m =>
      rw [hm, hw] at h
      dsimp only at h
      have hh := q_mh_at hm hw
      obtain ⟨m1, m2, m3, m4⟩ := m
      simp only [q_mh, Bool.and_eq_true, decide_eq_true_eq] at hh
      obtain ⟨⟨⟨⟨c1, c2⟩, c3⟩, c4⟩, c5⟩ := hh
      have hnm : q_nm y n = true := by
        simp only [q_nm, Bool.and_eq_true, decide_eq_true_eq]
        exact ⟨⟨⟨c1, c2⟩, c3⟩, q_inh_spec c4⟩
      unfold q_iv
      rw [hm]
      simp only [Bool.and_eq_true, Bool.or_eq_true]
      refine ⟨Or.inr hnm, ?_⟩
      match b with
      | 0 =>
        simp only [Bool.and_eq_true] at h
        obtain ⟨rfl, h2⟩ := h
        simp only [Bool.and_eq_true] at c5
        simp only [q_wv, Bool.and_eq_true]
        exact ⟨⟨q_inh_spec h2, q_inh_spec c5.1⟩, q_inh_spec c5.2⟩
      | 1 =>
        simp only [Bool.and_eq_true] at h
        obtain ⟨rfl, h2⟩ := h
        simp only [Bool.and_eq_true] at c5
        simp only [q_wv, Bool.and_eq_true]
        exact ⟨⟨h2, q_inh_spec c5.1⟩, q_inh_spec c5.2⟩
      | 2 =>
        simp only [Bool.and_eq_true, Bool.not_eq_true'] at h
        obtain ⟨rfl, h2⟩ := h
        simp only [q_wv, Bool.and_eq_true]
        exact ⟨q_inh_spec h2, q_inh_spec c5⟩
      | 3 =>
        simp only [Bool.and_eq_true, Bool.not_eq_true'] at h
        obtain ⟨rfl, h2⟩ := h
        simp only [q_wv, Bool.and_eq_true]
        exact ⟨h2, q_inh_spec c5⟩
      | b + 4 => cases h
def q_ckk (k index a : Nat) : Bool := (KL.getD k []).any (fun e => Nat.beq e.1 index && Nat.beq e.2 a)
theorem q_fl_ok : (List.range 8).all (fun k => (FL.getD k []).all (fun e => q_fl (CN.getD k "") e.1 e.2.1 e.2.2)) = true := by decide +kernel
theorem q_ck_ok : (List.range 8).all (fun k => (KL.getD k []).all (fun e => q_ck (CN.getD k "") e.1 e.2)) = true := by decide +kernel
theorem q_flk_spec {k index a b : Nat} (hk : k < 8) (h : q_flk k index a b = true) : q_fl (CN.getD k "") index a b = true := by
  obtain ⟨e, he, h1⟩ := List.any_eq_true.mp h
  simp only [Bool.and_eq_true, Nat.beq_eq] at h1
  have h2 := List.all_eq_true.mp (List.all_eq_true.mp q_fl_ok k (List.mem_range.mpr hk)) e he
  rw [h1.1.1, h1.1.2, h1.2] at h2
  exact h2
theorem q_ivk_spec {k index a b : Nat} (hk : k < 8) (h : q_ivk k index a b = true) : q_iv (CN.getD k "") index a b = true := by
  simp only [q_ivk, Bool.or_eq_true, Bool.and_eq_true, Nat.beq_eq] at h
  rcases h with ⟨rfl, rfl⟩ | h
  · have e : mN[9999]? = none := by decide +kernel
    unfold q_iv
    rw [e]
    rfl
  · obtain ⟨e, he, h1⟩ := List.any_eq_true.mp h
    simp only [Bool.and_eq_true, Nat.beq_eq] at h1
    have h2 := q_lk_iv (List.all_eq_true.mp (q_lk_at hk) e he)
    rw [h1.1.1, h1.1.2, h1.2] at h2
    exact h2
theorem q_ckk_spec {k index a : Nat} (hk : k < 8) (h : q_ckk k index a = true) : q_ck (CN.getD k "") index a = true := by
  obtain ⟨e, he, h1⟩ := List.any_eq_true.mp h
  simp only [Bool.and_eq_true, Nat.beq_eq] at h1
  have h2 := List.all_eq_true.mp (List.all_eq_true.mp q_ck_ok k (List.mem_range.mpr hk)) e he
  rw [h1.1, h1.2] at h2
  exact h2
def q_dec (code : ByteArray) (pc : Nat) (x : qIn) : Bool := match decode code pc with
  | .ok y => decide (y = (x.1, x.2.1))
  | .error _ => false
def q_ok (T : qT) : Bool := (List.range 8).any (fun k => decide (CN.getD k "" = T.1.cls) && T.2.2.2.2.all (fun q => q_dec T.2.1 q.1 q.2 && q_rowG (q_flk k) (q_ivk k) (q_ckk k) T q.1 q.2))
theorem q_ft_mem {tb : qTb} {pc : Nat} {x : qIn} (h : q_ft tb pc = some x) : (pc, x) ∈ tb := by
  induction tb with
  | nil => cases h
  | cons q r ih =>
    obtain ⟨q, y⟩ := q
    unfold q_ft at h
    cases hb : Nat.beq q pc with
    | true =>
      rw [hb] at h
      have e := Nat.eq_of_beq_eq_true hb
      cases h
      subst e
      exact List.mem_cons_self
    | false =>
      rw [hb] at h
      exact List.mem_cons_of_mem _ (ih h)
theorem q_ok_at {T : qT} (hok : q_ok T = true) {pc : Nat} {x : qIn} (h : q_ft T.2.2.2.2 pc = some x) : decode T.2.1 pc = .ok (x.1, x.2.1) ∧ q_row T pc x = true := by
  obtain ⟨k, hk, h0⟩ := List.any_eq_true.mp hok
  rw [Bool.and_eq_true, decide_eq_true_eq] at h0
  have hk8 := List.mem_range.mp hk
  have h1 := List.all_eq_true.mp h0.2 (pc, x) (q_ft_mem h)
  rw [Bool.and_eq_true] at h1
  refine ⟨?_, q_rowG_mono (fun i a b z => ?_) (fun i a b z => ?_) (fun i a z => ?_) h1.2⟩
  rotate_left
  · rw [← h0.1]; exact q_flk_spec hk8 z
  · rw [← h0.1]; exact q_ivk_spec hk8 z
  · rw [← h0.1]; exact q_ckk_spec hk8 z
  have h2 := h1.1
  unfold q_dec at h2
  cases hd : decode T.2.1 pc with
  | ok y => rw [hd] at h2; rw [of_decide_eq_true h2]
  | error _ => rw [hd] at h2; cases h2
-- locals
def q_lh (ad : Nat → Nat) (ls : List Value) (n : Nat) (Lr : Array Slot) : Prop :=
  Lr.size = n ∧ ls.length = n ∧ lv_wf Lr ∧ (∀ (i : Nat) (v : Value), ls[i]? = some v → v.category = 1) ∧ ∀ (i : Nat) (v : Value), ls[i]? = some v → v ≠ .null → Lr[i]? = some (.val (q_v ad v))
theorem q_v_cat (ad : Nat → Nat) (v : Value) : (q_v ad v).category = v.category := by cases v <;> rfl
def q_prs (ad : Nat → Nat) (ls : List Value) (n : Nat) : List (Nat × Value) := (List.range n).filterMap (fun (i : Nat) => match (ls[i]? : Option Value) with
  | some Value.null => none
  | some v => some (i, q_v ad v)
  | none => none)
theorem q_prs_mem {ad : Nat → Nat} {ls : List Value} {n i : Nat} {w : Value} : (i, w) ∈ q_prs ad ls n ↔ i < n ∧ ∃ v, ls[i]? = some v ∧ v ≠ .null ∧ w = q_v ad v := by
  unfold q_prs
  rw [List.mem_filterMap]
  constructor
  · rintro ⟨j, hj, h⟩
    rw [List.mem_range] at hj
    cases hv : ls[j]? with
    | none => rw [hv] at h; cases h
    | some v =>
      rw [hv] at h
      cases v <;> first | (cases h; done) | (cases h; exact ⟨hj, _, hv, (fun q => by cases q), rfl⟩)
  · rintro ⟨hi, v, hv, hn, rfl⟩
    refine ⟨i, List.mem_range.mpr hi, ?_⟩
    rw [hv]
    cases v <;> first | rfl | exact absurd rfl hn
theorem q_lh.has {ad : Nat → Nat} {ls : List Value} {n : Nat} {Lr : Array Slot} (h : q_lh ad ls n Lr) : lv_has Lr n (q_prs ad ls n) := by
  refine ⟨h.1, h.2.2.1, fun q hq => ?_⟩
  obtain ⟨i, w⟩ := q
  obtain ⟨hi, v, hv, hn, rfl⟩ := q_prs_mem.mp hq
  exact h.2.2.2.2 i v hv hn
theorem q_lh.at {ad : Nat → Nat} {ls : List Value} {n : Nat} {Lr : Array Slot} (h : q_lh ad ls n Lr) {i : Nat} {v : Value} (hv : ls[i]? = some v) (hn : v ≠ .null) : Lr[i]? = some (.val (q_v ad v)) := h.2.2.2.2 i v hv hn
theorem q_lh.set {ad : Nat → Nat} {ls : List Value} {n i : Nat} {Lr L2 : Array Slot} {v : Value} (h : q_lh ad ls n Lr) (hc : v.category = 1)
    (h2 : lv_has L2 n ((i, q_v ad v) :: (q_prs ad ls n).filter (fun q => !(q.1 == i) && !(q.1 + 1 == i && q.2.category == 2)))) : q_lh ad (ls.set i v) n L2 := by
  refine ⟨h2.1, by rw [List.length_set]; exact h.2.1, h2.2.1, fun j w hw => ?_, fun j w hw hn => ?_⟩
  · rw [List.getElem?_set] at hw
    split at hw
    · split at hw
      · cases hw; exact hc
      · cases hw
    · exact h.2.2.2.1 j w hw
  · have hjn : j < n := by
      have := (List.getElem?_eq_some_iff.mp hw).1
      rw [List.length_set, h.2.1] at this
      exact this
    rw [List.getElem?_set] at hw
    split at hw
    next hij =>
      split at hw
      · cases hw
        subst hij
        exact h2.2.2 _ List.mem_cons_self
      · cases hw
    next hij =>
      refine h2.2.2 (j, q_v ad w) (List.mem_cons_of_mem _ (List.mem_filter.mpr ⟨q_prs_mem.mpr ⟨hjn, w, hw, hn, rfl⟩, ?_⟩))
      have hcw := h.2.2.2.1 j w hw
      have hne : (j == i) = false := by
        rw [beq_eq_false_iff_ne]
        exact fun q => hij q.symm
      simp [hne, q_v_cat, hcw]
-- the world
theorem q_ws_get (Γ : qG) (S : qS) {o : Nat} {x : (Nat × Nat) ⊕ (Nat × List Nat)} (h : oT[o]? = some x) : (q_ws Γ S)[o]? = some (Γ.2.2.1 o, q_en Γ S o x) := by
  unfold q_ws
  rw [List.getElem?_mapIdx, h]
  rfl
theorem q_ws_set {Γ : qG} {S S' : qS} {o : Nat} {x : (Nat × Nat) ⊕ (Nat × List Nat)} (h : oT[o]? = some x) (he : ∀ (o' : Nat) (y : (Nat × Nat) ⊕ (Nat × List Nat)), o' ≠ o → oT[o']? = some y → q_en Γ S' o' y = q_en Γ S o' y) :
    (q_ws Γ S).set o (Γ.2.2.1 o, q_en Γ S' o x) = q_ws Γ S' := by
  apply List.ext_getElem?
  intro j
  rw [List.getElem?_set]
  have hlen : o < (q_ws Γ S).length := by
    unfold q_ws
    rw [List.length_mapIdx]
    exact (List.getElem?_eq_some_iff.mp h).1
  by_cases hj : o = j
  · subst hj
    rw [if_pos rfl, if_pos hlen, q_ws_get Γ S' h]
  · rw [if_neg hj]
    cases hy : oT[j]? with
    | none =>
      unfold q_ws
      rw [List.getElem?_mapIdx, List.getElem?_mapIdx, hy]
      rfl
    | some y => rw [q_ws_get Γ S hy, q_ws_get Γ S' hy, he j y (fun q => hj q.symm) hy]
theorem q_up_ne {M : qM} {o o' k : Nat} {v : Int32} (h : o' ≠ o) : q_up M o k v o' = M o' := by
  unfold q_up va_up
  rw [if_neg h]
theorem q_iv_spec {own : String} {index a b n : Nat} {y : MethodName} (h : q_iv own index a b = true) (hm : mN[a]? = some (y, n)) (hb : b ≤ 3) : Cond.initialized y.cls ∈ WG ∧ (y.cls ≠ "java/lang/invoke/MethodHandle" ∧ y.cls ≠ "java/lang/invoke/VarHandle") ∧ (parseMethodDescriptor y.desc).map (fun d => d.parameters.length) = some n ∧ q_wv own index y b = true := by
  unfold q_iv at h
  rw [hm] at h
  simp only [Bool.and_eq_true, Bool.or_eq_true, Nat.blt_eq, q_nm, decide_eq_true_eq] at h
  obtain ⟨h1 | ⟨⟨⟨h1, h2⟩, h3⟩, h4⟩, h5⟩ := h
  · omega
  · exact ⟨q_in_spec h4, ⟨h1, h2⟩, h3, h5⟩
theorem q_types (b : Nat) (q : vw_C) (h : vwCl[b]? = some q) (o : Nat) (ks : List Nat) (ho : oT[o]? = some (.inr (b, ks))) (a kd : Nat) (hk : ks[a]? = some kd) {w : Int32} (v : Value) (hv : (kd = 0 ∧ v = .int w) ∨ (kd = 1 ∧ ∃ t, v = .ref t)) :
    ∃ ty, parseFieldDescriptor (q.2.1 a).2.2.1 = some ty ∧ (∀ ad : Nat → Nat, narrow ty (q_v ad v) = q_v ad v) ∧ ∀ ad : Nat → Nat, fits ty (q_v ad v) = true := by
  obtain ⟨h1, h2⟩ := q_kind h ho hk
  refine ⟨_, q_tysok b q h a h1, ?_⟩
  rcases hv with ⟨rfl, rfl⟩ | ⟨rfl, t, rfl⟩
  · have e : q_tys b a = .int := of_decide_eq_true h2
    rw [e]
    exact ⟨fun _ => rfl, fun _ => rfl⟩
  · unfold q_kindOk at h2
    cases hty : q_tys b a <;> rw [hty] at h2 <;> first | (cases h2; done) | exact ⟨fun _ => rfl, fun _ => rfl⟩
theorem q_typesZ (b : Nat) (q : vw_C) (h : vwCl[b]? = some q) (o : Nat) (ks : List Nat) (ho : oT[o]? = some (.inr (b, ks))) (a : Nat) (hk : ks[a]? = some 2) : parseFieldDescriptor (q.2.1 a).2.2.1 = some .boolean := by
  obtain ⟨h1, h2⟩ := q_kind h ho hk
  have e : q_tys b a = .boolean := of_decide_eq_true h2
  rw [q_tysok b q h a h1, e]
end
section
theorem q_sl_ne {M : qM} {o o' k : Nat} {v : Int32} (h : o' ≠ o) : q_sl (q_up M o k v) o' = q_sl M o' := by
  funext j kd
  match kd with
  | 0 => simp only [q_sl, q_up_ne h]
  | 1 => simp only [q_sl, q_up_ne h]
  | 2 => simp only [q_sl, q_up_ne h]
  | t + 3 => rfl
theorem q_en_ne {Γ : qG} {M : qM} {L : Nat → Int64} {o o' k : Nat} {v : Int32} (h : o' ≠ o) (y : (Nat × Nat) ⊕ (Nat × List Nat)) : q_en Γ (q_up M o k v, L) o' y = q_en Γ (M, L) o' y := by
  rcases y with ⟨t, n⟩ | ⟨ci, ks⟩
  · match t with
    | 0 => simp only [q_en, q_up_ne h]
    | 1 => simp only [q_en, q_up_ne h]
    | 2 => rfl
    | t + 3 => simp only [q_en, q_up_ne h]
  · simp only [q_en, q_sl_ne h]
theorem q_en_put {Γ : qG} {M : qM} {L : Nat → Int64} {o a kd : Nat} {v : Int32} {w : Value} (ci : Nat) (ks : List Nat) (hk : ks[a]? = some kd) (hw : q_sl (q_up M o a v) o a kd = w) :
    q_en Γ (q_up M o a v, L) o (.inr (ci, ks)) = .inr (ci, (ks.mapIdx (fun k kd => q_v Γ.2.2.1 (q_sl M o k kd))).set a (q_v Γ.2.2.1 w)) := by
  simp only [q_en]
  congr 2
  apply List.ext_getElem?
  intro j
  rw [List.getElem?_mapIdx, List.getElem?_set, List.length_mapIdx, List.getElem?_mapIdx]
  by_cases hj : a = j
  · subst hj
    rw [if_pos rfl, if_pos (List.getElem?_eq_some_iff.mp hk).1, hk, ← hw]
    rfl
  · rw [if_neg hj]
    cases ks[j]? with
    | none => rfl
    | some kd2 =>
      have e : q_sl (q_up M o a v) o j kd2 = q_sl M o j kd2 := by
        have e2 : q_up M o a v o j = M o j := by
          simp only [q_up, va_up, if_pos, if_neg (fun q => hj (Eq.symm q))]
        match kd2 with
        | 0 => simp only [q_sl, e2]
        | 1 => simp only [q_sl, e2]
        | 2 => simp only [q_sl, e2]
        | t + 3 => rfl
      simp only [Option.map_some, e]
-- what a plain step says
section Specs
variable {pc k a b pc' : Nat} {ls st ls' st' : List Value} {S S' : qS}
theorem q_ldi_spec (h : q_ldi pc k ls st S = some (pc', ls', st', S')) : ∃ v, ls[k]? = some (.int v) ∧ pc = pc' ∧ ls = ls' ∧ .int v :: st = st' ∧ S = S' := by
  unfold q_ldi at h
  split at h
  next v hv =>
    simp only [Option.some.injEq, Prod.mk.injEq] at h
    exact ⟨v, hv, h.1, h.2.1, h.2.2.1, h.2.2.2⟩
  next => cases h
theorem q_lda_spec (h : q_lda pc k ls st S = some (pc', ls', st', S')) : ∃ v, ls[k]? = some (.ref v) ∧ pc = pc' ∧ ls = ls' ∧ .ref v :: st = st' ∧ S = S' := by
  unfold q_lda at h
  split at h
  next v hv =>
    simp only [Option.some.injEq, Prod.mk.injEq] at h
    exact ⟨v, hv, h.1, h.2.1, h.2.2.1, h.2.2.2⟩
  next => cases h
theorem q_sti_spec (h : q_sti pc k ls st S = some (pc', ls', st', S')) : ∃ v, st = .int v :: st' ∧ pc = pc' ∧ ls.set k (.int v) = ls' ∧ S = S' := by
  unfold q_sti at h
  split at h
  next v r =>
    simp only [Option.some.injEq, Prod.mk.injEq] at h
    exact ⟨v, by rw [h.2.2.1], h.1, h.2.1, h.2.2.2⟩
  next => cases h
theorem q_sta_spec (h : q_sta pc k ls st S = some (pc', ls', st', S')) : ∃ v, st = .ref v :: st' ∧ pc = pc' ∧ ls.set k (.ref v) = ls' ∧ S = S' := by
  unfold q_sta at h
  split at h
  next v r =>
    simp only [Option.some.injEq, Prod.mk.injEq] at h
    exact ⟨v, by rw [h.2.2.1], h.1, h.2.1, h.2.2.2⟩
  next => cases h
theorem q_bin_spec {f : Int32 → Int32 → Int32} (h : q_bin f pc ls st S = some (pc', ls', st', S')) : ∃ x y r, st = .int y :: .int x :: r ∧ pc = pc' ∧ ls = ls' ∧ .int (f x y) :: r = st' ∧ S = S' := by
  unfold q_bin at h
  split at h
  next y x r =>
    simp only [Option.some.injEq, Prod.mk.injEq] at h
    exact ⟨x, y, r, rfl, h.1, h.2.1, h.2.2.1, h.2.2.2⟩
  next => cases h
theorem q_un_spec {f : Int32 → Int32} (h : q_un f pc ls st S = some (pc', ls', st', S')) : ∃ x r, st = .int x :: r ∧ pc = pc' ∧ ls = ls' ∧ .int (f x) :: r = st' ∧ S = S' := by
  unfold q_un at h
  split at h
  next x r =>
    simp only [Option.some.injEq, Prod.mk.injEq] at h
    exact ⟨x, r, rfl, h.1, h.2.1, h.2.2.1, h.2.2.2⟩
  next => cases h
theorem q_inc_spec {n : Int} (h : q_inc pc k n ls st S = some (pc', ls', st', S')) : ∃ v, ls[k]? = some (.int v) ∧ pc = pc' ∧ ls.set k (.int (v + iI n)) = ls' ∧ st = st' ∧ S = S' := by
  unfold q_inc at h
  split at h
  next v hv =>
    simp only [Option.some.injEq, Prod.mk.injEq] at h
    exact ⟨v, hv, h.1, h.2.1, h.2.2.1, h.2.2.2⟩
  next => cases h
theorem q_gf_spec (h : q_gf pc a b ls st S = some (pc', ls', st', S')) : ∃ o r ks kd, st = .ref o :: r ∧ oT[o]? = some (.inr (b, ks)) ∧ ks[a]? = some kd ∧ pc = pc' ∧ ls = ls' ∧ q_sl S.1 o a kd :: r = st' ∧ S = S' := by
  unfold q_gf at h
  split at h
  next o r =>
    split at h
    next ci ks ho =>
      split at h
      next kd hb hk =>
        simp only [Option.some.injEq, Prod.mk.injEq] at h
        have e := Nat.eq_of_beq_eq_true hb
        subst e
        exact ⟨o, r, ks, kd, rfl, ho, hk, h.1, h.2.1, h.2.2.1, h.2.2.2⟩
      next => cases h
    next => cases h
  next => cases h
theorem q_pf_spec (h : q_pf pc a b ls st S = some (pc', ls', st', S')) : ∃ (o : Nat) (v : Value) (w : Int32) (ks : List Nat) (kd : Nat), st = v :: .ref o :: st' ∧ oT[o]? = some (.inr (b, ks)) ∧ ks[a]? = some kd ∧ pc = pc' ∧ ls = ls' ∧ (q_up S.1 o a w, S.2) = S' ∧ q_sl (q_up S.1 o a w) o a kd = v ∧ ((kd = 0 ∧ v = .int w) ∨ (kd = 1 ∧ ∃ t, v = .ref t)) := by
  have hu : ∀ (o : Nat) (w : Int32), q_up S.1 o a w o a = w := fun o w => by simp [q_up, va_up]
  unfold q_pf at h
  split at h
  next v o r =>
    split at h
    next ci ks ho =>
      split at h
      next hb hk =>
        simp only [Option.some.injEq, Prod.mk.injEq] at h
        have e := Nat.eq_of_beq_eq_true hb
        subst e
        obtain ⟨h1, h2, h3, h4⟩ := h
        subst h3
        exact ⟨o, .int v, v, ks, 0, rfl, ho, hk, h1, h2, h4, by simp only [q_sl, hu], Or.inl ⟨rfl, rfl⟩⟩
      next => cases h
    next => cases h
  next t o r =>
    split at h
    next ci ks ho =>
      split at h
      next hb hk ht =>
        simp only [Option.some.injEq, Prod.mk.injEq] at h
        have e := Nat.eq_of_beq_eq_true hb
        subst e
        obtain ⟨h1, h2, h3, h4⟩ := h
        subst h3
        refine ⟨o, .ref t, Int32.ofNat t, ks, 1, rfl, ho, hk, h1, h2, h4, ?_, Or.inr ⟨rfl, t, rfl⟩⟩
        have ht2 : t < 2 ^ 31 := by
          have := Nat.blt_eq.mp ht
          omega
        simp only [q_sl, hu]
        exact congrArg Value.ref (nI_clamp ht2)
      next => cases h
    next => cases h
  next => cases h
end Specs
theorem q_i8 {n : Int} (h1 : -128 ≤ n) (h2 : n ≤ 127) : (Int8.ofInt n).toInt32 = iI n := by
  unfold iI
  apply Int32.toInt_inj.mp
  rw [Int8.toInt_toInt32, Int8.toInt_ofInt_of_le (by omega) (by omega), Int32.toInt_ofInt_of_le (by omega) (by omega)]
theorem q_i16 {n : Int} (h1 : -32768 ≤ n) (h2 : n ≤ 32767) : (Int16.ofInt n).toInt32 = iI n := by
  unfold iI
  apply Int32.toInt_inj.mp
  rw [Int16.toInt_toInt32, Int16.toInt_ofInt_of_le (by omega) (by omega), Int32.toInt_ofInt_of_le (by omega) (by omega)]
-- the judgement
def q_St (Γ : qG) (A : Nat → Prop) (U : State) (H : Heap) : Prop := (∃ adV : Nat → Nat, vk_S 8 q_len q_byt (fun i => Γ.2.2.1 (60 + i)) adV A U H) ∧ (∀ w ∈ SR, vk_R w.1 w.2.1 w.2.2.1 (Γ.2.2.1 (60 + w.2.2.2)) U) ∧ (va_X (Γ.2.2.1 50) Γ.2.2.2.2 Γ.2.2.2.1 U H ∧ Γ.2.2.1 50 < H.size ∧ ¬ A (Γ.2.2.1 50)) ∧
  va_Z "java/lang/String" "COMPACT_STRINGS" "Z" (.int 1) A U H ∧ va_Zq "java/lang/Throwable" "UNASSIGNED_STACK" "[Ljava/lang/StackTraceElement;" A U H ∧ va_Zq "java/lang/Throwable" "SUPPRESSED_SENTINEL" "Ljava/util/List;" A U H ∧ ∀ (q : Nat) (cell : Cell), A q → H[q]? = some cell → cell.vm.isStatics = false
/-- words on exceptions that no list of good words holds -/
def q_Xw (U : State) : Prop := (∀ w ∈ XC, va_Nw (Cond.castable w w) U) ∧ (∀ w ∈ XD, va_Nw (Cond.declares w) U) ∧ ∀ w ∈ XL, (Cond.laysStatic w.1 w.2.1 w.2.2).before #[] U = true
def q_K (Γ : qG) (A : Nat → Prop) (s : State) : Prop := va_K Γ.1 vwCl Γ.2.1 s ∧ Γ.2.1.map (fun q => q.2) = [.int, .char, .long] ∧ (∀ w ∈ NF, va_Nw (Cond.fieldLinkNest w.1 w.2.1 w.2.2.1 w.2.2.2.1 w.2.2.2.2.1 w.2.2.2.2.2) s) ∧ (∀ w ∈ NM, va_Nw (Cond.methodLinkNest w.1 w.2.1 w.2.2.1 w.2.2.2) s) ∧ q_St Γ A s s.heap ∧ q_Xw s
def q_C (Γ : qG) (A : Nat → Prop) (T : qT) (d : Nat) (p : Program) (R : Room) (s : State) (m : MethodId) (args : Array Value) (meth : Method) (c : Code) : Prop :=
  p.tables.exec = Jvm.exec ∧ c.code = T.2.1 ∧ c.maxLocals = T.2.2.1 ∧ meth.sig.returnType = T.2.2.2.1 ∧ meth.locks = false ∧ s.vm.findClass T.1.cls = some m.cls ∧ (∀ w ∈ WG, w.before args s = true) ∧ q_K Γ A s ∧ (∀ q, s.heap.size ≤ q → A q) ∧ d ≤ R.frames ∧ 40 * d ≤ R.locals
def q_W (Γ : qG) (A : Nat → Prop) (s : State) (S : qS) (H : Heap) (locs : List Loc) : Prop := va_P Γ.1 vwCl (q_ws Γ S) H ∧ va_D A (q_ws Γ S) ∧ va_S A s.heap H locs
def q_Q (Γ : qG) (A : Nat → Prop) (Q : qO → qS → Prop) : Array Value → State → Outcome → State → Prop := fun _ st oc t =>
  (∃ (v : Option Value) (S : qS), Q (.inl v) S ∧ oc = .returned (v.map (q_v Γ.2.2.1)) ∧ va_P Γ.1 vwCl (q_ws Γ S) t.heap ∧ va_D A (q_ws Γ S)) ∧ va_F A st t
def q_thrown (Γ : qG) (A : Nat → Prop) (ec : Nat) (S : qS) (below : List Frame) (s : State) (R : Room) (t : State) : Prop := ∃ (a : Addr) (cell : Cell), t.status = .running ∧ Ended t below (.threw a) ∧ s.WarmedH t.vm ∧ (∃ L : List Loc, s.sameButNew ({ t with vm := s.vm } : State) L R.cells R.slots ∧ ∀ q ∈ L, A q.base) ∧ t.heap[a]? = some cell ∧ (∀ k, cell.vm ≠ .statics k) ∧ t.vm.findClass (q_exn ec) = some cell.cls ∧ va_P Γ.1 vwCl (q_ws Γ S) t.heap ∧ va_D A (q_ws Γ S) ∧ va_F A s t
def q_E (Γ : qG) (A : Nat → Prop) (Q : qO → qS → Prop) (below : List Frame) (args : Array Value) (s : State) (R : Room) : State → Prop := fun t => MQ below (q_Q Γ A Q) args s R.cells R.slots A t ∨ ∃ (ec : Nat) (S : qS), Q (.inr ec) S ∧ q_thrown Γ A ec S below s R t
def V (l : Launch) (Γ : qG) (T : qT) (d r pc : Nat) (ls st : List Value) (S : qS) (Q : qO → qS → Prop) : Prop :=
  ∀ (A : Nat → Prop) (p : Program) (e : Env) (R : Room) (s : State) (m : MethodId) (args : Array Value) (below : List Frame) (meth : Method) (c : Code) (H : Heap) (locs : List Loc) (cells slots : Nat) (Lr : Array Slot),
    q_ok T = true → q_C Γ A T d p R s m args meth c → q_W Γ A s S H locs → q_lh Γ.2.2.1 ls T.2.2.1 Lr → cells + r ≤ R.cells → slots + 8 * r ≤ R.slots →
    W p l e R s m args below meth c H locs cells slots (q_E Γ A Q below args s R) (F0 m pc Lr (st.map (q_v Γ.2.2.1)))
theorem q_fl_spec {own : String} {index a b : Nat} (h : q_fl own index a b = true) : ∃ (C : String) (Tt : u_T) (N : Nat), vwCl[b]? = some (C, Tt, N) ∧ a < N ∧ (Cond.fieldLink own index (Tt a).1 (Tt a).2.1 (Tt a).2.2.1 ∈ WG ∨ ∃ host, (own, index, (Tt a).1, (Tt a).2.1, (Tt a).2.2.1, host) ∈ NF) := by
  unfold q_fl at h
  split at h
  next C Tt N hc =>
    simp only [Bool.and_eq_true, Bool.or_eq_true, decide_eq_true_eq, Nat.blt_eq] at h
    refine ⟨C, Tt, N, hc, h.1, ?_⟩
    rcases h.2 with h2 | h2
    · exact Or.inl (q_in_spec h2)
    · exact Or.inr ⟨q_host, h2⟩
  next => cases h
section Rows
variable {l : Launch} {Γ : qG} {T : qT} {d r pc pc' : Nat} {ls st ls' st' : List Value} {S S' : qS} {Q : qO → qS → Prop}
set_option maxHeartbeats 4000000 in
set_option maxRecDepth 100000 in
theorem V.stp {x : qIn} (hf : q_ft T.2.2.2.2 pc = some x) (hs : q_stp x pc ls st S = some (pc', ls', st', S')) (k : V l Γ T d r pc' ls' st' S' Q) : V l Γ T d r pc ls st S Q := by
  intro A p e R s m args below meth c H locs cells slots Lr hok hC hW hL hc1 hc2
  obtain ⟨hd, hrow⟩ := q_ok_at hok hf
  obtain ⟨i, len, a, b⟩ := x
  have K : ∀ (H' : Heap) (locs' : List Loc) (Lr' : Array Slot), q_W Γ A s S' H' locs' → q_lh Γ.2.2.1 ls' T.2.2.1 Lr' → W p l e R s m args below meth c H' locs' cells slots (q_E Γ A Q below args s R) (F0 m pc' Lr' (st'.map (q_v Γ.2.2.1))) :=
    fun H' locs' Lr' hW' hL' => k A p e R s m args below meth c H' locs' cells slots Lr' hok hC hW' hL' hc1 hc2
  clear k
  obtain ⟨hx, hb, hml, hr, hlk, hown, hts, hK, hA, hfr, hlo⟩ := hC
  dsimp only at hd
  cases i
  case iconst n =>
    simp only [q_row, q_rowG, Nat.beq_eq] at hrow
    subst hrow
    simp only [q_stp, Option.some.injEq, Prod.mk.injEq] at hs
    obtain ⟨rfl, rfl, rfl, rfl⟩ := hs
    exact lv_iconst hx hb hd rfl (K H locs Lr hW hL)
  case bipush n =>
    simp only [q_row, q_rowG, Nat.beq_eq, Bool.and_eq_true, decide_eq_true_eq] at hrow
    obtain ⟨⟨rfl, h1⟩, h2⟩ := hrow
    simp only [q_stp, Option.some.injEq, Prod.mk.injEq] at hs
    obtain ⟨rfl, rfl, rfl, rfl⟩ := hs
    exact lv_bipush hx hb hd (q_i8 h1 h2) (K H locs Lr hW hL)
  case sipush n =>
    simp only [q_row, q_rowG, Nat.beq_eq, Bool.and_eq_true, decide_eq_true_eq] at hrow
    obtain ⟨⟨rfl, h1⟩, h2⟩ := hrow
    simp only [q_stp, Option.some.injEq, Prod.mk.injEq] at hs
    obtain ⟨rfl, rfl, rfl, rfl⟩ := hs
    exact lv_sipush hx hb hd (q_i16 h1 h2) (K H locs Lr hW hL)
  case iload_n n =>
    simp only [q_row, q_rowG, Nat.beq_eq] at hrow
    subst hrow
    obtain ⟨v, hv, rfl, rfl, rfl, rfl⟩ := q_ldi_spec hs
    exact lv_iload_n hx hb hd rfl (hL.at hv (fun q => by cases q)) (K H locs Lr hW hL)
  case iload n =>
    simp only [q_row, q_rowG, Nat.beq_eq] at hrow
    subst hrow
    obtain ⟨v, hv, rfl, rfl, rfl, rfl⟩ := q_ldi_spec hs
    exact lv_iload hx hb hd (hL.at hv (fun q => by cases q)) (K H locs Lr hW hL)
  case aload_n n =>
    simp only [q_row, q_rowG, Nat.beq_eq] at hrow
    subst hrow
    obtain ⟨v, hv, rfl, rfl, rfl, rfl⟩ := q_lda_spec hs
    exact lv_aload_n hx hb hd rfl (hL.at hv (fun q => by cases q)) (K H locs Lr hW hL)
  case aload n =>
    simp only [q_row, q_rowG, Nat.beq_eq] at hrow
    subst hrow
    obtain ⟨v, hv, rfl, rfl, rfl, rfl⟩ := q_lda_spec hs
    exact lv_aload hx hb hd (hL.at hv (fun q => by cases q)) (K H locs Lr hW hL)
  case istore_n n =>
    simp only [q_row, q_rowG, Nat.beq_eq, Bool.and_eq_true, Nat.blt_eq] at hrow
    obtain ⟨rfl, hn⟩ := hrow
    obtain ⟨v, rfl, rfl, rfl, rfl⟩ := q_sti_spec hs
    exact lv_istore_n hx hb hd rfl hL.has hn rfl (fun L2 h2 => K H locs L2 hW (hL.set (v := .int v) rfl h2))
  case istore n =>
    simp only [q_row, q_rowG, Nat.beq_eq, Bool.and_eq_true, Nat.blt_eq] at hrow
    obtain ⟨rfl, hn⟩ := hrow
    obtain ⟨v, rfl, rfl, rfl, rfl⟩ := q_sti_spec hs
    exact lv_istore hx hb hd hL.has hn rfl (fun L2 h2 => K H locs L2 hW (hL.set (v := .int v) rfl h2))
  case astore_n n =>
    simp only [q_row, q_rowG, Nat.beq_eq, Bool.and_eq_true, Nat.blt_eq] at hrow
    obtain ⟨rfl, hn⟩ := hrow
    obtain ⟨v, rfl, rfl, rfl, rfl⟩ := q_sta_spec hs
    exact lv_astore_n hx hb hd rfl hL.has hn rfl (fun L2 h2 => K H locs L2 hW (hL.set (v := .ref v) rfl h2))
  case astore n =>
    simp only [q_row, q_rowG, Nat.beq_eq, Bool.and_eq_true, Nat.blt_eq] at hrow
    obtain ⟨rfl, hn⟩ := hrow
    obtain ⟨v, rfl, rfl, rfl, rfl⟩ := q_sta_spec hs
    exact lv_astore hx hb hd hL.has hn rfl (fun L2 h2 => K H locs L2 hW (hL.set (v := .ref v) rfl h2))
  case iinc n z =>
    simp only [q_row, q_rowG, Nat.beq_eq, Bool.and_eq_true, Nat.blt_eq] at hrow
    obtain ⟨rfl, hn⟩ := hrow
    obtain ⟨v, hv, rfl, rfl, rfl, rfl⟩ := q_inc_spec hs
    obtain ⟨j, hj⟩ := List.getElem?_of_mem (q_prs_mem.mpr ⟨hn, .int v, hv, (fun q => by cases q), rfl⟩ : (n, q_v Γ.2.2.1 (.int v)) ∈ q_prs Γ.2.2.1 ls T.2.2.1)
    exact lv_iinc (k := j) hx hb hd hL.has hj rfl hn rfl (fun L2 h2 => K H locs L2 hW (hL.set (v := .int (v + iI z)) rfl h2))
  case iadd =>
    simp only [q_row, q_rowG, Nat.beq_eq] at hrow
    subst hrow
    obtain ⟨x, y, q, rfl, rfl, rfl, rfl, rfl⟩ := q_bin_spec hs
    exact lv_iadd hx hb hd (K H locs Lr hW hL)
  case isub =>
    simp only [q_row, q_rowG, Nat.beq_eq] at hrow
    subst hrow
    obtain ⟨x, y, q, rfl, rfl, rfl, rfl, rfl⟩ := q_bin_spec hs
    exact lv_isub hx hb hd (K H locs Lr hW hL)
  case imul =>
    simp only [q_row, q_rowG, Nat.beq_eq] at hrow
    subst hrow
    obtain ⟨x, y, q, rfl, rfl, rfl, rfl, rfl⟩ := q_bin_spec hs
    exact lv_imul hx hb hd (K H locs Lr hW hL)
  case iand =>
    simp only [q_row, q_rowG, Nat.beq_eq] at hrow
    subst hrow
    obtain ⟨x, y, q, rfl, rfl, rfl, rfl, rfl⟩ := q_bin_spec hs
    exact lv_iand hx hb hd (K H locs Lr hW hL)
  case ior =>
    simp only [q_row, q_rowG, Nat.beq_eq] at hrow
    subst hrow
    obtain ⟨x, y, q, rfl, rfl, rfl, rfl, rfl⟩ := q_bin_spec hs
    exact lv_ior hx hb hd (K H locs Lr hW hL)
  case ishl =>
    simp only [q_row, q_rowG, Nat.beq_eq] at hrow
    subst hrow
    obtain ⟨x, y, q, rfl, rfl, rfl, rfl, rfl⟩ := q_bin_spec hs
    exact lv_ishl hx hb hd (K H locs Lr hW hL)
  case ishr =>
    simp only [q_row, q_rowG, Nat.beq_eq] at hrow
    subst hrow
    obtain ⟨x, y, q, rfl, rfl, rfl, rfl, rfl⟩ := q_bin_spec hs
    exact lv_ishr hx hb hd (K H locs Lr hW hL)
  case iushr =>
    simp only [q_row, q_rowG, Nat.beq_eq] at hrow
    subst hrow
    obtain ⟨x, y, q, rfl, rfl, rfl, rfl, rfl⟩ := q_bin_spec hs
    exact lv_iushr hx hb hd rfl (K H locs Lr hW hL)
  case ineg =>
    simp only [q_row, q_rowG, Nat.beq_eq] at hrow
    subst hrow
    obtain ⟨x, q, rfl, rfl, rfl, rfl, rfl⟩ := q_un_spec hs
    exact lv_ineg hx hb hd (K H locs Lr hW hL)
  case i2s =>
    simp only [q_row, q_rowG, Nat.beq_eq] at hrow
    subst hrow
    obtain ⟨x, q, rfl, rfl, rfl, rfl, rfl⟩ := q_un_spec hs
    exact lv_i2s hx hb hd rfl (K H locs Lr hW hL)
  case i2c =>
    simp only [q_row, q_rowG, Nat.beq_eq] at hrow
    subst hrow
    obtain ⟨x, q, rfl, rfl, rfl, rfl, rfl⟩ := q_un_spec hs
    exact lv_i2c hx hb hd rfl (K H locs Lr hW hL)
  case dup =>
    simp only [q_row, q_rowG, Nat.beq_eq] at hrow
    subst hrow
    dsimp only [q_stp] at hs
    split at hs
    next v q => (simp only [Option.some.injEq, Prod.mk.injEq] at hs; obtain ⟨rfl, rfl, rfl, rfl⟩ := hs; exact lv_dup hx hb hd rfl (K H locs Lr hW hL))
    next v q => (simp only [Option.some.injEq, Prod.mk.injEq] at hs; obtain ⟨rfl, rfl, rfl, rfl⟩ := hs; exact lv_dup hx hb hd rfl (K H locs Lr hW hL))
    next => cases hs
  case pop =>
    simp only [q_row, q_rowG, Nat.beq_eq] at hrow
    subst hrow
    dsimp only [q_stp] at hs
    split at hs
    next v q => (simp only [Option.some.injEq, Prod.mk.injEq] at hs; obtain ⟨rfl, rfl, rfl, rfl⟩ := hs; exact lv_pop hx hb hd rfl (K H locs Lr hW hL))
    next v q => (simp only [Option.some.injEq, Prod.mk.injEq] at hs; obtain ⟨rfl, rfl, rfl, rfl⟩ := hs; exact lv_pop hx hb hd rfl (K H locs Lr hW hL))
    next => cases hs
  case goto off =>
    simp only [q_row, q_rowG, Nat.beq_eq, Bool.and_eq_true, decide_eq_true_eq] at hrow
    obtain ⟨rfl, h1⟩ := hrow
    simp only [q_stp, Option.some.injEq, Prod.mk.injEq] at hs
    obtain ⟨rfl, rfl, rfl, rfl⟩ := hs
    exact lv_goto hx hb hd h1 (K H locs Lr hW hL)
  case getfield index =>
    simp only [q_row, q_rowG, Nat.beq_eq, Bool.and_eq_true, decide_eq_true_eq] at hrow
    obtain ⟨rfl, h1⟩ := hrow
    obtain ⟨C, Tt, N, hc, ha, hlink⟩ := q_fl_spec h1
    obtain ⟨o, q, ks, kd, rfl, ho, hk, rfl, rfl, rfl, rfl⟩ := q_gf_spec hs
    have he := q_ws_get Γ S ho
    have hv : (ks.mapIdx (fun k kd => q_v Γ.2.2.1 (q_sl S.1 o k kd)))[a]? = some (q_v Γ.2.2.1 (q_sl S.1 o a kd)) := by rw [List.getElem?_mapIdx, hk]; rfl
    rcases hlink with hlink | ⟨host, hlink⟩
    · exact va_get (ref := (Tt a).1) hx hb hts (q_lays b _ hc) hown hK.1 hW.1 o he hc a ha (hts _ hlink) (fun _ h9 => h9) hv hd (K H locs Lr hW hL)
    · exact va_getN (ref := (Tt a).1) (host := host) hx hb hts (q_lays b _ hc) hown hK.1 hW.1 o he hc a ha (va_Nw.use rfl (hK.2.2.1 _ hlink)) (fun _ h9 => h9) hv hd (K H locs Lr hW hL)
  case putfield index =>
    simp only [q_row, q_rowG, Nat.beq_eq, Bool.and_eq_true] at hrow
    obtain ⟨⟨rfl, h1⟩, h2⟩ := hrow
    obtain ⟨C, Tt, N, hc, ha, hlink⟩ := q_fl_spec h1
    rw [hc] at h2
    have hfin : (Tt a).2.2.2 = false := by simpa using h2
    obtain ⟨o, v, w, ks, kd, rfl, ho, hk, rfl, rfl, rfl, hsl, hkd⟩ := q_pf_spec hs
    have he := q_ws_get Γ S ho
    obtain ⟨ty, hty, hnar, hfit⟩ := q_types b _ hc o ks ho a kd hk v hkd
    have hset := q_ws_set (Γ := Γ) (S := S) (S' := (q_up S.1 o a w, S.2)) ho (fun o' y hne _ => q_en_ne hne y)
    rw [q_en_put b ks hk hsl] at hset
    have hl : a < (ks.mapIdx (fun k kd => q_v Γ.2.2.1 (q_sl S.1 o k kd))).length := by rw [List.length_mapIdx]; exact (List.getElem?_eq_some_iff.mp hk).1
    rcases hlink with hlink | ⟨host, hlink⟩
    · exact va_put (ref := (Tt a).1) (v := q_v Γ.2.2.1 v) (ty := ty) hx hb hts (q_lays b _ hc) (q_tys b) (q_tysok b _ hc) (q_names b _ hc) hown hK.1 hW.1 hW.2.1 hW.2.2 o he hc a ha (hts _ hlink) (fun _ h9 => h9) hfin hty (hnar _) (hfit _) hl hd (fun H1 locs1 h3 h4 h5 => K H1 locs1 Lr ⟨hset ▸ h3, hset ▸ h4, h5⟩ hL)
    · exact va_putN (ref := (Tt a).1) (host := host) (v := q_v Γ.2.2.1 v) (ty := ty) hx hb hts (q_lays b _ hc) (q_tys b) (q_tysok b _ hc) (q_names b _ hc) hown hK.1 hW.1 hW.2.1 hW.2.2 o he hc a ha (va_Nw.use rfl (hK.2.2.1 _ hlink)) (fun _ h9 => h9) hfin hty (hnar _) (hfit _) hl hd (fun H1 locs1 h3 h4 h5 => K H1 locs1 Lr ⟨hset ▸ h3, hset ▸ h4, h5⟩ hL)
  case ldc index =>
    simp only [q_row, q_rowG, Nat.beq_eq, Bool.and_eq_true] at hrow
    obtain ⟨rfl, h1⟩ := hrow
    dsimp only [q_stp] at hs
    split at hs
    next => (simp only [Option.some.injEq, Prod.mk.injEq] at hs; obtain ⟨rfl, rfl, rfl, rfl⟩ := hs; exact lv_ldc hx hb hown (hts _ (q_in_spec (show q_in _ = true from h1))) hd (K H locs Lr hW hL))
    next hb0 =>
      simp only [Option.some.injEq, Prod.mk.injEq] at hs
      obtain ⟨rfl, rfl, rfl, rfl⟩ := hs
      have h2 : SR.any (fun w => decide (w.1 = T.1.cls) && Nat.beq w.2.1 index && Nat.beq w.2.2.2 a) = true := by
        split at h1
        · exact absurd rfl hb0
        · exact h1
      obtain ⟨w, hw, h3⟩ := List.any_eq_true.mp h2
      simp only [Bool.and_eq_true, decide_eq_true_eq, Nat.beq_eq] at h3
      have h4 := hK.2.2.2.2.1.2.1 w hw
      rw [h3.1.1, h3.1.2, h3.2] at h4
      exact va_ldcS hx hb hown h4 hd (K H locs Lr hW hL)
  case ldc_w index =>
    simp only [q_row, q_rowG, Nat.beq_eq, Bool.and_eq_true] at hrow
    obtain ⟨rfl, h1⟩ := hrow
    simp only [q_stp, Option.some.injEq, Prod.mk.injEq] at hs
    obtain ⟨rfl, rfl, rfl, rfl⟩ := hs
    exact lv_ldcw hx hb hown (hts _ (q_in_spec (show q_in _ = true from h1))) hd (K H locs Lr hW hL)
  all_goals (simp [q_stp] at hs)
theorem V.run (n : Nat) : ∀ {pc : Nat} {ls st : List Value} {S : qS}, q_run n T.2.2.2.2 pc ls st S = some (pc', ls', st', S') → V l Γ T d r pc' ls' st' S' Q → V l Γ T d r pc ls st S Q := by
  induction n with
  | zero =>
    intro pc ls st S h k
    simp only [q_run, Option.some.injEq, Prod.mk.injEq] at h
    obtain ⟨rfl, rfl, rfl, rfl⟩ := h
    exact k
  | succ n ih =>
    intro pc ls st S h k
    unfold q_run at h
    split at h
    next x hx =>
      split at h
      next pc2 ls2 st2 S2 h2 => exact V.stp hx h2 (ih h k)
      next => cases h
    next => cases h
end Rows
end
section
def q_cc : ClassFile.Cond → Int32 → Int32 → Prop
  | .eq, x, y => x = y
  | .ne, x, y => ¬ x = y
  | .lt, x, y => x < y
  | .ge, x, y => y ≤ x
  | .gt, x, y => y < x
  | .le, x, y => x ≤ y
section Rows2
variable {l : Launch} {Γ : qG} {T : qT} {d r pc a b : Nat} {ls rest : List Value} {S : qS} {Q : qO → qS → Prop}
theorem q_ty {Γ : qG} {A : Nat → Prop} {s : State} (h : q_K Γ A s) (t : Nat) {ty : FieldType} (ht : ([.int, .char, .long] : List FieldType)[t]? = some ty) : Γ.2.1[t]? = some ((Γ.2.1.getD t (0, .int)).1, ty) := by
  rw [← h.2.1, List.getElem?_map] at ht
  cases hq : Γ.2.1[t]? with
  | none => rw [hq] at ht; cases ht
  | some q =>
    rw [hq] at ht
    have e : q.2 = ty := Option.some.inj ht
    rw [List.getD_eq_getElem?_getD, hq]
    subst e
    rfl

theorem V.icmp {cd : ClassFile.Cond} {off : Int} {x y : Int32} (hf : q_ft T.2.2.2.2 pc = some (.if_icmp cd off, 3, a, b)) (kt : q_cc cd x y → V l Γ T d r a ls rest S Q) (kf : ¬ q_cc cd x y → V l Γ T d r (pc + 3) ls rest S Q) : V l Γ T d r pc ls (.int y :: .int x :: rest) S Q := by
  intro A p e R s m args below meth c H locs cells slots Lr hok hC hW hL hc1 hc2
  obtain ⟨hd, hrow⟩ := q_ok_at hok hf
  dsimp only at hd
  have hC' := hC
  obtain ⟨hx, hb, hml, hr, hlk, hown, hts, hK, hA, hfr, hlo⟩ := hC
  simp only [q_row, q_rowG, Nat.beq_eq, Bool.and_eq_true, decide_eq_true_eq] at hrow
  have Kt := fun h => kt h A p e R s m args below meth c H locs cells slots Lr hok hC' hW hL hc1 hc2
  have Kf := fun h => kf h A p e R s m args below meth c H locs cells slots Lr hok hC' hW hL hc1 hc2
  cases cd
  · exact lv_icmp_eq hx hb hd hrow.2 Kt Kf
  · exact lv_icmp_ne hx hb hd hrow.2 Kt (fun h => Kf (fun q => q h))
  · exact lv_icmp_lt hx hb hd hrow.2 Kt Kf
  · exact lv_icmp_ge hx hb hd hrow.2 Kt Kf
  · exact lv_icmp_gt hx hb hd hrow.2 Kt Kf
  · exact lv_icmp_le hx hb hd hrow.2 Kt Kf
theorem V.ifc {cd : ClassFile.Cond} {off : Int} {x : Int32} (hf : q_ft T.2.2.2.2 pc = some (.ifCond cd off, 3, a, b)) (kt : q_cc cd x 0 → V l Γ T d r a ls rest S Q) (kf : ¬ q_cc cd x 0 → V l Γ T d r (pc + 3) ls rest S Q) : V l Γ T d r pc ls (.int x :: rest) S Q := by
  intro A p e R s m args below meth c H locs cells slots Lr hok hC hW hL hc1 hc2
  obtain ⟨hd, hrow⟩ := q_ok_at hok hf
  dsimp only at hd
  have hC' := hC
  obtain ⟨hx, hb, hml, hr, hlk, hown, hts, hK, hA, hfr, hlo⟩ := hC
  simp only [q_row, q_rowG, Nat.beq_eq, Bool.and_eq_true, decide_eq_true_eq] at hrow
  have Kt := fun h => kt h A p e R s m args below meth c H locs cells slots Lr hok hC' hW hL hc1 hc2
  have Kf := fun h => kf h A p e R s m args below meth c H locs cells slots Lr hok hC' hW hL hc1 hc2
  cases cd
  · exact lv_if_eq hx hb hd hrow.2 Kt Kf
  · exact lv_if_ne hx hb hd hrow.2 Kt (fun h => Kf (fun q => q h))
  · exact lv_if_lt hx hb hd hrow.2 Kt Kf
  · exact lv_if_ge hx hb hd hrow.2 Kt Kf
  · exact lv_if_gt hx hb hd hrow.2 Kt Kf
  · exact lv_if_le hx hb hd hrow.2 Kt Kf
theorem V.idiv {x y : Int32} (hf : q_ft T.2.2.2.2 pc = some (.idiv, 1, a, b)) (hy : ¬ y = 0) (k : V l Γ T d r (pc + 1) ls (.int (x / y) :: rest) S Q) : V l Γ T d r pc ls (.int y :: .int x :: rest) S Q := by
  intro A p e R s m args below meth c H locs cells slots Lr hok hC hW hL hc1 hc2
  obtain ⟨hd, hrow⟩ := q_ok_at hok hf
  dsimp only at hd
  have hC' := hC
  obtain ⟨hx, hb, hml, hr, hlk, hown, hts, hK, hA, hfr, hlo⟩ := hC
  exact lv_idiv hx hb hd hy (k A p e R s m args below meth c H locs cells slots Lr hok hC' hW hL hc1 hc2)
theorem V.irem {x y : Int32} (hf : q_ft T.2.2.2.2 pc = some (.irem, 1, a, b)) (hy : ¬ y = 0) (k : V l Γ T d r (pc + 1) ls (.int (x - x / y * y) :: rest) S Q) : V l Γ T d r pc ls (.int y :: .int x :: rest) S Q := by
  intro A p e R s m args below meth c H locs cells slots Lr hok hC hW hL hc1 hc2
  obtain ⟨hd, hrow⟩ := q_ok_at hok hf
  dsimp only at hd
  have hC' := hC
  obtain ⟨hx, hb, hml, hr, hlk, hown, hts, hK, hA, hfr, hlo⟩ := hC
  exact lv_irem hx hb hd hy (k A p e R s m args below meth c H locs cells slots Lr hok hC' hW hL hc1 hc2)
theorem V.iald {o n : Nat} {i : Int32} (hf : q_ft T.2.2.2.2 pc = some (.iaload, 1, a, b)) (ho : oT[o]? = some (.inl (0, n))) (hi : vp_in i n) (k : V l Γ T d r (pc + 1) ls (.int (S.1 o i.toNatClampNeg) :: rest) S Q) : V l Γ T d r pc ls (.int i :: .ref o :: rest) S Q := by
  intro A p e R s m args below meth c H locs cells slots Lr hok hC hW hL hc1 hc2
  obtain ⟨hd, hrow⟩ := q_ok_at hok hf
  dsimp only at hd
  have hC' := hC
  obtain ⟨hx, hb, hml, hr, hlk, hown, hts, hK, hA, hfr, hlo⟩ := hC
  exact va_iald hx hb hK.1 hW.1 o 0 (q_ws_get Γ S ho) (q_ty hK 0 rfl) hi hd (k A p e R s m args below meth c H locs cells slots Lr hok hC' hW hL hc1 hc2)
theorem V.cald {o n : Nat} {i : Int32} (hf : q_ft T.2.2.2.2 pc = some (.caload, 1, a, b)) (ho : oT[o]? = some (.inl (1, n))) (hi : vp_in i n) (k : V l Γ T d r (pc + 1) ls (.int (S.1 o i.toNatClampNeg) :: rest) S Q) : V l Γ T d r pc ls (.int i :: .ref o :: rest) S Q := by
  intro A p e R s m args below meth c H locs cells slots Lr hok hC hW hL hc1 hc2
  obtain ⟨hd, hrow⟩ := q_ok_at hok hf
  dsimp only at hd
  have hC' := hC
  obtain ⟨hx, hb, hml, hr, hlk, hown, hts, hK, hA, hfr, hlo⟩ := hC
  exact va_cald hx hb hK.1 hW.1 o 1 (q_ws_get Γ S ho) (q_ty hK 1 rfl) hi hd (k A p e R s m args below meth c H locs cells slots Lr hok hC' hW hL hc1 hc2)
theorem V.iast {o n : Nat} {i x : Int32} (hf : q_ft T.2.2.2.2 pc = some (.iastore, 1, a, b)) (ho : oT[o]? = some (.inl (0, n))) (hi : vp_in i n) (k : V l Γ T d r (pc + 1) ls rest (q_up S.1 o i.toNatClampNeg x, S.2) Q) : V l Γ T d r pc ls (.int x :: .int i :: .ref o :: rest) S Q := by
  intro A p e R s m args below meth c H locs cells slots Lr hok hC hW hL hc1 hc2
  obtain ⟨hd, hrow⟩ := q_ok_at hok hf
  dsimp only at hd
  have hC' := hC
  obtain ⟨hx, hb, hml, hr, hlk, hown, hts, hK, hA, hfr, hlo⟩ := hC
  have hset := q_ws_set (Γ := Γ) (S := S) (S' := (q_up S.1 o i.toNatClampNeg x, S.2)) ho (fun o' y hne _ => q_en_ne hne y)
  have he : q_en Γ (q_up S.1 o i.toNatClampNeg x, S.2) o (.inl (0, n)) = .inl ((Γ.2.1.getD 0 (0, .int)).1, n, .inl (upd (S.1 o) i.toNatClampNeg x)) := by
    have e1 : q_up S.1 o i.toNatClampNeg x o = upd (S.1 o) i.toNatClampNeg x := by funext j; simp [q_up, va_up, upd]
    simp only [q_en, e1]
  rw [he] at hset
  exact va_iast hx hb hK.1 hW.1 hW.2.1 hW.2.2 o 0 (q_ws_get Γ S ho) (q_ty hK 0 rfl) hi hd (fun H1 locs1 h3 h4 h5 => k A p e R s m args below meth c H1 locs1 cells slots Lr hok hC' ⟨hset ▸ h3, hset ▸ h4, h5⟩ hL hc1 hc2)
theorem V.cast {o n : Nat} {i x : Int32} (hf : q_ft T.2.2.2.2 pc = some (.castore, 1, a, b)) (ho : oT[o]? = some (.inl (1, n))) (hi : vp_in i n) (k : V l Γ T d r (pc + 1) ls rest (q_up S.1 o i.toNatClampNeg (vp_nar .char x), S.2) Q) : V l Γ T d r pc ls (.int x :: .int i :: .ref o :: rest) S Q := by
  intro A p e R s m args below meth c H locs cells slots Lr hok hC hW hL hc1 hc2
  obtain ⟨hd, hrow⟩ := q_ok_at hok hf
  dsimp only at hd
  have hC' := hC
  obtain ⟨hx, hb, hml, hr, hlk, hown, hts, hK, hA, hfr, hlo⟩ := hC
  have hset := q_ws_set (Γ := Γ) (S := S) (S' := (q_up S.1 o i.toNatClampNeg (vp_nar .char x), S.2)) ho (fun o' y hne _ => q_en_ne hne y)
  have he : q_en Γ (q_up S.1 o i.toNatClampNeg (vp_nar .char x), S.2) o (.inl (1, n)) = .inl ((Γ.2.1.getD 1 (0, .int)).1, n, .inl (upd (S.1 o) i.toNatClampNeg (vp_nar .char x))) := by
    have e1 : q_up S.1 o i.toNatClampNeg (vp_nar .char x) o = upd (S.1 o) i.toNatClampNeg (vp_nar .char x) := by funext j; simp [q_up, va_up, upd]
    simp only [q_en, e1]
  rw [he] at hset
  exact va_cast hx hb hK.1 hW.1 hW.2.1 hW.2.2 o 1 (q_ws_get Γ S ho) (q_ty hK 1 rfl) hi hd (fun H1 locs1 h3 h4 h5 => k A p e R s m args below meth c H1 locs1 cells slots Lr hok hC' ⟨hset ▸ h3, hset ▸ h4, h5⟩ hL hc1 hc2)
theorem V.alen {o t n : Nat} (hf : q_ft T.2.2.2.2 pc = some (.arraylength, 1, a, b)) (ho : oT[o]? = some (.inl (t, n))) (ht : t < 2) (k : V l Γ T d r (pc + 1) ls (.int (nI n) :: rest) S Q) : V l Γ T d r pc ls (.ref o :: rest) S Q := by
  intro A p e R s m args below meth c H locs cells slots Lr hok hC hW hL hc1 hc2
  obtain ⟨hd, hrow⟩ := q_ok_at hok hf
  dsimp only at hd
  have hC' := hC
  obtain ⟨hx, hb, hml, hr, hlk, hown, hts, hK, hA, hfr, hlo⟩ := hC
  have K := k A p e R s m args below meth c H locs cells slots Lr hok hC' hW hL hc1 hc2
  match t, ht with
  | 0, _ => exact va_alen hx hb hK.1 hW.1 o 0 (q_ws_get Γ S ho) (q_ty hK 0 rfl) rfl hd K
  | 1, _ => exact va_alen hx hb hK.1 hW.1 o 1 (q_ws_get Γ S ho) (q_ty hK 1 rfl) rfl hd K
theorem q_end {p : Program} {l : Launch} {e : Env} {R : Room} {s : State} {m : MethodId} {args : Array Value} {below : List Frame} {meth : Method} {c : Code} {H : Heap} {locs : List Loc} {cells slots : Nat} {g : JFrame} {Γ : qG} {A : Nat → Prop} {Q : qO → qS → Prop} (h1 : cells ≤ R.cells) (h2 : slots ≤ R.slots)
    (h : W p l e R s m args below meth c H locs R.cells R.slots (MQ below (q_Q Γ A Q) args s R.cells R.slots A) g) : W p l e R s m args below meth c H locs cells slots (q_E Γ A Q below args s R) g := by
  refine W.widen (k := R.cells) (n := R.slots) h1 h2 ?_
  intro T hT X
  obtain ⟨t, a1, b1⟩ := h T hT X
  exact ⟨t, a1, Or.inl b1⟩
theorem q_back {Γ : qG} {A : Nat → Prop} {Q : qO → qS → Prop} {s t : State} {S : qS} {H : Heap} {locs : List Loc} {args : Array Value} {v : Option Value} (hW : q_W Γ A s S H locs) (ht : t.heap = H) (hq : Q (.inl v) S) : q_Q Γ A Q args s (.returned (v.map (q_v Γ.2.2.1))) t :=
  ⟨⟨v, S, hq, rfl, by rw [ht]; exact hW.1, hW.2.1⟩, hW.2.2.F ht⟩
theorem V.iret {v : Int32} (hf : q_ft T.2.2.2.2 pc = some (.ireturn, 1, a, b)) (hrt : T.2.2.2.1 = some .int) (hq : Q (.inl (some (.int v))) S) : V l Γ T d r pc ls [.int v] S Q := by
  intro A p e R s m args below meth c H locs cells slots Lr hok hC hW hL hc1 hc2
  obtain ⟨hd, hrow⟩ := q_ok_at hok hf
  dsimp only at hd
  have hC' := hC
  obtain ⟨hx, hb, hml, hr, hlk, hown, hts, hK, hA, hfr, hlo⟩ := hC
  exact q_end (by omega) (by omega) (W.iret hx hb (hr.trans hrt) (fun t ht _ => q_back hW ht hq) hW.2.2.2.2 hd hlk)
theorem V.zret {v : Int32} {ty : FieldType} (hf : q_ft T.2.2.2.2 pc = some (.ireturn, 1, a, b)) (hrt : T.2.2.2.1 = some ty) (hn : narrow ty (.int v) = .int v) (hq : Q (.inl (some (.int v))) S) : V l Γ T d r pc ls [.int v] S Q := by
  intro A p e R s m args below meth c H locs cells slots Lr hok hC hW hL hc1 hc2
  obtain ⟨hd, hrow⟩ := q_ok_at hok hf
  dsimp only at hd
  have hC' := hC
  obtain ⟨hx, hb, hml, hr, hlk, hown, hts, hK, hA, hfr, hlo⟩ := hC
  exact q_end (by omega) (by omega) (W.zret hx hb (hr.trans hrt) hn (fun t ht _ => q_back hW ht hq) hW.2.2.2.2 hd hlk)
theorem V.vret (hf : q_ft T.2.2.2.2 pc = some (.return_, 1, a, b)) (hrt : T.2.2.2.1 = none) (hq : Q (.inl none) S) : V l Γ T d r pc ls [] S Q := by
  intro A p e R s m args below meth c H locs cells slots Lr hok hC hW hL hc1 hc2
  obtain ⟨hd, hrow⟩ := q_ok_at hok hf
  dsimp only at hd
  have hC' := hC
  obtain ⟨hx, hb, hml, hr, hlk, hown, hts, hK, hA, hfr, hlo⟩ := hC
  exact q_end (by omega) (by omega) (W.vret hx hb (hr.trans hrt) (fun t ht _ => q_back hW ht hq) hW.2.2.2.2 hd hlk)
theorem V.mono {Q2 : qO → qS → Prop} {ls st : List Value} (h : V l Γ T d r pc ls st S Q2) (hq : ∀ o S, Q2 o S → Q o S) : V l Γ T d r pc ls st S Q := by
  intro A p e R s m args below meth c H locs cells slots Lr hok hC hW hL hc1 hc2 Tt hT X
  obtain ⟨t, h1, h2⟩ := h A p e R s m args below meth c H locs cells slots Lr hok hC hW hL hc1 hc2 Tt hT X
  refine ⟨t, h1, ?_⟩
  rcases h2 with ⟨o, h2, h3, ⟨⟨v, S2, h4, h5⟩, h6⟩, h7⟩ | ⟨ec, S2, h3, h4⟩
  · exact Or.inl ⟨o, h2, h3, ⟨⟨v, S2, hq _ _ h4, h5⟩, h6⟩, h7⟩
  · exact Or.inr ⟨ec, S2, hq _ _ h3, h4⟩
theorem V.deeper {ls st : List Value} {d2 : Nat} (h : V l Γ T d r pc ls st S Q) (hd : d ≤ d2) : V l Γ T d2 r pc ls st S Q := by
  intro A p e R s m args below meth c H locs cells slots Lr hok hC hW hL hc1 hc2
  obtain ⟨h1, h2, h3, h4, h5, h6, h7, h8, h9, h10, h11⟩ := hC
  exact h A p e R s m args below meth c H locs cells slots Lr hok ⟨h1, h2, h3, h4, h5, h6, h7, h8, h9, Nat.le_trans hd h10, by omega⟩ hW hL hc1 hc2
def q_wk : List Value → List Value → Prop
  | [], [] => True
  | w :: ws, v :: vs => (w = .null ∨ w = v) ∧ q_wk ws vs
  | _, _ => False
theorem q_wk_get : ∀ {ws vs : List Value}, q_wk ws vs → ws.length = vs.length ∧ ∀ (i : Nat) (w : Value), ws[i]? = some w → w = .null ∨ vs[i]? = some w
  | [], [], _ => ⟨rfl, fun i w h => by simp at h⟩
  | w :: ws, v :: vs, h => by
    obtain ⟨h1, h2⟩ := h
    obtain ⟨h3, h4⟩ := q_wk_get h2
    refine ⟨by simp [h3], fun i x hx => ?_⟩
    cases i with
    | zero =>
      simp only [List.getElem?_cons_zero, Option.some.injEq] at hx ⊢
      rcases h1 with h1 | h1
      · exact Or.inl (hx ▸ h1)
      · exact Or.inr (by rw [← hx, h1])
    | succ i =>
      simp only [List.getElem?_cons_succ] at hx ⊢
      exact h4 i x hx
  | [], _ :: _, h => h.elim
  | _ :: _, [], h => h.elim
theorem V.forget {ls ls' st : List Value} (hw : q_wk ls' ls) (h : V l Γ T d r pc ls' st S Q) : V l Γ T d r pc ls st S Q := by
  intro A p e R s m args below meth c H locs cells slots Lr hok hC hW hL hc1 hc2
  obtain ⟨h1, h2⟩ := q_wk_get hw
  refine h A p e R s m args below meth c H locs cells slots Lr hok hC hW ⟨hL.1, h1.trans hL.2.1, hL.2.2.1, fun i v hv => ?_, fun i v hv hn => ?_⟩ hc1 hc2
  · rcases h2 i v hv with rfl | h3
    · rfl
    · exact hL.2.2.2.1 i v h3
  · rcases h2 i v hv with rfl | h3
    · exact absurd rfl hn
    · exact hL.2.2.2.2 i v h3 hn
theorem V.gfm {o t index : Nat} {ks : List Nat} (hf : q_ft T.2.2.2.2 pc = some (.getfield index, 3, a, b)) (ho : oT[o]? = some (.inr (b, ks))) (hk : ks[a]? = some 1) (hv : (S.1 o a).toNatClampNeg = t) (k : V l Γ T d r (pc + 3) ls (.ref t :: rest) S Q) : V l Γ T d r pc ls (.ref o :: rest) S Q := by
  refine V.stp hf ?_ k
  have hb : Nat.beq b b = true := Nat.beq_refl b
  simp only [q_stp, q_gf, ho, hk, hb, q_sl, hv]
end Rows2
end
section
def q_A (Γ : qG) (sz : Nat) : Nat → Prop := fun q => (∃ o, o < oT.length ∧ q = Γ.2.2.1 o) ∨ sz ≤ q
def q_Pc (Γ : qG) (S : qS) (vs : List Value) (sz : Nat) : Array Value → State → Prop := fun a U => a = (vs.map (q_v Γ.2.2.1)).toArray ∧ U.heap.size = sz ∧ va_P Γ.1 vwCl (q_ws Γ S) U.heap ∧ va_D (q_A Γ sz) (q_ws Γ S) ∧ q_K Γ (q_A Γ sz) U
def q_rm (d r : Nat) : Room := { frames := d, cells := r, slots := 8 * r, locals := 40 * d }
def q_good (T : qT) : Prop := q_ok T = true ∧ Cond.code T.1 T.2.1 T.2.2.1 T.2.2.2.1 ∈ WG ∧ plainName T.1.cls = true ∧ T.2.2.1 ≤ 21
theorem q_sl_cat1 {vs : List Value} (h : ∀ v ∈ vs, v.category = 1) : lg_sl vs = vs.map Slot.val := by
  induction vs with
  | nil => rfl
  | cons v r ih =>
    have h1 := h v List.mem_cons_self
    have h2 := ih (fun w hw => h w (List.mem_cons_of_mem _ hw))
    unfold lg_sl at h2 ⊢
    rw [List.flatMap_cons, h2, if_neg (by omega)]
    rfl
theorem q_entry (ad : Nat → Nat) {vs : List Value} {n : Nat} (hc : ∀ v ∈ vs, v.category = 1) (hn : vs.length ≤ n) :
    q_lh ad (vs ++ List.replicate (n - vs.length) .null) n (lg_sl (vs.map (q_v ad)) ++ List.replicate (n - (lg_sl (vs.map (q_v ad))).length) Slot.unset).toArray := by
  have hc2 : ∀ v ∈ vs.map (q_v ad), v.category = 1 := by
    intro v hv
    obtain ⟨w, hw, rfl⟩ := List.mem_map.mp hv
    rw [q_v_cat]
    exact hc w hw
  have e := q_sl_cat1 hc2
  have hle : (lg_sl (vs.map (q_v ad))).length ≤ n := by rw [e, List.length_map, List.length_map]; exact hn
  have h1 := lv_entry (vs.map (q_v ad)) hle
  refine ⟨h1.1, by rw [List.length_append, List.length_replicate]; omega, h1.2.1, fun i v hv => ?_, fun i v hv hnn => ?_⟩
  · have hm := List.mem_of_getElem? hv
    rcases List.mem_append.mp hm with h | h
    · exact hc v h
    · rw [List.eq_of_mem_replicate h]; rfl
  · by_cases hi : i < vs.length
    · rw [List.getElem?_append_left hi] at hv
      rw [List.getElem?_toArray, e, List.getElem?_append_left (by rw [List.length_map, List.length_map]; exact hi), List.getElem?_map, List.getElem?_map, hv]
      rfl
    · rw [List.getElem?_append_right (by omega)] at hv
      exact absurd (List.eq_of_mem_replicate (List.mem_of_getElem? hv)) hnn
theorem q_met {l : Launch} {Γ : qG} {T : qT} {d r sz : Nat} {S : qS} {Q : qO → qS → Prop} {vs : List Value} (hg : q_good T) (hc : ∀ v ∈ vs, v.category = 1) (hn : vs.length ≤ T.2.2.1)
    (hno : ∀ ec S, ¬ Q (.inr ec) S) (hv : V l Γ T d r 0 (vs ++ List.replicate (T.2.2.1 - vs.length) .null) [] S Q) : Met l T.1 (Cond.code T.1 T.2.1 T.2.2.1 T.2.2.2.1 :: WG) (q_rm d r) (q_Pc Γ S vs sz) (q_Q Γ (q_A Γ sz) Q) r (8 * r) (q_A Γ sz) := by
  refine Met.ofW (cc := T.2.1) (maxL := T.2.2.1) (ret := T.2.2.2.1) hg.2.2.1 rfl ?_
  intro p e s m args below meth c s₁ B hml hp
  obtain ⟨rfl, hsz, hP, hD, hK⟩ := hp
  have hts := atoms_spec (ws := Cond.code T.1 T.2.1 T.2.2.1 T.2.2.2.1 :: WG) B.pre
  rw [lg_entry_eq]
  have hw := hv (q_A Γ sz) p e (q_rm d r) s m ((vs.map (q_v Γ.2.2.1)).toArray) below meth c s.heap [] 0 0 _ hg.1 ⟨B.exec, B.bytes, hml, B.returns, B.notSynchronized, findClass_of_methodNamed B.named, fun w h => hts w (List.mem_cons_of_mem _ h), hK, fun q h => Or.inr (by rw [← hsz]; exact h), Nat.le_refl _, Nat.le_refl _⟩ ⟨hP, hD, va_S.rf⟩ (q_entry Γ.2.2.1 hc hn) (by show 0 + r ≤ r; omega) (by show 0 + 8 * r ≤ 8 * r; omega)
  intro Tt hT X
  obtain ⟨t, a1, b1⟩ := hw Tt hT X
  rcases b1 with b1 | ⟨ec, S2, b1, -⟩
  · exact ⟨t, a1, b1⟩
  · exact absurd b1 (hno ec S2)
theorem q_A_in {Γ : qG} {A : Nat → Prop} {s : State} {S : qS} {H : Heap} {locs : List Loc} (hW : q_W Γ A s S H locs) (hA : ∀ q, s.heap.size ≤ q → A q) : ∀ q, q_A Γ H.size q → A q := by
  intro q h
  rcases h with ⟨o, ho, rfl⟩ | h
  · exact hW.2.1.2 o _ (q_ws_get Γ S (List.getElem?_eq_getElem ho))
  · exact hA q (Nat.le_trans hW.2.2.1 h)
theorem q_at_ns {D : va_G} {cl : List vw_C} {q : Nat × va_E} {H : Heap} {cell : Cell} (h : va_at D cl q H) (hc : H[q.1]? = some cell) : cell.vm.isStatics = false := by
  obtain ⟨a, e⟩ := q
  rcases e with ⟨cA, n, x⟩ | ⟨ci, fs⟩
  · have h1 : H[a]? = some (vp_cell cA (n, x)) := h
    rw [h1] at hc
    cases hc
    rcases x with f | f | f | f | f <;> rfl
  · obtain ⟨r, h1, cell2, q1, q2, q3, q4⟩ := h
    have e2 := Option.some.inj (q1.symm.trans hc)
    rw [← e2, q3]
    rfl
theorem q_Xw_moved {s U : State} (h : q_Xw s) (hWU : s.WarmedH U.vm) (hc : ∀ (a : Nat) (cell : Cell), s.heap[a]? = some cell → cell.vm.isStatics = true → U.heap[a]? = some cell) : q_Xw U := by
  refine ⟨fun w hw => (h.1 w hw).warmC hWU, fun w hw => (h.2.1 w hw).warmD hWU, fun w hw => ?_⟩
  obtain ⟨c, k, i, f, a, cell, e1, e2, e3, e4, e5, e6, e7, e8, e9⟩ := Cond.laysStatic_spec (Cond.laysStatic_setVm hWU.alike (h.2.2 w hw))
  exact Cond.laysStatic_of (c := c) (i := i) (a := a) (k := k) (f := f) (cell := cell) e1 e2 e3 e4 (hc a cell e5 e6) e6 e7 e8 e9
theorem q_K.call {Γ : qG} {A : Nat → Prop} {s U : State} {S : qS} {H : Heap} {locs : List Loc} (hW : q_W Γ A s S H locs) (hA : ∀ q, s.heap.size ≤ q → A q) (h : q_K Γ A s) (hU : U.heap = H) (hWU : s.WarmedH U.vm) : q_K Γ (q_A Γ H.size) U := by
  obtain ⟨h1, h2, h3, h4, ⟨⟨adV, h5⟩, h6, ⟨h7, h8, h9⟩, h10, h11, h12, h13⟩, hX⟩ := h
  have hk := hW.2.2.2.1
  have hn := q_A_in hW hA
  refine ⟨va_K.moved hWU.alike h1, h2, fun w hw => (h3 w hw).warmF hWU, fun w hw => (h4 w hw).warmM hWU, ⟨⟨adV, ?_⟩, fun w hw => (h6 w hw).warm hWU, ⟨?_, ?_, fun z => h9 (hn _ z)⟩, ?_, ?_, ?_, ?_⟩, q_Xw_moved hX hWU (fun a cell hc hs => by rw [hU]; rw [hk a (Array.getElem?_eq_some_iff.mp hc).1 (fun z => by rw [h13 a cell z hc] at hs; cases hs)]; exact hc)⟩
  all_goals rw [hU]
  · exact ((h5.kept hk).narrow hn).moved hWU.alike
  · exact (h7.kept (hk _ h8 h9)).moved hWU.alike
  · exact Nat.lt_of_lt_of_le h8 hW.2.2.1
  · exact ((h10.kept hk).narrow hn).moved hWU.alike
  · exact ((h11.kept hk).narrow hn).moved hWU.alike
  · exact ((h12.kept hk).narrow hn).moved hWU.alike
  · intro q cell hq hc
    rcases hq with ⟨o, ho, rfl⟩ | hq
    · exact q_at_ns (hW.1 o _ (q_ws_get Γ S (List.getElem?_eq_getElem ho))) hc
    · have := (Array.getElem?_eq_some_iff.mp hc).1
      omega
theorem q_K.same {Γ : qG} {A : Nat → Prop} {s U : State} (hv : s.vm = U.vm) (hh : s.heap = U.heap) (h : q_K Γ A s) : q_K Γ A U := by
  obtain ⟨h1, h2, h3, h4, ⟨⟨adV, h5⟩, h6, ⟨h7, h8, h9⟩, h10, h11, h12, h13⟩, hX⟩ := h
  have hal : s.vm.Alike U.vm := by rw [hv]; exact Vm.Alike.refl U.vm
  refine ⟨va_K.moved hal h1, h2, fun w hw => (h3 w hw).same rfl hv, fun w hw => (h4 w hw).same rfl hv, ⟨⟨adV, ?_⟩, fun w hw => (h6 w hw).same hv.symm, ⟨?_, ?_, h9⟩, ?_, ?_, ?_, ?_⟩, q_Xw_moved hX (by rw [← hv]; exact State.WarmedH.refl s) (fun a cell hc _ => by rw [← hh]; exact hc)⟩
  all_goals rw [← hh]
  · exact h5.moved hal
  · exact h7.moved hal
  · exact h8
  · exact h10.moved hal
  · exact h11.moved hal
  · exact h12.moved hal
  · exact h13
theorem q_ws_len (Γ : qG) (S : qS) : (q_ws Γ S).length = oT.length := by
  unfold q_ws
  rw [List.length_mapIdx]
theorem q_D_self {Γ : qG} {A : Nat → Prop} {S : qS} {sz : Nat} (hD : va_D A (q_ws Γ S)) : va_D (q_A Γ sz) (q_ws Γ S) := by
  refine ⟨hD.1, fun k q hk => Or.inl ⟨k, ?_, ?_⟩⟩
  · rw [← q_ws_len Γ S]; exact (List.getElem?_eq_some_iff.mp hk).1
  · have hlt : k < oT.length := by rw [← q_ws_len Γ S]; exact (List.getElem?_eq_some_iff.mp hk).1
    rw [q_ws_get Γ S (List.getElem?_eq_getElem hlt)] at hk
    cases hk
    rfl
theorem q_paid {T : qT} {args : Array Value} {s : State} (hc : Cond.code T.1 T.2.1 T.2.2.1 T.2.2.2.1 ∈ WG) (hts : ∀ w ∈ WG, w.before args s = true) : ∀ w ∈ (Cond.code T.1 T.2.1 T.2.2.1 T.2.2.2.1 :: WG : List Cond), ∀ (a' : Array Value) (U : State), s.WarmedH U.vm → w.before a' U = true :=
  pay_in hts (fun w hw => by
    rcases List.mem_cons.mp hw with rfl | h
    · exact ⟨hc, Or.inl rfl⟩
    · exact ⟨h, q_wgood w h⟩)
section Calls
variable {l : Launch} {Γ : qG} {T T2 : qT} {d r d2 r2 pc μ n o index : Nat} {ls As rest : List Value} {S : qS} {Q Q2 : qO → qS → Prop}
theorem q_after {A : Nat → Prop} {p : Program} {e : Env} {R : Room} {s : State} {m : MethodId} {args : Array Value} {below : List Frame} {meth : Method} {c : Code} {H : Heap} {locs : List Loc} {cells slots : Nat} {Lr : Array Slot} {st : List Value} {ar : Array Value}
    (hok : q_ok T = true) (hC : q_C Γ A T d p R s m args meth c) (hW : q_W Γ A s S H locs) (hL : q_lh Γ.2.2.1 ls T.2.2.1 Lr) (hc1 : cells + r ≤ R.cells) (hc2 : slots + 8 * r ≤ R.slots) (hr2 : r2 ≤ r)
    (hrun : va_Run p l e R s m args below meth c H locs cells slots r2 (8 * r2) (F0 m pc Lr st) (rest.map (q_v Γ.2.2.1)) (q_Q Γ (q_A Γ H.size) Q2 ar) (q_A Γ H.size))
    (hk : ∀ (v : Option Value) (S' : qS), Q2 (.inl v) S' → V l Γ T d (r - r2) (pc + 3) ls (v.toList ++ rest) S' Q) :
    W p l e R s m args below meth c H locs cells slots (q_E Γ A Q below args s R) (F0 m pc Lr st) := by
  intro Tt hT X
  obtain ⟨v, st0, t, T', L, h0, X', hL2, e1, e2, ⟨⟨v2, S2, hq, hv2, hP2, hD2⟩, hF1, hF2⟩, st1⟩ := hrun Tt hT X
  have hAin := q_A_in hW hC.2.2.2.2.2.2.2.2.1
  have hv3 : v = v2.map (q_v Γ.2.2.1) := by cases hv2; rfl
  subst hv3
  rw [h0] at hF1 hF2
  have hW2 : q_W Γ A s S2 T'.heap (locs ++ L) := by
    refine ⟨by rw [e1]; exact hP2, hD2.weaken (fun _ q _ h => hAin q.1 h), ?_, fun q h1 h2 => ?_, fun q hq => ?_⟩
    · rw [e1]; exact Nat.le_trans hW.2.2.1 hF1
    · rw [e1, hF2 q (Nat.lt_of_lt_of_le h1 hW.2.2.1) (fun z => h2 (hAin q z))]
      exact hW.2.2.2.1 q h1 h2
    · rcases List.mem_append.mp hq with h | h
      · exact hW.2.2.2.2 q h
      · exact hAin _ (hL2 q h)
  obtain ⟨t2, a1, b1⟩ := hk v2 S2 hq A p e R s m args below meth c T'.heap (locs ++ L) (cells + r2) (slots + 8 * r2) Lr hok hC hW2 hL (by omega) (by omega) T' rfl X'
  refine ⟨t2, st1 t2 ?_, b1⟩
  have e3 : (v2.toList ++ rest).map (q_v Γ.2.2.1) = (v2.map (q_v Γ.2.2.1)).toList ++ rest.map (q_v Γ.2.2.1) := by
    cases v2 <;> simp
  rw [← e3]
  exact a1
theorem q_rest (hcat : ∀ v ∈ rest, v.category = 1) (hlen : rest.length ≤ 8) (ad : Nat → Nat) : ((rest.map (q_v ad)).map fun v => v.category).sum ≤ 8 := by
  have h : ∀ (k : Nat) (q : List Value), (∀ v ∈ q, v.category = 1) → q.length ≤ k → ((q.map (q_v ad)).map fun v => v.category).sum ≤ k := by
    intro k q
    induction q generalizing k with
    | nil => intro _ _; simp
    | cons v w ih =>
      intro h1 h2
      have h3 := ih (k - 1) (fun z hz => h1 z (List.mem_cons_of_mem _ hz)) (by simp at h2; omega)
      simp only [List.map_cons, List.sum_cons, q_v_cat, h1 v List.mem_cons_self]
      simp at h2
      simp only [List.map_map] at h3 ⊢
      omega
  exact h 8 rest hcat hlen

theorem V.callV (hf : q_ft T.2.2.2.2 pc = some (.invokevirtual index, 3, μ, 0)) (hm : mN[μ]? = some (T2.1, n)) (hg : q_good T2) {ci : Nat} {ks : List Nat} {q : vw_C} (ho : oT[o]? = some (.inr (ci, ks))) (hcl : vwCl[ci]? = some q) (hcn : q.1 = T2.1.cls) (hn : As.length = n) (hmax : (.ref o :: As).length ≤ T2.2.2.1) (hcat : ∀ v ∈ As, v.category = 1) (hrcat : ∀ v ∈ rest, v.category = 1) (hrl : rest.length ≤ 8) (hd2 : d2 + 1 ≤ d) (hr2 : r2 ≤ r) (hno : ∀ ec S, ¬ Q2 (.inr ec) S)
    (hv : V l Γ T2 d2 r2 0 ((.ref o :: As) ++ List.replicate (T2.2.2.1 - (.ref o :: As).length) .null) [] S Q2) (hk : ∀ (v : Option Value) (S' : qS), Q2 (.inl v) S' → V l Γ T d (r - r2) (pc + 3) ls (v.toList ++ rest) S' Q) : V l Γ T d r pc ls (As.reverse ++ .ref o :: rest) S Q := by
  intro A p e R s m args below meth c H locs cells slots Lr hok hC hW hL hc1 hc2
  obtain ⟨hd, hrow⟩ := q_ok_at hok hf
  dsimp only at hd
  have hC' := hC
  obtain ⟨hx, hb, hml, hr, hlk, hown, hts, hK, hA, hfr, hlo⟩ := hC
  simp only [q_row, q_rowG, Nat.beq_eq, Bool.and_eq_true] at hrow
  obtain ⟨w2, w4, w5, hwv⟩ := q_iv_spec hrow.2 hm (by decide)
  simp only [q_wv, Bool.and_eq_true, decide_eq_true_eq] at hwv
  obtain ⟨⟨w1, w3a⟩, w3b⟩ := hwv
  have w1 := q_in_spec w1
  have w3 := And.intro (q_in_spec w3a) (q_in_spec w3b)
  obtain ⟨g1, g2, g3, g4⟩ := hg
  have hcat2 : ∀ v ∈ (.ref o :: As : List Value), v.category = 1 := fun v hv => by rcases List.mem_cons.mp hv with rfl | h; rfl; exact hcat v h
  have hM := q_met (sz := H.size) ⟨g1, g2, g3, g4⟩ hcat2 hmax hno hv
  have hPc : ∀ U : State, U.heap = H → s.WarmedH U.vm → q_Pc Γ S (.ref o :: As) H.size ((.ref o :: As).map (q_v Γ.2.2.1)).toArray U := fun U hU hWU => ⟨rfl, by rw [hU], by rw [hU]; exact hW.1, q_D_self hW.2.1, hK.call hW hA hU hWU⟩
  have hbl : FrameBlind (q_Pc Γ S (.ref o :: As) H.size) := fun a U g mk q => ⟨q.1, q.2.1, q.2.2.1, q.2.2.2.1, q_K.same (s := U) (U := U.calling g mk a) rfl rfl q.2.2.2.2⟩
  have hlen2 : (As.map (q_v Γ.2.2.1)).length = n := by rw [List.length_map]; exact hn
  have hfr2 : (q_rm d2 r2).frames + 1 ≤ R.frames := Nat.le_trans hd2 hfr
  have hlo2 : 8 + (T2.2.2.1 + 11) + (q_rm d2 r2).locals ≤ R.locals := by show 8 + (T2.2.2.1 + 11) + 40 * d2 ≤ R.locals; omega
  have hpaid := q_paid g2 hts
  have hsig : ∀ sig, parseMethodDescriptor T2.1.desc = some sig → n = sig.parameters.length := fun sig h => by rw [h] at w5; exact (Option.some.inj w5).symm
  obtain ⟨cellB, z1, z2, z3⟩ := va_recv hK.1 hW.1 hcl (q_ws_get Γ S ho)
  have hrun := va_runV (C := T2.1.cls) (bytes := T2.2.1) (maxL := T2.2.2.1) (ret := T2.2.2.2.1) (b := Γ.2.2.1 o) (As := As.map (q_v Γ.2.2.1)) (rest := rest.map (q_v Γ.2.2.1)) (g := F0 m pc Lr ((As.reverse ++ .ref o :: rest).map (q_v Γ.2.2.1))) (locs := locs) (cells := cells) (slots := slots) (below := below) (meth := meth) (e := e) ⟨hx, hb, hml, hown, hts⟩ hM ⟨⟨rfl, rfl, hfr2, hlo2, hpaid, List.mem_cons_self, hts _ g2, hts _ w2, w4, hsig, hts _ w1⟩, hts _ w3.1, hts _ w3.2⟩ ⟨hbl, ⟨cellB, z1, z2, by rw [← hcn]; exact z3⟩, hPc⟩ rfl hlen2 hL.1 (by rw [List.map_append, List.map_reverse]; rfl) (lv_room (q_rest hrcat hrl Γ.2.2.1)) hd ⟨by omega, by omega⟩
  exact q_after hok hC' hW hL hc1 hc2 hr2 hrun hk
theorem V.callVN (hf : q_ft T.2.2.2.2 pc = some (.invokevirtual index, 3, μ, 1)) (hm : mN[μ]? = some (T2.1, n)) (hg : q_good T2) {ci : Nat} {ks : List Nat} {q : vw_C} (ho : oT[o]? = some (.inr (ci, ks))) (hcl : vwCl[ci]? = some q) (hcn : q.1 = T2.1.cls) (hn : As.length = n) (hmax : (.ref o :: As).length ≤ T2.2.2.1) (hcat : ∀ v ∈ As, v.category = 1) (hrcat : ∀ v ∈ rest, v.category = 1) (hrl : rest.length ≤ 8) (hd2 : d2 + 1 ≤ d) (hr2 : r2 ≤ r) (hno : ∀ ec S, ¬ Q2 (.inr ec) S)
    (hv : V l Γ T2 d2 r2 0 ((.ref o :: As) ++ List.replicate (T2.2.2.1 - (.ref o :: As).length) .null) [] S Q2) (hk : ∀ (v : Option Value) (S' : qS), Q2 (.inl v) S' → V l Γ T d (r - r2) (pc + 3) ls (v.toList ++ rest) S' Q) : V l Γ T d r pc ls (As.reverse ++ .ref o :: rest) S Q := by
  intro A p e R s m args below meth c H locs cells slots Lr hok hC hW hL hc1 hc2
  obtain ⟨hd, hrow⟩ := q_ok_at hok hf
  dsimp only at hd
  have hC' := hC
  obtain ⟨hx, hb, hml, hr, hlk, hown, hts, hK, hA, hfr, hlo⟩ := hC
  simp only [q_row, q_rowG, Nat.beq_eq, Bool.and_eq_true] at hrow
  obtain ⟨w2, w4, w5, hwv⟩ := q_iv_spec hrow.2 hm (by decide)
  simp only [q_wv, Bool.and_eq_true, decide_eq_true_eq] at hwv
  obtain ⟨⟨w1, w3a⟩, w3b⟩ := hwv
  have w3 := And.intro (q_in_spec w3a) (q_in_spec w3b)
  obtain ⟨g1, g2, g3, g4⟩ := hg
  have hcat2 : ∀ v ∈ (.ref o :: As : List Value), v.category = 1 := fun v hv => by rcases List.mem_cons.mp hv with rfl | h; rfl; exact hcat v h
  have hM := q_met (sz := H.size) ⟨g1, g2, g3, g4⟩ hcat2 hmax hno hv
  have hPc : ∀ U : State, U.heap = H → s.WarmedH U.vm → q_Pc Γ S (.ref o :: As) H.size ((.ref o :: As).map (q_v Γ.2.2.1)).toArray U := fun U hU hWU => ⟨rfl, by rw [hU], by rw [hU]; exact hW.1, q_D_self hW.2.1, hK.call hW hA hU hWU⟩
  have hbl : FrameBlind (q_Pc Γ S (.ref o :: As) H.size) := fun a U g mk q => ⟨q.1, q.2.1, q.2.2.1, q.2.2.2.1, q_K.same (s := U) (U := U.calling g mk a) rfl rfl q.2.2.2.2⟩
  have hlen2 : (As.map (q_v Γ.2.2.1)).length = n := by rw [List.length_map]; exact hn
  have hfr2 : (q_rm d2 r2).frames + 1 ≤ R.frames := Nat.le_trans hd2 hfr
  have hlo2 : 8 + (T2.2.2.1 + 11) + (q_rm d2 r2).locals ≤ R.locals := by show 8 + (T2.2.2.1 + 11) + 40 * d2 ≤ R.locals; omega
  have hpaid := q_paid g2 hts
  have hsig : ∀ sig, parseMethodDescriptor T2.1.desc = some sig → n = sig.parameters.length := fun sig h => by rw [h] at w5; exact (Option.some.inj w5).symm
  obtain ⟨cellB, z1, z2, z3⟩ := va_recv hK.1 hW.1 hcl (q_ws_get Γ S ho)
  have hrun := va_runVN (C := T2.1.cls) (host := q_host) (bytes := T2.2.1) (maxL := T2.2.2.1) (ret := T2.2.2.2.1) (b := Γ.2.2.1 o) (As := As.map (q_v Γ.2.2.1)) (rest := rest.map (q_v Γ.2.2.1)) (g := F0 m pc Lr ((As.reverse ++ .ref o :: rest).map (q_v Γ.2.2.1))) (locs := locs) (cells := cells) (slots := slots) (below := below) (meth := meth) (e := e) ⟨hx, hb, hml, hown, hts⟩ hM ⟨⟨⟨rfl, rfl, hfr2, hlo2, hpaid, List.mem_cons_self⟩, hts _ g2, hts _ w2, w4, hsig, va_Nw.use rfl (hK.2.2.2.1 _ w1)⟩, hts _ w3.1, hts _ w3.2⟩ ⟨hbl, ⟨cellB, z1, z2, by rw [← hcn]; exact z3⟩, hPc⟩ rfl hlen2 hL.1 (by rw [List.map_append, List.map_reverse]; rfl) (lv_room (q_rest hrcat hrl Γ.2.2.1)) hd ⟨by omega, by omega⟩
  exact q_after hok hC' hW hL hc1 hc2 hr2 hrun hk
theorem V.callS (hf : q_ft T.2.2.2.2 pc = some (.invokestatic index, 3, μ, 2)) (hm : mN[μ]? = some (T2.1, n)) (hg : q_good T2) (hn : As.length = n) (hmax : (As).length ≤ T2.2.2.1) (hcat : ∀ v ∈ As, v.category = 1) (hrcat : ∀ v ∈ rest, v.category = 1) (hrl : rest.length ≤ 8) (hd2 : d2 + 1 ≤ d) (hr2 : r2 ≤ r) (hno : ∀ ec S, ¬ Q2 (.inr ec) S)
    (hv : V l Γ T2 d2 r2 0 ((As) ++ List.replicate (T2.2.2.1 - (As).length) .null) [] S Q2) (hk : ∀ (v : Option Value) (S' : qS), Q2 (.inl v) S' → V l Γ T d (r - r2) (pc + 3) ls (v.toList ++ rest) S' Q) : V l Γ T d r pc ls (As.reverse ++ rest) S Q := by
  intro A p e R s m args below meth c H locs cells slots Lr hok hC hW hL hc1 hc2
  obtain ⟨hd, hrow⟩ := q_ok_at hok hf
  dsimp only at hd
  have hC' := hC
  obtain ⟨hx, hb, hml, hr, hlk, hown, hts, hK, hA, hfr, hlo⟩ := hC
  simp only [q_row, q_rowG, Nat.beq_eq, Bool.and_eq_true] at hrow
  obtain ⟨w2, w4, w5, hwv⟩ := q_iv_spec hrow.2 hm (by decide)
  simp only [q_wv, Bool.and_eq_true, decide_eq_true_eq] at hwv
  obtain ⟨w1, w3⟩ := hwv
  have w1 := q_in_spec w1
  have w3 := q_in_spec w3
  obtain ⟨g1, g2, g3, g4⟩ := hg
  have hM := q_met (sz := H.size) ⟨g1, g2, g3, g4⟩ hcat hmax hno hv
  have hPc : ∀ U : State, U.heap = H → s.WarmedH U.vm → q_Pc Γ S As H.size (As.map (q_v Γ.2.2.1)).toArray U := fun U hU hWU => ⟨rfl, by rw [hU], by rw [hU]; exact hW.1, q_D_self hW.2.1, hK.call hW hA hU hWU⟩
  have hbl : FrameBlind (q_Pc Γ S As H.size) := fun a U g mk q => ⟨q.1, q.2.1, q.2.2.1, q.2.2.2.1, q_K.same (s := U) (U := U.calling g mk a) rfl rfl q.2.2.2.2⟩
  have hlen2 : (As.map (q_v Γ.2.2.1)).length = n := by rw [List.length_map]; exact hn
  have hfr2 : (q_rm d2 r2).frames + 1 ≤ R.frames := Nat.le_trans hd2 hfr
  have hlo2 : 8 + (T2.2.2.1 + 11) + (q_rm d2 r2).locals ≤ R.locals := by show 8 + (T2.2.2.1 + 11) + 40 * d2 ≤ R.locals; omega
  have hpaid := q_paid g2 hts
  have hsig : ∀ sig, parseMethodDescriptor T2.1.desc = some sig → n = sig.parameters.length := fun sig h => by rw [h] at w5; exact (Option.some.inj w5).symm
  have hrun := va_runS (bytes := T2.2.1) (maxL := T2.2.2.1) (ret := T2.2.2.2.1) (As := As.map (q_v Γ.2.2.1)) (rest := rest.map (q_v Γ.2.2.1)) (g := F0 m pc Lr ((As.reverse ++ rest).map (q_v Γ.2.2.1))) (locs := locs) (cells := cells) (slots := slots) (below := below) (meth := meth) (e := e) ⟨hx, hb, hml, hown, hts⟩ hM ⟨⟨rfl, rfl, hfr2, hlo2, hpaid, List.mem_cons_self, hts _ g2, hts _ w2, w4, hsig, hts _ w1⟩, hts _ w3⟩ ⟨hbl, hPc⟩ rfl hlen2 hL.1 (by rw [List.map_append, List.map_reverse]) (lv_room (q_rest hrcat hrl Γ.2.2.1)) hd ⟨by omega, by omega⟩
  exact q_after hok hC' hW hL hc1 hc2 hr2 hrun hk
theorem V.callSN (hf : q_ft T.2.2.2.2 pc = some (.invokestatic index, 3, μ, 3)) (hm : mN[μ]? = some (T2.1, n)) (hg : q_good T2) (hn : As.length = n) (hmax : (As).length ≤ T2.2.2.1) (hcat : ∀ v ∈ As, v.category = 1) (hrcat : ∀ v ∈ rest, v.category = 1) (hrl : rest.length ≤ 8) (hd2 : d2 + 1 ≤ d) (hr2 : r2 ≤ r) (hno : ∀ ec S, ¬ Q2 (.inr ec) S)
    (hv : V l Γ T2 d2 r2 0 ((As) ++ List.replicate (T2.2.2.1 - (As).length) .null) [] S Q2) (hk : ∀ (v : Option Value) (S' : qS), Q2 (.inl v) S' → V l Γ T d (r - r2) (pc + 3) ls (v.toList ++ rest) S' Q) : V l Γ T d r pc ls (As.reverse ++ rest) S Q := by
  intro A p e R s m args below meth c H locs cells slots Lr hok hC hW hL hc1 hc2
  obtain ⟨hd, hrow⟩ := q_ok_at hok hf
  dsimp only at hd
  have hC' := hC
  obtain ⟨hx, hb, hml, hr, hlk, hown, hts, hK, hA, hfr, hlo⟩ := hC
  simp only [q_row, q_rowG, Nat.beq_eq, Bool.and_eq_true] at hrow
  obtain ⟨w2, w4, w5, hwv⟩ := q_iv_spec hrow.2 hm (by decide)
  simp only [q_wv, Bool.and_eq_true, decide_eq_true_eq] at hwv
  obtain ⟨w1, w3⟩ := hwv
  have w3 := q_in_spec w3
  obtain ⟨g1, g2, g3, g4⟩ := hg
  have hM := q_met (sz := H.size) ⟨g1, g2, g3, g4⟩ hcat hmax hno hv
  have hPc : ∀ U : State, U.heap = H → s.WarmedH U.vm → q_Pc Γ S As H.size (As.map (q_v Γ.2.2.1)).toArray U := fun U hU hWU => ⟨rfl, by rw [hU], by rw [hU]; exact hW.1, q_D_self hW.2.1, hK.call hW hA hU hWU⟩
  have hbl : FrameBlind (q_Pc Γ S As H.size) := fun a U g mk q => ⟨q.1, q.2.1, q.2.2.1, q.2.2.2.1, q_K.same (s := U) (U := U.calling g mk a) rfl rfl q.2.2.2.2⟩
  have hlen2 : (As.map (q_v Γ.2.2.1)).length = n := by rw [List.length_map]; exact hn
  have hfr2 : (q_rm d2 r2).frames + 1 ≤ R.frames := Nat.le_trans hd2 hfr
  have hlo2 : 8 + (T2.2.2.1 + 11) + (q_rm d2 r2).locals ≤ R.locals := by show 8 + (T2.2.2.1 + 11) + 40 * d2 ≤ R.locals; omega
  have hpaid := q_paid g2 hts
  have hsig : ∀ sig, parseMethodDescriptor T2.1.desc = some sig → n = sig.parameters.length := fun sig h => by rw [h] at w5; exact (Option.some.inj w5).symm
  have hrun := va_runSN (host := q_host) (bytes := T2.2.1) (maxL := T2.2.2.1) (ret := T2.2.2.2.1) (As := As.map (q_v Γ.2.2.1)) (rest := rest.map (q_v Γ.2.2.1)) (g := F0 m pc Lr ((As.reverse ++ rest).map (q_v Γ.2.2.1))) (locs := locs) (cells := cells) (slots := slots) (below := below) (meth := meth) (e := e) ⟨hx, hb, hml, hown, hts⟩ hM ⟨⟨⟨rfl, rfl, hfr2, hlo2, hpaid, List.mem_cons_self⟩, hts _ g2, hts _ w2, w4, hsig, va_Nw.use rfl (hK.2.2.2.1 _ w1)⟩, hts _ w3, trivial⟩ ⟨hbl, hPc⟩ rfl hlen2 hL.1 (by rw [List.map_append, List.map_reverse]) (lv_room (q_rest hrcat hrl Γ.2.2.1)) hd ⟨by omega, by omega⟩
  exact q_after hok hC' hW hL hc1 hc2 hr2 hrun hk
def q_i (L : Nat → Int64) (P : Int32 → qM → Prop) : qO → qS → Prop := fun o S => ∃ (x : Int32) (M : qM), o = .inl (some (.int x)) ∧ S = (M, L) ∧ P x M
def q_n (L : Nat → Int64) (P : qM → Prop) : qO → qS → Prop := fun o S => ∃ M : qM, o = .inl none ∧ S = (M, L) ∧ P M
theorem V.callVi {Pk : Int32 → qM → Prop} {M : qM} {L : Nat → Int64} (hf : q_ft T.2.2.2.2 pc = some (.invokevirtual index, 3, μ, 0)) (hm : mN[μ]? = some (T2.1, n)) (hg : q_good T2) {ci : Nat} {ks : List Nat} {q : vw_C} (ho : oT[o]? = some (.inr (ci, ks))) (hcl : vwCl[ci]? = some q) (hcn : q.1 = T2.1.cls) (hn : As.length = n) (hmax : (.ref o :: As).length ≤ T2.2.2.1) (hcat : ∀ v ∈ As, v.category = 1) (hrcat : ∀ v ∈ rest, v.category = 1) (hrl : rest.length ≤ 8) (hd2 : d2 + 1 ≤ d)
    (hv : V l Γ T2 d2 0 0 ((.ref o :: As) ++ List.replicate (T2.2.2.1 - (.ref o :: As).length) .null) [] (M, L) (q_i L Pk)) (hk : ∀ (x : Int32) (M' : qM), Pk x M' → V l Γ T d r (pc + 3) ls (.int x :: rest) (M', L) Q) : V l Γ T d r pc ls (As.reverse ++ .ref o :: rest) (M, L) Q := by
  refine V.callV hf hm hg ho hcl hcn hn hmax hcat hrcat hrl hd2 (Nat.zero_le r) (fun ec S h => by obtain ⟨_, _, h, -⟩ := h; cases h) hv (fun v S' h => ?_)
  obtain ⟨x, M', h1, rfl, h2⟩ := h
  cases h1
  exact hk x M' h2
theorem V.callVv {Pk : qM → Prop} {M : qM} {L : Nat → Int64} (hf : q_ft T.2.2.2.2 pc = some (.invokevirtual index, 3, μ, 0)) (hm : mN[μ]? = some (T2.1, n)) (hg : q_good T2) {ci : Nat} {ks : List Nat} {q : vw_C} (ho : oT[o]? = some (.inr (ci, ks))) (hcl : vwCl[ci]? = some q) (hcn : q.1 = T2.1.cls) (hn : As.length = n) (hmax : (.ref o :: As).length ≤ T2.2.2.1) (hcat : ∀ v ∈ As, v.category = 1) (hrcat : ∀ v ∈ rest, v.category = 1) (hrl : rest.length ≤ 8) (hd2 : d2 + 1 ≤ d)
    (hv : V l Γ T2 d2 0 0 ((.ref o :: As) ++ List.replicate (T2.2.2.1 - (.ref o :: As).length) .null) [] (M, L) (q_n L Pk)) (hk : ∀ (M' : qM), Pk M' → V l Γ T d r (pc + 3) ls rest (M', L) Q) : V l Γ T d r pc ls (As.reverse ++ .ref o :: rest) (M, L) Q := by
  refine V.callV hf hm hg ho hcl hcn hn hmax hcat hrcat hrl hd2 (Nat.zero_le r) (fun ec S h => by obtain ⟨_, h, -⟩ := h; cases h) hv (fun v S' h => ?_)
  obtain ⟨M', h1, rfl, h2⟩ := h
  cases h1
  exact hk M' h2
theorem V.callVNi {Pk : Int32 → qM → Prop} {M : qM} {L : Nat → Int64} (hf : q_ft T.2.2.2.2 pc = some (.invokevirtual index, 3, μ, 1)) (hm : mN[μ]? = some (T2.1, n)) (hg : q_good T2) {ci : Nat} {ks : List Nat} {q : vw_C} (ho : oT[o]? = some (.inr (ci, ks))) (hcl : vwCl[ci]? = some q) (hcn : q.1 = T2.1.cls) (hn : As.length = n) (hmax : (.ref o :: As).length ≤ T2.2.2.1) (hcat : ∀ v ∈ As, v.category = 1) (hrcat : ∀ v ∈ rest, v.category = 1) (hrl : rest.length ≤ 8) (hd2 : d2 + 1 ≤ d)
    (hv : V l Γ T2 d2 0 0 ((.ref o :: As) ++ List.replicate (T2.2.2.1 - (.ref o :: As).length) .null) [] (M, L) (q_i L Pk)) (hk : ∀ (x : Int32) (M' : qM), Pk x M' → V l Γ T d r (pc + 3) ls (.int x :: rest) (M', L) Q) : V l Γ T d r pc ls (As.reverse ++ .ref o :: rest) (M, L) Q := by
  refine V.callVN hf hm hg ho hcl hcn hn hmax hcat hrcat hrl hd2 (Nat.zero_le r) (fun ec S h => by obtain ⟨_, _, h, -⟩ := h; cases h) hv (fun v S' h => ?_)
  obtain ⟨x, M', h1, rfl, h2⟩ := h
  cases h1
  exact hk x M' h2
theorem V.callVNv {Pk : qM → Prop} {M : qM} {L : Nat → Int64} (hf : q_ft T.2.2.2.2 pc = some (.invokevirtual index, 3, μ, 1)) (hm : mN[μ]? = some (T2.1, n)) (hg : q_good T2) {ci : Nat} {ks : List Nat} {q : vw_C} (ho : oT[o]? = some (.inr (ci, ks))) (hcl : vwCl[ci]? = some q) (hcn : q.1 = T2.1.cls) (hn : As.length = n) (hmax : (.ref o :: As).length ≤ T2.2.2.1) (hcat : ∀ v ∈ As, v.category = 1) (hrcat : ∀ v ∈ rest, v.category = 1) (hrl : rest.length ≤ 8) (hd2 : d2 + 1 ≤ d)
    (hv : V l Γ T2 d2 0 0 ((.ref o :: As) ++ List.replicate (T2.2.2.1 - (.ref o :: As).length) .null) [] (M, L) (q_n L Pk)) (hk : ∀ (M' : qM), Pk M' → V l Γ T d r (pc + 3) ls rest (M', L) Q) : V l Γ T d r pc ls (As.reverse ++ .ref o :: rest) (M, L) Q := by
  refine V.callVN hf hm hg ho hcl hcn hn hmax hcat hrcat hrl hd2 (Nat.zero_le r) (fun ec S h => by obtain ⟨_, h, -⟩ := h; cases h) hv (fun v S' h => ?_)
  obtain ⟨M', h1, rfl, h2⟩ := h
  cases h1
  exact hk M' h2
theorem V.callSi {Pk : Int32 → qM → Prop} {M : qM} {L : Nat → Int64} (hf : q_ft T.2.2.2.2 pc = some (.invokestatic index, 3, μ, 2)) (hm : mN[μ]? = some (T2.1, n)) (hg : q_good T2) (hn : As.length = n) (hmax : (As).length ≤ T2.2.2.1) (hcat : ∀ v ∈ As, v.category = 1) (hrcat : ∀ v ∈ rest, v.category = 1) (hrl : rest.length ≤ 8) (hd2 : d2 + 1 ≤ d)
    (hv : V l Γ T2 d2 0 0 ((As) ++ List.replicate (T2.2.2.1 - (As).length) .null) [] (M, L) (q_i L Pk)) (hk : ∀ (x : Int32) (M' : qM), Pk x M' → V l Γ T d r (pc + 3) ls (.int x :: rest) (M', L) Q) : V l Γ T d r pc ls (As.reverse ++ rest) (M, L) Q := by
  refine V.callS hf hm hg hn hmax hcat hrcat hrl hd2 (Nat.zero_le r) (fun ec S h => by obtain ⟨_, _, h, -⟩ := h; cases h) hv (fun v S' h => ?_)
  obtain ⟨x, M', h1, rfl, h2⟩ := h
  cases h1
  exact hk x M' h2
theorem V.callSv {Pk : qM → Prop} {M : qM} {L : Nat → Int64} (hf : q_ft T.2.2.2.2 pc = some (.invokestatic index, 3, μ, 2)) (hm : mN[μ]? = some (T2.1, n)) (hg : q_good T2) (hn : As.length = n) (hmax : (As).length ≤ T2.2.2.1) (hcat : ∀ v ∈ As, v.category = 1) (hrcat : ∀ v ∈ rest, v.category = 1) (hrl : rest.length ≤ 8) (hd2 : d2 + 1 ≤ d)
    (hv : V l Γ T2 d2 0 0 ((As) ++ List.replicate (T2.2.2.1 - (As).length) .null) [] (M, L) (q_n L Pk)) (hk : ∀ (M' : qM), Pk M' → V l Γ T d r (pc + 3) ls rest (M', L) Q) : V l Γ T d r pc ls (As.reverse ++ rest) (M, L) Q := by
  refine V.callS hf hm hg hn hmax hcat hrcat hrl hd2 (Nat.zero_le r) (fun ec S h => by obtain ⟨_, h, -⟩ := h; cases h) hv (fun v S' h => ?_)
  obtain ⟨M', h1, rfl, h2⟩ := h
  cases h1
  exact hk M' h2
theorem V.callSNi {Pk : Int32 → qM → Prop} {M : qM} {L : Nat → Int64} (hf : q_ft T.2.2.2.2 pc = some (.invokestatic index, 3, μ, 3)) (hm : mN[μ]? = some (T2.1, n)) (hg : q_good T2) (hn : As.length = n) (hmax : (As).length ≤ T2.2.2.1) (hcat : ∀ v ∈ As, v.category = 1) (hrcat : ∀ v ∈ rest, v.category = 1) (hrl : rest.length ≤ 8) (hd2 : d2 + 1 ≤ d)
    (hv : V l Γ T2 d2 0 0 ((As) ++ List.replicate (T2.2.2.1 - (As).length) .null) [] (M, L) (q_i L Pk)) (hk : ∀ (x : Int32) (M' : qM), Pk x M' → V l Γ T d r (pc + 3) ls (.int x :: rest) (M', L) Q) : V l Γ T d r pc ls (As.reverse ++ rest) (M, L) Q := by
  refine V.callSN hf hm hg hn hmax hcat hrcat hrl hd2 (Nat.zero_le r) (fun ec S h => by obtain ⟨_, _, h, -⟩ := h; cases h) hv (fun v S' h => ?_)
  obtain ⟨x, M', h1, rfl, h2⟩ := h
  cases h1
  exact hk x M' h2
theorem V.callSNv {Pk : qM → Prop} {M : qM} {L : Nat → Int64} (hf : q_ft T.2.2.2.2 pc = some (.invokestatic index, 3, μ, 3)) (hm : mN[μ]? = some (T2.1, n)) (hg : q_good T2) (hn : As.length = n) (hmax : (As).length ≤ T2.2.2.1) (hcat : ∀ v ∈ As, v.category = 1) (hrcat : ∀ v ∈ rest, v.category = 1) (hrl : rest.length ≤ 8) (hd2 : d2 + 1 ≤ d)
    (hv : V l Γ T2 d2 0 0 ((As) ++ List.replicate (T2.2.2.1 - (As).length) .null) [] (M, L) (q_n L Pk)) (hk : ∀ (M' : qM), Pk M' → V l Γ T d r (pc + 3) ls rest (M', L) Q) : V l Γ T d r pc ls (As.reverse ++ rest) (M, L) Q := by
  refine V.callSN hf hm hg hn hmax hcat hrcat hrl hd2 (Nat.zero_le r) (fun ec S h => by obtain ⟨_, h, -⟩ := h; cases h) hv (fun v S' h => ?_)
  obtain ⟨M', h1, rfl, h2⟩ := h
  cases h1
  exact hk M' h2
end Calls
end
section
def q_swP (P : Nat → Prop) (z : Int) (dt : Nat) : List (Int × Nat) → Prop
  | [] => P dt
  | (k, t) :: r => (z = k → P t) ∧ (¬ z = k → q_swP P z dt r)
theorem q_swP.c {P : Nat → Prop} {z k : Int} {dt t : Nat} {r : List (Int × Nat)} (h1 : z = k → P t) (h2 : ¬ z = k → q_swP P z dt r) : q_swP P z dt ((k, t) :: r) := ⟨h1, h2⟩
theorem q_swP.e {P : Nat → Prop} {z : Int} {dt : Nat} (h : P dt) : q_swP P z dt [] := h
def q_csm (pc : Nat) : List (Int × Int) → List (Int × Nat) → Bool
  | [], [] => true
  | (a, o) :: ps, (k, t) :: cs => decide (a = k) && decide ((pc : Int) + o = (t : Int)) && q_csm pc ps cs
  | _, _ => false
theorem q_sw_L {P : Nat → Prop} {pc : Nat} {z dflt : Int} {dt : Nat} (hd : (pc : Int) + dflt = (dt : Int)) : ∀ (ps : List (Int × Int)) (cs : List (Int × Nat)), q_csm pc ps cs = true → q_swP P z dt cs → ∃ t : Nat, P t ∧ (pc : Int) + Op.lookupswitch.offset ps dflt z = (t : Int)
  | [], [], _, h => ⟨dt, h, hd⟩
  | (a, o) :: ps, (k, t) :: cs, hm, h => by
    simp only [q_csm, Bool.and_eq_true, decide_eq_true_eq] at hm
    obtain ⟨⟨h1, h2⟩, h3⟩ := hm
    subst h1
    rw [Op.lookupswitch.offset_cons]
    by_cases hz : a = z
    · rw [if_pos hz]
      exact ⟨t, h.1 hz.symm, h2⟩
    · rw [if_neg hz]
      exact q_sw_L hd ps cs h3 (h.2 (fun q => hz q.symm))
  | [], _ :: _, hm, _ => by simp [q_csm] at hm
  | _ :: _, [], hm, _ => by simp [q_csm] at hm
def q_ctm (pc dt : Nat) : Int → List Int → List (Int × Nat) → Bool
  | _, [], [] => true
  | _, [], _ :: _ => false
  | lo, o :: r, cs => match decide ((pc : Int) + o = (dt : Int)) with
    | true => q_ctm pc dt (lo + 1) r cs
    | false => match cs with
      | (k, t) :: cs' => decide (k = lo) && decide ((pc : Int) + o = (t : Int)) && q_ctm pc dt (lo + 1) r cs'
      | [] => false
theorem q_sw_out {P : Nat → Prop} {pc dt : Nat} {z : Int} : ∀ (offs : List Int) (lo : Int) (cs : List (Int × Nat)), q_ctm pc dt lo offs cs = true → (z < lo ∨ lo + offs.length ≤ z) → q_swP P z dt cs → P dt
  | [], _, [], _, _, h => h
  | [], _, _ :: _, hm, _, _ => by simp [q_ctm] at hm
  | o :: r, lo, cs, hm, hz, h => by
    unfold q_ctm at hm
    simp only [List.length_cons] at hz
    cases hb : decide ((pc : Int) + o = (dt : Int)) with
    | true =>
      rw [hb] at hm
      exact q_sw_out r (lo + 1) cs hm (by omega) h
    | false =>
      rw [hb] at hm
      match cs, hm, h with
      | (k, t) :: cs', hm, h =>
        simp only [Bool.and_eq_true, decide_eq_true_eq] at hm
        exact q_sw_out r (lo + 1) cs' hm.2 (by omega) (h.2 (by omega))
theorem q_sw_T {P : Nat → Prop} {pc dt : Nat} {z : Int} : ∀ (offs : List Int) (lo : Int) (cs : List (Int × Nat)), q_ctm pc dt lo offs cs = true → q_swP P z dt cs → lo ≤ z → z < lo + offs.length → ∃ (t : Nat) (o : Int), P t ∧ offs[(z - lo).toNat]? = some o ∧ (pc : Int) + o = (t : Int)
  | [], lo, _, _, _, h1, h2 => by simp at h2; omega
  | o :: r, lo, cs, hm, h, h1, h2 => by
    simp only [List.length_cons] at h2
    have hm0 := hm
    unfold q_ctm at hm
    by_cases hz : z = lo
    · have e : (z - lo).toNat = 0 := by omega
      rw [e, List.getElem?_cons_zero]
      cases hb : decide ((pc : Int) + o = (dt : Int)) with
      | true =>
        rw [hb] at hm
        exact ⟨dt, o, q_sw_out r (lo + 1) cs hm (by omega) h, rfl, of_decide_eq_true hb⟩
      | false =>
        rw [hb] at hm
        match cs, hm, h with
        | (k, t) :: cs', hm, h =>
          simp only [Bool.and_eq_true, decide_eq_true_eq] at hm
          exact ⟨t, o, h.1 (by omega), rfl, hm.1.2⟩
    · have e : (z - lo).toNat = (z - (lo + 1)).toNat + 1 := by omega
      rw [e, List.getElem?_cons_succ]
      cases hb : decide ((pc : Int) + o = (dt : Int)) with
      | true =>
        rw [hb] at hm
        exact q_sw_T r (lo + 1) cs hm h (by omega) (by omega)
      | false =>
        rw [hb] at hm
        match cs, hm, h with
        | (k, t) :: cs', hm, h =>
          simp only [Bool.and_eq_true, decide_eq_true_eq] at hm
          exact q_sw_T r (lo + 1) cs' hm.2 (h.2 (by omega)) (by omega) (by omega)
section Rows3
variable {l : Launch} {Γ : qG} {T : qT} {d r pc a b : Nat} {ls rest : List Value} {S : qS} {Q : qO → qS → Prop}
theorem V.swl {dflt : Int} {ps : Array (Int × Int)} {len : Nat} {x : Int32} (hf : q_ft T.2.2.2.2 pc = some (.lookupswitch dflt ps, len, a, b)) (dt : Nat) (cs : List (Int × Nat)) (hs : (ps.toList.zip (ps.toList.drop 1)).all (fun (a, next) => a.1 < next.1) = true) (hdt : (pc : Int) + dflt = (dt : Int)) (hcs : q_csm pc ps.toList cs = true)
    (h : q_swP (fun t => V l Γ T d r t ls rest S Q) x.toInt dt cs) : V l Γ T d r pc ls (.int x :: rest) S Q := by
  intro A p e R s m args below meth c H locs cells slots Lr hok hC hW hL hc1 hc2
  obtain ⟨hd, hrow⟩ := q_ok_at hok hf
  dsimp only at hd
  have hC' := hC
  obtain ⟨hx, hb, hml, hr, hlk, hown, hts, hK, hA, hfr, hlo⟩ := hC
  obtain ⟨t, h1, h2⟩ := q_sw_L hdt ps.toList cs hcs h
  exact lv_lookup hx hb hd hs rfl h2 (h1 A p e R s m args below meth c H locs cells slots Lr hok hC' hW hL hc1 hc2)
theorem V.swt {dflt lo hi : Int} {offs : Array Int} {len : Nat} {x : Int32} (hf : q_ft T.2.2.2.2 pc = some (.tableswitch dflt lo hi offs, len, a, b)) (dt : Nat) (cs : List (Int × Nat)) (hdt : (pc : Int) + dflt = (dt : Int)) (hhi : hi + 1 = lo + offs.toList.length) (hcs : q_ctm pc dt lo offs.toList cs = true)
    (h : q_swP (fun t => V l Γ T d r t ls rest S Q) x.toInt dt cs) : V l Γ T d r pc ls (.int x :: rest) S Q := by
  intro A p e R s m args below meth c H locs cells slots Lr hok hC hW hL hc1 hc2
  obtain ⟨hd, hrow⟩ := q_ok_at hok hf
  dsimp only at hd
  have hC' := hC
  obtain ⟨hx, hb, hml, hr, hlk, hown, hts, hK, hA, hfr, hlo⟩ := hC
  by_cases hz : x.toInt < lo ∨ hi < x.toInt
  · exact lv_tableOut hx hb hd hz hdt (q_sw_out offs.toList lo cs hcs (by omega) h A p e R s m args below meth c H locs cells slots Lr hok hC' hW hL hc1 hc2)
  · obtain ⟨t, o, h1, h2, h3⟩ := q_sw_T offs.toList lo cs hcs h (by omega) (by omega)
    exact lv_tableIn hx hb hd (fun q => hz (Or.inl q)) (fun q => hz (Or.inr q)) (by rw [← Array.getElem?_toList]; exact h2) h3 (h1 A p e R s m args below meth c H locs cells slots Lr hok hC' hW hL hc1 hc2)
theorem V.pfz {o index : Nat} {ks : List Nat} {v : Int32} (hf : q_ft T.2.2.2.2 pc = some (.putfield index, 3, a, b)) (ho : oT[o]? = some (.inr (b, ks))) (hk : ks[a]? = some 2) (hfits : fits .boolean (.int v) = true) (k : V l Γ T d r (pc + 3) ls rest (q_up S.1 o a v, S.2) Q) : V l Γ T d r pc ls (.int v :: .ref o :: rest) S Q := by
  intro A p e R s m args below meth c H locs cells slots Lr hok hC hW hL hc1 hc2
  obtain ⟨hd, hrow⟩ := q_ok_at hok hf
  dsimp only at hd
  have hC' := hC
  obtain ⟨hx, hb, hml, hr, hlk, hown, hts, hK, hA, hfr, hlo⟩ := hC
  have K : ∀ (H' : Heap) (locs' : List Loc), q_W Γ A s (q_up S.1 o a v, S.2) H' locs' → W p l e R s m args below meth c H' locs' cells slots (q_E Γ A Q below args s R) (F0 m (pc + 3) Lr (rest.map (q_v Γ.2.2.1))) := fun H' locs' hW' => k A p e R s m args below meth c H' locs' cells slots Lr hok hC' hW' hL hc1 hc2
  simp only [q_row, q_rowG, Bool.and_eq_true] at hrow
  obtain ⟨⟨-, h1⟩, h2⟩ := hrow
  obtain ⟨C, Tt, N, hc, ha, hlink⟩ := q_fl_spec h1
  rw [hc] at h2
  have hfin : (Tt a).2.2.2 = false := by simpa using h2
  have he := q_ws_get Γ S ho
  have hty := q_typesZ b _ hc o ks ho a hk
  have hnar : narrow .boolean (.int v) = .int v := by
    have hv : v = 0 ∨ v = 1 := by simpa [fits] using hfits
    rcases hv with rfl | rfl <;> decide
  have hu : q_up S.1 o a v o a = v := by simp [q_up, va_up]
  have hsl : q_sl (q_up S.1 o a v) o a 2 = .int v := by simp only [q_sl, hu]
  have hset := q_ws_set (Γ := Γ) (S := S) (S' := (q_up S.1 o a v, S.2)) ho (fun o' y hne _ => q_en_ne hne y)
  rw [q_en_put b ks hk hsl] at hset
  have hl : a < (ks.mapIdx (fun k kd => q_v Γ.2.2.1 (q_sl S.1 o k kd))).length := by rw [List.length_mapIdx]; exact (List.getElem?_eq_some_iff.mp hk).1
  rcases hlink with hlink | ⟨host, hlink⟩
  · exact va_put (ref := (Tt a).1) (v := .int v) (ty := .boolean) hx hb hts (q_lays b _ hc) (q_tys b) (q_tysok b _ hc) (q_names b _ hc) hown hK.1 hW.1 hW.2.1 hW.2.2 o he hc a ha (hts _ hlink) (fun _ h9 => h9) hfin hty hnar hfits hl hd (fun H1 locs1 h3 h4 h5 => K H1 locs1 ⟨hset ▸ h3, hset ▸ h4, h5⟩)
  · exact va_putN (ref := (Tt a).1) (host := host) (v := .int v) (ty := .boolean) hx hb hts (q_lays b _ hc) (q_tys b) (q_tysok b _ hc) (q_names b _ hc) hown hK.1 hW.1 hW.2.1 hW.2.2 o he hc a ha (va_Nw.use rfl (hK.2.2.1 _ hlink)) (fun _ h9 => h9) hfin hty hnar hfits hl hd (fun H1 locs1 h3 h4 h5 => K H1 locs1 ⟨hset ▸ h3, hset ▸ h4, h5⟩)
theorem V.mabs {x : Int32} {index μ : Nat} (hf : q_ft T.2.2.2.2 pc = some (.invokestatic index, 3, μ, 4)) (hw : ∀ w ∈ ([.methodLink T.1.cls index Lib.Math.abs.name, .static Lib.Math.abs.name, .initialized "java/lang/Math", .code Lib.Math.abs.name Lib.Math.abs.code 1 (some .int)] : List Cond), w ∈ WG) (hd1 : 1 ≤ d) (hrc : ∀ v ∈ rest, v.category = 1) (hrl : rest.length ≤ 8) (k : V l Γ T d r (pc + 3) ls (.int (if 0 ≤ x then x else 0 - x) :: rest) S Q) : V l Γ T d r pc ls (.int x :: rest) S Q := by
  intro A p e R s m args below meth c H locs cells slots Lr hok hC hW hL hc1 hc2
  obtain ⟨hd, hrow⟩ := q_ok_at hok hf
  dsimp only at hd
  have hC' := hC
  obtain ⟨hx, hb, hml, hr, hlk, hown, hts, hK, hA, hfr, hlo⟩ := hC
  have h8 := q_rest hrc hrl Γ.2.2.1
  exact va_mabs hx hb (by rw [hml, hL.1]) hown (hts _ (hw _ (by simp))) (hts _ (hw _ (by simp))) (hts _ (hw _ (by simp))) (hts _ (hw _ (by simp))) (by omega) (by omega) (by omega) (by omega) hd (k A p e R s m args below meth c H locs cells slots Lr hok hC' hW hL hc1 hc2)
theorem V.mmax {x y : Int32} {index μ : Nat} (hf : q_ft T.2.2.2.2 pc = some (.invokestatic index, 3, μ, 4)) (hw : ∀ w ∈ ([.methodLink T.1.cls index Lib.Math.max.name, .static Lib.Math.max.name, .initialized "java/lang/Math", .code Lib.Math.max.name Lib.Math.max.code 2 (some .int)] : List Cond), w ∈ WG) (hd1 : 1 ≤ d) (hrc : ∀ v ∈ rest, v.category = 1) (hrl : rest.length ≤ 8) (k : V l Γ T d r (pc + 3) ls (.int (if x < y then y else x) :: rest) S Q) : V l Γ T d r pc ls (.int y :: .int x :: rest) S Q := by
  intro A p e R s m args below meth c H locs cells slots Lr hok hC hW hL hc1 hc2
  obtain ⟨hd, hrow⟩ := q_ok_at hok hf
  dsimp only at hd
  have hC' := hC
  obtain ⟨hx, hb, hml, hr, hlk, hown, hts, hK, hA, hfr, hlo⟩ := hC
  have h8 := q_rest hrc hrl Γ.2.2.1
  exact va_mmax hx hb (by rw [hml, hL.1]) hown (hts _ (hw _ (by simp))) (hts _ (hw _ (by simp))) (hts _ (hw _ (by simp))) (hts _ (hw _ (by simp))) (by omega) (by omega) (by omega) (by omega) hd (k A p e R s m args below meth c H locs cells slots Lr hok hC' hW hL hc1 hc2)
theorem V.mmin {x y : Int32} {index μ : Nat} (hf : q_ft T.2.2.2.2 pc = some (.invokestatic index, 3, μ, 4)) (hw : ∀ w ∈ ([.methodLink T.1.cls index Lib.Math.min.name, .static Lib.Math.min.name, .initialized "java/lang/Math", .code Lib.Math.min.name Lib.Math.min.code 2 (some .int)] : List Cond), w ∈ WG) (hd1 : 1 ≤ d) (hrc : ∀ v ∈ rest, v.category = 1) (hrl : rest.length ≤ 8) (k : V l Γ T d r (pc + 3) ls (.int (if y < x then y else x) :: rest) S Q) : V l Γ T d r pc ls (.int y :: .int x :: rest) S Q := by
  intro A p e R s m args below meth c H locs cells slots Lr hok hC hW hL hc1 hc2
  obtain ⟨hd, hrow⟩ := q_ok_at hok hf
  dsimp only at hd
  have hC' := hC
  obtain ⟨hx, hb, hml, hr, hlk, hown, hts, hK, hA, hfr, hlo⟩ := hC
  have h8 := q_rest hrc hrl Γ.2.2.1
  exact va_mmin hx hb (by rw [hml, hL.1]) hown (hts _ (hw _ (by simp))) (hts _ (hw _ (by simp))) (hts _ (hw _ (by simp))) (hts _ (hw _ (by simp))) (by omega) (by omega) (by omega) (by omega) hd (k A p e R s m args below meth c H locs cells slots Lr hok hC' hW hL hc1 hc2)
end Rows3
end
section
-- integers as Int32
theorem iI_toInt {z : Int} (h1 : -2147483648 ≤ z) (h2 : z < 2147483648) : (iI z).toInt = z := Int32.toInt_ofInt_of_le (by omega) (by omega)
theorem iI_add (a b : Int) : iI a + iI b = iI (a + b) := (Int32.ofInt_add a b).symm
theorem iI_sub (a b : Int) : iI a - iI b = iI (a - b) := (Int32.ofInt_sub a b).symm
theorem iI_mul (a b : Int) : iI a * iI b = iI (a * b) := (Int32.ofInt_mul a b).symm
theorem iI_neg (a : Int) : -iI a = iI (-a) := (Int32.ofInt_neg a).symm
theorem iI_nI (n : Nat) : nI n = iI (n : Int) := Int32.ofInt_eq_ofNat.symm
theorem iI_self (x : Int32) : iI x.toInt = x := Int32.ofInt_toInt x
theorem iI_le {a b : Int} (ha1 : -2147483648 ≤ a) (ha2 : a < 2147483648) (hb1 : -2147483648 ≤ b) (hb2 : b < 2147483648) : iI a ≤ iI b ↔ a ≤ b := by
  rw [Int32.le_iff_toInt_le, iI_toInt ha1 ha2, iI_toInt hb1 hb2]
theorem iI_lt {a b : Int} (ha1 : -2147483648 ≤ a) (ha2 : a < 2147483648) (hb1 : -2147483648 ≤ b) (hb2 : b < 2147483648) : iI a < iI b ↔ a < b := by
  rw [Int32.lt_iff_toInt_lt, iI_toInt ha1 ha2, iI_toInt hb1 hb2]
theorem iI_eq {a b : Int} (ha1 : -2147483648 ≤ a) (ha2 : a < 2147483648) (hb1 : -2147483648 ≤ b) (hb2 : b < 2147483648) : iI a = iI b ↔ a = b := by
  rw [← Int32.toInt_inj, iI_toInt ha1 ha2, iI_toInt hb1 hb2]
theorem iI_0 : (0 : Int32) = iI 0 := rfl
theorem iI_nat {z : Int} (h1 : 0 ≤ z) (h2 : z < 2147483648) : (iI z).toNatClampNeg = z.toNat := by
  show (iI z).toInt.toNat = z.toNat
  rw [iI_toInt (by omega) h2]
theorem iI_in {z : Int} {n : Nat} (h1 : 0 ≤ z) (h2 : z < n) (h3 : z < 2147483648) : vp_in (iI z) n := by
  rw [vp_in_iff, iI_toInt (by omega) h3]
  exact ⟨h1, h2⟩
theorem tI_lo (x : Int32) : -2147483648 ≤ x.toInt := by have := x.le_toInt; omega
theorem tI_hi (x : Int32) : x.toInt < 2147483648 := by have := x.toInt_lt; omega
theorem tI_add {x y : Int32} (h1 : -2147483648 ≤ x.toInt + y.toInt) (h2 : x.toInt + y.toInt < 2147483648) : (x + y).toInt = x.toInt + y.toInt := by
  rw [← iI_self x, ← iI_self y, iI_add, iI_toInt h1 h2, iI_self, iI_self]
theorem tI_sub {x y : Int32} (h1 : -2147483648 ≤ x.toInt - y.toInt) (h2 : x.toInt - y.toInt < 2147483648) : (x - y).toInt = x.toInt - y.toInt := by
  rw [← iI_self x, ← iI_self y, iI_sub, iI_toInt h1 h2, iI_self, iI_self]
theorem tI_mul {x y : Int32} (h1 : -2147483648 ≤ x.toInt * y.toInt) (h2 : x.toInt * y.toInt < 2147483648) : (x * y).toInt = x.toInt * y.toInt := by
  rw [← iI_self x, ← iI_self y, iI_mul, iI_toInt h1 h2, iI_self, iI_self]
theorem iI_div {a b : Int} (ha1 : -2147483648 < a) (ha2 : a < 2147483648) (hb1 : -2147483648 ≤ b) (hb2 : b < 2147483648) : iI a / iI b = iI (a.tdiv b) := by
  rw [← Int32.toInt_inj, Int32.toInt_div_of_ne_left, iI_toInt (by omega) ha2, iI_toInt hb1 hb2, iI_toInt]
  · have h1 := Int.natAbs_tdiv_le_natAbs a b
    omega
  · have h1 := Int.natAbs_tdiv_le_natAbs a b
    omega
  · intro h
    have h2 := congrArg Int32.toInt h
    rw [iI_toInt (by omega) ha2] at h2
    have h3 : Int32.minValue.toInt = -2147483648 := by decide
    omega
theorem iI_rem {a b : Int} (ha1 : -2147483648 < a) (ha2 : a < 2147483648) (hb1 : -2147483648 ≤ b) (hb2 : b < 2147483648) : iI a - iI a / iI b * iI b = iI (a.tmod b) := by
  rw [iI_div ha1 ha2 hb1 hb2, iI_mul, iI_sub]
  congr 1
  have := Int.tmod_add_tdiv_mul a b
  omega
theorem iI_short {z : Int} : (iI z).toInt16.toInt32 = iI (z.bmod 65536) := by
  apply Int32.toInt_inj.mp
  rw [Int16.toInt_toInt32, iI, Int32.toInt16_ofInt, Int16.toInt_ofInt, iI_toInt]
  · have := Int.le_bmod (x := z) (m := 65536) (by decide); omega
  · have := Int.bmod_lt (x := z) (m := 65536) (by decide); omega
-- memory
theorem q_up_s {M : qM} {o k : Nat} {v : Int32} : q_up M o k v o k = v := by simp [q_up, va_up]
theorem q_up_k {M : qM} {o k j : Nat} {v : Int32} (h : j ≠ k) : q_up M o k v o j = M o j := by simp [q_up, va_up, h]
theorem q_up_o {M : qM} {o k o' : Nat} {v : Int32} (h : o' ≠ o) : q_up M o k v o' = M o' := by simp [q_up, va_up, h]
end
section
theorem q_mwi {ws : List Cond} (h : ws.all q_in = true) : ∀ w ∈ ws, w ∈ WG := fun w hw => q_in_spec (List.all_eq_true.mp h w hw)
theorem q_en_cp {Γ : qG} {M : qM} {L : Nat → Int64} {o o' o2 : Nat} {sp dp n : Int32} (h : o2 ≠ o') (y : (Nat × Nat) ⊕ (Nat × List Nat)) : q_en Γ (q_cp M o o' sp dp n, L) o2 y = q_en Γ (M, L) o2 y := by
  have e : q_cp M o o' sp dp n o2 = M o2 := by simp [q_cp, va_up, h]
  have e2 : q_sl (q_cp M o o' sp dp n) o2 = q_sl M o2 := by
    funext j kd
    match kd with
    | 0 => simp only [q_sl, e]
    | 1 => simp only [q_sl, e]
    | 2 => simp only [q_sl, e]
    | t + 3 => rfl
  rcases y with ⟨t, k⟩ | ⟨ci, ks⟩
  · match t with
    | 0 => simp only [q_en, e]
    | 1 => simp only [q_en, e]
    | 2 => rfl
    | t + 3 => simp only [q_en, e]
  · simp only [q_en, e2]
theorem q_nfw : nativeFrameWords "java/lang/System" "arraycopy" 5 + 19 ≤ 40 := by decide +kernel
section Prims
variable {l : Launch} {Γ : qG} {T : qT} {d r pc : Nat} {ls rest : List Value} {S : qS} {Q : qO → qS → Prop}
theorem V.copy {o o' n0 n1 index μ : Nat} {sp dp n : Int32} (hf : q_ft T.2.2.2.2 pc = some (.invokestatic index, 3, μ, 4)) (ho : oT[o]? = some (.inl (0, n0))) (ho' : oT[o']? = some (.inl (0, n1)))
    (hw : ∀ w ∈ ([.methodLink T.1.cls index arraycopyName, .native arraycopyName, .static arraycopyName, .initialized "java/lang/System"] : List Cond), w ∈ WG) (hd1 : 1 ≤ d) (hrc : ∀ v ∈ rest, v.category = 1) (hrl : rest.length ≤ 8)
    (h : ¬ sp < 0 ∧ ¬ dp < 0 ∧ ¬ n < 0 ∧ sp.toNatClampNeg + n.toNatClampNeg ≤ n0 ∧ dp.toNatClampNeg + n.toNatClampNeg ≤ n1) (k : V l Γ T d r (pc + 3) ls rest (q_cp S.1 o o' sp dp n, S.2) Q) : V l Γ T d r pc ls (.int n :: .int dp :: .ref o' :: .int sp :: .ref o :: rest) S Q := by
  intro A p e R s m args below meth c H locs cells slots Lr hok hC hW hL hc1 hc2
  obtain ⟨hd, hrow⟩ := q_ok_at hok hf
  dsimp only at hd
  have hC' := hC
  obtain ⟨hx, hb, hml, hr, hlk, hown, hts, hK, hA, hfr, hlo⟩ := hC
  have h8 := q_rest hrc hrl Γ.2.2.1
  have hset := q_ws_set (Γ := Γ) (S := S) (S' := (q_cp S.1 o o' sp dp n, S.2)) ho' (fun o2 y hne _ => q_en_cp hne y)
  have he : q_en Γ (q_cp S.1 o o' sp dp n, S.2) o' (.inl (0, n1)) = .inl ((Γ.2.1.getD 0 (0, .int)).1, n1, .inl (va_cpy (S.1 o) (S.1 o') sp.toNatClampNeg dp.toNatClampNeg n.toNatClampNeg)) := by
    have e1 : q_cp S.1 o o' sp dp n o' = va_cpy (S.1 o) (S.1 o') sp.toNatClampNeg dp.toNatClampNeg n.toNatClampNeg := by simp [q_cp, va_up]
    simp only [q_en, e1]
  rw [he] at hset
  have hnf := q_nfw
  exact va_copyi hx hb (by rw [hml, hL.1]) hown (hts _ (hw _ (by simp))) (hts _ (hw _ (by simp))) (hts _ (hw _ (by simp))) (hts _ (hw _ (by simp))) hK.1 hW.1 hW.2.1 hW.2.2 o o' 0 0 (q_ws_get Γ S ho) (q_ws_get Γ S ho') (q_ty hK 0 rfl) (q_ty hK 0 rfl) rfl h.1 h.2.1 h.2.2.1 h.2.2.2.1 h.2.2.2.2 (fun _ _ => rfl) (by omega) (by omega) hd (fun H1 locs1 h3 h4 h5 => k A p e R s m args below meth c H1 locs1 cells slots Lr hok hC' ⟨hset ▸ h3, hset ▸ h4, h5⟩ hL hc1 hc2)
end Prims
end
