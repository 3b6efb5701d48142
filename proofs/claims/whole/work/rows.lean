section
-- begun from the skeleton's PART A and the printed names: the tables' words; classes, fields, types
-- ===== PART A: goes FIRST, ahead of the names: the tables' words, and 'selects' of the private methods out of them =====
/-- a private method of a class that the tables say can be made, by its rows of tables_1 -/
def lw_okq (q : MethodName × Nat) : Prop := (q.1.cls ≠ "java/lang/invoke/MethodHandle" ∧ q.1.cls ≠ "java/lang/invoke/VarHandle") ∧ Cond.instantiable q.1.cls q.2 ∈ tables_1 ∧ Cond.privateMethod q.1 ∈ tables_1 ∧ Cond.instanceMethod q.1 ∈ tables_1
theorem lw_p0 : lw_okq (⟨"WordRuns$Reader", "takeFour", "(I)V"⟩, 10) := ⟨⟨by decide +kernel, by decide +kernel⟩, List.mem_of_getElem? (i := 66) (by decide +kernel), List.mem_of_getElem? (i := 327) (by decide +kernel), List.mem_of_getElem? (i := 328) (by decide +kernel)⟩
theorem lw_p1 : lw_okq (⟨"WordRuns$Reader", "passLet", "()Z"⟩, 10) := ⟨⟨by decide +kernel, by decide +kernel⟩, List.mem_of_getElem? (i := 66) (by decide +kernel), List.mem_of_getElem? (i := 347) (by decide +kernel), List.mem_of_getElem? (i := 348) (by decide +kernel)⟩
theorem lw_p2 : lw_okq (⟨"WordRuns$Reader", "skipBlanks", "()V"⟩, 10) := ⟨⟨by decide +kernel, by decide +kernel⟩, List.mem_of_getElem? (i := 66) (by decide +kernel), List.mem_of_getElem? (i := 351) (by decide +kernel), List.mem_of_getElem? (i := 352) (by decide +kernel)⟩
theorem lw_p3 : lw_okq (⟨"WordRuns$Reader", "byteAt", "(I)I"⟩, 10) := ⟨⟨by decide +kernel, by decide +kernel⟩, List.mem_of_getElem? (i := 66) (by decide +kernel), List.mem_of_getElem? (i := 355) (by decide +kernel), List.mem_of_getElem? (i := 356) (by decide +kernel)⟩
theorem lw_p4 : lw_okq (⟨"WordRuns$Reader", "wordEnd", "(I)I"⟩, 10) := ⟨⟨by decide +kernel, by decide +kernel⟩, List.mem_of_getElem? (i := 66) (by decide +kernel), List.mem_of_getElem? (i := 359) (by decide +kernel), List.mem_of_getElem? (i := 360) (by decide +kernel)⟩
theorem lw_p5 : lw_okq (⟨"WordRuns$Reader", "isSmall", "(I)Z"⟩, 10) := ⟨⟨by decide +kernel, by decide +kernel⟩, List.mem_of_getElem? (i := 66) (by decide +kernel), List.mem_of_getElem? (i := 363) (by decide +kernel), List.mem_of_getElem? (i := 364) (by decide +kernel)⟩
theorem lw_p6 : lw_okq (⟨"WordRuns$Reader", "codeOf", "(II)I"⟩, 10) := ⟨⟨by decide +kernel, by decide +kernel⟩, List.mem_of_getElem? (i := 66) (by decide +kernel), List.mem_of_getElem? (i := 367) (by decide +kernel), List.mem_of_getElem? (i := 368) (by decide +kernel)⟩
theorem lw_p7 : lw_okq (⟨"WordRuns$Reader", "readName", "()V"⟩, 10) := ⟨⟨by decide +kernel, by decide +kernel⟩, List.mem_of_getElem? (i := 66) (by decide +kernel), List.mem_of_getElem? (i := 371) (by decide +kernel), List.mem_of_getElem? (i := 372) (by decide +kernel)⟩
theorem lw_p8 : lw_okq (⟨"WordRuns$Reader", "slotOf", "(I)I"⟩, 10) := ⟨⟨by decide +kernel, by decide +kernel⟩, List.mem_of_getElem? (i := 66) (by decide +kernel), List.mem_of_getElem? (i := 375) (by decide +kernel), List.mem_of_getElem? (i := 376) (by decide +kernel)⟩
theorem lw_p9 : lw_okq (⟨"WordRuns$Reader", "isName", "(II)Z"⟩, 10) := ⟨⟨by decide +kernel, by decide +kernel⟩, List.mem_of_getElem? (i := 66) (by decide +kernel), List.mem_of_getElem? (i := 379) (by decide +kernel), List.mem_of_getElem? (i := 380) (by decide +kernel)⟩
theorem lw_p10 : lw_okq (⟨"WordRuns$Reader", "fail", "(II)Z"⟩, 10) := ⟨⟨by decide +kernel, by decide +kernel⟩, List.mem_of_getElem? (i := 66) (by decide +kernel), List.mem_of_getElem? (i := 383) (by decide +kernel), List.mem_of_getElem? (i := 384) (by decide +kernel)⟩
theorem lw_p11 : lw_okq (⟨"WordRuns$Reader", "expect", "(I)Z"⟩, 10) := ⟨⟨by decide +kernel, by decide +kernel⟩, List.mem_of_getElem? (i := 66) (by decide +kernel), List.mem_of_getElem? (i := 387) (by decide +kernel), List.mem_of_getElem? (i := 388) (by decide +kernel)⟩
theorem lw_p12 : lw_okq (⟨"WordRuns$Reader", "readRow", "(I)Z"⟩, 10) := ⟨⟨by decide +kernel, by decide +kernel⟩, List.mem_of_getElem? (i := 66) (by decide +kernel), List.mem_of_getElem? (i := 391) (by decide +kernel), List.mem_of_getElem? (i := 392) (by decide +kernel)⟩
theorem lw_p13 : lw_okq (⟨"WordRuns$Reader", "isItemBegin", "(I)Z"⟩, 10) := ⟨⟨by decide +kernel, by decide +kernel⟩, List.mem_of_getElem? (i := 66) (by decide +kernel), List.mem_of_getElem? (i := 395) (by decide +kernel), List.mem_of_getElem? (i := 396) (by decide +kernel)⟩
theorem lw_p14 : lw_okq (⟨"WordRuns$Reader", "isDigit", "(I)Z"⟩, 10) := ⟨⟨by decide +kernel, by decide +kernel⟩, List.mem_of_getElem? (i := 66) (by decide +kernel), List.mem_of_getElem? (i := 399) (by decide +kernel), List.mem_of_getElem? (i := 400) (by decide +kernel)⟩
theorem lw_p15 : lw_okq (⟨"WordRuns$Reader", "readItem", "(II)Z"⟩, 10) := ⟨⟨by decide +kernel, by decide +kernel⟩, List.mem_of_getElem? (i := 66) (by decide +kernel), List.mem_of_getElem? (i := 403) (by decide +kernel), List.mem_of_getElem? (i := 404) (by decide +kernel)⟩
def lw_privs_1 : List (MethodName × Nat) := [(⟨"WordRuns$Reader", "takeFour", "(I)V"⟩, 10), (⟨"WordRuns$Reader", "passLet", "()Z"⟩, 10), (⟨"WordRuns$Reader", "skipBlanks", "()V"⟩, 10), (⟨"WordRuns$Reader", "byteAt", "(I)I"⟩, 10), (⟨"WordRuns$Reader", "wordEnd", "(I)I"⟩, 10), (⟨"WordRuns$Reader", "isSmall", "(I)Z"⟩, 10), (⟨"WordRuns$Reader", "codeOf", "(II)I"⟩, 10), (⟨"WordRuns$Reader", "readName", "()V"⟩, 10), (⟨"WordRuns$Reader", "slotOf", "(I)I"⟩, 10), (⟨"WordRuns$Reader", "isName", "(II)Z"⟩, 10), (⟨"WordRuns$Reader", "fail", "(II)Z"⟩, 10), (⟨"WordRuns$Reader", "expect", "(I)Z"⟩, 10), (⟨"WordRuns$Reader", "readRow", "(I)Z"⟩, 10), (⟨"WordRuns$Reader", "isItemBegin", "(I)Z"⟩, 10), (⟨"WordRuns$Reader", "isDigit", "(I)Z"⟩, 10), (⟨"WordRuns$Reader", "readItem", "(II)Z"⟩, 10)]
theorem lw_r1 : ∀ q ∈ lw_privs_1, lw_okq q := List.forall_mem_cons.mpr ⟨lw_p0, List.forall_mem_cons.mpr ⟨lw_p1, List.forall_mem_cons.mpr ⟨lw_p2, List.forall_mem_cons.mpr ⟨lw_p3, List.forall_mem_cons.mpr ⟨lw_p4, List.forall_mem_cons.mpr ⟨lw_p5, List.forall_mem_cons.mpr ⟨lw_p6, List.forall_mem_cons.mpr ⟨lw_p7, List.forall_mem_cons.mpr ⟨lw_p8, List.forall_mem_cons.mpr ⟨lw_p9, List.forall_mem_cons.mpr ⟨lw_p10, List.forall_mem_cons.mpr ⟨lw_p11, List.forall_mem_cons.mpr ⟨lw_p12, List.forall_mem_cons.mpr ⟨lw_p13, List.forall_mem_cons.mpr ⟨lw_p14, List.forall_mem_cons.mpr ⟨lw_p15, fun _ h => absurd h List.not_mem_nil⟩⟩⟩⟩⟩⟩⟩⟩⟩⟩⟩⟩⟩⟩⟩⟩
theorem lw_p16 : lw_okq (⟨"WordRuns$Reader", "readLetters", "(I)Z"⟩, 10) := ⟨⟨by decide +kernel, by decide +kernel⟩, List.mem_of_getElem? (i := 66) (by decide +kernel), List.mem_of_getElem? (i := 407) (by decide +kernel), List.mem_of_getElem? (i := 408) (by decide +kernel)⟩
theorem lw_p17 : lw_okq (⟨"WordRuns$Reader", "push", "(I)V"⟩, 10) := ⟨⟨by decide +kernel, by decide +kernel⟩, List.mem_of_getElem? (i := 66) (by decide +kernel), List.mem_of_getElem? (i := 411) (by decide +kernel), List.mem_of_getElem? (i := 412) (by decide +kernel)⟩
theorem lw_p18 : lw_okq (⟨"WordRuns$Reader", "readTimes", "(II)Z"⟩, 10) := ⟨⟨by decide +kernel, by decide +kernel⟩, List.mem_of_getElem? (i := 66) (by decide +kernel), List.mem_of_getElem? (i := 415) (by decide +kernel), List.mem_of_getElem? (i := 416) (by decide +kernel)⟩
theorem lw_p19 : lw_okq (⟨"WordRuns$Reader", "readNumber", "(I)I"⟩, 10) := ⟨⟨by decide +kernel, by decide +kernel⟩, List.mem_of_getElem? (i := 66) (by decide +kernel), List.mem_of_getElem? (i := 419) (by decide +kernel), List.mem_of_getElem? (i := 420) (by decide +kernel)⟩
theorem lw_p20 : lw_okq (⟨"WordRuns$Reader", "readInside", "(I)Z"⟩, 10) := ⟨⟨by decide +kernel, by decide +kernel⟩, List.mem_of_getElem? (i := 66) (by decide +kernel), List.mem_of_getElem? (i := 426) (by decide +kernel), List.mem_of_getElem? (i := 427) (by decide +kernel)⟩
theorem lw_p21 : lw_okq (⟨"WordRuns$Reader", "pileAt", "(I)I"⟩, 10) := ⟨⟨by decide +kernel, by decide +kernel⟩, List.mem_of_getElem? (i := 66) (by decide +kernel), List.mem_of_getElem? (i := 430) (by decide +kernel), List.mem_of_getElem? (i := 431) (by decide +kernel)⟩
theorem lw_p22 : lw_okq (⟨"WordRuns$Reader", "readWord", "(II)Z"⟩, 10) := ⟨⟨by decide +kernel, by decide +kernel⟩, List.mem_of_getElem? (i := 66) (by decide +kernel), List.mem_of_getElem? (i := 434) (by decide +kernel), List.mem_of_getElem? (i := 435) (by decide +kernel)⟩
theorem lw_p23 : lw_okq (⟨"WordRuns$Reader", "readReversed", "(III)Z"⟩, 10) := ⟨⟨by decide +kernel, by decide +kernel⟩, List.mem_of_getElem? (i := 66) (by decide +kernel), List.mem_of_getElem? (i := 438) (by decide +kernel), List.mem_of_getElem? (i := 439) (by decide +kernel)⟩
theorem lw_p24 : lw_okq (⟨"WordRuns$Reader", "readGrown", "(IZI)Z"⟩, 10) := ⟨⟨by decide +kernel, by decide +kernel⟩, List.mem_of_getElem? (i := 66) (by decide +kernel), List.mem_of_getElem? (i := 443) (by decide +kernel), List.mem_of_getElem? (i := 444) (by decide +kernel)⟩
theorem lw_p25 : lw_okq (⟨"WordRuns$Reader", "fibSize", "(I)I"⟩, 10) := ⟨⟨by decide +kernel, by decide +kernel⟩, List.mem_of_getElem? (i := 66) (by decide +kernel), List.mem_of_getElem? (i := 447) (by decide +kernel), List.mem_of_getElem? (i := 448) (by decide +kernel)⟩
theorem lw_p26 : lw_okq (⟨"WordRuns$Reader", "growFib", "(I)V"⟩, 10) := ⟨⟨by decide +kernel, by decide +kernel⟩, List.mem_of_getElem? (i := 66) (by decide +kernel), List.mem_of_getElem? (i := 451) (by decide +kernel), List.mem_of_getElem? (i := 452) (by decide +kernel)⟩
theorem lw_p27 : lw_okq (⟨"WordRuns$Reader", "growMorse", "(I)V"⟩, 10) := ⟨⟨by decide +kernel, by decide +kernel⟩, List.mem_of_getElem? (i := 66) (by decide +kernel), List.mem_of_getElem? (i := 455) (by decide +kernel), List.mem_of_getElem? (i := 456) (by decide +kernel)⟩
theorem lw_p28 : lw_okq (⟨"WordRuns$Reader", "store", "(II)V"⟩, 10) := ⟨⟨by decide +kernel, by decide +kernel⟩, List.mem_of_getElem? (i := 66) (by decide +kernel), List.mem_of_getElem? (i := 459) (by decide +kernel), List.mem_of_getElem? (i := 460) (by decide +kernel)⟩
theorem lw_p29 : lw_okq (⟨"WordRuns", "replaceWord", "(LWordRuns$Word;)V"⟩, 15) := ⟨⟨by decide +kernel, by decide +kernel⟩, List.mem_of_getElem? (i := 21) (by decide +kernel), List.mem_of_getElem? (i := 474) (by decide +kernel), List.mem_of_getElem? (i := 475) (by decide +kernel)⟩
theorem lw_p30 : lw_okq (⟨"WordRuns", "isPlace", "(I)Z"⟩, 15) := ⟨⟨by decide +kernel, by decide +kernel⟩, List.mem_of_getElem? (i := 21) (by decide +kernel), List.mem_of_getElem? (i := 517) (by decide +kernel), List.mem_of_getElem? (i := 518) (by decide +kernel)⟩
theorem lw_p31 : lw_okq (⟨"WordRuns", "isLetter", "(I)Z"⟩, 15) := ⟨⟨by decide +kernel, by decide +kernel⟩, List.mem_of_getElem? (i := 21) (by decide +kernel), List.mem_of_getElem? (i := 521) (by decide +kernel), List.mem_of_getElem? (i := 522) (by decide +kernel)⟩
def lw_privs_2 : List (MethodName × Nat) := [(⟨"WordRuns$Reader", "readLetters", "(I)Z"⟩, 10), (⟨"WordRuns$Reader", "push", "(I)V"⟩, 10), (⟨"WordRuns$Reader", "readTimes", "(II)Z"⟩, 10), (⟨"WordRuns$Reader", "readNumber", "(I)I"⟩, 10), (⟨"WordRuns$Reader", "readInside", "(I)Z"⟩, 10), (⟨"WordRuns$Reader", "pileAt", "(I)I"⟩, 10), (⟨"WordRuns$Reader", "readWord", "(II)Z"⟩, 10), (⟨"WordRuns$Reader", "readReversed", "(III)Z"⟩, 10), (⟨"WordRuns$Reader", "readGrown", "(IZI)Z"⟩, 10), (⟨"WordRuns$Reader", "fibSize", "(I)I"⟩, 10), (⟨"WordRuns$Reader", "growFib", "(I)V"⟩, 10), (⟨"WordRuns$Reader", "growMorse", "(I)V"⟩, 10), (⟨"WordRuns$Reader", "store", "(II)V"⟩, 10), (⟨"WordRuns", "replaceWord", "(LWordRuns$Word;)V"⟩, 15), (⟨"WordRuns", "isPlace", "(I)Z"⟩, 15), (⟨"WordRuns", "isLetter", "(I)Z"⟩, 15)]
theorem lw_r2 : ∀ q ∈ lw_privs_2, lw_okq q := List.forall_mem_cons.mpr ⟨lw_p16, List.forall_mem_cons.mpr ⟨lw_p17, List.forall_mem_cons.mpr ⟨lw_p18, List.forall_mem_cons.mpr ⟨lw_p19, List.forall_mem_cons.mpr ⟨lw_p20, List.forall_mem_cons.mpr ⟨lw_p21, List.forall_mem_cons.mpr ⟨lw_p22, List.forall_mem_cons.mpr ⟨lw_p23, List.forall_mem_cons.mpr ⟨lw_p24, List.forall_mem_cons.mpr ⟨lw_p25, List.forall_mem_cons.mpr ⟨lw_p26, List.forall_mem_cons.mpr ⟨lw_p27, List.forall_mem_cons.mpr ⟨lw_p28, List.forall_mem_cons.mpr ⟨lw_p29, List.forall_mem_cons.mpr ⟨lw_p30, List.forall_mem_cons.mpr ⟨lw_p31, fun _ h => absurd h List.not_mem_nil⟩⟩⟩⟩⟩⟩⟩⟩⟩⟩⟩⟩⟩⟩⟩⟩
theorem lw_p32 : lw_okq (⟨"WordRuns", "act", "()I"⟩, 15) := ⟨⟨by decide +kernel, by decide +kernel⟩, List.mem_of_getElem? (i := 21) (by decide +kernel), List.mem_of_getElem? (i := 530) (by decide +kernel), List.mem_of_getElem? (i := 531) (by decide +kernel)⟩
theorem lw_p33 : lw_okq (⟨"WordRuns", "isPart", "(II)Z"⟩, 15) := ⟨⟨by decide +kernel, by decide +kernel⟩, List.mem_of_getElem? (i := 21) (by decide +kernel), List.mem_of_getElem? (i := 555) (by decide +kernel), List.mem_of_getElem? (i := 556) (by decide +kernel)⟩
theorem lw_p34 : lw_okq (⟨"WordRuns", "actIfOther", "()I"⟩, 15) := ⟨⟨by decide +kernel, by decide +kernel⟩, List.mem_of_getElem? (i := 21) (by decide +kernel), List.mem_of_getElem? (i := 559) (by decide +kernel), List.mem_of_getElem? (i := 560) (by decide +kernel)⟩
theorem lw_p35 : lw_okq (⟨"WordRuns", "isFullPart", "(II)Z"⟩, 15) := ⟨⟨by decide +kernel, by decide +kernel⟩, List.mem_of_getElem? (i := 21) (by decide +kernel), List.mem_of_getElem? (i := 571) (by decide +kernel), List.mem_of_getElem? (i := 572) (by decide +kernel)⟩
theorem lw_p36 : lw_okq (⟨"WordRuns$Shapes", "isPeriod", "(III)Z"⟩, 2) := ⟨⟨by decide +kernel, by decide +kernel⟩, List.mem_of_getElem? (i := 123) (by decide +kernel), List.mem_of_getElem? (i := 627) (by decide +kernel), List.mem_of_getElem? (i := 628) (by decide +kernel)⟩
theorem lw_p37 : lw_okq (⟨"WordRuns$Twins", "build", "()V"⟩, 4) := ⟨⟨by decide +kernel, by decide +kernel⟩, List.mem_of_getElem? (i := 104) (by decide +kernel), List.mem_of_getElem? (i := 638) (by decide +kernel), List.mem_of_getElem? (i := 639) (by decide +kernel)⟩
theorem lw_p38 : lw_okq (⟨"WordRuns$Orders", "isRotationLess", "(IIII)Z"⟩, 4) := ⟨⟨by decide +kernel, by decide +kernel⟩, List.mem_of_getElem? (i := 211) (by decide +kernel), List.mem_of_getElem? (i := 660) (by decide +kernel), List.mem_of_getElem? (i := 661) (by decide +kernel)⟩
theorem lw_p39 : lw_okq (⟨"WordRuns$Shapes", "isCover", "(III)Z"⟩, 2) := ⟨⟨by decide +kernel, by decide +kernel⟩, List.mem_of_getElem? (i := 123) (by decide +kernel), List.mem_of_getElem? (i := 673) (by decide +kernel), List.mem_of_getElem? (i := 674) (by decide +kernel)⟩
theorem lw_p40 : lw_okq (⟨"WordRuns$Orders", "sort", "()V"⟩, 4) := ⟨⟨by decide +kernel, by decide +kernel⟩, List.mem_of_getElem? (i := 211) (by decide +kernel), List.mem_of_getElem? (i := 731) (by decide +kernel), List.mem_of_getElem? (i := 732) (by decide +kernel)⟩
theorem lw_p41 : lw_okq (⟨"WordRuns", "foundRuns", "()LWordRuns$RunList;"⟩, 15) := ⟨⟨by decide +kernel, by decide +kernel⟩, List.mem_of_getElem? (i := 21) (by decide +kernel), List.mem_of_getElem? (i := 740) (by decide +kernel), List.mem_of_getElem? (i := 741) (by decide +kernel)⟩
theorem lw_p42 : lw_okq (⟨"WordRuns$RunList", "findWithGap", "(LWordRuns$Word;I)V"⟩, 4) := ⟨⟨by decide +kernel, by decide +kernel⟩, List.mem_of_getElem? (i := 254) (by decide +kernel), List.mem_of_getElem? (i := 749) (by decide +kernel), List.mem_of_getElem? (i := 750) (by decide +kernel)⟩
theorem lw_p43 : lw_okq (⟨"WordRuns$RunList", "add", "(III)V"⟩, 4) := ⟨⟨by decide +kernel, by decide +kernel⟩, List.mem_of_getElem? (i := 254) (by decide +kernel), List.mem_of_getElem? (i := 754) (by decide +kernel), List.mem_of_getElem? (i := 755) (by decide +kernel)⟩
theorem lw_p44 : lw_okq (⟨"WordRuns$Repeats", "addClosed", "(I)V"⟩, 5) := ⟨⟨by decide +kernel, by decide +kernel⟩, List.mem_of_getElem? (i := 136) (by decide +kernel), List.mem_of_getElem? (i := 866) (by decide +kernel), List.mem_of_getElem? (i := 867) (by decide +kernel)⟩
theorem lw_p45 : lw_okq (⟨"WordRuns$Repeats", "addAbelian", "(I)V"⟩, 5) := ⟨⟨by decide +kernel, by decide +kernel⟩, List.mem_of_getElem? (i := 136) (by decide +kernel), List.mem_of_getElem? (i := 886) (by decide +kernel), List.mem_of_getElem? (i := 887) (by decide +kernel)⟩
theorem lw_p46 : lw_okq (⟨"WordRuns$Repeats", "changeSurplus", "(II)I"⟩, 5) := ⟨⟨by decide +kernel, by decide +kernel⟩, List.mem_of_getElem? (i := 136) (by decide +kernel), List.mem_of_getElem? (i := 890) (by decide +kernel), List.mem_of_getElem? (i := 891) (by decide +kernel)⟩
theorem lw_p47 : lw_okq (⟨"WordRuns$Unlike", "countSeedsFrom", "(I)V"⟩, 10) := ⟨⟨by decide +kernel, by decide +kernel⟩, List.mem_of_getElem? (i := 174) (by decide +kernel), List.mem_of_getElem? (i := 916) (by decide +kernel), List.mem_of_getElem? (i := 917) (by decide +kernel)⟩
def lw_privs_3 : List (MethodName × Nat) := [(⟨"WordRuns", "act", "()I"⟩, 15), (⟨"WordRuns", "isPart", "(II)Z"⟩, 15), (⟨"WordRuns", "actIfOther", "()I"⟩, 15), (⟨"WordRuns", "isFullPart", "(II)Z"⟩, 15), (⟨"WordRuns$Shapes", "isPeriod", "(III)Z"⟩, 2), (⟨"WordRuns$Twins", "build", "()V"⟩, 4), (⟨"WordRuns$Orders", "isRotationLess", "(IIII)Z"⟩, 4), (⟨"WordRuns$Shapes", "isCover", "(III)Z"⟩, 2), (⟨"WordRuns$Orders", "sort", "()V"⟩, 4), (⟨"WordRuns", "foundRuns", "()LWordRuns$RunList;"⟩, 15), (⟨"WordRuns$RunList", "findWithGap", "(LWordRuns$Word;I)V"⟩, 4), (⟨"WordRuns$RunList", "add", "(III)V"⟩, 4), (⟨"WordRuns$Repeats", "addClosed", "(I)V"⟩, 5), (⟨"WordRuns$Repeats", "addAbelian", "(I)V"⟩, 5), (⟨"WordRuns$Repeats", "changeSurplus", "(II)I"⟩, 5), (⟨"WordRuns$Unlike", "countSeedsFrom", "(I)V"⟩, 10)]
theorem lw_r3 : ∀ q ∈ lw_privs_3, lw_okq q := List.forall_mem_cons.mpr ⟨lw_p32, List.forall_mem_cons.mpr ⟨lw_p33, List.forall_mem_cons.mpr ⟨lw_p34, List.forall_mem_cons.mpr ⟨lw_p35, List.forall_mem_cons.mpr ⟨lw_p36, List.forall_mem_cons.mpr ⟨lw_p37, List.forall_mem_cons.mpr ⟨lw_p38, List.forall_mem_cons.mpr ⟨lw_p39, List.forall_mem_cons.mpr ⟨lw_p40, List.forall_mem_cons.mpr ⟨lw_p41, List.forall_mem_cons.mpr ⟨lw_p42, List.forall_mem_cons.mpr ⟨lw_p43, List.forall_mem_cons.mpr ⟨lw_p44, List.forall_mem_cons.mpr ⟨lw_p45, List.forall_mem_cons.mpr ⟨lw_p46, List.forall_mem_cons.mpr ⟨lw_p47, fun _ h => absurd h List.not_mem_nil⟩⟩⟩⟩⟩⟩⟩⟩⟩⟩⟩⟩⟩⟩⟩⟩
theorem lw_p48 : lw_okq (⟨"WordRuns$Unlike", "coversBehind", "(II)Z"⟩, 10) := ⟨⟨by decide +kernel, by decide +kernel⟩, List.mem_of_getElem? (i := 174) (by decide +kernel), List.mem_of_getElem? (i := 924) (by decide +kernel), List.mem_of_getElem? (i := 925) (by decide +kernel)⟩
theorem lw_p49 : lw_okq (⟨"WordRuns$Unlike", "seedBegin", "(II)I"⟩, 10) := ⟨⟨by decide +kernel, by decide +kernel⟩, List.mem_of_getElem? (i := 174) (by decide +kernel), List.mem_of_getElem? (i := 936) (by decide +kernel), List.mem_of_getElem? (i := 937) (by decide +kernel)⟩
theorem lw_p50 : lw_okq (⟨"WordRuns$Unlike", "isSeed", "(II)Z"⟩, 10) := ⟨⟨by decide +kernel, by decide +kernel⟩, List.mem_of_getElem? (i := 174) (by decide +kernel), List.mem_of_getElem? (i := 940) (by decide +kernel), List.mem_of_getElem? (i := 941) (by decide +kernel)⟩
theorem lw_p51 : lw_okq (⟨"WordRuns$Unlike", "isFirst", "(II)Z"⟩, 10) := ⟨⟨by decide +kernel, by decide +kernel⟩, List.mem_of_getElem? (i := 174) (by decide +kernel), List.mem_of_getElem? (i := 944) (by decide +kernel), List.mem_of_getElem? (i := 945) (by decide +kernel)⟩
theorem lw_p52 : lw_okq (⟨"WordRuns$Unlike", "coversAhead", "(II)Z"⟩, 10) := ⟨⟨by decide +kernel, by decide +kernel⟩, List.mem_of_getElem? (i := 174) (by decide +kernel), List.mem_of_getElem? (i := 948) (by decide +kernel), List.mem_of_getElem? (i := 949) (by decide +kernel)⟩
theorem lw_p53 : lw_okq (⟨"WordRuns$Unlike", "placesUnder", "(II)I"⟩, 10) := ⟨⟨by decide +kernel, by decide +kernel⟩, List.mem_of_getElem? (i := 174) (by decide +kernel), List.mem_of_getElem? (i := 960) (by decide +kernel), List.mem_of_getElem? (i := 961) (by decide +kernel)⟩
theorem lw_p54 : lw_okq (⟨"WordRuns$Unlike", "lettersBehind", "(II)I"⟩, 10) := ⟨⟨by decide +kernel, by decide +kernel⟩, List.mem_of_getElem? (i := 174) (by decide +kernel), List.mem_of_getElem? (i := 984) (by decide +kernel), List.mem_of_getElem? (i := 985) (by decide +kernel)⟩
theorem lw_p55 : lw_okq (⟨"WordRuns$Unlike", "addAbsentAround", "(II)V"⟩, 10) := ⟨⟨by decide +kernel, by decide +kernel⟩, List.mem_of_getElem? (i := 174) (by decide +kernel), List.mem_of_getElem? (i := 1003) (by decide +kernel), List.mem_of_getElem? (i := 1004) (by decide +kernel)⟩
theorem lw_p56 : lw_okq (⟨"WordRuns$Unlike", "addAbsent", "(II)V"⟩, 10) := ⟨⟨by decide +kernel, by decide +kernel⟩, List.mem_of_getElem? (i := 174) (by decide +kernel), List.mem_of_getElem? (i := 1007) (by decide +kernel), List.mem_of_getElem? (i := 1008) (by decide +kernel)⟩
theorem lw_p57 : lw_okq (⟨"WordRuns$Unlike", "addAbsentFrom", "(I)V"⟩, 10) := ⟨⟨by decide +kernel, by decide +kernel⟩, List.mem_of_getElem? (i := 174) (by decide +kernel), List.mem_of_getElem? (i := 1011) (by decide +kernel), List.mem_of_getElem? (i := 1012) (by decide +kernel)⟩
theorem lw_p58 : lw_okq (⟨"WordRuns$Mirrors", "span", "(I)I"⟩, 5) := ⟨⟨by decide +kernel, by decide +kernel⟩, List.mem_of_getElem? (i := 230) (by decide +kernel), List.mem_of_getElem? (i := 1023) (by decide +kernel), List.mem_of_getElem? (i := 1024) (by decide +kernel)⟩
theorem lw_p59 : lw_okq (⟨"WordRuns$Mirrors", "middles", "()I"⟩, 5) := ⟨⟨by decide +kernel, by decide +kernel⟩, List.mem_of_getElem? (i := 230) (by decide +kernel), List.mem_of_getElem? (i := 1027) (by decide +kernel), List.mem_of_getElem? (i := 1028) (by decide +kernel)⟩
theorem lw_p60 : lw_okq (⟨"WordRunsModel", "isPlace", "(I)Z"⟩, 33) := ⟨⟨by decide +kernel, by decide +kernel⟩, List.mem_of_getElem? (i := 1080) (by decide +kernel), List.mem_of_getElem? (i := 1192) (by decide +kernel), List.mem_of_getElem? (i := 1193) (by decide +kernel)⟩
theorem lw_p61 : lw_okq (⟨"WordRunsModel", "size", "()I"⟩, 33) := ⟨⟨by decide +kernel, by decide +kernel⟩, List.mem_of_getElem? (i := 1080) (by decide +kernel), List.mem_of_getElem? (i := 1196) (by decide +kernel), List.mem_of_getElem? (i := 1197) (by decide +kernel)⟩
theorem lw_p62 : lw_okq (⟨"WordRunsModel", "at", "(I)I"⟩, 33) := ⟨⟨by decide +kernel, by decide +kernel⟩, List.mem_of_getElem? (i := 1080) (by decide +kernel), List.mem_of_getElem? (i := 1203) (by decide +kernel), List.mem_of_getElem? (i := 1204) (by decide +kernel)⟩
theorem lw_p63 : lw_okq (⟨"WordRunsModel", "isPart", "(II)Z"⟩, 33) := ⟨⟨by decide +kernel, by decide +kernel⟩, List.mem_of_getElem? (i := 1080) (by decide +kernel), List.mem_of_getElem? (i := 1211) (by decide +kernel), List.mem_of_getElem? (i := 1212) (by decide +kernel)⟩
def lw_privs_4 : List (MethodName × Nat) := [(⟨"WordRuns$Unlike", "coversBehind", "(II)Z"⟩, 10), (⟨"WordRuns$Unlike", "seedBegin", "(II)I"⟩, 10), (⟨"WordRuns$Unlike", "isSeed", "(II)Z"⟩, 10), (⟨"WordRuns$Unlike", "isFirst", "(II)Z"⟩, 10), (⟨"WordRuns$Unlike", "coversAhead", "(II)Z"⟩, 10), (⟨"WordRuns$Unlike", "placesUnder", "(II)I"⟩, 10), (⟨"WordRuns$Unlike", "lettersBehind", "(II)I"⟩, 10), (⟨"WordRuns$Unlike", "addAbsentAround", "(II)V"⟩, 10), (⟨"WordRuns$Unlike", "addAbsent", "(II)V"⟩, 10), (⟨"WordRuns$Unlike", "addAbsentFrom", "(I)V"⟩, 10), (⟨"WordRuns$Mirrors", "span", "(I)I"⟩, 5), (⟨"WordRuns$Mirrors", "middles", "()I"⟩, 5), (⟨"WordRunsModel", "isPlace", "(I)Z"⟩, 33), (⟨"WordRunsModel", "size", "()I"⟩, 33), (⟨"WordRunsModel", "at", "(I)I"⟩, 33), (⟨"WordRunsModel", "isPart", "(II)Z"⟩, 33)]
theorem lw_r4 : ∀ q ∈ lw_privs_4, lw_okq q := List.forall_mem_cons.mpr ⟨lw_p48, List.forall_mem_cons.mpr ⟨lw_p49, List.forall_mem_cons.mpr ⟨lw_p50, List.forall_mem_cons.mpr ⟨lw_p51, List.forall_mem_cons.mpr ⟨lw_p52, List.forall_mem_cons.mpr ⟨lw_p53, List.forall_mem_cons.mpr ⟨lw_p54, List.forall_mem_cons.mpr ⟨lw_p55, List.forall_mem_cons.mpr ⟨lw_p56, List.forall_mem_cons.mpr ⟨lw_p57, List.forall_mem_cons.mpr ⟨lw_p58, List.forall_mem_cons.mpr ⟨lw_p59, List.forall_mem_cons.mpr ⟨lw_p60, List.forall_mem_cons.mpr ⟨lw_p61, List.forall_mem_cons.mpr ⟨lw_p62, List.forall_mem_cons.mpr ⟨lw_p63, fun _ h => absurd h List.not_mem_nil⟩⟩⟩⟩⟩⟩⟩⟩⟩⟩⟩⟩⟩⟩⟩⟩
theorem lw_p64 : lw_okq (⟨"WordRunsModel", "common", "(III)I"⟩, 33) := ⟨⟨by decide +kernel, by decide +kernel⟩, List.mem_of_getElem? (i := 1080) (by decide +kernel), List.mem_of_getElem? (i := 1218) (by decide +kernel), List.mem_of_getElem? (i := 1219) (by decide +kernel)⟩
theorem lw_p65 : lw_okq (⟨"WordRunsModel", "isPeriod", "(III)Z"⟩, 33) := ⟨⟨by decide +kernel, by decide +kernel⟩, List.mem_of_getElem? (i := 1080) (by decide +kernel), List.mem_of_getElem? (i := 1229) (by decide +kernel), List.mem_of_getElem? (i := 1230) (by decide +kernel)⟩
theorem lw_p66 : lw_okq (⟨"WordRunsModel", "areAlike", "(III)Z"⟩, 33) := ⟨⟨by decide +kernel, by decide +kernel⟩, List.mem_of_getElem? (i := 1080) (by decide +kernel), List.mem_of_getElem? (i := 1233) (by decide +kernel), List.mem_of_getElem? (i := 1234) (by decide +kernel)⟩
theorem lw_p67 : lw_okq (⟨"WordRunsModel", "isSome", "(II)Z"⟩, 33) := ⟨⟨by decide +kernel, by decide +kernel⟩, List.mem_of_getElem? (i := 1080) (by decide +kernel), List.mem_of_getElem? (i := 1245) (by decide +kernel), List.mem_of_getElem? (i := 1246) (by decide +kernel)⟩
theorem lw_p68 : lw_okq (⟨"WordRunsModel", "rootOf", "(II)I"⟩, 33) := ⟨⟨by decide +kernel, by decide +kernel⟩, List.mem_of_getElem? (i := 1080) (by decide +kernel), List.mem_of_getElem? (i := 1249) (by decide +kernel), List.mem_of_getElem? (i := 1250) (by decide +kernel)⟩
theorem lw_p69 : lw_okq (⟨"WordRunsModel", "leastRotation", "(II)I"⟩, 33) := ⟨⟨by decide +kernel, by decide +kernel⟩, List.mem_of_getElem? (i := 1080) (by decide +kernel), List.mem_of_getElem? (i := 1253) (by decide +kernel), List.mem_of_getElem? (i := 1254) (by decide +kernel)⟩
theorem lw_p70 : lw_okq (⟨"WordRunsModel", "rotated", "(IIIIZ)I"⟩, 33) := ⟨⟨by decide +kernel, by decide +kernel⟩, List.mem_of_getElem? (i := 1080) (by decide +kernel), List.mem_of_getElem? (i := 1257) (by decide +kernel), List.mem_of_getElem? (i := 1258) (by decide +kernel)⟩
theorem lw_p71 : lw_okq (⟨"WordRunsModel", "longestFrom", "(IZ)I"⟩, 33) := ⟨⟨by decide +kernel, by decide +kernel⟩, List.mem_of_getElem? (i := 1080) (by decide +kernel), List.mem_of_getElem? (i := 1265) (by decide +kernel), List.mem_of_getElem? (i := 1266) (by decide +kernel)⟩
theorem lw_p72 : lw_okq (⟨"WordRunsModel", "isLyndon", "(IIZ)Z"⟩, 33) := ⟨⟨by decide +kernel, by decide +kernel⟩, List.mem_of_getElem? (i := 1080) (by decide +kernel), List.mem_of_getElem? (i := 1269) (by decide +kernel), List.mem_of_getElem? (i := 1270) (by decide +kernel)⟩
theorem lw_p73 : lw_okq (⟨"WordRunsModel", "laysRuns", "()V"⟩, 33) := ⟨⟨by decide +kernel, by decide +kernel⟩, List.mem_of_getElem? (i := 1080) (by decide +kernel), List.mem_of_getElem? (i := 1281) (by decide +kernel), List.mem_of_getElem? (i := 1282) (by decide +kernel)⟩
theorem lw_p74 : lw_okq (⟨"WordRunsModel", "leastPeriod", "(II)I"⟩, 33) := ⟨⟨by decide +kernel, by decide +kernel⟩, List.mem_of_getElem? (i := 1080) (by decide +kernel), List.mem_of_getElem? (i := 1285) (by decide +kernel), List.mem_of_getElem? (i := 1286) (by decide +kernel)⟩
theorem lw_p75 : lw_okq (⟨"WordRunsModel", "comesRun", "(III)V"⟩, 33) := ⟨⟨by decide +kernel, by decide +kernel⟩, List.mem_of_getElem? (i := 1080) (by decide +kernel), List.mem_of_getElem? (i := 1289) (by decide +kernel), List.mem_of_getElem? (i := 1290) (by decide +kernel)⟩
theorem lw_p76 : lw_okq (⟨"WordRunsModel", "lyndonAt", "(I)I"⟩, 33) := ⟨⟨by decide +kernel, by decide +kernel⟩, List.mem_of_getElem? (i := 1080) (by decide +kernel), List.mem_of_getElem? (i := 1293) (by decide +kernel), List.mem_of_getElem? (i := 1294) (by decide +kernel)⟩
theorem lw_p77 : lw_okq (⟨"WordRunsModel", "exponent", "(I)I"⟩, 33) := ⟨⟨by decide +kernel, by decide +kernel⟩, List.mem_of_getElem? (i := 1080) (by decide +kernel), List.mem_of_getElem? (i := 1297) (by decide +kernel), List.mem_of_getElem? (i := 1298) (by decide +kernel)⟩
theorem lw_p78 : lw_okq (⟨"WordRunsModel", "countedSquares", "(I)I"⟩, 33) := ⟨⟨by decide +kernel, by decide +kernel⟩, List.mem_of_getElem? (i := 1080) (by decide +kernel), List.mem_of_getElem? (i := 1310) (by decide +kernel), List.mem_of_getElem? (i := 1311) (by decide +kernel)⟩
theorem lw_p79 : lw_okq (⟨"WordRunsModel", "isSquare", "(II)Z"⟩, 33) := ⟨⟨by decide +kernel, by decide +kernel⟩, List.mem_of_getElem? (i := 1080) (by decide +kernel), List.mem_of_getElem? (i := 1314) (by decide +kernel), List.mem_of_getElem? (i := 1315) (by decide +kernel)⟩
def lw_privs_5 : List (MethodName × Nat) := [(⟨"WordRunsModel", "common", "(III)I"⟩, 33), (⟨"WordRunsModel", "isPeriod", "(III)Z"⟩, 33), (⟨"WordRunsModel", "areAlike", "(III)Z"⟩, 33), (⟨"WordRunsModel", "isSome", "(II)Z"⟩, 33), (⟨"WordRunsModel", "rootOf", "(II)I"⟩, 33), (⟨"WordRunsModel", "leastRotation", "(II)I"⟩, 33), (⟨"WordRunsModel", "rotated", "(IIIIZ)I"⟩, 33), (⟨"WordRunsModel", "longestFrom", "(IZ)I"⟩, 33), (⟨"WordRunsModel", "isLyndon", "(IIZ)Z"⟩, 33), (⟨"WordRunsModel", "laysRuns", "()V"⟩, 33), (⟨"WordRunsModel", "leastPeriod", "(II)I"⟩, 33), (⟨"WordRunsModel", "comesRun", "(III)V"⟩, 33), (⟨"WordRunsModel", "lyndonAt", "(I)I"⟩, 33), (⟨"WordRunsModel", "exponent", "(I)I"⟩, 33), (⟨"WordRunsModel", "countedSquares", "(I)I"⟩, 33), (⟨"WordRunsModel", "isSquare", "(II)Z"⟩, 33)]
theorem lw_r5 : ∀ q ∈ lw_privs_5, lw_okq q := List.forall_mem_cons.mpr ⟨lw_p64, List.forall_mem_cons.mpr ⟨lw_p65, List.forall_mem_cons.mpr ⟨lw_p66, List.forall_mem_cons.mpr ⟨lw_p67, List.forall_mem_cons.mpr ⟨lw_p68, List.forall_mem_cons.mpr ⟨lw_p69, List.forall_mem_cons.mpr ⟨lw_p70, List.forall_mem_cons.mpr ⟨lw_p71, List.forall_mem_cons.mpr ⟨lw_p72, List.forall_mem_cons.mpr ⟨lw_p73, List.forall_mem_cons.mpr ⟨lw_p74, List.forall_mem_cons.mpr ⟨lw_p75, List.forall_mem_cons.mpr ⟨lw_p76, List.forall_mem_cons.mpr ⟨lw_p77, List.forall_mem_cons.mpr ⟨lw_p78, List.forall_mem_cons.mpr ⟨lw_p79, fun _ h => absurd h List.not_mem_nil⟩⟩⟩⟩⟩⟩⟩⟩⟩⟩⟩⟩⟩⟩⟩⟩
theorem lw_p80 : lw_okq (⟨"WordRunsModel", "isEarlier", "(II)Z"⟩, 33) := ⟨⟨by decide +kernel, by decide +kernel⟩, List.mem_of_getElem? (i := 1080) (by decide +kernel), List.mem_of_getElem? (i := 1318) (by decide +kernel), List.mem_of_getElem? (i := 1319) (by decide +kernel)⟩
theorem lw_p81 : lw_okq (⟨"WordRunsModel", "cubes", "()I"⟩, 33) := ⟨⟨by decide +kernel, by decide +kernel⟩, List.mem_of_getElem? (i := 1080) (by decide +kernel), List.mem_of_getElem? (i := 1322) (by decide +kernel), List.mem_of_getElem? (i := 1323) (by decide +kernel)⟩
theorem lw_p82 : lw_okq (⟨"WordRunsModel", "isCube", "(II)Z"⟩, 33) := ⟨⟨by decide +kernel, by decide +kernel⟩, List.mem_of_getElem? (i := 1080) (by decide +kernel), List.mem_of_getElem? (i := 1326) (by decide +kernel), List.mem_of_getElem? (i := 1327) (by decide +kernel)⟩
theorem lw_p83 : lw_okq (⟨"WordRunsModel", "backBy", "(II)I"⟩, 33) := ⟨⟨by decide +kernel, by decide +kernel⟩, List.mem_of_getElem? (i := 1080) (by decide +kernel), List.mem_of_getElem? (i := 1336) (by decide +kernel), List.mem_of_getElem? (i := 1337) (by decide +kernel)⟩
theorem lw_p84 : lw_okq (⟨"WordRunsModel", "isCover", "(III)Z"⟩, 33) := ⟨⟨by decide +kernel, by decide +kernel⟩, List.mem_of_getElem? (i := 1080) (by decide +kernel), List.mem_of_getElem? (i := 1344) (by decide +kernel), List.mem_of_getElem? (i := 1345) (by decide +kernel)⟩
theorem lw_p85 : lw_okq (⟨"WordRunsModel", "laysSeeds", "()V"⟩, 33) := ⟨⟨by decide +kernel, by decide +kernel⟩, List.mem_of_getElem? (i := 1080) (by decide +kernel), List.mem_of_getElem? (i := 1352) (by decide +kernel), List.mem_of_getElem? (i := 1353) (by decide +kernel)⟩
theorem lw_p86 : lw_okq (⟨"WordRunsModel", "isSeed", "(II)Z"⟩, 33) := ⟨⟨by decide +kernel, by decide +kernel⟩, List.mem_of_getElem? (i := 1080) (by decide +kernel), List.mem_of_getElem? (i := 1356) (by decide +kernel), List.mem_of_getElem? (i := 1357) (by decide +kernel)⟩
theorem lw_p87 : lw_okq (⟨"WordRunsModel", "liesAt", "(III)Z"⟩, 33) := ⟨⟨by decide +kernel, by decide +kernel⟩, List.mem_of_getElem? (i := 1080) (by decide +kernel), List.mem_of_getElem? (i := 1360) (by decide +kernel), List.mem_of_getElem? (i := 1361) (by decide +kernel)⟩
theorem lw_p88 : lw_okq (⟨"WordRunsModel", "covered", "(II)I"⟩, 33) := ⟨⟨by decide +kernel, by decide +kernel⟩, List.mem_of_getElem? (i := 1080) (by decide +kernel), List.mem_of_getElem? (i := 1368) (by decide +kernel), List.mem_of_getElem? (i := 1369) (by decide +kernel)⟩
theorem lw_p89 : lw_okq (⟨"WordRunsModel", "mirrored", "(II)I"⟩, 33) := ⟨⟨by decide +kernel, by decide +kernel⟩, List.mem_of_getElem? (i := 1080) (by decide +kernel), List.mem_of_getElem? (i := 1376) (by decide +kernel), List.mem_of_getElem? (i := 1377) (by decide +kernel)⟩
theorem lw_p90 : lw_okq (⟨"WordRunsModel", "mirrorsMany", "(Z)I"⟩, 33) := ⟨⟨by decide +kernel, by decide +kernel⟩, List.mem_of_getElem? (i := 1080) (by decide +kernel), List.mem_of_getElem? (i := 1384) (by decide +kernel), List.mem_of_getElem? (i := 1385) (by decide +kernel)⟩
theorem lw_p91 : lw_okq (⟨"WordRunsModel", "isMirror", "(II)Z"⟩, 33) := ⟨⟨by decide +kernel, by decide +kernel⟩, List.mem_of_getElem? (i := 1080) (by decide +kernel), List.mem_of_getElem? (i := 1388) (by decide +kernel), List.mem_of_getElem? (i := 1389) (by decide +kernel)⟩
theorem lw_p92 : lw_okq (⟨"WordRunsModel", "fewest", "()I"⟩, 33) := ⟨⟨by decide +kernel, by decide +kernel⟩, List.mem_of_getElem? (i := 1080) (by decide +kernel), List.mem_of_getElem? (i := 1392) (by decide +kernel), List.mem_of_getElem? (i := 1393) (by decide +kernel)⟩
theorem lw_p93 : lw_okq (⟨"WordRunsModel", "longestMirror", "(I)I"⟩, 33) := ⟨⟨by decide +kernel, by decide +kernel⟩, List.mem_of_getElem? (i := 1080) (by decide +kernel), List.mem_of_getElem? (i := 1396) (by decide +kernel), List.mem_of_getElem? (i := 1397) (by decide +kernel)⟩
theorem lw_p94 : lw_okq (⟨"WordRunsModel", "unlikeOf", "(I)I"⟩, 33) := ⟨⟨by decide +kernel, by decide +kernel⟩, List.mem_of_getElem? (i := 1080) (by decide +kernel), List.mem_of_getElem? (i := 1404) (by decide +kernel), List.mem_of_getElem? (i := 1405) (by decide +kernel)⟩
theorem lw_p95 : lw_okq (⟨"WordRunsModel", "isBare", "(II)Z"⟩, 33) := ⟨⟨by decide +kernel, by decide +kernel⟩, List.mem_of_getElem? (i := 1080) (by decide +kernel), List.mem_of_getElem? (i := 1412) (by decide +kernel), List.mem_of_getElem? (i := 1413) (by decide +kernel)⟩
def lw_privs_6 : List (MethodName × Nat) := [(⟨"WordRunsModel", "isEarlier", "(II)Z"⟩, 33), (⟨"WordRunsModel", "cubes", "()I"⟩, 33), (⟨"WordRunsModel", "isCube", "(II)Z"⟩, 33), (⟨"WordRunsModel", "backBy", "(II)I"⟩, 33), (⟨"WordRunsModel", "isCover", "(III)Z"⟩, 33), (⟨"WordRunsModel", "laysSeeds", "()V"⟩, 33), (⟨"WordRunsModel", "isSeed", "(II)Z"⟩, 33), (⟨"WordRunsModel", "liesAt", "(III)Z"⟩, 33), (⟨"WordRunsModel", "covered", "(II)I"⟩, 33), (⟨"WordRunsModel", "mirrored", "(II)I"⟩, 33), (⟨"WordRunsModel", "mirrorsMany", "(Z)I"⟩, 33), (⟨"WordRunsModel", "isMirror", "(II)Z"⟩, 33), (⟨"WordRunsModel", "fewest", "()I"⟩, 33), (⟨"WordRunsModel", "longestMirror", "(I)I"⟩, 33), (⟨"WordRunsModel", "unlikeOf", "(I)I"⟩, 33), (⟨"WordRunsModel", "isBare", "(II)Z"⟩, 33)]
theorem lw_r6 : ∀ q ∈ lw_privs_6, lw_okq q := List.forall_mem_cons.mpr ⟨lw_p80, List.forall_mem_cons.mpr ⟨lw_p81, List.forall_mem_cons.mpr ⟨lw_p82, List.forall_mem_cons.mpr ⟨lw_p83, List.forall_mem_cons.mpr ⟨lw_p84, List.forall_mem_cons.mpr ⟨lw_p85, List.forall_mem_cons.mpr ⟨lw_p86, List.forall_mem_cons.mpr ⟨lw_p87, List.forall_mem_cons.mpr ⟨lw_p88, List.forall_mem_cons.mpr ⟨lw_p89, List.forall_mem_cons.mpr ⟨lw_p90, List.forall_mem_cons.mpr ⟨lw_p91, List.forall_mem_cons.mpr ⟨lw_p92, List.forall_mem_cons.mpr ⟨lw_p93, List.forall_mem_cons.mpr ⟨lw_p94, List.forall_mem_cons.mpr ⟨lw_p95, fun _ h => absurd h List.not_mem_nil⟩⟩⟩⟩⟩⟩⟩⟩⟩⟩⟩⟩⟩⟩⟩⟩
theorem lw_p96 : lw_okq (⟨"WordRunsModel", "nextOf", "(III)I"⟩, 33) := ⟨⟨by decide +kernel, by decide +kernel⟩, List.mem_of_getElem? (i := 1080) (by decide +kernel), List.mem_of_getElem? (i := 1421) (by decide +kernel), List.mem_of_getElem? (i := 1422) (by decide +kernel)⟩
theorem lw_p97 : lw_okq (⟨"WordRunsModel", "copied", "(I)I"⟩, 33) := ⟨⟨by decide +kernel, by decide +kernel⟩, List.mem_of_getElem? (i := 1080) (by decide +kernel), List.mem_of_getElem? (i := 1429) (by decide +kernel), List.mem_of_getElem? (i := 1430) (by decide +kernel)⟩
theorem lw_p98 : lw_okq (⟨"WordRunsModel", "ofPhrase", "(III)I"⟩, 33) := ⟨⟨by decide +kernel, by decide +kernel⟩, List.mem_of_getElem? (i := 1080) (by decide +kernel), List.mem_of_getElem? (i := 1433) (by decide +kernel), List.mem_of_getElem? (i := 1434) (by decide +kernel)⟩
theorem lw_p99 : lw_okq (⟨"WordRunsModel", "copiedFrom", "(II)I"⟩, 33) := ⟨⟨by decide +kernel, by decide +kernel⟩, List.mem_of_getElem? (i := 1080) (by decide +kernel), List.mem_of_getElem? (i := 1437) (by decide +kernel), List.mem_of_getElem? (i := 1438) (by decide +kernel)⟩
theorem lw_p100 : lw_okq (⟨"WordRunsModel", "laysEnds", "()V"⟩, 33) := ⟨⟨by decide +kernel, by decide +kernel⟩, List.mem_of_getElem? (i := 1080) (by decide +kernel), List.mem_of_getElem? (i := 1445) (by decide +kernel), List.mem_of_getElem? (i := 1446) (by decide +kernel)⟩
theorem lw_p101 : lw_okq (⟨"WordRunsModel", "isAhead", "(II)Z"⟩, 33) := ⟨⟨by decide +kernel, by decide +kernel⟩, List.mem_of_getElem? (i := 1080) (by decide +kernel), List.mem_of_getElem? (i := 1449) (by decide +kernel), List.mem_of_getElem? (i := 1450) (by decide +kernel)⟩
theorem lw_p102 : lw_okq (⟨"WordRunsModel", "isAbel", "(II)Z"⟩, 33) := ⟨⟨by decide +kernel, by decide +kernel⟩, List.mem_of_getElem? (i := 1080) (by decide +kernel), List.mem_of_getElem? (i := 1458) (by decide +kernel), List.mem_of_getElem? (i := 1459) (by decide +kernel)⟩
theorem lw_p103 : lw_okq (⟨"WordRunsModel", "longestUnlike", "()I"⟩, 33) := ⟨⟨by decide +kernel, by decide +kernel⟩, List.mem_of_getElem? (i := 1080) (by decide +kernel), List.mem_of_getElem? (i := 1466) (by decide +kernel), List.mem_of_getElem? (i := 1467) (by decide +kernel)⟩
theorem lw_p104 : lw_okq (⟨"WordRunsModel", "isIn", "(III)Z"⟩, 33) := ⟨⟨by decide +kernel, by decide +kernel⟩, List.mem_of_getElem? (i := 1080) (by decide +kernel), List.mem_of_getElem? (i := 1470) (by decide +kernel), List.mem_of_getElem? (i := 1471) (by decide +kernel)⟩
theorem lw_p105 : lw_okq (⟨"WordRunsModel", "unlikeLetters", "()I"⟩, 33) := ⟨⟨by decide +kernel, by decide +kernel⟩, List.mem_of_getElem? (i := 1080) (by decide +kernel), List.mem_of_getElem? (i := 1483) (by decide +kernel), List.mem_of_getElem? (i := 1484) (by decide +kernel)⟩
theorem lw_p106 : lw_okq (⟨"WordRunsModel", "exponents", "()I"⟩, 33) := ⟨⟨by decide +kernel, by decide +kernel⟩, List.mem_of_getElem? (i := 1080) (by decide +kernel), List.mem_of_getElem? (i := 1487) (by decide +kernel), List.mem_of_getElem? (i := 1488) (by decide +kernel)⟩
theorem lw_p107 : lw_okq (⟨"WordRunsModel", "keepsAct", "()V"⟩, 33) := ⟨⟨by decide +kernel, by decide +kernel⟩, List.mem_of_getElem? (i := 1080) (by decide +kernel), List.mem_of_getElem? (i := 1495) (by decide +kernel), List.mem_of_getElem? (i := 1496) (by decide +kernel)⟩
theorem lw_p108 : lw_okq (⟨"WordRunsModel", "becomesOther", "()V"⟩, 33) := ⟨⟨by decide +kernel, by decide +kernel⟩, List.mem_of_getElem? (i := 1080) (by decide +kernel), List.mem_of_getElem? (i := 1499) (by decide +kernel), List.mem_of_getElem? (i := 1500) (by decide +kernel)⟩
theorem lw_p109 : lw_okq (⟨"WordRunsModel", "putsAside", "()V"⟩, 33) := ⟨⟨by decide +kernel, by decide +kernel⟩, List.mem_of_getElem? (i := 1080) (by decide +kernel), List.mem_of_getElem? (i := 1515) (by decide +kernel), List.mem_of_getElem? (i := 1516) (by decide +kernel)⟩
theorem lw_p110 : lw_okq (⟨"WordRunsModel", "becomesAside", "()I"⟩, 33) := ⟨⟨by decide +kernel, by decide +kernel⟩, List.mem_of_getElem? (i := 1080) (by decide +kernel), List.mem_of_getElem? (i := 1519) (by decide +kernel), List.mem_of_getElem? (i := 1520) (by decide +kernel)⟩
theorem lw_p111 : lw_okq (⟨"WordRunsModel", "others", "()I"⟩, 33) := ⟨⟨by decide +kernel, by decide +kernel⟩, List.mem_of_getElem? (i := 1080) (by decide +kernel), List.mem_of_getElem? (i := 1523) (by decide +kernel), List.mem_of_getElem? (i := 1524) (by decide +kernel)⟩
def lw_privs_7 : List (MethodName × Nat) := [(⟨"WordRunsModel", "nextOf", "(III)I"⟩, 33), (⟨"WordRunsModel", "copied", "(I)I"⟩, 33), (⟨"WordRunsModel", "ofPhrase", "(III)I"⟩, 33), (⟨"WordRunsModel", "copiedFrom", "(II)I"⟩, 33), (⟨"WordRunsModel", "laysEnds", "()V"⟩, 33), (⟨"WordRunsModel", "isAhead", "(II)Z"⟩, 33), (⟨"WordRunsModel", "isAbel", "(II)Z"⟩, 33), (⟨"WordRunsModel", "longestUnlike", "()I"⟩, 33), (⟨"WordRunsModel", "isIn", "(III)Z"⟩, 33), (⟨"WordRunsModel", "unlikeLetters", "()I"⟩, 33), (⟨"WordRunsModel", "exponents", "()I"⟩, 33), (⟨"WordRunsModel", "keepsAct", "()V"⟩, 33), (⟨"WordRunsModel", "becomesOther", "()V"⟩, 33), (⟨"WordRunsModel", "putsAside", "()V"⟩, 33), (⟨"WordRunsModel", "becomesAside", "()I"⟩, 33), (⟨"WordRunsModel", "others", "()I"⟩, 33)]
theorem lw_r7 : ∀ q ∈ lw_privs_7, lw_okq q := List.forall_mem_cons.mpr ⟨lw_p96, List.forall_mem_cons.mpr ⟨lw_p97, List.forall_mem_cons.mpr ⟨lw_p98, List.forall_mem_cons.mpr ⟨lw_p99, List.forall_mem_cons.mpr ⟨lw_p100, List.forall_mem_cons.mpr ⟨lw_p101, List.forall_mem_cons.mpr ⟨lw_p102, List.forall_mem_cons.mpr ⟨lw_p103, List.forall_mem_cons.mpr ⟨lw_p104, List.forall_mem_cons.mpr ⟨lw_p105, List.forall_mem_cons.mpr ⟨lw_p106, List.forall_mem_cons.mpr ⟨lw_p107, List.forall_mem_cons.mpr ⟨lw_p108, List.forall_mem_cons.mpr ⟨lw_p109, List.forall_mem_cons.mpr ⟨lw_p110, List.forall_mem_cons.mpr ⟨lw_p111, fun _ h => absurd h List.not_mem_nil⟩⟩⟩⟩⟩⟩⟩⟩⟩⟩⟩⟩⟩⟩⟩⟩
theorem lw_p112 : lw_okq (⟨"WordRunsModel", "puts", "(I)V"⟩, 33) := ⟨⟨by decide +kernel, by decide +kernel⟩, List.mem_of_getElem? (i := 1080) (by decide +kernel), List.mem_of_getElem? (i := 1555) (by decide +kernel), List.mem_of_getElem? (i := 1556) (by decide +kernel)⟩
theorem lw_p113 : lw_okq (⟨"WordRunsModel", "readsAll", "()Z"⟩, 33) := ⟨⟨by decide +kernel, by decide +kernel⟩, List.mem_of_getElem? (i := 1080) (by decide +kernel), List.mem_of_getElem? (i := 1567) (by decide +kernel), List.mem_of_getElem? (i := 1568) (by decide +kernel)⟩
theorem lw_p114 : lw_okq (⟨"WordRunsModel", "isWord", "(Ljava/lang/String;)Z"⟩, 33) := ⟨⟨by decide +kernel, by decide +kernel⟩, List.mem_of_getElem? (i := 1080) (by decide +kernel), List.mem_of_getElem? (i := 1572) (by decide +kernel), List.mem_of_getElem? (i := 1573) (by decide +kernel)⟩
theorem lw_p115 : lw_okq (⟨"WordRunsModel", "nextByte", "()I"⟩, 33) := ⟨⟨by decide +kernel, by decide +kernel⟩, List.mem_of_getElem? (i := 1080) (by decide +kernel), List.mem_of_getElem? (i := 1576) (by decide +kernel), List.mem_of_getElem? (i := 1577) (by decide +kernel)⟩
theorem lw_p116 : lw_okq (⟨"WordRunsModel", "byteAt", "(I)I"⟩, 33) := ⟨⟨by decide +kernel, by decide +kernel⟩, List.mem_of_getElem? (i := 1080) (by decide +kernel), List.mem_of_getElem? (i := 1580) (by decide +kernel), List.mem_of_getElem? (i := 1581) (by decide +kernel)⟩
theorem lw_p117 : lw_okq (⟨"WordRunsModel", "readsLet", "()Z"⟩, 33) := ⟨⟨by decide +kernel, by decide +kernel⟩, List.mem_of_getElem? (i := 1080) (by decide +kernel), List.mem_of_getElem? (i := 1637) (by decide +kernel), List.mem_of_getElem? (i := 1638) (by decide +kernel)⟩
theorem lw_p118 : lw_okq (⟨"WordRunsModel", "isName", "()Z"⟩, 33) := ⟨⟨by decide +kernel, by decide +kernel⟩, List.mem_of_getElem? (i := 1080) (by decide +kernel), List.mem_of_getElem? (i := 1641) (by decide +kernel), List.mem_of_getElem? (i := 1642) (by decide +kernel)⟩
theorem lw_p119 : lw_okq (⟨"WordRunsModel", "fails", "(II)Z"⟩, 33) := ⟨⟨by decide +kernel, by decide +kernel⟩, List.mem_of_getElem? (i := 1080) (by decide +kernel), List.mem_of_getElem? (i := 1647) (by decide +kernel), List.mem_of_getElem? (i := 1648) (by decide +kernel)⟩
theorem lw_p120 : lw_okq (⟨"WordRunsModel", "nameAt", "()I"⟩, 33) := ⟨⟨by decide +kernel, by decide +kernel⟩, List.mem_of_getElem? (i := 1080) (by decide +kernel), List.mem_of_getElem? (i := 1651) (by decide +kernel), List.mem_of_getElem? (i := 1652) (by decide +kernel)⟩
theorem lw_p121 : lw_okq (⟨"WordRunsModel", "takesSign", "(I)Z"⟩, 33) := ⟨⟨by decide +kernel, by decide +kernel⟩, List.mem_of_getElem? (i := 1080) (by decide +kernel), List.mem_of_getElem? (i := 1655) (by decide +kernel), List.mem_of_getElem? (i := 1656) (by decide +kernel)⟩
theorem lw_p122 : lw_okq (⟨"WordRunsModel", "readsRow", "()Z"⟩, 33) := ⟨⟨by decide +kernel, by decide +kernel⟩, List.mem_of_getElem? (i := 1080) (by decide +kernel), List.mem_of_getElem? (i := 1659) (by decide +kernel), List.mem_of_getElem? (i := 1660) (by decide +kernel)⟩
theorem lw_p123 : lw_okq (⟨"WordRunsModel", "isItem", "()Z"⟩, 33) := ⟨⟨by decide +kernel, by decide +kernel⟩, List.mem_of_getElem? (i := 1080) (by decide +kernel), List.mem_of_getElem? (i := 1663) (by decide +kernel), List.mem_of_getElem? (i := 1664) (by decide +kernel)⟩
theorem lw_p124 : lw_okq (⟨"WordRunsModel", "readsItem", "()Z"⟩, 33) := ⟨⟨by decide +kernel, by decide +kernel⟩, List.mem_of_getElem? (i := 1080) (by decide +kernel), List.mem_of_getElem? (i := 1669) (by decide +kernel), List.mem_of_getElem? (i := 1670) (by decide +kernel)⟩
theorem lw_p125 : lw_okq (⟨"WordRunsModel", "readsLetters", "()Z"⟩, 33) := ⟨⟨by decide +kernel, by decide +kernel⟩, List.mem_of_getElem? (i := 1080) (by decide +kernel), List.mem_of_getElem? (i := 1673) (by decide +kernel), List.mem_of_getElem? (i := 1674) (by decide +kernel)⟩
theorem lw_p126 : lw_okq (⟨"WordRunsModel", "comes", "(I)V"⟩, 33) := ⟨⟨by decide +kernel, by decide +kernel⟩, List.mem_of_getElem? (i := 1080) (by decide +kernel), List.mem_of_getElem? (i := 1677) (by decide +kernel), List.mem_of_getElem? (i := 1678) (by decide +kernel)⟩
theorem lw_p127 : lw_okq (⟨"WordRunsModel", "readsTimes", "()Z"⟩, 33) := ⟨⟨by decide +kernel, by decide +kernel⟩, List.mem_of_getElem? (i := 1080) (by decide +kernel), List.mem_of_getElem? (i := 1681) (by decide +kernel), List.mem_of_getElem? (i := 1682) (by decide +kernel)⟩
def lw_privs_8 : List (MethodName × Nat) := [(⟨"WordRunsModel", "puts", "(I)V"⟩, 33), (⟨"WordRunsModel", "readsAll", "()Z"⟩, 33), (⟨"WordRunsModel", "isWord", "(Ljava/lang/String;)Z"⟩, 33), (⟨"WordRunsModel", "nextByte", "()I"⟩, 33), (⟨"WordRunsModel", "byteAt", "(I)I"⟩, 33), (⟨"WordRunsModel", "readsLet", "()Z"⟩, 33), (⟨"WordRunsModel", "isName", "()Z"⟩, 33), (⟨"WordRunsModel", "fails", "(II)Z"⟩, 33), (⟨"WordRunsModel", "nameAt", "()I"⟩, 33), (⟨"WordRunsModel", "takesSign", "(I)Z"⟩, 33), (⟨"WordRunsModel", "readsRow", "()Z"⟩, 33), (⟨"WordRunsModel", "isItem", "()Z"⟩, 33), (⟨"WordRunsModel", "readsItem", "()Z"⟩, 33), (⟨"WordRunsModel", "readsLetters", "()Z"⟩, 33), (⟨"WordRunsModel", "comes", "(I)V"⟩, 33), (⟨"WordRunsModel", "readsTimes", "()Z"⟩, 33)]
theorem lw_r8 : ∀ q ∈ lw_privs_8, lw_okq q := List.forall_mem_cons.mpr ⟨lw_p112, List.forall_mem_cons.mpr ⟨lw_p113, List.forall_mem_cons.mpr ⟨lw_p114, List.forall_mem_cons.mpr ⟨lw_p115, List.forall_mem_cons.mpr ⟨lw_p116, List.forall_mem_cons.mpr ⟨lw_p117, List.forall_mem_cons.mpr ⟨lw_p118, List.forall_mem_cons.mpr ⟨lw_p119, List.forall_mem_cons.mpr ⟨lw_p120, List.forall_mem_cons.mpr ⟨lw_p121, List.forall_mem_cons.mpr ⟨lw_p122, List.forall_mem_cons.mpr ⟨lw_p123, List.forall_mem_cons.mpr ⟨lw_p124, List.forall_mem_cons.mpr ⟨lw_p125, List.forall_mem_cons.mpr ⟨lw_p126, List.forall_mem_cons.mpr ⟨lw_p127, fun _ h => absurd h List.not_mem_nil⟩⟩⟩⟩⟩⟩⟩⟩⟩⟩⟩⟩⟩⟩⟩⟩
theorem lw_p128 : lw_okq (⟨"WordRunsModel", "readsNumber", "(I)Z"⟩, 33) := ⟨⟨by decide +kernel, by decide +kernel⟩, List.mem_of_getElem? (i := 1080) (by decide +kernel), List.mem_of_getElem? (i := 1685) (by decide +kernel), List.mem_of_getElem? (i := 1686) (by decide +kernel)⟩
theorem lw_p129 : lw_okq (⟨"WordRunsModel", "readsWithin", "()Z"⟩, 33) := ⟨⟨by decide +kernel, by decide +kernel⟩, List.mem_of_getElem? (i := 1080) (by decide +kernel), List.mem_of_getElem? (i := 1689) (by decide +kernel), List.mem_of_getElem? (i := 1690) (by decide +kernel)⟩
theorem lw_p130 : lw_okq (⟨"WordRunsModel", "readsRev", "()Z"⟩, 33) := ⟨⟨by decide +kernel, by decide +kernel⟩, List.mem_of_getElem? (i := 1080) (by decide +kernel), List.mem_of_getElem? (i := 1693) (by decide +kernel), List.mem_of_getElem? (i := 1694) (by decide +kernel)⟩
theorem lw_p131 : lw_okq (⟨"WordRunsModel", "readsFib", "()Z"⟩, 33) := ⟨⟨by decide +kernel, by decide +kernel⟩, List.mem_of_getElem? (i := 1080) (by decide +kernel), List.mem_of_getElem? (i := 1697) (by decide +kernel), List.mem_of_getElem? (i := 1698) (by decide +kernel)⟩
theorem lw_p132 : lw_okq (⟨"WordRunsModel", "fib", "(I)V"⟩, 33) := ⟨⟨by decide +kernel, by decide +kernel⟩, List.mem_of_getElem? (i := 1080) (by decide +kernel), List.mem_of_getElem? (i := 1701) (by decide +kernel), List.mem_of_getElem? (i := 1702) (by decide +kernel)⟩
theorem lw_p133 : lw_okq (⟨"WordRunsModel", "readsMorse", "()Z"⟩, 33) := ⟨⟨by decide +kernel, by decide +kernel⟩, List.mem_of_getElem? (i := 1080) (by decide +kernel), List.mem_of_getElem? (i := 1706) (by decide +kernel), List.mem_of_getElem? (i := 1707) (by decide +kernel)⟩
theorem lw_p134 : lw_okq (⟨"WordRunsModel", "readsName", "()Z"⟩, 33) := ⟨⟨by decide +kernel, by decide +kernel⟩, List.mem_of_getElem? (i := 1080) (by decide +kernel), List.mem_of_getElem? (i := 1710) (by decide +kernel), List.mem_of_getElem? (i := 1711) (by decide +kernel)⟩
theorem lw_p135 : lw_okq (⟨"WordRunsModel", "isClosed", "(II)Z"⟩, 33) := ⟨⟨by decide +kernel, by decide +kernel⟩, List.mem_of_getElem? (i := 1080) (by decide +kernel), List.mem_of_getElem? (i := 1731) (by decide +kernel), List.mem_of_getElem? (i := 1732) (by decide +kernel)⟩
theorem lw_p136 : lw_okq (⟨"WordRunsModel", "absentTwos", "()I"⟩, 33) := ⟨⟨by decide +kernel, by decide +kernel⟩, List.mem_of_getElem? (i := 1080) (by decide +kernel), List.mem_of_getElem? (i := 1739) (by decide +kernel), List.mem_of_getElem? (i := 1740) (by decide +kernel)⟩
theorem lw_p137 : lw_okq (⟨"WordRunsModel", "isTwo", "(II)Z"⟩, 33) := ⟨⟨by decide +kernel, by decide +kernel⟩, List.mem_of_getElem? (i := 1080) (by decide +kernel), List.mem_of_getElem? (i := 1743) (by decide +kernel), List.mem_of_getElem? (i := 1744) (by decide +kernel)⟩
theorem lw_p138 : lw_okq (⟨"WordRunsModel", "isOnce", "(II)Z"⟩, 33) := ⟨⟨by decide +kernel, by decide +kernel⟩, List.mem_of_getElem? (i := 1080) (by decide +kernel), List.mem_of_getElem? (i := 1747) (by decide +kernel), List.mem_of_getElem? (i := 1748) (by decide +kernel)⟩
theorem lw_p139 : lw_okq (⟨"WordRunsModel", "absentAround", "(II)I"⟩, 33) := ⟨⟨by decide +kernel, by decide +kernel⟩, List.mem_of_getElem? (i := 1080) (by decide +kernel), List.mem_of_getElem? (i := 1751) (by decide +kernel), List.mem_of_getElem? (i := 1752) (by decide +kernel)⟩
theorem lw_p140 : lw_okq (⟨"WordRunsModel", "laysAround", "(II)V"⟩, 33) := ⟨⟨by decide +kernel, by decide +kernel⟩, List.mem_of_getElem? (i := 1080) (by decide +kernel), List.mem_of_getElem? (i := 1755) (by decide +kernel), List.mem_of_getElem? (i := 1756) (by decide +kernel)⟩
def lw_privs_9 : List (MethodName × Nat) := [(⟨"WordRunsModel", "readsNumber", "(I)Z"⟩, 33), (⟨"WordRunsModel", "readsWithin", "()Z"⟩, 33), (⟨"WordRunsModel", "readsRev", "()Z"⟩, 33), (⟨"WordRunsModel", "readsFib", "()Z"⟩, 33), (⟨"WordRunsModel", "fib", "(I)V"⟩, 33), (⟨"WordRunsModel", "readsMorse", "()Z"⟩, 33), (⟨"WordRunsModel", "readsName", "()Z"⟩, 33), (⟨"WordRunsModel", "isClosed", "(II)Z"⟩, 33), (⟨"WordRunsModel", "absentTwos", "()I"⟩, 33), (⟨"WordRunsModel", "isTwo", "(II)Z"⟩, 33), (⟨"WordRunsModel", "isOnce", "(II)Z"⟩, 33), (⟨"WordRunsModel", "absentAround", "(II)I"⟩, 33), (⟨"WordRunsModel", "laysAround", "(II)V"⟩, 33)]
theorem lw_r9 : ∀ q ∈ lw_privs_9, lw_okq q := List.forall_mem_cons.mpr ⟨lw_p128, List.forall_mem_cons.mpr ⟨lw_p129, List.forall_mem_cons.mpr ⟨lw_p130, List.forall_mem_cons.mpr ⟨lw_p131, List.forall_mem_cons.mpr ⟨lw_p132, List.forall_mem_cons.mpr ⟨lw_p133, List.forall_mem_cons.mpr ⟨lw_p134, List.forall_mem_cons.mpr ⟨lw_p135, List.forall_mem_cons.mpr ⟨lw_p136, List.forall_mem_cons.mpr ⟨lw_p137, List.forall_mem_cons.mpr ⟨lw_p138, List.forall_mem_cons.mpr ⟨lw_p139, List.forall_mem_cons.mpr ⟨lw_p140, fun _ h => absurd h List.not_mem_nil⟩⟩⟩⟩⟩⟩⟩⟩⟩⟩⟩⟩⟩
def lw_privs : List (MethodName × Nat) := lw_privs_1 ++ (lw_privs_2 ++ (lw_privs_3 ++ (lw_privs_4 ++ (lw_privs_5 ++ (lw_privs_6 ++ (lw_privs_7 ++ (lw_privs_8 ++ (lw_privs_9))))))))
def lw_tbl : List Cond := k2_sels lw_privs ++ tables_1
theorem lw_privs_ok : ∀ q ∈ lw_privs, lw_okq q := by
  show ∀ q ∈ lw_privs_1 ++ (lw_privs_2 ++ (lw_privs_3 ++ (lw_privs_4 ++ (lw_privs_5 ++ (lw_privs_6 ++ (lw_privs_7 ++ (lw_privs_8 ++ (lw_privs_9)))))))), lw_okq q
  exact List.forall_mem_append.mpr ⟨lw_r1, List.forall_mem_append.mpr ⟨lw_r2, List.forall_mem_append.mpr ⟨lw_r3, List.forall_mem_append.mpr ⟨lw_r4, List.forall_mem_append.mpr ⟨lw_r5, List.forall_mem_append.mpr ⟨lw_r6, List.forall_mem_append.mpr ⟨lw_r7, List.forall_mem_append.mpr ⟨lw_r8, lw_r9⟩⟩⟩⟩⟩⟩⟩⟩
def RX0 : String := "WordRuns$Mirrors"
def TX0 : u_T := fun k => match k with
  | 0 => ("WordRuns$Mirrors", "word", "LWordRuns$Word;", true)
  | 1 => ("WordRuns$Mirrors", "twins", "LWordRuns$Twins;", true)
  | 2 => ("WordRuns$Mirrors", "tally", "LWordRuns$Tally;", true)
  | 3 => ("WordRuns$Mirrors", "fewestTo", "[I", true)
  | _ => ("WordRuns$Mirrors", "spans", "[I", true)
def tyX0 : Nat → FieldType := fun k => match k with
  | 0 => .object "WordRuns$Word"
  | 1 => .object "WordRuns$Twins"
  | 2 => .object "WordRuns$Tally"
  | 3 => .array .int
  | _ => .array .int
theorem nmX0 : ∀ a, a < 5 → ∀ b, b < 5 → a ≠ b → (TX0 a).2.1 ≠ (TX0 b).2.1 := by decide +kernel
theorem tyX0_ok : ∀ k, k < 5 → parseFieldDescriptor (TX0 k).2.2.1 = some (tyX0 k) := by decide +kernel
def RX1 : String := "WordRuns$Orders"
def TX1 : u_T := fun k => match k with
  | 0 => ("WordRuns$Orders", "word", "LWordRuns$Word;", true)
  | 1 => ("WordRuns$Orders", "twins", "LWordRuns$Twins;", true)
  | 2 => ("WordRuns$Orders", "endsInOrder", "[I", true)
  | _ => ("WordRuns$Orders", "sorted", "Z", false)
def tyX1 : Nat → FieldType := fun k => match k with
  | 0 => .object "WordRuns$Word"
  | 1 => .object "WordRuns$Twins"
  | 2 => .array .int
  | _ => .boolean
theorem nmX1 : ∀ a, a < 4 → ∀ b, b < 4 → a ≠ b → (TX1 a).2.1 ≠ (TX1 b).2.1 := by decide +kernel
theorem tyX1_ok : ∀ k, k < 4 → parseFieldDescriptor (TX1 k).2.2.1 = some (tyX1 k) := by decide +kernel
def RX2 : String := "WordRuns$Past"
def TX2 : u_T := fun k => match k with
  | 0 => ("WordRuns$Past", "words", "[LWordRuns$Word;", true)
  | 1 => ("WordRuns$Past", "place", "I", false)
  | _ => ("WordRuns$Past", "size", "I", false)
def tyX2 : Nat → FieldType := fun k => match k with
  | 0 => .array (.object "WordRuns$Word")
  | 1 => .int
  | _ => .int
theorem nmX2 : ∀ a, a < 3 → ∀ b, b < 3 → a ≠ b → (TX2 a).2.1 ≠ (TX2 b).2.1 := by decide +kernel
theorem tyX2_ok : ∀ k, k < 3 → parseFieldDescriptor (TX2 k).2.2.1 = some (tyX2 k) := by decide +kernel
def RX3 : String := "WordRuns$Reader"
def TX3 : u_T := fun k => match k with
  | 0 => ("WordRuns$Reader", "tape", "[B", true)
  | 1 => ("WordRuns$Reader", "tapeSize", "I", false)
  | 2 => ("WordRuns$Reader", "pile", "[B", true)
  | 3 => ("WordRuns$Reader", "top", "I", false)
  | 4 => ("WordRuns$Reader", "told", "[B", true)
  | 5 => ("WordRuns$Reader", "toldSize", "[I", true)
  | 6 => ("WordRuns$Reader", "toldName", "[I", true)
  | 7 => ("WordRuns$Reader", "names", "I", false)
  | 8 => ("WordRuns$Reader", "at", "I", false)
  | _ => ("WordRuns$Reader", "fault", "I", false)
def tyX3 : Nat → FieldType := fun k => match k with
  | 0 => .array .byte
  | 1 => .int
  | 2 => .array .byte
  | 3 => .int
  | 4 => .array .byte
  | 5 => .array .int
  | 6 => .array .int
  | 7 => .int
  | 8 => .int
  | _ => .int
theorem nmX3 : ∀ a, a < 10 → ∀ b, b < 10 → a ≠ b → (TX3 a).2.1 ≠ (TX3 b).2.1 := by decide +kernel
theorem tyX3_ok : ∀ k, k < 10 → parseFieldDescriptor (TX3 k).2.2.1 = some (tyX3 k) := by decide +kernel
def RX4 : String := "WordRuns$Repeats"
def TX4 : u_T := fun k => match k with
  | 0 => ("WordRuns$Repeats", "word", "LWordRuns$Word;", true)
  | 1 => ("WordRuns$Repeats", "twins", "LWordRuns$Twins;", true)
  | 2 => ("WordRuns$Repeats", "shapes", "LWordRuns$Shapes;", true)
  | 3 => ("WordRuns$Repeats", "tally", "LWordRuns$Tally;", true)
  | _ => ("WordRuns$Repeats", "surplus", "[I", true)
def tyX4 : Nat → FieldType := fun k => match k with
  | 0 => .object "WordRuns$Word"
  | 1 => .object "WordRuns$Twins"
  | 2 => .object "WordRuns$Shapes"
  | 3 => .object "WordRuns$Tally"
  | _ => .array .int
theorem nmX4 : ∀ a, a < 5 → ∀ b, b < 5 → a ≠ b → (TX4 a).2.1 ≠ (TX4 b).2.1 := by decide +kernel
theorem tyX4_ok : ∀ k, k < 5 → parseFieldDescriptor (TX4 k).2.2.1 = some (tyX4 k) := by decide +kernel
def RX5 : String := "WordRuns$RunList"
def TX5 : u_T := fun k => match k with
  | 0 => ("WordRuns$RunList", "froms", "[I", true)
  | 1 => ("WordRuns$RunList", "tos", "[I", true)
  | 2 => ("WordRuns$RunList", "gaps", "[I", true)
  | _ => ("WordRuns$RunList", "size", "I", false)
def tyX5 : Nat → FieldType := fun k => match k with
  | 0 => .array .int
  | 1 => .array .int
  | 2 => .array .int
  | _ => .int
theorem nmX5 : ∀ a, a < 4 → ∀ b, b < 4 → a ≠ b → (TX5 a).2.1 ≠ (TX5 b).2.1 := by decide +kernel
theorem tyX5_ok : ∀ k, k < 4 → parseFieldDescriptor (TX5 k).2.2.1 = some (tyX5 k) := by decide +kernel
def RX6 : String := "WordRuns$Shapes"
def TX6 : u_T := fun k => match k with
  | 0 => ("WordRuns$Shapes", "word", "LWordRuns$Word;", true)
  | _ => ("WordRuns$Shapes", "twins", "LWordRuns$Twins;", true)
def tyX6 : Nat → FieldType := fun k => match k with
  | 0 => .object "WordRuns$Word"
  | _ => .object "WordRuns$Twins"
theorem nmX6 : ∀ a, a < 2 → ∀ b, b < 2 → a ≠ b → (TX6 a).2.1 ≠ (TX6 b).2.1 := by decide +kernel
theorem tyX6_ok : ∀ k, k < 2 → parseFieldDescriptor (TX6 k).2.2.1 = some (tyX6 k) := by decide +kernel
def RX7 : String := "WordRuns$Tally"
def TX7 : u_T := fun k => match k with
  | 0 => ("WordRuns$Tally", "many", "I", false)
  | 1 => ("WordRuns$Tally", "longest", "I", false)
  | _ => ("WordRuns$Tally", "first", "I", false)
def tyX7 : Nat → FieldType := fun k => match k with
  | 0 => .int
  | 1 => .int
  | _ => .int
theorem nmX7 : ∀ a, a < 3 → ∀ b, b < 3 → a ≠ b → (TX7 a).2.1 ≠ (TX7 b).2.1 := by decide +kernel
theorem tyX7_ok : ∀ k, k < 3 → parseFieldDescriptor (TX7 k).2.2.1 = some (tyX7 k) := by decide +kernel
def RX8 : String := "WordRuns$Twins"
def TX8 : u_T := fun k => match k with
  | 0 => ("WordRuns$Twins", "word", "LWordRuns$Word;", true)
  | 1 => ("WordRuns$Twins", "rows", "[B", true)
  | 2 => ("WordRuns$Twins", "before", "[B", true)
  | _ => ("WordRuns$Twins", "ready", "Z", false)
def tyX8 : Nat → FieldType := fun k => match k with
  | 0 => .object "WordRuns$Word"
  | 1 => .array .byte
  | 2 => .array .byte
  | _ => .boolean
theorem nmX8 : ∀ a, a < 4 → ∀ b, b < 4 → a ≠ b → (TX8 a).2.1 ≠ (TX8 b).2.1 := by decide +kernel
theorem tyX8_ok : ∀ k, k < 4 → parseFieldDescriptor (TX8 k).2.2.1 = some (tyX8 k) := by decide +kernel
def RX9 : String := "WordRuns$Unlike"
def TX9 : u_T := fun k => match k with
  | 0 => ("WordRuns$Unlike", "word", "LWordRuns$Word;", true)
  | 1 => ("WordRuns$Unlike", "twins", "LWordRuns$Twins;", true)
  | 2 => ("WordRuns$Unlike", "seedsOfLength", "[I", true)
  | 3 => ("WordRuns$Unlike", "allSeeds", "I", false)
  | 4 => ("WordRuns$Unlike", "seedsCounted", "Z", false)
  | 5 => ("WordRuns$Unlike", "rightOf", "[I", true)
  | 6 => ("WordRuns$Unlike", "seenFrom", "[I", true)
  | 7 => ("WordRuns$Unlike", "absent", "I", false)
  | 8 => ("WordRuns$Unlike", "shortestAbsent", "I", false)
  | _ => ("WordRuns$Unlike", "longestAbsent", "I", false)
def tyX9 : Nat → FieldType := fun k => match k with
  | 0 => .object "WordRuns$Word"
  | 1 => .object "WordRuns$Twins"
  | 2 => .array .int
  | 3 => .int
  | 4 => .boolean
  | 5 => .array .int
  | 6 => .array .int
  | 7 => .int
  | 8 => .int
  | _ => .int
theorem nmX9 : ∀ a, a < 10 → ∀ b, b < 10 → a ≠ b → (TX9 a).2.1 ≠ (TX9 b).2.1 := by decide +kernel
theorem tyX9_ok : ∀ k, k < 10 → parseFieldDescriptor (TX9 k).2.2.1 = some (tyX9 k) := by decide +kernel
def RX10 : String := "WordRuns$Word"
def TX10 : u_T := fun k => match k with
  | 0 => ("WordRuns$Word", "letters", "[B", true)
  | _ => ("WordRuns$Word", "size", "I", false)
def tyX10 : Nat → FieldType := fun k => match k with
  | 0 => .array .byte
  | _ => .int
theorem nmX10 : ∀ a, a < 2 → ∀ b, b < 2 → a ≠ b → (TX10 a).2.1 ≠ (TX10 b).2.1 := by decide +kernel
theorem tyX10_ok : ∀ k, k < 2 → parseFieldDescriptor (TX10 k).2.2.1 = some (tyX10 k) := by decide +kernel
def RX11 : String := "WordRuns"
def TX11 : u_T := fun k => match k with
  | 0 => ("WordRuns", "word", "LWordRuns$Word;", true)
  | 1 => ("WordRuns", "draft", "LWordRuns$Word;", true)
  | 2 => ("WordRuns", "past", "LWordRuns$Past;", true)
  | 3 => ("WordRuns", "shelves", "[LWordRuns$Word;", true)
  | 4 => ("WordRuns", "reader", "LWordRuns$Reader;", true)
  | 5 => ("WordRuns", "twins", "LWordRuns$Twins;", true)
  | 6 => ("WordRuns", "shapes", "LWordRuns$Shapes;", true)
  | 7 => ("WordRuns", "repeats", "LWordRuns$Repeats;", true)
  | 8 => ("WordRuns", "unlike", "LWordRuns$Unlike;", true)
  | 9 => ("WordRuns", "orders", "LWordRuns$Orders;", true)
  | 10 => ("WordRuns", "mirrors", "LWordRuns$Mirrors;", true)
  | 11 => ("WordRuns", "runList", "LWordRuns$RunList;", true)
  | 12 => ("WordRuns", "triedRuns", "LWordRuns$RunList;", true)
  | 13 => ("WordRuns", "runsFound", "Z", false)
  | _ => ("WordRuns", "keptShelves", "I", false)
def tyX11 : Nat → FieldType := fun k => match k with
  | 0 => .object "WordRuns$Word"
  | 1 => .object "WordRuns$Word"
  | 2 => .object "WordRuns$Past"
  | 3 => .array (.object "WordRuns$Word")
  | 4 => .object "WordRuns$Reader"
  | 5 => .object "WordRuns$Twins"
  | 6 => .object "WordRuns$Shapes"
  | 7 => .object "WordRuns$Repeats"
  | 8 => .object "WordRuns$Unlike"
  | 9 => .object "WordRuns$Orders"
  | 10 => .object "WordRuns$Mirrors"
  | 11 => .object "WordRuns$RunList"
  | 12 => .object "WordRuns$RunList"
  | 13 => .boolean
  | _ => .int
theorem nmX11 : ∀ a, a < 15 → ∀ b, b < 15 → a ≠ b → (TX11 a).2.1 ≠ (TX11 b).2.1 := by decide +kernel
theorem tyX11_ok : ∀ k, k < 15 → parseFieldDescriptor (TX11 k).2.2.1 = some (tyX11 k) := by decide +kernel
def RX12 : String := "WordRunsModel"
def TX12 : u_T := fun k => match k with
  | 0 => ("WordRunsModel", "now", "[I", true)
  | 1 => ("WordRunsModel", "was", "[I", true)
  | 2 => ("WordRunsModel", "undone", "I", false)
  | 3 => ("WordRunsModel", "kept", "[I", true)
  | 4 => ("WordRunsModel", "isKept", "[Z", true)
  | 5 => ("WordRunsModel", "run", "[I", true)
  | 6 => ("WordRunsModel", "runMany", "I", false)
  | 7 => ("WordRunsModel", "areRuns", "Z", false)
  | 8 => ("WordRunsModel", "seed", "[I", true)
  | 9 => ("WordRunsModel", "seedMany", "I", false)
  | 10 => ("WordRunsModel", "areSeeds", "Z", false)
  | 11 => ("WordRunsModel", "few", "[I", true)
  | 12 => ("WordRunsModel", "end", "[I", true)
  | 13 => ("WordRunsModel", "often", "[I", true)
  | 14 => ("WordRunsModel", "aside", "[I", true)
  | 15 => ("WordRunsModel", "tape", "[B", true)
  | 16 => ("WordRunsModel", "taped", "I", false)
  | 17 => ("WordRunsModel", "spot", "I", false)
  | 18 => ("WordRunsModel", "wrong", "I", false)
  | 19 => ("WordRunsModel", "number", "I", false)
  | 20 => ("WordRunsModel", "read", "[I", true)
  | 21 => ("WordRunsModel", "top", "I", false)
  | 22 => ("WordRunsModel", "open", "I", false)
  | 23 => ("WordRunsModel", "name", "[I", true)
  | 24 => ("WordRunsModel", "nameFrom", "[I", true)
  | 25 => ("WordRunsModel", "nameMany", "[I", true)
  | 26 => ("WordRunsModel", "nameLetters", "[I", true)
  | 27 => ("WordRunsModel", "names", "I", false)
  | 28 => ("WordRunsModel", "nameHere", "I", false)
  | 29 => ("WordRunsModel", "nameEnd", "I", false)
  | 30 => ("WordRunsModel", "isAheadOf", "[Z", true)
  | 31 => ("WordRunsModel", "isBehind", "[Z", true)
  | _ => ("WordRunsModel", "areBoth", "[Z", true)
def tyX12 : Nat → FieldType := fun k => match k with
  | 0 => .array .int
  | 1 => .array .int
  | 2 => .int
  | 3 => .array .int
  | 4 => .array .boolean
  | 5 => .array .int
  | 6 => .int
  | 7 => .boolean
  | 8 => .array .int
  | 9 => .int
  | 10 => .boolean
  | 11 => .array .int
  | 12 => .array .int
  | 13 => .array .int
  | 14 => .array .int
  | 15 => .array .byte
  | 16 => .int
  | 17 => .int
  | 18 => .int
  | 19 => .int
  | 20 => .array .int
  | 21 => .int
  | 22 => .int
  | 23 => .array .int
  | 24 => .array .int
  | 25 => .array .int
  | 26 => .array .int
  | 27 => .int
  | 28 => .int
  | 29 => .int
  | 30 => .array .boolean
  | 31 => .array .boolean
  | _ => .array .boolean
theorem nmX12 : ∀ a, a < 33 → ∀ b, b < 33 → a ≠ b → (TX12 a).2.1 ≠ (TX12 b).2.1 := by decide +kernel
theorem tyX12_ok : ∀ k, k < 33 → parseFieldDescriptor (TX12 k).2.2.1 = some (tyX12 k) := by decide +kernel
abbrev vwCl : List vw_C := [(RX0, TX0, 5), (RX1, TX1, 4), (RX2, TX2, 3), (RX3, TX3, 10), (RX4, TX4, 5), (RX5, TX5, 4), (RX6, TX6, 2), (RX7, TX7, 3), (RX8, TX8, 4), (RX9, TX9, 10), (RX10, TX10, 2), (RX11, TX11, 15), (RX12, TX12, 33)]
/-! the words of the tables by place; the good ones -/
def lw_T (a : Nat) : List Cond := match a with
  | 0 => k2_sels lw_privs
  | 1 => tables_1_1
  | 2 => tables_1_2
  | 3 => tables_1_3
  | 4 => tables_1_4
  | 5 => tables_1_5
  | 6 => tables_1_6
  | 7 => tables_1_7
  | 8 => tables_1_8
  | _ => []
theorem lw_T_in {a : Nat} {w : Cond} (h : w ∈ lw_T a) : w ∈ lw_tbl := by
  have e : lw_tbl = k2_sels lw_privs ++ (tables_1_1 ++ (tables_1_2 ++ (tables_1_3 ++ (tables_1_4 ++ (tables_1_5 ++ (tables_1_6 ++ (tables_1_7 ++ tables_1_8))))))) := rfl
  rw [e]
  simp only [List.mem_append]
  unfold lw_T at h
  split at h
  case h_10 => exact absurd h List.not_mem_nil
  all_goals simp only [h, true_or, or_true]
def TBL : List Cond := lw_tbl.filter goodWord
def wk (a b : Nat) (w : Cond) : Bool := decide ((lw_T a)[b]? = some w) && goodWord w
theorem wk_tbl {a b : Nat} {w : Cond} (h : wk a b w = true) : w ∈ TBL := by
  unfold wk at h
  rw [Bool.and_eq_true, decide_eq_true_eq] at h
  exact List.mem_filter.mpr ⟨lw_T_in (List.mem_of_getElem? h.1), h.2⟩
theorem TBL_good {w : Cond} (h : w ∈ TBL) : (w.onTables && w.keeps) = true ∨ ∃ ty, w = .arrayClass ty := good_of_word (List.mem_filter.mp h).2
theorem TBL_in {w : Cond} (h : w ∈ TBL) : w ∈ lw_tbl := (List.mem_filter.mp h).1
theorem wk_test : wk 1 0 (Jvm.Cond.initialized "WordRunsLaw") = true := by decide +kernel
end
section
/-! ints of the machine as integers -/
abbrev InR (x : Int) : Prop := -2147483648 ≤ x ∧ x ≤ 2147483647
abbrev InL (x : Int) : Prop := -9223372036854775808 ≤ x ∧ x ≤ 9223372036854775807
theorem o32 {x : Int} (h : InR x) : (Int32.ofInt x).toInt = x := by
  have e : Int32.size = 4294967296 := rfl
  rw [Int32.toInt_ofInt, e]
  exact Int.bmod_eq_of_le (by omega) (by omega)
theorem o64 {x : Int} (h : InL x) : (Int64.ofInt x).toInt = x := by
  have e : Int64.size = 18446744073709551616 := rfl
  rw [Int64.toInt_ofInt, e]
  exact Int.bmod_eq_of_le (by omega) (by omega)
theorem o32_inj {x y : Int} (hx : InR x) (hy : InR y) : Int32.ofInt x = Int32.ofInt y ↔ x = y := by
  constructor
  · intro h
    have := congrArg Int32.toInt h
    rwa [o32 hx, o32 hy] at this
  · intro h; rw [h]
theorem o32_lt {x y : Int} (hx : InR x) (hy : InR y) : Int32.ofInt x < Int32.ofInt y ↔ x < y := by
  rw [Int32.lt_iff_toInt_lt, o32 hx, o32 hy]
theorem o32_le {x y : Int} (hx : InR x) (hy : InR y) : Int32.ofInt x ≤ Int32.ofInt y ↔ x ≤ y := by
  rw [Int32.le_iff_toInt_le, o32 hx, o32 hy]
theorem o32_0 : (0 : Int32) = Int32.ofInt 0 := rfl
theorem o32_of {x : Int32} : Int32.ofInt x.toInt = x := by
  apply Int32.toInt_inj.mp
  exact o32 ⟨by have := Int32.le_toInt x; omega, by have := Int32.toInt_lt x; omega⟩
theorem i32_in (x : Int32) : InR x.toInt := ⟨by have := Int32.le_toInt x; omega, by have := Int32.toInt_lt x; omega⟩
theorem o32_cl {x : Int} (h : InR x) : (Int32.ofInt x).toNatClampNeg = x.toNat := by
  show (Int32.ofInt x).toInt.toNat = x.toNat
  rw [o32 h]
theorem o32_in {x : Int} {n : Nat} (h : InR x) (h0 : 0 ≤ x) (h1 : x < n) : vp_in (Int32.ofInt x) n := by
  rw [vp_in_iff, o32 h]
  exact ⟨h0, h1⟩
def shlI (x y : Int) : Int := x * 2 ^ y.toNat
def shrI (x y : Int) : Int := x / 2 ^ y.toNat
def andI (x y : Int) : Int := (Int32.ofInt x &&& Int32.ofInt y).toInt
def orI (x y : Int) : Int := (Int32.ofInt x ||| Int32.ofInt y).toInt
def xorI (x y : Int) : Int := (Int32.ofInt x ^^^ Int32.ofInt y).toInt
def i2bI (x : Int) : Int := Int.bmod x 256
def ushI (x y : Int) : Int := (((Int32.ofInt x).toUInt32 >>> ((Int32.ofInt y).toUInt32 &&& Int32.toUInt32 31)).toInt32).toInt
def cmpI (x y : Int) : Int := if y < x then 1 else if x = y then 0 else -1
theorem sh_amt : ∀ n : Nat, n < 32 → ((Int32.ofNat n &&& 31).toBitVec.smod 32).toNat = n := by decide +kernel
theorem o32_nat {y : Int} (h : 0 ≤ y) : Int32.ofInt y = Int32.ofNat y.toNat := by
  obtain ⟨n, rfl⟩ := Int.eq_ofNat_of_zero_le h
  rfl
theorem o32_shr {x y : Int} (hx : InR x) (h0 : 0 ≤ y) (h1 : y < 32) : Int32.ofInt x >>> (Int32.ofInt y &&& 31) = Int32.ofInt (shrI x y) := by
  have hs : ((Int32.ofInt y &&& 31).toBitVec.smod 32).toNat = y.toNat := by
    rw [o32_nat h0]; exact sh_amt _ (by omega)
  apply Int32.toInt_inj.mp
  rw [pk_shr _ _ _ hs, o32 hx]
  have e : x >>> y.toNat = shrI x y := by rw [Int.shiftRight_eq_div_pow]; rfl
  rw [e]
  refine (o32 ?_).symm
  unfold shrI
  have hp : (0 : Int) < 2 ^ y.toNat := Int.pow_pos (by decide)
  constructor
  · exact Int.le_ediv_of_mul_le hp (by
      have h2 : (1 : Int) ≤ 2 ^ y.toNat := hp
      have := Int.mul_le_mul_of_nonneg_left h2 (show (0 : Int) ≤ 2147483648 by decide)
      omega)
  · by_cases hx0 : 0 ≤ x
    · exact Int.le_trans (Int.ediv_le_self _ hx0) hx.2
    · have : x / 2 ^ y.toNat < 0 := Int.ediv_neg_of_neg_of_pos (by omega) hp
      omega
theorem o32_shl {x y : Int} (h0 : 0 ≤ y) (h1 : y < 32) : Int32.ofInt x <<< (Int32.ofInt y &&& 31) = Int32.ofInt (shlI x y) := by
  have hs : ((Int32.ofInt y &&& 31).toBitVec.smod 32) = BitVec.ofNat 32 y.toNat := by
    apply BitVec.eq_of_toNat_eq
    rw [o32_nat h0, sh_amt _ (by omega), BitVec.toNat_ofNat, Nat.mod_eq_of_lt (by omega)]
  apply Int32.toBitVec_inj.mp
  rw [Int32.toBitVec_shiftLeft, hs, Int32.toBitVec_ofInt, Int32.toBitVec_ofInt]
  unfold shlI
  rw [BitVec.ofInt_mul, BitVec.shiftLeft_eq', BitVec.shiftLeft_eq_mul_twoPow]
  congr 1
  rw [BitVec.toNat_ofNat, Nat.mod_eq_of_lt (by omega)]
  apply BitVec.eq_of_toNat_eq
  rw [BitVec.toNat_twoPow]
  have e : (2 : Int) ^ y.toNat = ((2 ^ y.toNat : Nat) : Int) := by simp
  rw [BitVec.toNat_ofInt, e, ← Int.natCast_emod, Int.toNat_natCast]
theorem o32_i2b (x : Int) (hx : InR x) : (Int32.ofInt x).toInt8.toInt32 = Int32.ofInt (i2bI x) := by
  apply Int32.toInt_inj.mp
  have h1 := Int.bmod_lt (x := x) (m := 256) (by decide)
  have h2 := Int.le_bmod (x := x) (m := 256) (by decide)
  rw [Int8.toInt_toInt32, Int32.toInt_toInt8, o32 hx, o32 (by unfold i2bI; omega)]
  rfl
theorem o32_div {x y : Int} (hx : InR x) (hy : InR y) : Int32.ofInt x / Int32.ofInt y = Int32.ofInt (Int.tdiv x y) := by
  apply Int32.toInt_inj.mp
  rw [Int32.toInt_div, o32 hx, o32 hy, Int32.toInt_ofInt]
theorem o32_rem {x y : Int} (hx : InR x) (hy : InR y) : Int32.ofInt x - Int32.ofInt x / Int32.ofInt y * Int32.ofInt y = Int32.ofInt (Int.tmod x y) := by
  rw [o32_div hx hy, ← Int32.ofInt_mul, ← Int32.ofInt_sub]
  congr 1
  have := Int.mul_tdiv_add_tmod x y
  rw [Int.mul_comm] at this
  omega
theorem o32_bip {n : Int} (h : -128 ≤ n ∧ n ≤ 127) : (Int8.ofInt n).toInt32 = Int32.ofInt n := by
  apply Int32.toInt_inj.mp
  have e : Int8.size = 256 := rfl
  rw [Int8.toInt_toInt32, Int8.toInt_ofInt, o32 (by omega), e]
  exact Int.bmod_eq_of_le (by omega) (by omega)
theorem o32_sip {n : Int} (h : -32768 ≤ n ∧ n ≤ 32767) : (Int16.ofInt n).toInt32 = Int32.ofInt n := by
  apply Int32.toInt_inj.mp
  have e : Int16.size = 65536 := rfl
  rw [Int16.toInt_toInt32, Int16.toInt_ofInt, o32 (by omega), e]
  exact Int.bmod_eq_of_le (by omega) (by omega)
theorem o32_i2l {x : Int} (h : InR x) : (Int32.ofInt x).toInt64 = Int64.ofInt x := by
  apply Int64.toInt_inj.mp
  rw [Int32.toInt_toInt64, o32 h, o64 (by omega)]
theorem o64_cmp {x y : Int} (hx : InL x) (hy : InL y) : lg_cmp (Int64.ofInt x) (Int64.ofInt y) = Int32.ofInt (cmpI x y) := by
  have e1 : Int64.ofInt y < Int64.ofInt x ↔ y < x := by rw [Int64.lt_iff_toInt_lt, o64 hx, o64 hy]
  have e2 : Int64.ofInt x = Int64.ofInt y ↔ x = y := by rw [← Int64.toInt_inj, o64 hx, o64 hy]
  unfold lg_cmp cmpI
  by_cases h1 : y < x
  · simp [e1, h1]
  · by_cases h2 : x = y
    · simp [h2]
    · simp [e1, e2, h1, h2]
end
section
/-! THE SMALL WORLD: values, cells by (family, instance), contents by (family, instance, place); it never grows.
Families: 0..12 objects of the class of that place in vwCl; 20..58 arrays; 60 String constants; 61 the script. A field's contents have the code fc class slot. -/
abbrev AV : Type := Option (Int ⊕ Int ⊕ (Nat × Nat))
abbrev SS : Type := Nat → Nat → Int → Int
abbrev vI (x : Int) : AV := some (.inl x)
abbrev vL (x : Int) : AV := some (.inr (.inl x))
abbrev vR (t i : Nat) : AV := some (.inr (.inr (t, i)))
def u3 (σ : SS) (f i : Nat) (k v : Int) : SS := fun f' i' k' => if f' = f ∧ i' = i ∧ k' = k then v else σ f' i' k'
theorem u3_s {σ : SS} {f i : Nat} {k v : Int} : u3 σ f i k v f i k = v := by simp [u3]
theorem u3_f {σ : SS} {f i f' i' : Nat} {k v k' : Int} (h : f' ≠ f) : u3 σ f i k v f' i' k' = σ f' i' k' := by simp [u3, h]
theorem u3_F {σ : SS} {f i f' : Nat} {k v : Int} (h : f' ≠ f) : u3 σ f i k v f' = σ f' := by funext i' k'; simp [u3, h]
theorem u3_i {σ : SS} {f i i' : Nat} {k v k' : Int} (h : i' ≠ i) : u3 σ f i k v f i' k' = σ f i' k' := by simp [u3, h]
theorem u3_k {σ : SS} {f i i' : Nat} {k v k' : Int} (h : k' ≠ k) : u3 σ f i k v f i' k' = σ f i' k' := by simp [u3, h]
theorem u3_e {σ : SS} {f i : Nat} {k v k' : Int} : u3 σ f i k v f i k' = if k' = k then v else σ f i k' := by simp [u3]
def cntL : List Nat := [1,1,1,1,1,2,1,2,1,1,14,1,1, 0,0,0,0,0,0,0, 14,1,1,1,1,1,1,1,1,1,1,1,1,1,1,2,2,2,1,1, 1,1,1,1,1,1,1,1,1,1,1,1,1,1,1,1,1,1,1, 0, 4,1]
def cnt (t : Nat) : Nat := cntL.getD t 0
def alenL : List Int := [0,0,0,0,0,0,0,0,0,0,0,0,0, 0,0,0,0,0,0,0, 120,10,2,300,840,480,4,4,7381,121,26,121,26,121,120,120,120,120,121,240, 121,1210,242,2,720,14520,121,120,26,300,100000,4,4,4,480,121,26,26,676, 0,0,0]
def alen (t : Nat) : Int := alenL.getD t 0
/-- 0 int, 1 byte, 2 boolean, 3 Word references -/
def atyL : List Nat := [9,9,9,9,9,9,9,9,9,9,9,9,9, 9,9,9,9,9,9,9, 1,3,3,1,1,1,0,0,1,1,0,0,0,0,0,0,0,0,0,0, 0,0,0,2,0,0,0,0,0,1,0,0,0,0,0,0,2,2,2, 9,9,9]
def aty (t : Nat) : Nat := atyL.getD t 9
def nflL : List Nat := [5,4,3,10,5,4,2,3,4,10,2,15,33]
def nfl (t : Nat) : Nat := nflL.getD t 0
/-- where a reference field leads: a family, and one instance of it (none: the same instance) -/
def rfL : List (List (Option (Nat × Option Nat))) := [
 [some (10,some 0), some (8,some 0), some (7,some 1), some (38,none), some (39,none)],
 [some (10,some 0), some (8,some 0), some (34,none), none],
 [some (21,none), none, none],
 [some (23,none), none, some (24,none), none, some (25,none), some (26,none), some (27,none), none, none, none],
 [some (10,some 0), some (8,some 0), some (6,some 0), some (7,some 0), some (30,none)],
 [some (35,none), some (36,none), some (37,none), none],
 [some (10,some 0), some (8,some 0)],
 [none, none, none],
 [some (10,some 0), some (28,none), some (29,none), none],
 [some (10,some 0), some (8,some 0), some (31,none), none, none, some (32,none), some (33,none), none, none, none],
 [some (20,none), none],
 [some (10,some 0), some (10,some 1), some (2,some 0), some (22,none), some (3,some 0), some (8,some 0), some (6,some 0), some (4,some 0), some (9,some 0), some (1,some 0), some (0,some 0), some (5,some 0), some (5,some 1), none, none],
 [some (40,none), some (41,none), none, some (42,none), some (43,none), some (44,none), none, none, some (45,none), none, none, some (46,none), some (47,none), some (48,none), some (55,none), some (49,none), none, none, none, none, some (50,none), none, none, some (51,none), some (52,none), some (53,none), some (54,none), none, none, none, some (56,none), some (57,none), some (58,none)]]
def rfo (t k : Nat) : Option (Nat × Option Nat) := (rfL.getD t []).getD k none
/-- a field that is no reference: is it boolean -/
def isZ (t k : Nat) : Bool := [(1,3),(8,3),(9,4),(11,13),(12,7),(12,10)].contains (t, k)
/-- the first of the Words that an array of them holds -/
def atg (t : Nat) : Nat := if t = 21 then 4 else 2
def fc (t k : Nat) : Nat := 100 + 40 * t + k
def HL : List (Nat × Nat) := (List.range 60).flatMap fun t => (List.range (cnt t)).map fun i => (t, i)
theorem HL_mem {t i : Nat} : (t, i) ∈ HL ↔ t < 60 ∧ i < cnt t := by
  simp only [HL, List.mem_flatMap, List.mem_range, List.mem_map, Prod.mk.injEq]
  constructor
  · rintro ⟨a, h1, b, h2, rfl, rfl⟩; exact ⟨h1, h2⟩
  · rintro ⟨h1, h2⟩; exact ⟨t, h1, i, h2, rfl, rfl⟩
theorem HL_nd : HL.Nodup := by decide +kernel
/-- each reference leads to an instance that there is -/
def rfB (t k : Nat) : Bool := match rfo t k with
  | none => true
  | some (tt, none) => decide (tt < 60) && decide (cnt t ≤ cnt tt)
  | some (tt, some c) => decide (tt < 60) && decide (c < cnt tt)
theorem rfB_ok : ∀ t, t < 13 → ∀ k, k < 33 → rfB t k = true := by decide +kernel
theorem rfo_ok {t k tt i : Nat} {oi : Option Nat} (ht : t < 13) (hk : k < 33) (hr : rfo t k = some (tt, oi)) (hi : i < cnt t) : tt < 60 ∧ oi.getD i < cnt tt := by
  have h := rfB_ok t ht k hk
  unfold rfB at h
  rw [hr] at h
  cases oi with
  | none => simp at h; exact ⟨h.1, by simp; omega⟩
  | some c => simp at h; exact ⟨h.1, by simpa using h.2⟩
theorem cnt_obj : ∀ t, t < 60 → cnt t ≠ 0 → (t < 13 ∨ 20 ≤ t) := by decide +kernel
theorem nfl_le : ∀ t, t < 13 → nfl t ≤ 33 := by decide +kernel
theorem aty_lt : ∀ t, t < 60 → cnt t ≠ 0 → ¬ t < 13 → aty t < 4 := by decide +kernel
theorem alen_ok : ∀ t, t < 60 → 0 ≤ alen t ∧ alen t < 2147483648 := by decide +kernel
def okV (v : AV) : Prop := match v with
  | some (.inl x) => InR x
  | some (.inr (.inl x)) => InL x
  | some (.inr (.inr (t, i))) => i < cnt t
  | none => True
def okS (σ : SS) : Prop := ∀ f i k, InR (σ f i k)
theorem okS_u3 {σ : SS} {f i : Nat} {k v : Int} (h : okS σ) (hv : InR v) : okS (u3 σ f i k v) := by
  intro f' i' k'
  unfold u3
  split
  · exact hv
  · exact h _ _ _
def cv (ad : Nat → Nat → Nat) (v : AV) : Value := match v with
  | some (.inl x) => .int (Int32.ofInt x)
  | some (.inr (.inl x)) => .long (Int64.ofInt x)
  | some (.inr (.inr (t, i))) => .ref (ad t i)
  | none => .null
def rv (ad : Nat → Nat → Nat) (v : AV) : Option Value := match v with
  | none => none
  | v => some (cv ad v)
def fvW (ad : Nat → Nat → Nat) (σ : SS) (t i k : Nat) : Value := match rfo t k with
  | some (tt, oi) => .ref (ad tt (oi.getD i))
  | none => .int (Int32.ofInt (σ (fc t k) i 0))
def cellW (ad : Nat → Nat → Nat) (cA : Nat → ClassId) (σ : SS) (t i : Nat) : va_E :=
  if t < 13 then .inr (t, (List.range (nfl t)).map (fun k => fvW ad σ t i k))
  else if aty t = 3 then .inl (cA 3, (alen t).toNat, .inr (.inr (.inr (.inr (fun j => some (ad 10 (atg t + j)))))))
  else .inl (cA (aty t), (alen t).toNat, .inl (fun j => Int32.ofInt (σ t i (j : Int))))
def wsW (ad : Nat → Nat → Nat) (cA : Nat → ClassId) (σ : SS) : va_W := HL.map (fun h => (ad h.1 h.2, cellW ad cA σ h.1 h.2))
def tysW (cA : Nat → ClassId) : List (ClassId × FieldType) := [(cA 0, .int), (cA 1, .byte), (cA 2, .boolean), (cA 3, .object "WordRuns$Word")]
def adI (ad : Nat → Nat → Nat) : Prop := ∀ h, h ∈ HL → ∀ h', h' ∈ HL → ad h.1 h.2 = ad h'.1 h'.2 → h = h'
def Aad (ad : Nat → Nat → Nat) : Nat → Prop := fun q => ∃ h, h ∈ HL ∧ q = ad h.1 h.2
theorem wsW_at {ad : Nat → Nat → Nat} {cA : Nat → ClassId} {σ : SS} {t i : Nat} (ht : t < 60) (hi : i < cnt t) : ∃ k : Nat, HL[k]? = some (t, i) ∧ (wsW ad cA σ)[k]? = some (ad t i, cellW ad cA σ t i) := by
  obtain ⟨k, hk⟩ := List.mem_iff_getElem?.mp (HL_mem.mpr ⟨ht, hi⟩)
  exact ⟨k, hk, by simp [wsW, hk]⟩
theorem wsW_D {ad : Nat → Nat → Nat} {cA : Nat → ClassId} {σ : SS} (hI : adI ad) : va_D (Aad ad) (wsW ad cA σ) := by
  refine ⟨fun i j p q hp hq e => ?_, fun k q hq => ?_⟩
  · simp only [wsW, List.getElem?_map, Option.map_eq_some_iff] at hp hq
    obtain ⟨h, h1, rfl⟩ := hp
    obtain ⟨h', h2, rfl⟩ := hq
    have := hI h (List.mem_of_getElem? h1) h' (List.mem_of_getElem? h2) e
    subst this
    exact (List.getElem?_inj (List.getElem?_eq_some_iff.mp h1).1 HL_nd).mp (h1.trans h2.symm)
  · simp only [wsW, List.getElem?_map, Option.map_eq_some_iff] at hq
    obtain ⟨h, h1, rfl⟩ := hq
    exact ⟨h, List.mem_of_getElem? h1, rfl⟩
/-- one cell's contents change -/
theorem wsW_set {ad : Nat → Nat → Nat} {cA : Nat → ClassId} {σ σ' : SS} {t i k : Nat} {e : va_E} (hk : HL[k]? = some (t, i)) (he : e = cellW ad cA σ' t i) (ho : ∀ t' i', (t', i') ∈ HL → (t', i') ≠ (t, i) → cellW ad cA σ' t' i' = cellW ad cA σ t' i') :
    (wsW ad cA σ).set k (ad t i, e) = wsW ad cA σ' := by
  have hl : k < HL.length := (List.getElem?_eq_some_iff.mp hk).1
  apply List.ext_getElem?
  intro j
  rw [List.getElem?_set]
  by_cases hj : k = j
  · subst hj
    have e2 : HL[k] = (t, i) := (List.getElem?_eq_some_iff.mp hk).2
    simp [wsW, he, hl]
    exact ⟨by rw [e2], by rw [e2]⟩
  · simp only [hj, if_false, wsW, List.getElem?_map]
    cases hq : HL[j]? with
    | none => rfl
    | some h =>
      obtain ⟨t', i'⟩ := h
      have hne : (t', i') ≠ (t, i) := by
        intro e2
        rw [e2] at hq
        exact hj ((List.getElem?_inj hl HL_nd).mp (hk.trans hq.symm))
      simp [ho t' i' (List.mem_of_getElem? hq) hne]
theorem cellW_f {ad : Nat → Nat → Nat} {cA : Nat → ClassId} {σ : SS} {t i k : Nat} {v : Int} (ht : t < 13) (hk : k < nfl t) (hn : rfo t k = none) :
    (Sum.inr (t, ((List.range (nfl t)).map (fun k => fvW ad σ t i k)).set k (.int (Int32.ofInt v))) : va_E) = cellW ad cA (u3 σ (fc t k) i 0 v) t i := by
  unfold cellW
  rw [if_pos ht]
  congr 2
  apply List.ext_getElem?
  intro j
  rw [List.getElem?_set]
  by_cases hj : k = j
  · subst hj
    simp [hk, fvW, hn, u3]
  · simp only [hj, if_false, List.getElem?_map]
    by_cases hjn : j < nfl t
    · simp only [List.getElem?_range hjn, Option.map_some, fvW]
      congr 1
      cases rfo t j with
      | some q => rfl
      | none =>
        simp only [u3]
        rw [if_neg]
        unfold fc
        omega
    · simp [hjn]
theorem cellW_fo {ad : Nat → Nat → Nat} {cA : Nat → ClassId} {σ : SS} {t i k : Nat} {v : Int} (ht : t < 13) (hk : k < nfl t) : ∀ t' i', (t', i') ∈ HL → (t', i') ≠ (t, i) → cellW ad cA (u3 σ (fc t k) i 0 v) t' i' = cellW ad cA σ t' i' := by
  intro t' i' hm hne
  have hm' := HL_mem.mp hm
  have hk2 := nfl_le t ht
  unfold cellW
  by_cases h13 : t' < 13
  · rw [if_pos h13, if_pos h13]
    congr 2
    apply List.map_congr_left
    intro j hj
    have hj2 := nfl_le t' h13
    have hj3 : j < nfl t' := List.mem_range.mp hj
    unfold fvW
    cases rfo t' j with
    | some q => rfl
    | none =>
      simp only [u3]
      rw [if_neg]
      rintro ⟨e1, e2, -⟩
      apply hne
      unfold fc at e1
      rw [e2, show t' = t by omega]
  · rw [if_neg h13, if_neg h13]
    by_cases h3 : aty t' = 3
    · rw [if_pos h3, if_pos h3]
    · rw [if_neg h3, if_neg h3]
      congr 4
      funext j
      simp only [u3]
      rw [if_neg]
      unfold fc
      omega
theorem cellW_a {ad : Nat → Nat → Nat} {cA : Nat → ClassId} {σ : SS} {t i : Nat} {x v : Int} (ht : ¬ t < 13) (ha : aty t ≠ 3) (h0 : 0 ≤ x) :
    (Sum.inl (cA (aty t), (alen t).toNat, .inl (upd (fun j : Nat => Int32.ofInt (σ t i (j : Int))) x.toNat (Int32.ofInt v))) : va_E) = cellW ad cA (u3 σ t i x v) t i := by
  unfold cellW
  rw [if_neg ht, if_neg ha]
  congr 4
  funext j
  simp only [upd, u3]
  by_cases hj : j = x.toNat
  · rw [if_pos hj, if_pos (by simp; omega)]
  · rw [if_neg hj, if_neg (by omega)]
theorem cellW_ao {ad : Nat → Nat → Nat} {cA : Nat → ClassId} {σ : SS} {t i : Nat} {x v : Int} (ht : ¬ t < 13) (ht2 : t < 60) : ∀ t' i', (t', i') ∈ HL → (t', i') ≠ (t, i) → cellW ad cA (u3 σ t i x v) t' i' = cellW ad cA σ t' i' := by
  intro t' i' hm hne
  unfold cellW
  by_cases h13 : t' < 13
  · rw [if_pos h13, if_pos h13]
    congr 2
    apply List.map_congr_left
    intro j hj
    unfold fvW
    cases rfo t' j with
    | some q => rfl
    | none =>
      simp only [u3]
      rw [if_neg]
      unfold fc
      omega
  · rw [if_neg h13, if_neg h13]
    by_cases h3 : aty t' = 3
    · rw [if_pos h3, if_pos h3]
    · rw [if_neg h3, if_neg h3]
      congr 4
      funext j
      simp only [u3]
      rw [if_neg]
      rintro ⟨e1, e2, -⟩
      exact hne (by rw [e1, e2])
end
section
/-! THE SMALL MACHINE: what a method's code asks for, as one formula (wp); its soundness over the kit's W. -/
abbrev EI : Type := Nat × Instr × Nat × List Nat
abbrev MI : Type := MethodName × ByteArray × Nat × Option FieldType × List (Nat × Nat)
abbrev GS : Type := List AV → SS → (AV → SS → Prop) → Prop
def kI (f : Int → SS → Prop) : AV → SS → Prop := fun r σ => match r with
  | some (.inl x) => InR x → okS σ → f x σ
  | _ => False
def kV (f : SS → Prop) : AV → SS → Prop := fun r σ => match r with
  | none => okS σ → f σ
  | _ => False
def kR (t : Nat) (f : Nat → SS → Prop) : AV → SS → Prop := fun r σ => match r with
  | some (.inr (.inr (t', i))) => t' = t ∧ (i < cnt t → okS σ → f i σ)
  | _ => False
def gl : List AV → Nat → AV
  | [], _ => none
  | a :: _, 0 => a
  | _ :: l, n + 1 => gl l n
def sl : List AV → Nat → AV → List AV
  | [], _, _ => []
  | _ :: l, 0, v => v :: l
  | a :: l, n + 1, v => a :: sl l n v
def isL (v : AV) : Bool := match v with
  | some (.inr (.inl _)) => true
  | _ => false
def nl : List AV → Bool
  | [] => true
  | a :: l => match isL a with
    | true => false
    | false => nl l
def cs : List AV → Nat
  | [] => 0
  | a :: l => (match isL a with | true => 2 | false => 1) + cs l
def tk : Nat → List AV → List AV → Option (List AV × List AV)
  | 0, acc, st => some (acc, st)
  | _ + 1, _, [] => none
  | n + 1, acc, v :: st => tk n (v :: acc) st
def ldI (L : List AV) (i : Nat) (f : Int → Prop) : Prop := match gl L i with
  | some (.inl x) => f x
  | _ => False
def brW (c : ClassFile.Cond) (a b : Int) (A B : Prop) : Prop := match c with
  | .eq => (a = b → A) ∧ (a ≠ b → B)
  | .ne => (a ≠ b → A) ∧ (a = b → B)
  | .lt => (a < b → A) ∧ (b ≤ a → B)
  | .ge => (b ≤ a → A) ∧ (a < b → B)
  | .gt => (b < a → A) ∧ (a ≤ b → B)
  | .le => (a ≤ b → A) ∧ (b < a → B)
def swW (v : Int) : Int → List Nat → (Nat → Prop) → Prop
  | _, [], _ => True
  | lo, t :: ts, P => (v = lo → P t) ∧ swW v (lo + 1) ts P
def lkW (v : Int) : List (Int × Int) → List Nat → (Nat → Prop) → Prop → Prop
  | [], _, _, D => D
  | q :: ps, t :: ts, P, D => (v = q.1 → P t) ∧ (v ≠ q.1 → lkW v ps ts P D)
  | _ :: _, [], _, _ => False
def resW (rk rt : Nat) (r : List AV) (N : List AV → SS → Prop) : AV → SS → Prop := match rk with
  | 0 => kV (fun σ => N r σ)
  | 1 => kI (fun v σ => N (vI v :: r) σ)
  | _ => kR rt (fun i σ => N (vR rt i :: r) σ)
def retZ (rt : Nat) (x : Int) (A : Prop) : Prop := match rt with
  | 2 => (0 ≤ x ∧ x ≤ 1) ∧ A
  | _ => A
def putZ (z : Bool) (x : Int) (A : Prop) : Prop := match z with
  | true => (0 ≤ x ∧ x ≤ 1) ∧ A
  | false => A
def stepW (sc : Option (Int × (Int → Int))) (rt : Nat) (cal : List (MI × GS)) (K : AV → SS → Prop) (ins : Instr) (x : List Nat) (k : Nat) (L st : List AV) (σ : SS) (N : Nat → List AV → List AV → SS → Prop) : Prop :=
  match ins with
  | .iload_n n => ldI L n.val fun v => N (k + 1) L (vI v :: st) σ
  | .iload n => ldI L n fun v => N (k + 1) L (vI v :: st) σ
  | .aload_n n => match gl L n.val with
    | some (.inr (.inr (t, i))) => N (k + 1) L (vR t i :: st) σ
    | _ => False
  | .aload n => match gl L n with
    | some (.inr (.inr (t, i))) => N (k + 1) L (vR t i :: st) σ
    | _ => False
  | .lload_n n => match gl L n.val with
    | some (.inr (.inl v)) => N (k + 1) L (vL v :: st) σ
    | _ => False
  | .lload n => match gl L n with
    | some (.inr (.inl v)) => N (k + 1) L (vL v :: st) σ
    | _ => False
  | .istore_n n => match nl L, st with
    | true, some (.inl v) :: r => N (k + 1) (sl L n.val (vI v)) r σ
    | _, _ => False
  | .istore n => match nl L, st with
    | true, some (.inl v) :: r => N (k + 1) (sl L n (vI v)) r σ
    | _, _ => False
  | .astore_n n => match nl L, st with
    | true, some (.inr (.inr (t, i))) :: r => N (k + 1) (sl L n.val (vR t i)) r σ
    | _, _ => False
  | .iinc n c => match nl L with
    | true => ldI L n fun v => InR (v + c) ∧ N (k + 1) (sl L n (vI (v + c))) st σ
    | false => False
  | .iconst n => N (k + 1) L (vI n :: st) σ
  | .bipush n => N (k + 1) L (vI n :: st) σ
  | .sipush n => N (k + 1) L (vI n :: st) σ
  | .ldc _ => match x with
    | 0 :: v :: _ => N (k + 1) L (vI (v : Int) :: st) σ
    | _ => False
  | .ldc_w _ => match x with
    | 0 :: v :: _ => N (k + 1) L (vI (v : Int) :: st) σ
    | 1 :: i :: _ => N (k + 1) L (vR 60 i :: st) σ
    | _ => False
  | .lconst n => N (k + 1) L (vL (n.val : Int) :: st) σ
  | .ldc2_w _ => match x with
    | v :: _ => N (k + 1) L (vL (v : Int) :: st) σ
    | _ => False
  | .i2l => match st with
    | some (.inl v) :: r => N (k + 1) L (vL v :: r) σ
    | _ => False
  | .lcmp => match st with
    | some (.inr (.inl b)) :: some (.inr (.inl a)) :: r => N (k + 1) L (vI (cmpI a b) :: r) σ
    | _ => False
  | .i2b => match st with
    | some (.inl v) :: r => N (k + 1) L (vI (i2bI v) :: r) σ
    | _ => False
  | .iadd => match st with
    | some (.inl b) :: some (.inl a) :: r => InR (a + b) ∧ N (k + 1) L (vI (a + b) :: r) σ
    | _ => False
  | .isub => match st with
    | some (.inl b) :: some (.inl a) :: r => InR (a - b) ∧ N (k + 1) L (vI (a - b) :: r) σ
    | _ => False
  | .imul => match st with
    | some (.inl b) :: some (.inl a) :: r => InR (a * b) ∧ N (k + 1) L (vI (a * b) :: r) σ
    | _ => False
  | .idiv => match st with
    | some (.inl b) :: some (.inl a) :: r => (b ≠ 0 ∧ InR (Int.tdiv a b)) ∧ N (k + 1) L (vI (Int.tdiv a b) :: r) σ
    | _ => False
  | .irem => match st with
    | some (.inl b) :: some (.inl a) :: r => (b ≠ 0 ∧ InR (Int.tmod a b)) ∧ N (k + 1) L (vI (Int.tmod a b) :: r) σ
    | _ => False
  | .ineg => match st with
    | some (.inl a) :: r => InR (-a) ∧ N (k + 1) L (vI (-a) :: r) σ
    | _ => False
  | .ishl => match st with
    | some (.inl b) :: some (.inl a) :: r => (0 ≤ b ∧ b < 32 ∧ InR (shlI a b)) ∧ N (k + 1) L (vI (shlI a b) :: r) σ
    | _ => False
  | .ishr => match st with
    | some (.inl b) :: some (.inl a) :: r => (0 ≤ b ∧ b < 32 ∧ InR (shrI a b)) ∧ N (k + 1) L (vI (shrI a b) :: r) σ
    | _ => False
  | .iushr => match st with
    | some (.inl b) :: some (.inl a) :: r => N (k + 1) L (vI (ushI a b) :: r) σ
    | _ => False
  | .iand => match st with
    | some (.inl b) :: some (.inl a) :: r => N (k + 1) L (vI (andI a b) :: r) σ
    | _ => False
  | .ior => match st with
    | some (.inl b) :: some (.inl a) :: r => N (k + 1) L (vI (orI a b) :: r) σ
    | _ => False
  | .ixor => match st with
    | some (.inl b) :: some (.inl a) :: r => N (k + 1) L (vI (xorI a b) :: r) σ
    | _ => False
  | .dup => match st with
    | some v :: r => (match isL (some v) with
      | false => N (k + 1) L (some v :: some v :: r) σ
      | true => False)
    | _ => False
  | .dup2 => match st with
    | some v :: some w :: r => (match isL (some v), isL (some w) with
      | false, false => N (k + 1) L (some v :: some w :: some v :: some w :: r) σ
      | _, _ => False)
    | _ => False
  | .pop => match st with
    | some v :: r => (match isL (some v) with
      | false => N (k + 1) L r σ
      | true => False)
    | _ => False
  | .getfield _ => match x, st with
    | _ :: ci :: f :: _, some (.inr (.inr (t, i))) :: r => (match Nat.beq t ci with
      | true => (match rfo ci f with
        | some (tt, oi) => N (k + 1) L (vR tt (oi.getD i) :: r) σ
        | none => N (k + 1) L (vI (σ (fc ci f) i 0) :: r) σ)
      | false => False)
    | _, _ => False
  | .putfield _ => match x, st with
    | _ :: ci :: f :: _, some (.inl v) :: some (.inr (.inr (t, i))) :: r => (match Nat.beq t ci with
      | true => putZ (isZ ci f) v (∀ σ' : SS, σ' = u3 σ (fc ci f) i 0 v → N (k + 1) L r σ')
      | false => False)
    | _, _ => False
  | .iaload => match st with
    | some (.inl j) :: some (.inr (.inr (t, i))) :: r => (match aty t, Nat.ble 20 t, Nat.ble t 59 with
      | 0, true, true => (0 ≤ j ∧ j < alen t) ∧ N (k + 1) L (vI (σ t i j) :: r) σ
      | _, _, _ => (match sc, Nat.beq t 61 with
        | some (n, xs), true => (0 ≤ j ∧ j < n) ∧ N (k + 1) L (vI (xs j) :: r) σ
        | _, _ => False))
    | _ => False
  | .baload => match st with
    | some (.inl j) :: some (.inr (.inr (t, i))) :: r => (match aty t, Nat.ble 20 t, Nat.ble t 59 with
      | 1, true, true => (0 ≤ j ∧ j < alen t) ∧ N (k + 1) L (vI (σ t i j) :: r) σ
      | 2, true, true => (0 ≤ j ∧ j < alen t) ∧ N (k + 1) L (vI (σ t i j) :: r) σ
      | _, _, _ => False)
    | _ => False
  | .aaload => match st with
    | some (.inl j) :: some (.inr (.inr (t, i))) :: r => (match aty t, Nat.ble 20 t, Nat.ble t 59 with
      | 3, true, true => (0 ≤ j ∧ j < alen t) ∧ N (k + 1) L (vR 10 (atg t + j.toNat) :: r) σ
      | _, _, _ => False)
    | _ => False
  | .iastore => match st with
    | some (.inl v) :: some (.inl j) :: some (.inr (.inr (t, i))) :: r => (match aty t, Nat.ble 20 t, Nat.ble t 59 with
      | 0, true, true => (0 ≤ j ∧ j < alen t) ∧ ∀ σ' : SS, σ' = u3 σ t i j v → N (k + 1) L r σ'
      | _, _, _ => False)
    | _ => False
  | .bastore => match st with
    | some (.inl v) :: some (.inl j) :: some (.inr (.inr (t, i))) :: r => (match aty t, Nat.ble 20 t, Nat.ble t 59 with
      | 1, true, true => ((0 ≤ j ∧ j < alen t) ∧ -128 ≤ v ∧ v ≤ 127) ∧ ∀ σ' : SS, σ' = u3 σ t i j v → N (k + 1) L r σ'
      | 2, true, true => ((0 ≤ j ∧ j < alen t) ∧ 0 ≤ v ∧ v ≤ 1) ∧ ∀ σ' : SS, σ' = u3 σ t i j v → N (k + 1) L r σ'
      | _, _, _ => False)
    | _ => False
  | .arraylength => match st with
    | some (.inr (.inr (t, _))) :: r => (match Nat.ble 20 t, Nat.ble t 59 with
      | true, true => N (k + 1) L (vI (alen t) :: r) σ
      | _, _ => (match sc, Nat.beq t 61 with
        | some (n, _), true => N (k + 1) L (vI n :: r) σ
        | _, _ => False))
    | _ => False
  | .goto _ => match x with
    | [t] => N t L st σ
    | _ => False
  | .ifCond c _ => match x, st with
    | [t], some (.inl v) :: r => brW c v 0 (N t L r σ) (N (k + 1) L r σ)
    | _, _ => False
  | .if_icmp c _ => match x, st with
    | [t], some (.inl b) :: some (.inl a) :: r => brW c a b (N t L r σ) (N (k + 1) L r σ)
    | _, _ => False
  | .tableswitch _ lo hi _ => match x, st with
    | d :: ts, some (.inl v) :: r => swW v lo ts (fun t => N t L r σ) ∧ (v < lo ∨ hi < v → N d L r σ)
    | _, _ => False
  | .lookupswitch _ ps => match x, st with
    | d :: ts, some (.inl v) :: r => lkW v ps.toList ts (fun t => N t L r σ) (N d L r σ)
    | _, _ => False
  | .invokevirtual _ => match x with
    | ci :: na :: tc :: rk :: rr :: _ => (match cal[ci]?, tk na [] st with
      | some (_, G), some (as, some (.inr (.inr (t, i))) :: r) => (match Nat.beq t tc, Nat.ble (cs r) 8 with
        | true, true => G (vR t i :: as) σ (resW rk rr r (fun st' σ' => N (k + 1) L st' σ'))
        | _, _ => False)
      | _, _ => False)
    | _ => False
  | .invokestatic _ => match x with
    | ci :: na :: rk :: rr :: _ :: _ :: _ => (match cal[ci]?, tk na [] st with
      | some (_, G), some (as, r) => (match Nat.ble (cs r) 8 with
        | true => G as σ (resW rk rr r (fun st' σ' => N (k + 1) L st' σ'))
        | false => False)
      | _, _ => False)
    | [0, _, _] => (match st with
      | some (.inl b) :: some (.inl a) :: r => (match Nat.ble (cs r) 8 with
        | true => N (k + 1) L (vI (max a b) :: r) σ
        | false => False)
      | _ => False)
    | [1, _, _] => (match st with
      | some (.inl b) :: some (.inl a) :: r => (match Nat.ble (cs r) 8 with
        | true => N (k + 1) L (vI (min a b) :: r) σ
        | false => False)
      | _ => False)
    | _ => False
  | .ireturn => match st with
    | [some (.inl v)] => retZ rt v (K (vI v) σ)
    | _ => False
  | .areturn => match rt, st with
    | 3, [some (.inr (.inr (t, i)))] => K (vR t i) σ
    | _, _ => False
  | .return_ => match rt, st with
    | 0, [] => K none σ
    | _, _ => False
  | _ => False
def wp (sc : Option (Int × (Int → Int))) (rt : Nat) (cal : List (MI × GS)) (C : List EI) (J : Nat → Option (List AV → SS → Prop)) (K : AV → SS → Prop) : Nat → Nat → List AV → List AV → SS → Prop
  | 0 => fun _ _ _ _ => False
  | f + 1 => fun k L st σ => match C[k]? with
    | none => False
    | some q => stepW sc rt cal K q.2.1 q.2.2.2 k L st σ (fun k' L' st' σ' => match J k' with
      | some I => (match st' with
        | [] => I L' σ'
        | _ => False)
      | none => wp sc rt cal C J K f k' L' st' σ')
end
section
/-! what the tables say of the thirteen classes -/
def clP0 : List (Nat × Nat) := [(2, 2), (2, 4), (2, 6), (2, 8), (2, 10)]
theorem clB0 : (List.range 5).all (fun k => wk (clP0.getD k (9, 0)).1 (clP0.getD k (9, 0)).2 (u_lay RX0 TX0 k)) = true := by decide +kernel
theorem clW0 : ∀ w ∈ u_ws RX0 TX0 5, w ∈ TBL := by
  intro w hw
  obtain ⟨j, hj, rfl⟩ := List.mem_map.mp hw
  exact wk_tbl (List.all_eq_true.mp clB0 j hj)
def clP1 : List (Nat × Nat) := [(1, 220), (1, 222), (1, 224), (1, 226)]
theorem clB1 : (List.range 4).all (fun k => wk (clP1.getD k (9, 0)).1 (clP1.getD k (9, 0)).2 (u_lay RX1 TX1 k)) = true := by decide +kernel
theorem clW1 : ∀ w ∈ u_ws RX1 TX1 4, w ∈ TBL := by
  intro w hw
  obtain ⟨j, hj, rfl⟩ := List.mem_map.mp hw
  exact wk_tbl (List.all_eq_true.mp clB1 j hj)
def clP2 : List (Nat × Nat) := [(1, 58), (1, 60), (1, 62)]
theorem clB2 : (List.range 3).all (fun k => wk (clP2.getD k (9, 0)).1 (clP2.getD k (9, 0)).2 (u_lay RX2 TX2 k)) = true := by decide +kernel
theorem clW2 : ∀ w ∈ u_ws RX2 TX2 3, w ∈ TBL := by
  intro w hw
  obtain ⟨j, hj, rfl⟩ := List.mem_map.mp hw
  exact wk_tbl (List.all_eq_true.mp clB2 j hj)
def clP3 : List (Nat × Nat) := [(1, 81), (1, 83), (1, 85), (1, 87), (1, 89), (1, 91), (1, 93), (1, 95), (1, 97), (1, 99)]
theorem clB3 : (List.range 10).all (fun k => wk (clP3.getD k (9, 0)).1 (clP3.getD k (9, 0)).2 (u_lay RX3 TX3 k)) = true := by decide +kernel
theorem clW3 : ∀ w ∈ u_ws RX3 TX3 10, w ∈ TBL := by
  intro w hw
  obtain ⟨j, hj, rfl⟩ := List.mem_map.mp hw
  exact wk_tbl (List.all_eq_true.mp clB3 j hj)
def clP4 : List (Nat × Nat) := [(1, 162), (1, 164), (1, 166), (1, 168), (1, 170)]
theorem clB4 : (List.range 5).all (fun k => wk (clP4.getD k (9, 0)).1 (clP4.getD k (9, 0)).2 (u_lay RX4 TX4 k)) = true := by decide +kernel
theorem clW4 : ∀ w ∈ u_ws RX4 TX4 5, w ∈ TBL := by
  intro w hw
  obtain ⟨j, hj, rfl⟩ := List.mem_map.mp hw
  exact wk_tbl (List.all_eq_true.mp clB4 j hj)
def clP5 : List (Nat × Nat) := [(2, 23), (2, 25), (2, 27), (2, 29)]
theorem clB5 : (List.range 4).all (fun k => wk (clP5.getD k (9, 0)).1 (clP5.getD k (9, 0)).2 (u_lay RX5 TX5 k)) = true := by decide +kernel
theorem clW5 : ∀ w ∈ u_ws RX5 TX5 4, w ∈ TBL := by
  intro w hw
  obtain ⟨j, hj, rfl⟩ := List.mem_map.mp hw
  exact wk_tbl (List.all_eq_true.mp clB5 j hj)
def clP6 : List (Nat × Nat) := [(1, 130), (1, 132)]
theorem clB6 : (List.range 2).all (fun k => wk (clP6.getD k (9, 0)).1 (clP6.getD k (9, 0)).2 (u_lay RX6 TX6 k)) = true := by decide +kernel
theorem clW6 : ∀ w ∈ u_ws RX6 TX6 2, w ∈ TBL := by
  intro w hw
  obtain ⟨j, hj, rfl⟩ := List.mem_map.mp hw
  exact wk_tbl (List.all_eq_true.mp clB6 j hj)
def clP7 : List (Nat × Nat) := [(1, 150), (1, 152), (1, 154)]
theorem clB7 : (List.range 3).all (fun k => wk (clP7.getD k (9, 0)).1 (clP7.getD k (9, 0)).2 (u_lay RX7 TX7 k)) = true := by decide +kernel
theorem clW7 : ∀ w ∈ u_ws RX7 TX7 3, w ∈ TBL := by
  intro w hw
  obtain ⟨j, hj, rfl⟩ := List.mem_map.mp hw
  exact wk_tbl (List.all_eq_true.mp clB7 j hj)
def clP8 : List (Nat × Nat) := [(1, 113), (1, 115), (1, 117), (1, 119)]
theorem clB8 : (List.range 4).all (fun k => wk (clP8.getD k (9, 0)).1 (clP8.getD k (9, 0)).2 (u_lay RX8 TX8 k)) = true := by decide +kernel
theorem clW8 : ∀ w ∈ u_ws RX8 TX8 4, w ∈ TBL := by
  intro w hw
  obtain ⟨j, hj, rfl⟩ := List.mem_map.mp hw
  exact wk_tbl (List.all_eq_true.mp clB8 j hj)
def clP9 : List (Nat × Nat) := [(1, 189), (1, 191), (1, 193), (1, 195), (1, 197), (1, 199), (1, 201), (1, 203), (1, 205), (1, 207)]
theorem clB9 : (List.range 10).all (fun k => wk (clP9.getD k (9, 0)).1 (clP9.getD k (9, 0)).2 (u_lay RX9 TX9 k)) = true := by decide +kernel
theorem clW9 : ∀ w ∈ u_ws RX9 TX9 10, w ∈ TBL := by
  intro w hw
  obtain ⟨j, hj, rfl⟩ := List.mem_map.mp hw
  exact wk_tbl (List.all_eq_true.mp clB9 j hj)
def clP10 : List (Nat × Nat) := [(1, 40), (1, 42)]
theorem clB10 : (List.range 2).all (fun k => wk (clP10.getD k (9, 0)).1 (clP10.getD k (9, 0)).2 (u_lay RX10 TX10 k)) = true := by decide +kernel
theorem clW10 : ∀ w ∈ u_ws RX10 TX10 2, w ∈ TBL := by
  intro w hw
  obtain ⟨j, hj, rfl⟩ := List.mem_map.mp hw
  exact wk_tbl (List.all_eq_true.mp clB10 j hj)
def clP11 : List (Nat × Nat) := [(2, 47), (2, 49), (2, 51), (2, 53), (2, 55), (2, 57), (2, 59), (2, 61), (2, 63), (2, 65), (2, 67), (2, 69), (2, 71), (2, 73), (2, 75)]
theorem clB11 : (List.range 15).all (fun k => wk (clP11.getD k (9, 0)).1 (clP11.getD k (9, 0)).2 (u_lay RX11 TX11 k)) = true := by decide +kernel
theorem clW11 : ∀ w ∈ u_ws RX11 TX11 15, w ∈ TBL := by
  intro w hw
  obtain ⟨j, hj, rfl⟩ := List.mem_map.mp hw
  exact wk_tbl (List.all_eq_true.mp clB11 j hj)
def clP12 : List (Nat × Nat) := [(5, 159), (5, 161), (5, 163), (5, 165), (5, 167), (5, 169), (5, 171), (5, 173), (5, 175), (5, 177), (5, 179), (5, 181), (5, 183), (5, 185), (5, 187), (5, 189), (5, 191), (5, 193), (5, 195), (5, 197), (5, 199), (5, 201), (5, 203), (5, 205), (5, 207), (5, 209), (5, 211), (5, 213), (5, 215), (5, 217), (5, 219), (5, 221), (5, 223)]
theorem clB12 : (List.range 33).all (fun k => wk (clP12.getD k (9, 0)).1 (clP12.getD k (9, 0)).2 (u_lay RX12 TX12 k)) = true := by decide +kernel
theorem clW12 : ∀ w ∈ u_ws RX12 TX12 33, w ∈ TBL := by
  intro w hw
  obtain ⟨j, hj, rfl⟩ := List.mem_map.mp hw
  exact wk_tbl (List.all_eq_true.mp clB12 j hj)
/-- of each class: its words, its fields' types and names -/
theorem cl_ok : ∀ (ci : Nat) (q : vw_C), vwCl[ci]? = some q → (∀ w ∈ u_ws q.1 q.2.1 q.2.2, w ∈ TBL) ∧ (∃ ty : Nat → FieldType, ∀ k, k < q.2.2 → parseFieldDescriptor (q.2.1 k).2.2.1 = some (ty k)) ∧ (∀ a, a < q.2.2 → ∀ b, b < q.2.2 → a ≠ b → (q.2.1 a).2.1 ≠ (q.2.1 b).2.1) ∧ q.2.2 = nfl ci ∧ ci < 13 := by
  intro ci q h
  match ci, h with
  | 0, h => cases h; exact ⟨clW0, ⟨tyX0, tyX0_ok⟩, nmX0, by decide, by decide⟩
  | 1, h => cases h; exact ⟨clW1, ⟨tyX1, tyX1_ok⟩, nmX1, by decide, by decide⟩
  | 2, h => cases h; exact ⟨clW2, ⟨tyX2, tyX2_ok⟩, nmX2, by decide, by decide⟩
  | 3, h => cases h; exact ⟨clW3, ⟨tyX3, tyX3_ok⟩, nmX3, by decide, by decide⟩
  | 4, h => cases h; exact ⟨clW4, ⟨tyX4, tyX4_ok⟩, nmX4, by decide, by decide⟩
  | 5, h => cases h; exact ⟨clW5, ⟨tyX5, tyX5_ok⟩, nmX5, by decide, by decide⟩
  | 6, h => cases h; exact ⟨clW6, ⟨tyX6, tyX6_ok⟩, nmX6, by decide, by decide⟩
  | 7, h => cases h; exact ⟨clW7, ⟨tyX7, tyX7_ok⟩, nmX7, by decide, by decide⟩
  | 8, h => cases h; exact ⟨clW8, ⟨tyX8, tyX8_ok⟩, nmX8, by decide, by decide⟩
  | 9, h => cases h; exact ⟨clW9, ⟨tyX9, tyX9_ok⟩, nmX9, by decide, by decide⟩
  | 10, h => cases h; exact ⟨clW10, ⟨tyX10, tyX10_ok⟩, nmX10, by decide, by decide⟩
  | 11, h => cases h; exact ⟨clW11, ⟨tyX11, tyX11_ok⟩, nmX11, by decide, by decide⟩
  | 12, h => cases h; exact ⟨clW12, ⟨tyX12, tyX12_ok⟩, nmX12, by decide, by decide⟩
  | k + 13, h => simp at h
end
section
/-! the small machine over the kit's W: the context of a method, its locals, one row an instruction -/
theorem lv_ldcwS {p : Program} {l : Launch} {e : Env} {R : Room} {s : State} {m : MethodId} {args : Array Value} {below : List Frame} {meth : Method} {c : Code} {H : Heap} {locs : List Loc} {cells slots : Nat} {Q : State → Prop} {cc : ByteArray} {pc : Nat} {ls : Array Slot} {rest : List Value}
    (hexec : p.tables.exec = Jvm.exec) (hb : c.code = cc) {own tx : String} {index q : Nat} (hown : s.vm.findClass own = some m.cls) (hZ : vk_R own index tx q s) (hdg : decode cc pc = .ok (.ldc_w index, 3))
    (k : W p l e R s m args below meth c H locs cells slots Q (F0 m (pc + 3) ls (.ref q :: rest))) : W p l e R s m args below meth c H locs cells slots Q (F0 m pc ls rest) := by
  intro T hT X
  obtain ⟨t, a1, b1⟩ := k T hT X
  exact ⟨t, X.ldcStringW hexec hown (text := tx) (a := q) hZ.1 hZ.2 (g := F0 m pc ls rest) rfl (by rw [hb]; exact hdg) t a1, b1⟩
def nestL : List Cond := [.fieldLinkNest "WordRuns$RunList" 53 "WordRuns$Word" "letters" "[B" "WordRuns", .fieldLinkNest "WordRuns$RunList" 57 "WordRuns$Word" "size" "I" "WordRuns", .fieldLinkNest "WordRuns$Twins" 44 "WordRuns$Word" "letters" "[B" "WordRuns", .fieldLinkNest "WordRuns$Twins" 47 "WordRuns$Word" "size" "I" "WordRuns"]
def strL : List Nat := [3, 3, 3, 5]
def strB : List (List Int32) := [[108, 101, 116], [114, 101, 118], [102, 105, 98], [109, 111, 114, 115, 101]]
def strR : List (Nat × String × Nat) := [(325, "let", 0), (331, "rev", 1), (333, "fib", 2), (386, "morse", 3)]
def EXW (ad : Nat → Nat → Nat) (adV : Nat → Nat) (U : State) (H : Heap) : Prop :=
  vk_S 4 strL strB (ad 60) adV (Aad ad) U H ∧ va_Z "java/lang/String" "COMPACT_STRINGS" "Z" (.int 1) (Aad ad) U H
def KW (D : va_G) (cA : Nat → ClassId) (ad : Nat → Nat → Nat) (adV : Nat → Nat) (U : State) (H : Heap) : Prop :=
  va_K D vwCl (tysW cA) U ∧ (∀ w ∈ nestL, va_Nw w U) ∧ EXW ad adV U H ∧ ∀ q ∈ strR, vk_R "WordRunsModel" q.1 q.2.1 (ad 60 q.2.2) U
theorem nest_warm {s U : State} (hW : s.WarmedH U.vm) (h : ∀ w ∈ nestL, va_Nw w s) : ∀ w ∈ nestL, va_Nw w U := by
  intro w hw
  have h1 := h w hw
  simp only [nestL, List.mem_cons, List.not_mem_nil, or_false] at hw
  rcases hw with rfl | rfl | rfl | rfl <;> exact va_Nw.warmF hW h1
theorem nest_same {s U : State} (hv : s.vm = U.vm) (h : ∀ w ∈ nestL, va_Nw w s) : ∀ w ∈ nestL, va_Nw w U := by
  intro w hw
  have h1 := h w hw
  simp only [nestL, List.mem_cons, List.not_mem_nil, or_false] at hw
  rcases hw with rfl | rfl | rfl | rfl <;> exact va_Nw.same rfl hv h1
/-- the tables' facts at a later state: the classes alike, the heap the same but for the small world -/
theorem KW.warm {D : va_G} {cA : Nat → ClassId} {ad : Nat → Nat → Nat} {adV : Nat → Nat} {s U : State} {H : Heap} {locs : List Loc} (hW : s.WarmedH U.vm) (h : KW D cA ad adV s s.heap) (hS : va_S (Aad ad) s.heap H locs) : KW D cA ad adV U H := by
  obtain ⟨h1, h2, ⟨h3, h4⟩, h5⟩ := h
  exact ⟨va_K.moved hW.alike h1, nest_warm hW h2, ⟨(h3.kept hS.2.1).moved hW.alike, (h4.kept hS.2.1).moved hW.alike⟩, fun q hq => (h5 q hq).warm hW⟩
theorem KW.blind {D : va_G} {cA : Nat → ClassId} {ad : Nat → Nat → Nat} {adV : Nat → Nat} {s U : State} {H : Heap} (hv : U.vm = s.vm) (h : KW D cA ad adV s H) : KW D cA ad adV U H := by
  obtain ⟨h1, h2, ⟨h3, h4⟩, h5⟩ := h
  have hal : s.vm.Alike U.vm := by rw [hv]; exact Vm.Alike.refl _
  exact ⟨va_K.moved hal h1, nest_same hv.symm h2, ⟨h3.moved hal, h4.moved hal⟩, fun q hq => (h5 q hq).same hv⟩
/-- the locals -/
def lvl (ad : Nat → Nat → Nat) : Nat → List AV → List (Nat × Value)
  | _, [] => []
  | i, none :: r => lvl ad (i + 1) r
  | i, some v :: r => (i, cv ad (some v)) :: lvl ad (i + 1) r
def LH (ad : Nat → Nat → Nat) (ls : Array Slot) (nL : Nat) (L : List AV) : Prop := lv_has ls nL (lvl ad 0 L) ∧ L.length = nL
theorem lvl_gl {ad : Nat → Nat → Nat} {L : List AV} : ∀ {i b : Nat} {v}, gl L i = some v → (b + i, cv ad (some v)) ∈ lvl ad b L := by
  induction L with
  | nil => intro i b v h; cases h
  | cons a L ih =>
    intro i b v h
    cases i with
    | zero =>
      have h : a = some v := h
      subst h
      exact List.mem_cons_self
    | succ i =>
      have h : gl L i = some v := h
      have h1 := ih (b := b + 1) h
      have e : b + 1 + i = b + (i + 1) := by omega
      rw [e] at h1
      cases a with
      | none => exact h1
      | some w => exact List.mem_cons_of_mem _ h1
theorem LH.at {ad : Nat → Nat → Nat} {ls : Array Slot} {nL : Nat} {L : List AV} (h : LH ad ls nL L) {i : Nat} {v} (hg : gl L i = some v) : ls[i]? = some (.val (cv ad (some v))) := by
  have h1 := lvl_gl (ad := ad) (b := 0) hg
  rw [Nat.zero_add] at h1
  exact h.1.2.2 _ h1
theorem sl_length {L : List AV} : ∀ {i : Nat} {v : AV}, (sl L i v).length = L.length := by
  induction L with
  | nil => intro i v; rfl
  | cons a L ih =>
    intro i v
    cases i with
    | zero => rfl
    | succ i => simp [sl, ih]
theorem lvl_sl {ad : Nat → Nat → Nat} {L : List AV} : ∀ {i b : Nat} {v : AV} {q : Nat × Value}, q ∈ lvl ad b (sl L i v) → (q = (b + i, cv ad v) ∧ v ≠ none) ∨ (q ∈ lvl ad b L ∧ q.1 ≠ b + i) := by
  have lo : ∀ (L : List AV) (b : Nat) (q : Nat × Value), q ∈ lvl ad b L → b ≤ q.1 := by
    intro L
    induction L with
    | nil => intro b q h; cases h
    | cons a L ih =>
      intro b q h
      cases a with
      | none => have := ih (b + 1) q h; omega
      | some w =>
        rcases List.mem_cons.mp h with rfl | h
        · exact Nat.le_refl _
        · have := ih (b + 1) q h; omega
  induction L with
  | nil => intro i b v q h; cases h
  | cons a L ih =>
    intro i b v q h
    cases i with
    | zero =>
      have h : q ∈ lvl ad b (v :: L) := h
      have hL : q ∈ lvl ad (b + 1) L → (q = (b + 0, cv ad v) ∧ v ≠ none) ∨ (q ∈ lvl ad b (a :: L) ∧ q.1 ≠ b + 0) := by
        intro g
        have := lo L _ _ g
        refine Or.inr ⟨?_, by omega⟩
        cases a with
        | none => exact g
        | some w => exact List.mem_cons_of_mem _ g
      cases v with
      | none => exact hL h
      | some w =>
        rcases List.mem_cons.mp h with rfl | h
        · exact Or.inl ⟨rfl, by simp⟩
        · exact hL h
    | succ i =>
      have h : q ∈ lvl ad b (a :: sl L i v) := h
      have hL : q ∈ lvl ad (b + 1) (sl L i v) → (q = (b + (i + 1), cv ad v) ∧ v ≠ none) ∨ (q ∈ lvl ad b (a :: L) ∧ q.1 ≠ b + (i + 1)) := by
        intro h
        rcases ih h with ⟨e, h2⟩ | ⟨h1, h2⟩
        · exact Or.inl ⟨by rw [e]; congr 1; omega, h2⟩
        · refine Or.inr ⟨?_, by omega⟩
          cases a with
          | none => exact h1
          | some w => exact List.mem_cons_of_mem _ h1
      cases a with
      | none => exact hL h
      | some w =>
        rcases List.mem_cons.mp h with rfl | h
        · exact Or.inr ⟨List.mem_cons_self, by show b ≠ b + (i + 1); omega⟩
        · exact hL h
theorem nl_cat {ad : Nat → Nat → Nat} {L : List AV} : ∀ {b : Nat}, nl L = true → ∀ q ∈ lvl ad b L, q.2.category = 1 := by
  induction L with
  | nil => intro b _ q h; cases h
  | cons a L ih =>
    intro b h q hq
    unfold nl at h
    split at h
    · cases h
    · next hn =>
      cases a with
      | none => exact ih h q hq
      | some w =>
        rcases List.mem_cons.mp hq with rfl | hq
        · rcases w with x | x | x
          · rfl
          · cases hn
          · rfl
        · exact ih h q hq
theorem LH.set {ad : Nat → Nat → Nat} {ls ls' : Array Slot} {nL i : Nat} {L : List AV} {v} (h : LH ad ls nL L) (hn : nl L = true) (h' : lv_has ls' nL ((i, cv ad (some v)) :: (lvl ad 0 L).filter (fun q => !(q.1 == i) && !(q.1 + 1 == i && q.2.category == 2)))) : LH ad ls' nL (sl L i (some v)) := by
  refine ⟨⟨h'.1, h'.2.1, fun q hq => h'.2.2 q ?_⟩, sl_length.trans h.2⟩
  rcases lvl_sl hq with ⟨e, -⟩ | ⟨h1, h2⟩
  · rw [Nat.zero_add] at e
    rw [e]; exact List.mem_cons_self
  · refine List.mem_cons_of_mem _ (List.mem_filter.mpr ⟨h1, ?_⟩)
    have h3 := nl_cat hn q h1
    have h4 : q.1 ≠ i := by omega
    simp [h3, h4]
/-- the place of a value in the list of locals -/
theorem lvl_ix {ad : Nat → Nat → Nat} {L : List AV} {i : Nat} {v} (hg : gl L i = some v) : ∃ k : Nat, (lvl ad 0 L)[k]? = some (i, cv ad (some v)) := by
  have h1 := lvl_gl (ad := ad) (b := 0) hg
  rw [Nat.zero_add] at h1
  exact List.mem_iff_getElem?.mp h1
theorem gl_lt {L : List AV} : ∀ {i : Nat} {v}, gl L i = some v → i < L.length := by
  induction L with
  | nil => intro i v h; cases h
  | cons a L ih =>
    intro i v h
    cases i with
    | zero => exact Nat.succ_pos _
    | succ i => exact Nat.succ_lt_succ (ih h)
abbrev okVs (L : List AV) : Prop := ∀ v ∈ L, okV v
theorem okVs_gl {L : List AV} (h : okVs L) {i : Nat} {v} (hg : gl L i = some v) : okV (some v) := by
  induction L generalizing i with
  | nil => cases hg
  | cons a L ih =>
    cases i with
    | zero =>
      have hg : a = some v := hg
      exact h _ (by rw [← hg]; exact List.mem_cons_self)
    | succ i => exact ih (fun v hv => h v (List.mem_cons_of_mem _ hv)) hg
theorem okVs_sl {L : List AV} (h : okVs L) {i : Nat} {v : AV} (hv : okV v) : okVs (sl L i v) := by
  induction L generalizing i with
  | nil => exact h
  | cons a L ih =>
    cases i with
    | zero =>
      intro w hw
      rcases List.mem_cons.mp hw with rfl | hw
      · exact hv
      · exact h w (List.mem_cons_of_mem _ hw)
    | succ i =>
      intro w hw
      rcases List.mem_cons.mp hw with rfl | hw
      · exact h _ List.mem_cons_self
      · exact ih (fun v hv => h v (List.mem_cons_of_mem _ hv)) w hw
theorem isL_cat {ad : Nat → Nat → Nat} {v} (h : isL (some v) = false) : (cv ad (some v)).category = 1 := by
  rcases v with x | x | x
  · rfl
  · cases h
  · rfl
theorem cs_sum {ad : Nat → Nat → Nat} {r : List AV} : ((r.map (cv ad)).map fun v => v.category).sum ≤ cs r := by
  induction r with
  | nil => exact Nat.le_refl _
  | cons a r ih =>
    simp only [List.map_cons, List.sum_cons, cs]
    generalize (List.map (fun v => v.category) (List.map (cv ad) r)).sum = z at ih ⊢
    rcases a with _ | x | x | x <;> simp only [isL, cv, Value.category] <;> omega
end
section
/-! contracts; what is checked of a method's code; the rows of calls, fields and arrays -/
def rmD (d : Nat) : Room := { frames := d, cells := 0, slots := 0, locals := 64 * d }
def wsM (I : MI) : List Cond := Cond.code I.1 I.2.1 I.2.2.1 I.2.2.2.1 :: TBL
def PcM (D : va_G) (cA : Nat → ClassId) (ad : Nat → Nat → Nat) (adV : Nat → Nat) (as : List AV) (σ : SS) : Array Value → State → Prop := va_Pc (as.map (cv ad)) (fun U => KW D cA ad adV U U.heap ∧ va_P D vwCl (wsW ad cA σ) U.heap)
def QcM (D : va_G) (cA : Nat → ClassId) (ad : Nat → Nat → Nat) (K : AV → SS → Prop) : Array Value → State → Outcome → State → Prop := fun _ st oc t =>
  (∃ (r : AV) (σ' : SS), okV r ∧ okS σ' ∧ oc = .returned (rv ad r) ∧ va_P D vwCl (wsW ad cA σ') t.heap ∧ K r σ') ∧ va_F (Aad ad) st t
def okM (I : MI) : Bool := plainName I.1.cls && decide (I.1.cls ≠ "java/lang/invoke/MethodHandle") && decide (I.1.cls ≠ "java/lang/invoke/VarHandle") && Nat.ble I.2.2.1 40 && (match I.2.2.2.2 with
  | [(a0, b0), (a1, b1), (a2, b2), (a3, b3)] => wk a0 b0 (.instanceMethod I.1) && wk a1 b1 (.selects I.1.cls I.1 I.1) && wk a2 b2 (.initialized I.1.cls) && wk a3 b3 (.code I.1 I.2.1 I.2.2.1 I.2.2.2.1)
  | [(a0, b0), (a2, b2), (a3, b3)] => wk a0 b0 (.static I.1) && wk a2 b2 (.initialized I.1.cls) && wk a3 b3 (.code I.1 I.2.1 I.2.2.1 I.2.2.2.1)
  | _ => false)
/-- THE CONTRACT: a method of rank d that is called with these arguments in this state comes to an end that K asks for -/
def Holds (d : Nat) (I : MI) (G : GS) : Prop := okM I = true ∧ ∀ (l : Launch) (D : va_G) (cA : Nat → ClassId) (ad : Nat → Nat → Nat) (adV : Nat → Nat), adI ad → ∀ (as : List AV) (σ : SS) (K : AV → SS → Prop), okVs as → okS σ → G as σ K →
  Met l I.1 (wsM I) (rmD d) (PcM D cA ad adV as σ) (QcM D cA ad K) 0 0 (Aad ad)
def ilen (i : Instr) : Nat := match i with
  | .iload _ => 2 | .aload _ => 2 | .lload _ => 2 | .istore _ => 2 | .iinc _ _ => 3 | .bipush _ => 2 | .sipush _ => 3 | .ldc _ => 2 | .ldc_w _ => 3 | .ldc2_w _ => 3
  | .getfield _ => 3 | .putfield _ => 3 | .goto _ => 3 | .ifCond _ _ => 3 | .if_icmp _ _ => 3 | .invokevirtual _ => 3 | .invokestatic _ => 3
  | _ => 1
def nx (C : List EI) (k pc len : Nat) : Bool := match C[k + 1]? with
  | some q => decide (q.1 = pc + len)
  | none => false
def tg (C : List EI) (t pc : Nat) (off : Int) : Bool := match C[t]? with
  | some q => decide ((pc : Int) + off = (q.1 : Int))
  | none => false
def tgs (C : List EI) (pc : Nat) : List Nat → List Int → Bool
  | [], [] => true
  | t :: ts, o :: os => tg C t pc o && tgs C pc ts os
  | _, _ => false
def okG (own : String) (cp : Nat) (x : List Nat) : Bool := match x with
  | [0, ci, f, a, b] => (match vwCl[ci]? with
    | some (_, T, n) => decide (f < n) && wk a b (.fieldLink own cp (T f).1 (T f).2.1 (T f).2.2.1)
    | none => false)
  | [1, ci, f, a, _] => (match vwCl[ci]? with
    | some (_, T, n) => decide (f < n) && decide (nestL[a]? = some (.fieldLinkNest own cp (T f).1 (T f).2.1 (T f).2.2.1 "WordRuns"))
    | none => false)
  | _ => false
def okP (own : String) (cp : Nat) (x : List Nat) : Bool := match x with
  | [0, ci, f, a, b] => (match vwCl[ci]? with
    | some (_, T, n) => decide (f < n) && wk a b (.fieldLink own cp (T f).1 (T f).2.1 (T f).2.2.1) && decide ((T f).2.2.2 = false) && decide (rfo ci f = none) && (match isZ ci f with
      | true => decide (parseFieldDescriptor (T f).2.2.1 = some .boolean)
      | false => decide (parseFieldDescriptor (T f).2.2.1 = some .int))
    | none => false)
  | _ => false
def okIV (own : String) (mis : List MI) (cp : Nat) (x : List Nat) : Bool := match x with
  | [ci, na, tc, _, _, a, b] => (match mis[ci]? with
    | some I => wk a b (.methodLink own cp I.1) && decide ((parseMethodDescriptor I.1.desc).map (fun d => d.parameters.length) = some na) && decide (I.2.2.2.2.length = 4) && (match vwCl[tc]? with
      | some q => decide (q.1 = I.1.cls)
      | none => decide (tc = 60) && decide (I.1.cls = "java/lang/String"))
    | none => false)
  | _ => false
def okIS (own : String) (mis : List MI) (cp : Nat) (x : List Nat) : Bool := match x with
  | [ci, na, _, _, a, b] => (match mis[ci]? with
    | some I => wk a b (.methodLink own cp I.1) && decide ((parseMethodDescriptor I.1.desc).map (fun d => d.parameters.length) = some na) && decide (I.2.2.2.2.length = 3)
    | none => false)
  | [0, a, b] => wk a b (.methodLink own cp Lib.Math.max.name)
  | [1, a, b] => wk a b (.methodLink own cp Lib.Math.min.name)
  | _ => false
def okJ (C : List EI) (pc : Nat) (off : Int) (x : List Nat) : Bool := match x with
  | [t] => tg C t pc off
  | _ => false
def okT (C : List EI) (pc : Nat) (d lo hi : Int) (offs : Array Int) (x : List Nat) : Bool := match x with
  | dt :: ts => tg C dt pc d && decide (hi + 1 = lo + offs.size) && tgs C pc ts offs.toList
  | _ => false
def okK (C : List EI) (pc : Nat) (d : Int) (ps : Array (Int × Int)) (x : List Nat) : Bool := match x with
  | dt :: ts => tg C dt pc d && (ps.toList.zip (ps.toList.drop 1)).all (fun (a, next) => a.1 < next.1) && tgs C pc ts (ps.toList.map (fun z => z.2))
  | _ => false
def okL1 (own : String) (cp : Nat) (x : List Nat) : Bool := match x with
  | [0, v, a, b] => wk a b (.constant own cp (Int32.ofInt (v : Int))) && decide (v < 2147483648)
  | _ => false
def okL2 (own : String) (cp : Nat) (x : List Nat) : Bool := match x with
  | [1, i] => decide (own = "WordRunsModel") && decide (i < 4) && (match strR[i]? with
    | some z => decide (z.1 = cp) && decide (z.2.2 = i)
    | none => false)
  | _ => false
def okL3 (own : String) (cp : Nat) (x : List Nat) : Bool := match x with
  | [v, a, b] => wk a b (.constantLong own cp (Int64.ofInt (v : Int))) && decide (v < 2147483648)
  | _ => false
def okE (own : String) (mis : List MI) (cc : ByteArray) (rt nL : Nat) (C : List EI) (k : Nat) (q : EI) : Bool := decide (decode cc q.1 = .ok (q.2.1, q.2.2.1)) && (match q.2.1 with
  | .goto off => Nat.beq q.2.2.1 3 && okJ C q.1 off q.2.2.2
  | .ifCond _ off => Nat.beq q.2.2.1 3 && nx C k q.1 3 && okJ C q.1 off q.2.2.2
  | .if_icmp _ off => Nat.beq q.2.2.1 3 && nx C k q.1 3 && okJ C q.1 off q.2.2.2
  | .tableswitch d lo hi offs => okT C q.1 d lo hi offs q.2.2.2
  | .lookupswitch d ps => okK C q.1 d ps q.2.2.2
  | .ireturn => Nat.beq q.2.2.1 1 && (Nat.beq rt 1 || Nat.beq rt 2)
  | .areturn => Nat.beq q.2.2.1 1
  | .return_ => Nat.beq q.2.2.1 1
  | .bipush n => Nat.beq q.2.2.1 2 && nx C k q.1 2 && decide (-128 ≤ n ∧ n ≤ 127)
  | .sipush n => Nat.beq q.2.2.1 3 && nx C k q.1 3 && decide (-32768 ≤ n ∧ n ≤ 32767)
  | .iconst n => Nat.beq q.2.2.1 1 && nx C k q.1 1 && decide (-128 ≤ n ∧ n ≤ 127)
  | .getfield cp => Nat.beq q.2.2.1 3 && nx C k q.1 3 && okG own cp q.2.2.2
  | .putfield cp => Nat.beq q.2.2.1 3 && nx C k q.1 3 && okP own cp q.2.2.2
  | .invokevirtual cp => Nat.beq q.2.2.1 3 && nx C k q.1 3 && okIV own mis cp q.2.2.2
  | .invokestatic cp => Nat.beq q.2.2.1 3 && nx C k q.1 3 && okIS own mis cp q.2.2.2
  | .istore_n n => Nat.beq q.2.2.1 1 && nx C k q.1 1 && Nat.blt n.val nL
  | .istore n => Nat.beq q.2.2.1 2 && nx C k q.1 2 && Nat.blt n nL
  | .astore_n n => Nat.beq q.2.2.1 1 && nx C k q.1 1 && Nat.blt n.val nL
  | .ldc cp => Nat.beq q.2.2.1 2 && nx C k q.1 2 && okL1 own cp q.2.2.2
  | .ldc_w cp => Nat.beq q.2.2.1 3 && nx C k q.1 3 && (okL1 own cp q.2.2.2 || okL2 own cp q.2.2.2)
  | .ldc2_w cp => Nat.beq q.2.2.1 3 && nx C k q.1 3 && okL3 own cp q.2.2.2
  | ins => Nat.beq q.2.2.1 (ilen ins) && nx C k q.1 (ilen ins))
def okC (own : String) (mis : List MI) (cc : ByteArray) (rt nL : Nat) (C : List EI) : Bool := (List.range C.length).all (fun k => match C[k]? with
  | some q => okE own mis cc rt nL C k q
  | none => false)
section RTS
variable {p : Program} {l : Launch} {e : Env} {R : Room} {s : State} {m : MethodId} {args : Array Value} {below : List Frame} {meth : Method} {c : Code} {D : va_G} {cA : Nat → ClassId} {ad : Nat → Nat → Nat} {adV : Nat → Nat} {nL cells slots : Nat} {Qf : State → Prop} {cc : ByteArray} {own : String} {sc : Option (Int × (Int → Int))}
/-- from this instruction, with these locals, this stack, this state, the machine comes to Qf -/
def RT (p : Program) (l : Launch) (e : Env) (R : Room) (s : State) (m : MethodId) (args : Array Value) (below : List Frame) (meth : Method) (c : Code) (D : va_G) (cA : Nat → ClassId) (ad : Nat → Nat → Nat) (nL cells slots : Nat) (Qf : State → Prop) (pc : Nat) (L st : List AV) (σ : SS) : Prop :=
  okVs L → okVs st → okS σ → ∀ (H : Heap) (locs : List Loc) (ls : Array Slot), va_P D vwCl (wsW ad cA σ) H → va_S (Aad ad) s.heap H locs → LH ad ls nL L → W p l e R s m args below meth c H locs cells slots Qf (F0 m pc ls (st.map (cv ad)))
def CX (p : Program) (R : Room) (s : State) (m : MethodId) (args : Array Value) (c : Code) (D : va_G) (cA : Nat → ClassId) (ad : Nat → Nat → Nat) (adV : Nat → Nat) (cc : ByteArray) (nL cells slots : Nat) (own : String) (sc : Option (Int × (Int → Int))) : Prop :=
  p.tables.exec = Jvm.exec ∧ c.code = cc ∧ c.maxLocals = nL ∧ s.vm.findClass own = some m.cls ∧ (∀ w ∈ TBL, w.before args s = true) ∧ KW D cA ad adV s s.heap ∧ adI ad ∧ (1 ≤ R.frames ∧ 21 ≤ R.locals ∧ cells ≤ R.cells ∧ slots ≤ R.slots) ∧
  (match sc with
    | none => True
    | some (n, xs) => ∃ len : Nat, n = (len : Int) ∧ len ≤ 4000 ∧ va_X (ad 61 0) len (fun j => Int32.ofInt (xs (j : Int))) s s.heap ∧ ad 61 0 < s.heap.size ∧ ¬ Aad ad (ad 61 0) ∧ ∀ j, InR (xs j))
theorem wk_hts {args : Array Value} {s : State} (hts : ∀ w ∈ TBL, w.before args s = true) {a b : Nat} {w : Cond} (h : wk a b w = true) : w.before args s = true := hts w (wk_tbl h)
theorem okVs_cons {v : AV} {r : List AV} (h : okVs (v :: r)) : okV v ∧ okVs r := ⟨h v List.mem_cons_self, fun w hw => h w (List.mem_cons_of_mem _ hw)⟩
theorem okVs_mk {v : AV} {r : List AV} (h : okV v) (hr : okVs r) : okVs (v :: r) := by
  intro w hw
  rcases List.mem_cons.mp hw with rfl | hw
  · exact h
  · exact hr w hw
/-- fields -/
theorem rt_getf (hC : CX p R s m args c D cA ad adV cc nL cells slots own sc) {pc cp ci f i : Nat} {x : List Nat} {L r : List AV} {σ : SS} (hd : decode cc pc = .ok (.getfield cp, 3)) (ho : okG own cp x = true) (hx1 : ∃ z y, x = z :: ci :: f :: y)
    (hw : match rfo ci f with
      | some (tt, oi) => RT p l e R s m args below meth c D cA ad nL cells slots Qf (pc + 3) L (vR tt (oi.getD i) :: r) σ
      | none => RT p l e R s m args below meth c D cA ad nL cells slots Qf (pc + 3) L (vI (σ (fc ci f) i 0) :: r) σ) :
    RT p l e R s m args below meth c D cA ad nL cells slots Qf pc L (vR ci i :: r) σ := by
  obtain ⟨hx, hb, hml, hown, hts, ⟨hK, hN, -, -⟩, hI, -, -⟩ := hC
  intro hL hst hσ H locs ls hP hS hLH
  obtain ⟨hi, hr⟩ := okVs_cons hst
  have hi : i < cnt ci := hi
  obtain ⟨z, y, rfl⟩ := hx1
  have key : ∃ q, vwCl[ci]? = some q ∧ f < q.2.2 ∧ ((∃ a b, wk a b (.fieldLink own cp (q.2.1 f).1 (q.2.1 f).2.1 (q.2.1 f).2.2.1) = true) ∨ Cond.fieldLinkNest own cp (q.2.1 f).1 (q.2.1 f).2.1 (q.2.1 f).2.2.1 "WordRuns" ∈ nestL) := by
    unfold okG at ho
    split at ho
    · next h =>
      cases h
      split at ho
      · next T n hq =>
        rw [Bool.and_eq_true, decide_eq_true_eq] at ho
        exact ⟨_, hq, ho.1, Or.inl ⟨_, _, ho.2⟩⟩
      · cases ho
    · next h =>
      cases h
      split at ho
      · next T n hq =>
        rw [Bool.and_eq_true, decide_eq_true_eq, decide_eq_true_eq] at ho
        exact ⟨_, hq, ho.1, Or.inr (List.mem_of_getElem? ho.2)⟩
      · cases ho
    · cases ho
  obtain ⟨q, hq, hf, hlink⟩ := key
  obtain ⟨k1, -, -, k4, k5⟩ := cl_ok ci q hq
  obtain ⟨q0, -, hat⟩ := wsW_at (ad := ad) (cA := cA) (σ := σ) (t := ci) (i := i) (by omega) hi
  unfold cellW at hat
  rw [if_pos k5] at hat
  have hv : ((List.range (nfl ci)).map (fun k => fvW ad σ ci i k))[f]? = some (fvW ad σ ci i f) := by
    rw [List.getElem?_map, List.getElem?_range (by omega)]
    rfl
  have hgo : W p l e R s m args below meth c H locs cells slots Qf (F0 m (pc + 3) ls (fvW ad σ ci i f :: r.map (cv ad))) := by
    unfold fvW
    have h33 := nfl_le ci k5
    split at hw
    · next tt oi hrf =>
      have h5 := rfo_ok (oi := oi) k5 (show f < 33 by omega) hrf hi
      rw [hrf]
      exact hw hL (okVs_mk (show okV (vR tt (oi.getD i)) from h5.2) hr) hσ H locs ls hP hS hLH
    · next hrf =>
      rw [hrf]
      exact hw hL (okVs_mk (show okV (vI _) from hσ _ _ _) hr) hσ H locs ls hP hS hLH
  rcases hlink with ⟨a, b, hl⟩ | hl
  · exact va_get (D := D) (ci := ci) (v := fvW ad σ ci i f) (C := q.1) (T := q.2.1) (N := q.2.2) hx hb hts k1 hown hK hP q0 hat hq f hf (wk_hts hts hl) (fun _ h => h) hv hd hgo
  · exact va_getN (D := D) (ci := ci) (v := fvW ad σ ci i f) (C := q.1) (T := q.2.1) (N := q.2.2) hx hb hts k1 hown hK hP q0 hat hq f hf (va_Nw.use rfl (hN _ hl)) (fun _ h => h) hv hd hgo
theorem nar_z {x : Int} (h : 0 ≤ x ∧ x ≤ 1) : narrow .boolean (.int (Int32.ofInt x)) = .int (Int32.ofInt x) ∧ fits .boolean (.int (Int32.ofInt x)) = true := by
  rcases (by omega : x = 0 ∨ x = 1) with rfl | rfl <;> exact ⟨by decide, by decide⟩
theorem rt_putf (hC : CX p R s m args c D cA ad adV cc nL cells slots own sc) {pc cp ci f i : Nat} {x : List Nat} {L r : List AV} {σ : SS} {v : Int} (hd : decode cc pc = .ok (.putfield cp, 3)) (ho : okP own cp x = true) (hx1 : ∃ z y, x = z :: ci :: f :: y)
    (hw : putZ (isZ ci f) v (∀ σ' : SS, σ' = u3 σ (fc ci f) i 0 v → RT p l e R s m args below meth c D cA ad nL cells slots Qf (pc + 3) L r σ')) :
    RT p l e R s m args below meth c D cA ad nL cells slots Qf pc L (vI v :: vR ci i :: r) σ := by
  obtain ⟨hx, hb, hml, hown, hts, ⟨hK, hN, -, -⟩, hI, -, -⟩ := hC
  intro hL hst hσ H locs ls hP hS hLH
  obtain ⟨hv, hst2⟩ := okVs_cons hst
  obtain ⟨hi, hr⟩ := okVs_cons hst2
  have hi : i < cnt ci := hi
  have hv : InR v := hv
  obtain ⟨z, y, rfl⟩ := hx1
  have key : ∃ q, vwCl[ci]? = some q ∧ f < q.2.2 ∧ (∃ a b, wk a b (.fieldLink own cp (q.2.1 f).1 (q.2.1 f).2.1 (q.2.1 f).2.2.1) = true) ∧ (q.2.1 f).2.2.2 = false ∧ rfo ci f = none ∧ ∃ ty, parseFieldDescriptor (q.2.1 f).2.2.1 = some ty ∧ narrow ty (.int (Int32.ofInt v)) = .int (Int32.ofInt v) ∧ fits ty (.int (Int32.ofInt v)) = true ∧ (∀ σ' : SS, σ' = u3 σ (fc ci f) i 0 v → RT p l e R s m args below meth c D cA ad nL cells slots Qf (pc + 3) L r σ') := by
    unfold okP at ho
    split at ho
    · next h =>
      cases h
      split at ho
      · next T n hq =>
        simp only [Bool.and_eq_true, decide_eq_true_eq] at ho
        obtain ⟨⟨⟨⟨h1, h2⟩, h3⟩, h4⟩, h5⟩ := ho
        refine ⟨_, hq, h1, ⟨_, _, h2⟩, h3, h4, ?_⟩
        split at h5
        · next hz =>
          rw [hz] at hw
          exact ⟨_, of_decide_eq_true h5, (nar_z hw.1).1, (nar_z hw.1).2, hw.2⟩
        · next hz =>
          rw [hz] at hw
          exact ⟨_, of_decide_eq_true h5, rfl, rfl, hw⟩
      · cases ho
    · cases ho
  obtain ⟨q, hq, hf, ⟨a, b, hl⟩, hfin, hrf, ty, hty, hna, hfi, hw⟩ := key
  obtain ⟨k1, ⟨ty0, k2⟩, k3, k4, k5⟩ := cl_ok ci q hq
  obtain ⟨q0, hq0, hat⟩ := wsW_at (ad := ad) (cA := cA) (σ := σ) (t := ci) (i := i) (by omega) hi
  have hat2 := hat
  unfold cellW at hat
  rw [if_pos k5] at hat
  refine va_put (D := D) (ci := ci) (v := .int (Int32.ofInt v)) (C := q.1) (T := q.2.1) (N := q.2.2) hx hb hts k1 ty0 k2 k3 hown hK hP (wsW_D hI) hS q0 hat hq f hf (wk_hts hts hl) (fun _ h => h) hfin hty hna hfi (by simp; omega) hd (fun H1 locs1 hP1 _ hS1 => ?_)
  have hset := wsW_set (ad := ad) (cA := cA) (σ := σ) (σ' := u3 σ (fc ci f) i 0 v) hq0 (cellW_f k5 (by omega) hrf) (cellW_fo k5 (by omega))
  rw [hset] at hP1
  exact hw _ rfl hL hr (okS_u3 hσ hv) H1 locs1 ls hP1 hS1 hLH
/-- arrays -/
theorem arr_at {t i : Nat} {σ : SS} (h20 : 20 ≤ t) (h59 : t ≤ 59) (hi : i < cnt t) (h3 : aty t ≠ 3) : ∃ k : Nat, HL[k]? = some (t, i) ∧ (wsW ad cA σ)[k]? = some (ad t i, .inl (cA (aty t), (alen t).toNat, .inl (fun j : Nat => Int32.ofInt (σ t i (j : Int))))) := by
  obtain ⟨q0, hq0, hat⟩ := wsW_at (ad := ad) (cA := cA) (σ := σ) (t := t) (i := i) (by omega) hi
  unfold cellW at hat
  rw [if_neg (by omega), if_neg h3] at hat
  exact ⟨q0, hq0, hat⟩
theorem ix_ok {j : Int} {t : Nat} (h20 : 20 ≤ t) (h59 : t ≤ 59) (hj : InR j) (h : 0 ≤ j ∧ j < alen t) : vp_in (Int32.ofInt j) (alen t).toNat ∧ (((Int32.ofInt j).toNatClampNeg : Nat) : Int) = j := by
  have := alen_ok t (by omega)
  exact ⟨o32_in hj h.1 (by omega), by rw [o32_cl hj]; omega⟩
theorem tys_at {cA : Nat → ClassId} {k : Nat} {ty : FieldType} (h : [FieldType.int, .byte, .boolean, .object "WordRuns$Word"][k]? = some ty) : (tysW cA)[k]? = some (cA k, ty) := by
  match k, h with
  | 0, h => cases h; rfl
  | 1, h => cases h; rfl
  | 2, h => cases h; rfl
  | 3, h => cases h; rfl
  | n + 4, h => simp at h
theorem rt_ild (hC : CX p R s m args c D cA ad adV cc nL cells slots own sc) {pc t i : Nat} {L r : List AV} {σ : SS} {j : Int} (hd : decode cc pc = .ok (.iaload, 1)) (ha : aty t = 0) (h20 : 20 ≤ t) (h59 : t ≤ 59) (hj : 0 ≤ j ∧ j < alen t)
    (hw : RT p l e R s m args below meth c D cA ad nL cells slots Qf (pc + 1) L (vI (σ t i j) :: r) σ) : RT p l e R s m args below meth c D cA ad nL cells slots Qf pc L (vI j :: vR t i :: r) σ := by
  obtain ⟨hx, hb, hml, hown, hts, ⟨hK, hN, -, -⟩, hI, -, -⟩ := hC
  intro hL hst hσ H locs ls hP hS hLH
  obtain ⟨hv, hst2⟩ := okVs_cons hst
  obtain ⟨hi, hr⟩ := okVs_cons hst2
  obtain ⟨q0, -, hat⟩ := arr_at (ad := ad) (cA := cA) (σ := σ) h20 h59 (show i < cnt t from hi) (by omega)
  obtain ⟨g1, g2⟩ := ix_ok h20 h59 (show InR j from hv) hj
  rw [ha] at hat
  refine va_iald (i := Int32.ofInt j) hx hb hK hP q0 0 hat (tys_at rfl) g1 hd ?_
  rw [g2]
  exact hw hL (okVs_mk (show okV (vI _) from hσ _ _ _) hr) hσ H locs ls hP hS hLH
theorem rt_bld (hC : CX p R s m args c D cA ad adV cc nL cells slots own sc) {pc t i : Nat} {L r : List AV} {σ : SS} {j : Int} (hd : decode cc pc = .ok (.baload, 1)) (ha : aty t = 1 ∨ aty t = 2) (h20 : 20 ≤ t) (h59 : t ≤ 59) (hj : 0 ≤ j ∧ j < alen t)
    (hw : RT p l e R s m args below meth c D cA ad nL cells slots Qf (pc + 1) L (vI (σ t i j) :: r) σ) : RT p l e R s m args below meth c D cA ad nL cells slots Qf pc L (vI j :: vR t i :: r) σ := by
  obtain ⟨hx, hb, hml, hown, hts, ⟨hK, hN, -, -⟩, hI, -, -⟩ := hC
  intro hL hst hσ H locs ls hP hS hLH
  obtain ⟨hv, hst2⟩ := okVs_cons hst
  obtain ⟨hi, hr⟩ := okVs_cons hst2
  obtain ⟨q0, -, hat⟩ := arr_at (ad := ad) (cA := cA) (σ := σ) h20 h59 (show i < cnt t from hi) (by omega)
  obtain ⟨g1, g2⟩ := ix_ok h20 h59 (show InR j from hv) hj
  have hgo := hw hL (okVs_mk (show okV (vI _) from hσ _ _ _) hr) hσ H locs ls hP hS hLH
  rcases ha with ha | ha
  · rw [ha] at hat
    refine va_bald (i := Int32.ofInt j) hx hb hK hP q0 1 hat (tys_at rfl) g1 hd ?_
    rw [g2]
    exact hgo
  · rw [ha] at hat
    refine va_zald (i := Int32.ofInt j) hx hb hK hP q0 2 hat (tys_at rfl) g1 hd ?_
    rw [g2]
    exact hgo
theorem rt_ist (hC : CX p R s m args c D cA ad adV cc nL cells slots own sc) {pc t i : Nat} {L r : List AV} {σ : SS} {j v : Int} (hd : decode cc pc = .ok (.iastore, 1)) (ha : aty t = 0) (h20 : 20 ≤ t) (h59 : t ≤ 59) (hj : 0 ≤ j ∧ j < alen t)
    (hw : ∀ σ' : SS, σ' = u3 σ t i j v → RT p l e R s m args below meth c D cA ad nL cells slots Qf (pc + 1) L r σ') : RT p l e R s m args below meth c D cA ad nL cells slots Qf pc L (vI v :: vI j :: vR t i :: r) σ := by
  obtain ⟨hx, hb, hml, hown, hts, ⟨hK, hN, -, -⟩, hI, -, -⟩ := hC
  intro hL hst hσ H locs ls hP hS hLH
  obtain ⟨hv, hst1⟩ := okVs_cons hst
  obtain ⟨hj1, hst2⟩ := okVs_cons hst1
  obtain ⟨hi, hr⟩ := okVs_cons hst2
  obtain ⟨q0, hq0, hat⟩ := arr_at (ad := ad) (cA := cA) (σ := σ) h20 h59 (show i < cnt t from hi) (by omega)
  obtain ⟨g1, g2⟩ := ix_ok h20 h59 (show InR j from hj1) hj
  rw [ha] at hat
  refine va_iast (i := Int32.ofInt j) (x := Int32.ofInt v) hx hb hK hP (wsW_D hI) hS q0 0 hat (tys_at rfl) g1 hd (fun H1 locs1 hP1 _ hS1 => ?_)
  have hset := wsW_set (ad := ad) (cA := cA) (σ := σ) (σ' := u3 σ t i j v) hq0 (cellW_a (by omega) (by omega) hj.1) (cellW_ao (by omega) (by omega))
  rw [ha] at hset
  rw [o32_cl hj1] at hP1
  rw [hset] at hP1
  exact hw _ rfl hL hr (okS_u3 hσ hv) H1 locs1 ls hP1 hS1 hLH
theorem vn_b {v : Int} (h : -128 ≤ v ∧ v ≤ 127) : vp_nar .byte (Int32.ofInt v) = Int32.ofInt v := by
  rw [vp_nar_byte, o32_i2b _ (by omega)]
  unfold i2bI
  rw [Int.bmod_eq_of_le (by omega) (by omega)]
theorem vn_z {v : Int} (h : 0 ≤ v ∧ v ≤ 1) : vp_nar .boolean (Int32.ofInt v) = Int32.ofInt v := by
  rcases (by omega : v = 0 ∨ v = 1) with rfl | rfl <;> decide
theorem rt_bst (hC : CX p R s m args c D cA ad adV cc nL cells slots own sc) {pc t i : Nat} {L r : List AV} {σ : SS} {j v : Int} (hd : decode cc pc = .ok (.bastore, 1)) (ha : (aty t = 1 ∧ -128 ≤ v ∧ v ≤ 127) ∨ (aty t = 2 ∧ 0 ≤ v ∧ v ≤ 1)) (h20 : 20 ≤ t) (h59 : t ≤ 59) (hj : 0 ≤ j ∧ j < alen t)
    (hw : ∀ σ' : SS, σ' = u3 σ t i j v → RT p l e R s m args below meth c D cA ad nL cells slots Qf (pc + 1) L r σ') : RT p l e R s m args below meth c D cA ad nL cells slots Qf pc L (vI v :: vI j :: vR t i :: r) σ := by
  obtain ⟨hx, hb, hml, hown, hts, ⟨hK, hN, -, -⟩, hI, -, -⟩ := hC
  intro hL hst hσ H locs ls hP hS hLH
  obtain ⟨hv, hst1⟩ := okVs_cons hst
  obtain ⟨hj1, hst2⟩ := okVs_cons hst1
  obtain ⟨hi, hr⟩ := okVs_cons hst2
  obtain ⟨q0, hq0, hat⟩ := arr_at (ad := ad) (cA := cA) (σ := σ) h20 h59 (show i < cnt t from hi) (by omega)
  obtain ⟨g1, g2⟩ := ix_ok h20 h59 (show InR j from hj1) hj
  have hset := wsW_set (ad := ad) (cA := cA) (σ := σ) (σ' := u3 σ t i j v) hq0 (cellW_a (by omega) (by omega) hj.1) (cellW_ao (by omega) (by omega))
  rcases ha with ⟨ha, hb1⟩ | ⟨ha, hb1⟩
  · rw [ha] at hat hset
    refine va_bast (i := Int32.ofInt j) (x := Int32.ofInt v) hx hb hK hP (wsW_D hI) hS q0 1 hat (tys_at rfl) g1 hd (fun H1 locs1 hP1 _ hS1 => ?_)
    rw [o32_cl hj1, vn_b hb1] at hP1
    rw [hset] at hP1
    exact hw _ rfl hL hr (okS_u3 hσ hv) H1 locs1 ls hP1 hS1 hLH
  · rw [ha] at hat hset
    refine va_zast (i := Int32.ofInt j) (x := Int32.ofInt v) hx hb hK hP (wsW_D hI) hS q0 2 hat (tys_at rfl) g1 hd (fun H1 locs1 hP1 _ hS1 => ?_)
    rw [o32_cl hj1, vn_z hb1] at hP1
    rw [hset] at hP1
    exact hw _ rfl hL hr (okS_u3 hσ hv) H1 locs1 ls hP1 hS1 hLH
theorem rt_ald (hC : CX p R s m args c D cA ad adV cc nL cells slots own sc) {pc t i : Nat} {L r : List AV} {σ : SS} {j : Int} (hd : decode cc pc = .ok (.aaload, 1)) (ha : aty t = 3) (h20 : 20 ≤ t) (h59 : t ≤ 59) (hj : 0 ≤ j ∧ j < alen t)
    (hw : RT p l e R s m args below meth c D cA ad nL cells slots Qf (pc + 1) L (vR 10 (atg t + j.toNat) :: r) σ) : RT p l e R s m args below meth c D cA ad nL cells slots Qf pc L (vI j :: vR t i :: r) σ := by
  obtain ⟨hx, hb, hml, hown, hts, ⟨hK, hN, -, -⟩, hI, -, -⟩ := hC
  intro hL hst hσ H locs ls hP hS hLH
  obtain ⟨hv, hst2⟩ := okVs_cons hst
  obtain ⟨hi, hr⟩ := okVs_cons hst2
  obtain ⟨q0, hq0, hat⟩ := wsW_at (ad := ad) (cA := cA) (σ := σ) (t := t) (i := i) (by omega) (show i < cnt t from hi)
  unfold cellW at hat
  rw [if_neg (by omega), if_pos ha] at hat
  obtain ⟨g1, g2⟩ := ix_ok h20 h59 (show InR j from hv) hj
  refine va_aldq (i := Int32.ofInt j) hx hb hK hP q0 3 hat (tys_at rfl) g1 hd ?_
  rw [o32_cl hv]
  have hin : atg t + j.toNat < cnt 10 := by
    have key : ∀ t, t < 60 → aty t = 3 → (atg t : Int) + alen t ≤ (cnt 10 : Int) := by decide +kernel
    have := key t (by omega) ha
    omega
  exact hw hL (okVs_mk (show okV (vR 10 _) from hin) hr) hσ H locs ls hP hS hLH
theorem rt_alen (hC : CX p R s m args c D cA ad adV cc nL cells slots own sc) {pc t i : Nat} {L r : List AV} {σ : SS} (hd : decode cc pc = .ok (.arraylength, 1)) (h20 : 20 ≤ t) (h59 : t ≤ 59)
    (hw : RT p l e R s m args below meth c D cA ad nL cells slots Qf (pc + 1) L (vI (alen t) :: r) σ) : RT p l e R s m args below meth c D cA ad nL cells slots Qf pc L (vR t i :: r) σ := by
  obtain ⟨hx, hb, hml, hown, hts, ⟨hK, hN, -, -⟩, hI, -, -⟩ := hC
  intro hL hst hσ H locs ls hP hS hLH
  obtain ⟨hi, hr⟩ := okVs_cons hst
  obtain ⟨q0, hq0, hat⟩ := wsW_at (ad := ad) (cA := cA) (σ := σ) (t := t) (i := i) (by omega) (show i < cnt t from hi)
  have hal := alen_ok t (by omega)
  have hgo := hw hL (okVs_mk (show InR (alen t) by omega) hr) hσ H locs ls hP hS hLH
  have h4 := aty_lt t (by omega) (by have : i < cnt t := hi; omega) (by omega)
  unfold cellW at hat
  rw [if_neg (by omega)] at hat
  have hv : Int32.ofNat (alen t).toNat = Int32.ofInt (alen t) := (o32_nat hal.1).symm
  split at hat
  · next h3 => exact va_alen (v := Int32.ofInt (alen t)) hx hb hK hP q0 3 hat (tys_at rfl) hv hd hgo
  · next h3 =>
    rcases (by omega : aty t = 0 ∨ aty t = 1 ∨ aty t = 2) with h0 | h0 | h0
    · rw [h0] at hat
      exact va_alen (v := Int32.ofInt (alen t)) hx hb hK hP q0 0 hat (tys_at rfl) hv hd hgo
    · rw [h0] at hat
      exact va_alen (v := Int32.ofInt (alen t)) hx hb hK hP q0 1 hat (tys_at rfl) hv hd hgo
    · rw [h0] at hat
      exact va_alen (v := Int32.ofInt (alen t)) hx hb hK hP q0 2 hat (tys_at rfl) hv hd hgo
end RTS
end
section
/-! calls -/
theorem tk_spec : ∀ (n : Nat) (acc st as r : List AV), tk n acc st = some (as, r) → ∃ z, st = z ++ r ∧ as = z.reverse ++ acc ∧ z.length = n := by
  intro n
  induction n with
  | zero =>
    intro acc st as r h
    cases h
    exact ⟨[], rfl, rfl, rfl⟩
  | succ n ih =>
    intro acc st as r h
    cases st with
    | nil => cases h
    | cons v st =>
      obtain ⟨z, h1, h2, h3⟩ := ih (v :: acc) st as r h
      exact ⟨v :: z, by rw [h1]; rfl, by rw [h2]; simp, by simp [h3]⟩
theorem tk_0 {n : Nat} {st as r : List AV} (h : tk n [] st = some (as, r)) : st = as.reverse ++ r ∧ as.length = n := by
  obtain ⟨z, h1, h2, h3⟩ := tk_spec n [] st as r h
  rw [List.append_nil] at h2
  subst h2
  exact ⟨by rw [List.reverse_reverse]; exact h1, by simp [h3]⟩
theorem PcM_blind {D : va_G} {cA : Nat → ClassId} {ad : Nat → Nat → Nat} {adV : Nat → Nat} {as : List AV} {σ : SS} : FrameBlind (PcM D cA ad adV as σ) := by
  intro a U g mk h
  exact ⟨h.1, KW.blind (s := U) (H := U.heap) rfl h.2.1, h.2.2⟩
section RTC
variable {p : Program} {l : Launch} {e : Env} {R : Room} {s : State} {m : MethodId} {args : Array Value} {below : List Frame} {meth : Method} {c : Code} {D : va_G} {cA : Nat → ClassId} {ad : Nat → Nat → Nat} {adV : Nat → Nat} {nL cells slots : Nat} {Qf : State → Prop} {cc : ByteArray} {own : String} {sc : Option (Int × (Int → Int))}
theorem rt_back {pc rk rr : Nat} {L r : List AV} {st0 : List Value} {H : Heap} {locs : List Loc} {ls : Array Slot} {a : Array Value} {N : List AV → SS → Prop}
    (hr : va_Run p l e R s m args below meth c H locs cells slots 0 0 (F0 m pc ls st0) (r.map (cv ad)) (QcM D cA ad (resW rk rr r N) a) (Aad ad))
    (hS : va_S (Aad ad) s.heap H locs) (hL : okVs L) (hrr : okVs r) (hLH : LH ad ls nL L)
    (hN : ∀ st' σ', N st' σ' → RT p l e R s m args below meth c D cA ad nL cells slots Qf (pc + 3) L st' σ') :
    W p l e R s m args below meth c H locs cells slots Qf (F0 m pc ls st0) := by
  intro T hT X
  obtain ⟨v, st₀, t, T', Lc, h0, X', hLc, e1, e2, ⟨⟨r', σ', hr', hσ', hv, hP', hK'⟩, hF⟩, st⟩ := hr T hT X
  have hv : v = rv ad r' := by
    cases hv
    rfl
  have hS' : va_S (Aad ad) s.heap t.heap (locs ++ Lc) := by
    obtain ⟨f1, f2⟩ := hF
    rw [h0] at f1 f2
    refine ⟨Nat.le_trans hS.1 f1, fun q h1 h2 => ?_, fun q hq => ?_⟩
    · rw [f2 q (Nat.lt_of_lt_of_le h1 hS.1) h2]
      exact hS.2.1 q h1 h2
    · rcases List.mem_append.mp hq with h | h
      · exact hS.2.2 q h
      · exact hLc q h
  have key : ∃ st', okVs st' ∧ st'.map (cv ad) = v.toList ++ r.map (cv ad) ∧ N st' σ' := by
    unfold resW at hK'
    split at hK'
    · unfold kV at hK'
      split at hK'
      · subst hv
        exact ⟨r, hrr, rfl, hK' hσ'⟩
      · exact hK'.elim
    · unfold kI at hK'
      split at hK'
      · next x _ =>
        subst hv
        exact ⟨vI x :: r, okVs_mk hr' hrr, rfl, hK' hr' hσ'⟩
      · exact hK'.elim
    · unfold kR at hK'
      split at hK'
      · next t' i _ =>
        obtain ⟨rfl, hK'⟩ := hK'
        subst hv
        exact ⟨_, okVs_mk (show okV (vR t' i) from hr') hrr, rfl, hK' hr' hσ'⟩
      · exact hK'.elim
  obtain ⟨st', k1, k2, k3⟩ := key
  obtain ⟨t2, a1, b1⟩ := hN st' σ' k3 hL k1 hσ' t.heap (locs ++ Lc) ls hP' hS' hLH T' e1 X'
  rw [k2] at a1
  exact ⟨t2, st t2 a1, b1⟩
theorem ws_pay (hts : ∀ w ∈ TBL, w.before args s = true) {I : MI} (hc : Cond.code I.1 I.2.1 I.2.2.1 I.2.2.2.1 ∈ TBL) : ∀ w ∈ wsM I, ∀ (a' : Array Value) (U : State), s.WarmedH U.vm → w.before a' U = true := by
  intro w hw a' U hW
  have hw : w ∈ TBL := by
    rcases List.mem_cons.mp hw with rfl | hw
    · exact hc
    · exact hw
  exact word_at hW (TBL_good hw) (hts w hw)
theorem rt_callV (hC : CX p R s m args c D cA ad adV cc nL cells slots own sc) {pc cp ci na tc rk rr d' t i : Nat} {x : List Nat} {L st as r : List AV} {σ : SS} {mis : List MI} {I : MI} {G : GS} {N : List AV → SS → Prop}
    (hd : decode cc pc = .ok (.invokevirtual cp, 3)) (ho : okIV own mis cp x = true) (hx1 : ∃ y, x = ci :: na :: tc :: rk :: rr :: y) (hI : mis[ci]? = some I) (hH : Holds d' I G) (hfit : d' + 1 ≤ R.frames ∧ 64 * (d' + 1) ≤ R.locals)
    (htk : tk na [] st = some (as, vR t i :: r)) (ht : t = tc) (hcs : cs r ≤ 8) (hG : G (vR t i :: as) σ (resW rk rr r N))
    (hN : ∀ st' σ', N st' σ' → RT p l e R s m args below meth c D cA ad nL cells slots Qf (pc + 3) L st' σ') :
    RT p l e R s m args below meth c D cA ad nL cells slots Qf pc L st σ := by
  obtain ⟨hx, hb, hml, hown, hts, hKW, hadI, ⟨hR1, hR2, hR3, hR4⟩, -⟩ := hC
  intro hL hst hσ H locs ls hP hS hLH
  obtain ⟨hM, hH⟩ := hH
  obtain ⟨est, hna⟩ := tk_0 htk
  subst est
  subst ht
  have hst1 : okVs as := fun v hv => hst v (List.mem_append_left _ (List.mem_reverse.mpr hv))
  have hst2 : okVs (vR t i :: r) := fun v hv => hst v (List.mem_append_right _ hv)
  obtain ⟨hi, hrr⟩ := okVs_cons hst2
  have hi : i < cnt t := hi
  obtain ⟨y, rfl⟩ := hx1
  unfold okIV at ho
  split at ho
  · next a b hy =>
    cases hy
    rw [hI] at ho
    simp only [Bool.and_eq_true, decide_eq_true_eq] at ho
    obtain ⟨⟨⟨o1, o2⟩, o3⟩, o4⟩ := ho
    unfold okM at hM
    simp only [Bool.and_eq_true, decide_eq_true_eq] at hM
    obtain ⟨⟨⟨⟨m1, m2⟩, m3⟩, m4⟩, m5⟩ := hM
    have m4 := Nat.le_of_ble_eq_true m4
    split at m5
    · next a0 b0 a1 b1 a2 b2 a3 b3 hI5 =>
      simp only [Bool.and_eq_true] at m5
      obtain ⟨⟨⟨w1, w2⟩, w3⟩, w4⟩ := m5
      have hmet := hH l D cA ad adV hadI (vR t i :: as) σ (resW rk rr r N) (okVs_mk (show okV (vR t i) from hi) hst1) hσ hG
      have hcw : CallW R s args own I.1.cls cp I.1 I.2.1 I.2.2.1 I.2.2.2.1 (wsM I) (rmD d') 0 0 na := by
        refine ⟨⟨rfl, rfl, hfit.1, ?_, ws_pay hts (wk_tbl w4), List.mem_cons_self, wk_hts hts w4, wk_hts hts w3, ⟨m2, m3⟩, fun sig h => ?_, wk_hts hts o1⟩, wk_hts hts w1, wk_hts hts w2⟩
        · show 8 + (I.2.2.1 + 11) + 64 * d' ≤ R.locals
          omega
        · rw [h] at o2
          exact (Option.some.inj o2).symm
      have hpre : PreV s H I.1.cls (ad t i) (PcM D cA ad adV (vR t i :: as) σ) (as.map (cv ad)) := by
        refine ⟨PcM_blind, ?_, fun U hU hW => ⟨rfl, ?_, by rw [hU]; exact hP⟩⟩
        · split at o4
          · next q hq =>
            rw [← of_decide_eq_true o4]
            have h13 := (cl_ok t q hq).2.2.2.2
            obtain ⟨q0, -, hat⟩ := wsW_at (ad := ad) (cA := cA) (σ := σ) (t := t) (i := i) (by omega) hi
            unfold cellW at hat
            rw [if_pos h13] at hat
            exact va_recv hKW.1 hP hq hat
          · simp only [Bool.and_eq_true, decide_eq_true_eq] at o4
            rw [o4.2, o4.1]
            rw [o4.1] at hi
            exact vk_recv hKW.2.2.1.1 hi hS
        · rw [hU]
          exact KW.warm hW hKW hS
      have hrun := va_runV (As := as.map (cv ad)) (rest := r.map (cv ad)) (g := F0 m pc ls ((as.reverse ++ vR t i :: r).map (cv ad))) (cells := cells) (slots := slots) (H := H) (locs := locs) (e := e) (below := below) (meth := meth) (C := I.1.cls) (b := ad t i) (nL := nL) (cc := cc) (Ts := TBL) ⟨hx, hb, hml, hown, hts⟩ hmet hcw hpre rfl (by simp [hna]) hLH.1.1 (by simp [cv]) (by
        show 2 * 0 + _ ≤ 8
        have := cs_sum (ad := ad) (r := r)
        omega) hd ⟨by omega, by omega⟩
      exact rt_back hrun hS hL hrr hLH hN
    · next hI5 =>
      rw [hI5] at o3
      cases o3
    · cases m5
  · cases ho
theorem rt_callS (hC : CX p R s m args c D cA ad adV cc nL cells slots own sc) {pc cp ci na rk rr d' : Nat} {x : List Nat} {L st as r : List AV} {σ : SS} {mis : List MI} {I : MI} {G : GS} {N : List AV → SS → Prop}
    (hd : decode cc pc = .ok (.invokestatic cp, 3)) (ho : okIS own mis cp x = true) (hx1 : ∃ y1 y2 y, x = ci :: na :: rk :: rr :: y1 :: y2 :: y) (hI : mis[ci]? = some I) (hH : Holds d' I G) (hfit : d' + 1 ≤ R.frames ∧ 64 * (d' + 1) ≤ R.locals)
    (htk : tk na [] st = some (as, r)) (hcs : cs r ≤ 8) (hG : G as σ (resW rk rr r N))
    (hN : ∀ st' σ', N st' σ' → RT p l e R s m args below meth c D cA ad nL cells slots Qf (pc + 3) L st' σ') :
    RT p l e R s m args below meth c D cA ad nL cells slots Qf pc L st σ := by
  obtain ⟨hx, hb, hml, hown, hts, hKW, hadI, ⟨hR1, hR2, hR3, hR4⟩, -⟩ := hC
  intro hL hst hσ H locs ls hP hS hLH
  obtain ⟨hM, hH⟩ := hH
  obtain ⟨est, hna⟩ := tk_0 htk
  subst est
  have hst1 : okVs as := fun v hv => hst v (List.mem_append_left _ (List.mem_reverse.mpr hv))
  have hrr : okVs r := fun v hv => hst v (List.mem_append_right _ hv)
  obtain ⟨y1, y2, y, rfl⟩ := hx1
  unfold okIS at ho
  split at ho
  · next a b hy =>
    cases hy
    rw [hI] at ho
    simp only [Bool.and_eq_true, decide_eq_true_eq] at ho
    obtain ⟨⟨o1, o2⟩, o3⟩ := ho
    unfold okM at hM
    simp only [Bool.and_eq_true, decide_eq_true_eq] at hM
    obtain ⟨⟨⟨⟨m1, m2⟩, m3⟩, m4⟩, m5⟩ := hM
    have m4 := Nat.le_of_ble_eq_true m4
    split at m5
    · next hI5 =>
      rw [hI5] at o3
      cases o3
    · next a0 b0 a2 b2 a3 b3 hI5 =>
      simp only [Bool.and_eq_true] at m5
      obtain ⟨⟨w1, w3⟩, w4⟩ := m5
      have hmet := hH l D cA ad adV hadI as σ (resW rk rr r N) hst1 hσ hG
      have hcw : CallB R s args own cp I.1 I.2.1 I.2.2.1 I.2.2.2.1 (wsM I) (rmD d') 0 0 na ∧ (Cond.static I.1).before args s = true := by
        refine ⟨⟨rfl, rfl, hfit.1, ?_, ws_pay hts (wk_tbl w4), List.mem_cons_self, wk_hts hts w4, wk_hts hts w3, ⟨m2, m3⟩, fun sig h => ?_, wk_hts hts o1⟩, wk_hts hts w1⟩
        · show 8 + (I.2.2.1 + 11) + 64 * d' ≤ R.locals
          omega
        · rw [h] at o2
          exact (Option.some.inj o2).symm
      have hpre : PreS s H (PcM D cA ad adV as σ) (as.map (cv ad)) := by
        refine ⟨PcM_blind, fun U hU hW => ⟨rfl, ?_, by rw [hU]; exact hP⟩⟩
        rw [hU]
        exact KW.warm hW hKW hS
      have hrun := va_runS (As := as.map (cv ad)) (rest := r.map (cv ad)) (g := F0 m pc ls ((as.reverse ++ r).map (cv ad))) (cells := cells) (slots := slots) (H := H) (locs := locs) (e := e) (below := below) (meth := meth) (nL := nL) (cc := cc) (Ts := TBL) ⟨hx, hb, hml, hown, hts⟩ hmet hcw hpre rfl (by simp [hna]) hLH.1.1 (by simp) (by
        show 2 * 0 + _ ≤ 8
        have := cs_sum (ad := ad) (r := r)
        omega) hd ⟨by omega, by omega⟩
      exact rt_back hrun hS hL hrr hLH hN
    · cases m5
  · next hy => cases hy
  · next hy => cases hy
  · cases ho
end RTC
end
section
/-! every instruction; the whole of a method's code; loops -/
section RTM
variable {p : Program} {l : Launch} {e : Env} {R : Room} {s : State} {m : MethodId} {args : Array Value} {below : List Frame} {meth : Method} {c : Code} {D : va_G} {cA : Nat → ClassId} {ad : Nat → Nat → Nat} {adV : Nat → Nat} {nL cells slots : Nat} {Qf : State → Prop} {cc : ByteArray} {own : String} {sc : Option (Int × (Int → Int))}
def RetOK (p : Program) (l : Launch) (e : Env) (R : Room) (s : State) (m : MethodId) (args : Array Value) (below : List Frame) (meth : Method) (c : Code) (D : va_G) (cA : Nat → ClassId) (ad : Nat → Nat → Nat) (cells slots : Nat) (Qf : State → Prop) (cc : ByteArray) (rt : Nat) (K : AV → SS → Prop) : Prop :=
  ∀ (pc : Nat) (σ : SS) (H : Heap) (locs : List Loc) (ls : Array Slot), okS σ → va_P D vwCl (wsW ad cA σ) H → va_S (Aad ad) s.heap H locs →
  (∀ v, InR v → (rt = 1 ∨ rt = 2 ∧ 0 ≤ v ∧ v ≤ 1) → K (vI v) σ → decode cc pc = .ok (.ireturn, 1) → W p l e R s m args below meth c H locs cells slots Qf (F0 m pc ls [.int (Int32.ofInt v)])) ∧
  (∀ t i, i < cnt t → rt = 3 → K (vR t i) σ → decode cc pc = .ok (.areturn, 1) → W p l e R s m args below meth c H locs cells slots Qf (F0 m pc ls [.ref (ad t i)])) ∧
  (rt = 0 → K none σ → decode cc pc = .ok (.return_, 1) → W p l e R s m args below meth c H locs cells slots Qf (F0 m pc ls []))
theorem nx_at {C : List EI} {k pc len : Nat} (h : nx C k pc len = true) : ∃ q, C[k + 1]? = some q ∧ q.1 = pc + len := by
  unfold nx at h
  split at h
  · next q hq => exact ⟨q, hq, of_decide_eq_true h⟩
  · cases h
theorem tg_at {C : List EI} {t pc : Nat} {off : Int} (h : tg C t pc off = true) : ∃ q, C[t]? = some q ∧ (pc : Int) + off = (q.1 : Int) := by
  unfold tg at h
  split at h
  · next q hq => exact ⟨q, hq, of_decide_eq_true h⟩
  · cases h
theorem tgs_at {C : List EI} {pc : Nat} : ∀ {ts : List Nat} {os : List Int}, tgs C pc ts os = true → ts.length = os.length ∧ ∀ j : Nat, j < os.length → ∃ t o, ts[j]? = some t ∧ os[j]? = some o ∧ tg C t pc o = true := by
  intro ts
  induction ts with
  | nil =>
    intro os h
    cases os with
    | nil => exact ⟨rfl, fun j hj => absurd hj (Nat.not_lt_zero _)⟩
    | cons o os => cases h
  | cons t ts ih =>
    intro os h
    cases os with
    | nil => cases h
    | cons o os =>
      unfold tgs at h
      rw [Bool.and_eq_true] at h
      obtain ⟨h1, h2⟩ := ih h.2
      refine ⟨by simp [h1], fun j hj => ?_⟩
      cases j with
      | zero => exact ⟨t, o, rfl, rfl, h.1⟩
      | succ j => exact h2 j (Nat.lt_of_succ_lt_succ hj)
theorem swW_at {v : Int} {P : Nat → Prop} : ∀ {ts : List Nat} {lo : Int}, swW v lo ts P → ∀ (j : Nat) (t : Nat), ts[j]? = some t → v = lo + j → P t := by
  intro ts
  induction ts with
  | nil => intro lo _ j t h; cases h
  | cons t0 ts ih =>
    intro lo h j t hj hv
    obtain ⟨h1, h2⟩ := h
    cases j with
    | zero =>
      cases hj
      exact h1 (by omega)
    | succ j => exact ih h2 j t hj (by omega)
theorem lkW_at {C : List EI} {pc dt : Nat} {d v : Int} {P : Nat → Prop} {Dd : Prop} (hd : tg C dt pc d = true) (hD : Dd → P dt) : ∀ {ps : List (Int × Int)} {ts : List Nat}, lkW v ps ts P Dd → tgs C pc ts (ps.map (fun z => z.2)) = true → ∃ t, P t ∧ tg C t pc (Op.lookupswitch.offset ps d v) = true := by
  intro ps
  induction ps with
  | nil =>
    intro ts h _
    cases ts with
    | nil => exact ⟨dt, hD h, hd⟩
    | cons t ts => exact ⟨dt, hD h, hd⟩
  | cons q ps ih =>
    intro ts h ht
    cases ts with
    | nil => exact h.elim
    | cons t ts =>
      obtain ⟨h1, h2⟩ := h
      unfold tgs at ht
      simp only [List.map_cons] at ht
      rw [Bool.and_eq_true] at ht
      obtain ⟨a, o⟩ := q
      rw [Op.lookupswitch.offset_cons]
      by_cases hv : a = v
      · rw [if_pos hv]
        exact ⟨t, h1 hv.symm, ht.1⟩
      · rw [if_neg hv]
        exact ih (h2 (fun z => hv z.symm)) ht.2
theorem rt_max (hC : CX p R s m args c D cA ad adV cc nL cells slots own sc) {pc cp : Nat} {L r : List AV} {σ : SS} {a b : Int} {w1 w2 : Nat} (hd : decode cc pc = .ok (.invokestatic cp, 3)) (ho : wk w1 w2 (.methodLink own cp Lib.Math.max.name) = true) (hcs : cs r ≤ 8)
    (hw : RT p l e R s m args below meth c D cA ad nL cells slots Qf (pc + 3) L (vI (max a b) :: r) σ) : RT p l e R s m args below meth c D cA ad nL cells slots Qf pc L (vI b :: vI a :: r) σ := by
  obtain ⟨hx, hb, hml, hown, hts, hKW, hadI, ⟨hR1, hR2, hR3, hR4⟩, -⟩ := hC
  intro hL hst hσ H locs ls hP hS hLH
  obtain ⟨h1, hst1⟩ := okVs_cons hst
  obtain ⟨h2, hr⟩ := okVs_cons hst1
  have h1 : InR b := h1
  have h2 : InR a := h2
  have hcs2 := cs_sum (ad := ad) (r := r)
  refine va_mmax (x := Int32.ofInt a) (y := Int32.ofInt b) (rest := r.map (cv ad)) hx hb (hml.trans hLH.1.1.symm) hown (wk_hts hts ho) (hts _ (wk_tbl (a := 2) (b := 223) (by decide +kernel))) (hts _ (wk_tbl (a := 1) (b := 14) (by decide +kernel))) (hts _ (wk_tbl (a := 2) (b := 224) (by decide +kernel))) hR1 (by omega) hR3 hR4 hd ?_
  have e : (if Int32.ofInt a < Int32.ofInt b then Int32.ofInt b else Int32.ofInt a) = Int32.ofInt (max a b) := by
    by_cases h : a < b
    · rw [if_pos ((o32_lt h2 h1).mpr h), Int.max_eq_right (by omega)]
    · rw [if_neg (fun z => h ((o32_lt h2 h1).mp z)), Int.max_eq_left (by omega)]
  rw [e]
  exact hw hL (okVs_mk (show InR (max a b) by omega) hr) hσ H locs ls hP hS hLH
theorem rt_min (hC : CX p R s m args c D cA ad adV cc nL cells slots own sc) {pc cp : Nat} {L r : List AV} {σ : SS} {a b : Int} {w1 w2 : Nat} (hd : decode cc pc = .ok (.invokestatic cp, 3)) (ho : wk w1 w2 (.methodLink own cp Lib.Math.min.name) = true) (hcs : cs r ≤ 8)
    (hw : RT p l e R s m args below meth c D cA ad nL cells slots Qf (pc + 3) L (vI (min a b) :: r) σ) : RT p l e R s m args below meth c D cA ad nL cells slots Qf pc L (vI b :: vI a :: r) σ := by
  obtain ⟨hx, hb, hml, hown, hts, hKW, hadI, ⟨hR1, hR2, hR3, hR4⟩, -⟩ := hC
  intro hL hst hσ H locs ls hP hS hLH
  obtain ⟨h1, hst1⟩ := okVs_cons hst
  obtain ⟨h2, hr⟩ := okVs_cons hst1
  have h1 : InR b := h1
  have h2 : InR a := h2
  have hcs2 := cs_sum (ad := ad) (r := r)
  refine va_mmin (x := Int32.ofInt a) (y := Int32.ofInt b) (rest := r.map (cv ad)) hx hb (hml.trans hLH.1.1.symm) hown (wk_hts hts ho) (hts _ (wk_tbl (a := 2) (b := 183) (by decide +kernel))) (hts _ (wk_tbl (a := 1) (b := 14) (by decide +kernel))) (hts _ (wk_tbl (a := 2) (b := 184) (by decide +kernel))) hR1 (by omega) hR3 hR4 hd ?_
  have e : (if Int32.ofInt b < Int32.ofInt a then Int32.ofInt b else Int32.ofInt a) = Int32.ofInt (min a b) := by
    by_cases h : b < a
    · rw [if_pos ((o32_lt h1 h2).mpr h), Int.min_eq_right (by omega)]
    · rw [if_neg (fun z => h ((o32_lt h1 h2).mp z)), Int.min_eq_left (by omega)]
  rw [e]
  exact hw hL (okVs_mk (show InR (min a b) by omega) hr) hσ H locs ls hP hS hLH
theorem i32r (x : Int32) : InR x.toInt := i32_in x
theorem step_sound (hC : CX p R s m args c D cA ad adV cc nL cells slots own sc) {rt d' k : Nat} {K : AV → SS → Prop} {cal : List (MI × GS)} {C : List EI} {q : EI} (hE : okE own (cal.map (fun z => z.1)) cc rt nL C k q = true)
    (hcal : ∀ x ∈ cal, Holds d' x.1 x.2) (hfit : d' + 1 ≤ R.frames ∧ 64 * (d' + 1) ≤ R.locals) (hret : RetOK p l e R s m args below meth c D cA ad cells slots Qf cc rt K) {L st : List AV} {σ : SS} {N : Nat → List AV → List AV → SS → Prop}
    (hN : ∀ k' L' st' σ', N k' L' st' σ' → ∀ q', C[k']? = some q' → RT p l e R s m args below meth c D cA ad nL cells slots Qf q'.1 L' st' σ')
    (hw : stepW sc rt cal K q.2.1 q.2.2.2 k L st σ N) : RT p l e R s m args below meth c D cA ad nL cells slots Qf q.1 L st σ := by
  obtain ⟨pc, ins, len, x⟩ := q
  unfold okE at hE
  rw [Bool.and_eq_true, decide_eq_true_eq] at hE
  obtain ⟨hd, hE⟩ := hE
  dsimp only at hd hE hw ⊢
  have hx := hC.1
  have hb := hC.2.1
  have hown := hC.2.2.2.1
  have hts := hC.2.2.2.2.1
  have next : ∀ {n : Nat} {L' st' : List AV} {σ' : SS}, (Nat.beq len n && nx C k pc n) = true → N (k + 1) L' st' σ' → len = n ∧ RT p l e R s m args below meth c D cA ad nL cells slots Qf (pc + n) L' st' σ' := by
    intro n L' st' σ' h h2
    rw [Bool.and_eq_true] at h
    obtain ⟨q', h3, h4⟩ := nx_at h.2
    have := hN _ _ _ _ h2 q' h3
    rw [h4] at this
    exact ⟨Nat.eq_of_beq_eq_true h.1, this⟩
  cases ins
  case iload_n n =>
    simp only [stepW, ldI] at hw
    split at hw
    · next v hg =>
      obtain ⟨rfl, h⟩ := next hE hw
      intro hL hst hσ H locs ls hP hS hLH
      exact lv_iload_n hx hb hd rfl (hLH.at hg) (h hL (okVs_mk (okVs_gl hL hg) hst) hσ H locs ls hP hS hLH)
    · exact hw.elim
  case iload n =>
    simp only [stepW, ldI] at hw
    split at hw
    · next v hg =>
      obtain ⟨rfl, h⟩ := next hE hw
      intro hL hst hσ H locs ls hP hS hLH
      exact lv_iload hx hb hd (hLH.at hg) (h hL (okVs_mk (okVs_gl hL hg) hst) hσ H locs ls hP hS hLH)
    · exact hw.elim
  case aload_n n =>
    simp only [stepW] at hw
    split at hw
    · next t i hg =>
      obtain ⟨rfl, h⟩ := next hE hw
      intro hL hst hσ H locs ls hP hS hLH
      exact lv_aload_n hx hb hd rfl (hLH.at hg) (h hL (okVs_mk (okVs_gl hL hg) hst) hσ H locs ls hP hS hLH)
    · exact hw.elim
  case aload n =>
    simp only [stepW] at hw
    split at hw
    · next t i hg =>
      obtain ⟨rfl, h⟩ := next hE hw
      intro hL hst hσ H locs ls hP hS hLH
      exact lv_aload hx hb hd (hLH.at hg) (h hL (okVs_mk (okVs_gl hL hg) hst) hσ H locs ls hP hS hLH)
    · exact hw.elim
  case lload_n n =>
    simp only [stepW] at hw
    split at hw
    · next v hg =>
      obtain ⟨rfl, h⟩ := next hE hw
      intro hL hst hσ H locs ls hP hS hLH
      exact lv_lload_n hx hb hd rfl (hLH.at hg) (h hL (okVs_mk (okVs_gl hL hg) hst) hσ H locs ls hP hS hLH)
    · exact hw.elim
  case lload n =>
    simp only [stepW] at hw
    split at hw
    · next v hg =>
      obtain ⟨rfl, h⟩ := next hE hw
      intro hL hst hσ H locs ls hP hS hLH
      exact lv_lload hx hb hd (hLH.at hg) (h hL (okVs_mk (okVs_gl hL hg) hst) hσ H locs ls hP hS hLH)
    · exact hw.elim
  case istore_n n =>
    simp only [stepW] at hw
    split at hw
    · next v r hn =>
      replace hE : (Nat.beq len 1 && nx C k pc 1 && Nat.blt n.val nL) = true := hE
      rw [Bool.and_eq_true] at hE
      obtain ⟨rfl, h⟩ := next hE.1 hw
      intro hL hst hσ H locs ls hP hS hLH
      obtain ⟨h1, h2⟩ := okVs_cons hst
      refine lv_istore_n hx hb hd rfl hLH.1 (Nat.le_of_ble_eq_true hE.2) rfl (fun ls' hl' => ?_)
      exact h (okVs_sl hL h1) h2 hσ H locs ls' hP hS (hLH.set hn hl')
    · exact hw.elim
  case istore n =>
    simp only [stepW] at hw
    split at hw
    · next v r hn =>
      replace hE : (Nat.beq len 2 && nx C k pc 2 && Nat.blt n nL) = true := hE
      rw [Bool.and_eq_true] at hE
      obtain ⟨rfl, h⟩ := next hE.1 hw
      intro hL hst hσ H locs ls hP hS hLH
      obtain ⟨h1, h2⟩ := okVs_cons hst
      refine lv_istore hx hb hd hLH.1 (Nat.le_of_ble_eq_true hE.2) rfl (fun ls' hl' => ?_)
      exact h (okVs_sl hL h1) h2 hσ H locs ls' hP hS (hLH.set hn hl')
    · exact hw.elim
  case astore_n n =>
    simp only [stepW] at hw
    split at hw
    · next t i r hn =>
      replace hE : (Nat.beq len 1 && nx C k pc 1 && Nat.blt n.val nL) = true := hE
      rw [Bool.and_eq_true] at hE
      obtain ⟨rfl, h⟩ := next hE.1 hw
      intro hL hst hσ H locs ls hP hS hLH
      obtain ⟨h1, h2⟩ := okVs_cons hst
      refine lv_astore_n hx hb hd rfl hLH.1 (Nat.le_of_ble_eq_true hE.2) rfl (fun ls' hl' => ?_)
      exact h (okVs_sl hL h1) h2 hσ H locs ls' hP hS (hLH.set hn hl')
    · exact hw.elim
  case iinc n cst =>
    simp only [stepW, ldI] at hw
    split at hw
    · next hn =>
      split at hw
      · next v hg =>
        obtain ⟨hr, hw⟩ := hw
        obtain ⟨rfl, h⟩ := next hE hw
        intro hL hst hσ H locs ls hP hS hLH
        obtain ⟨kx, hkx⟩ := lvl_ix (ad := ad) hg
        have hlt := gl_lt hg
        rw [hLH.2] at hlt
        refine lv_iinc (v := Int32.ofInt (v + cst)) hx hb hd hLH.1 hkx (by rw [← Int32.ofInt_add]) hlt rfl (fun ls' hl' => ?_)
        exact h (okVs_sl hL (show okV (vI (v + cst)) from hr)) hst hσ H locs ls' hP hS (hLH.set hn hl')
      · exact hw.elim
    · exact hw.elim
  case iconst n =>
    simp only [stepW] at hw
    replace hE : (Nat.beq len 1 && nx C k pc 1 && decide (-128 ≤ n ∧ n ≤ 127)) = true := hE
    rw [Bool.and_eq_true, decide_eq_true_eq] at hE
    obtain ⟨rfl, h⟩ := next hE.1 hw
    intro hL hst hσ H locs ls hP hS hLH
    exact lv_iconst hx hb hd rfl (h hL (okVs_mk (show InR n by omega) hst) hσ H locs ls hP hS hLH)
  case bipush n =>
    simp only [stepW] at hw
    replace hE : (Nat.beq len 2 && nx C k pc 2 && decide (-128 ≤ n ∧ n ≤ 127)) = true := hE
    rw [Bool.and_eq_true, decide_eq_true_eq] at hE
    obtain ⟨rfl, h⟩ := next hE.1 hw
    intro hL hst hσ H locs ls hP hS hLH
    exact lv_bipush hx hb hd (o32_bip hE.2) (h hL (okVs_mk (show InR n by omega) hst) hσ H locs ls hP hS hLH)
  case sipush n =>
    simp only [stepW] at hw
    replace hE : (Nat.beq len 3 && nx C k pc 3 && decide (-32768 ≤ n ∧ n ≤ 32767)) = true := hE
    rw [Bool.and_eq_true, decide_eq_true_eq] at hE
    obtain ⟨rfl, h⟩ := next hE.1 hw
    intro hL hst hσ H locs ls hP hS hLH
    exact lv_sipush hx hb hd (o32_sip hE.2) (h hL (okVs_mk (show InR n by omega) hst) hσ H locs ls hP hS hLH)
  case ldc cp =>
    replace hE : (Nat.beq len 2 && nx C k pc 2 && okL1 own cp x) = true := hE
    rw [Bool.and_eq_true] at hE
    obtain ⟨hE, ho⟩ := hE
    unfold okL1 at ho
    split at ho
    · next v a b =>
      rw [Bool.and_eq_true, decide_eq_true_eq] at ho
      simp only [stepW] at hw
      obtain ⟨rfl, h⟩ := next hE hw
      intro hL hst hσ H locs ls hP hS hLH
      exact lv_ldc hx hb hown (wk_hts hts ho.1) hd (h hL (okVs_mk (show InR (v : Int) by omega) hst) hσ H locs ls hP hS hLH)
    · cases ho
  case ldc_w cp =>
    replace hE : (Nat.beq len 3 && nx C k pc 3 && (okL1 own cp x || okL2 own cp x)) = true := hE
    rw [Bool.and_eq_true] at hE
    obtain ⟨hE, ho⟩ := hE
    rw [Bool.or_eq_true] at ho
    rcases ho with ho | ho
    · unfold okL1 at ho
      split at ho
      · next v a b =>
        rw [Bool.and_eq_true, decide_eq_true_eq] at ho
        simp only [stepW] at hw
        obtain ⟨rfl, h⟩ := next hE hw
        intro hL hst hσ H locs ls hP hS hLH
        exact lv_ldcw hx hb hown (wk_hts hts ho.1) hd (h hL (okVs_mk (show InR (v : Int) by omega) hst) hσ H locs ls hP hS hLH)
      · cases ho
    · unfold okL2 at ho
      split at ho
      · next i =>
        simp only [Bool.and_eq_true, decide_eq_true_eq] at ho
        obtain ⟨⟨ho1, hi4⟩, ho⟩ := ho
        split at ho
        · next z hz =>
          simp only [Bool.and_eq_true, decide_eq_true_eq] at ho
          simp only [stepW] at hw
          obtain ⟨rfl, h⟩ := next hE hw
          intro hL hst hσ H locs ls hP hS hLH
          have hZ := hC.2.2.2.2.2.1.2.2.2 z (List.mem_of_getElem? hz)
          rw [ho.1, ho.2, ← ho1] at hZ
          exact lv_ldcwS hx hb hown hZ hd (h hL (okVs_mk (show okV (vR 60 i) from hi4) hst) hσ H locs ls hP hS hLH)
        · cases ho
      · cases ho
  case ldc2_w cp =>
    replace hE : (Nat.beq len 3 && nx C k pc 3 && okL3 own cp x) = true := hE
    rw [Bool.and_eq_true] at hE
    obtain ⟨hE, ho⟩ := hE
    unfold okL3 at ho
    split at ho
    · next v a b =>
      rw [Bool.and_eq_true, decide_eq_true_eq] at ho
      simp only [stepW] at hw
      obtain ⟨rfl, h⟩ := next hE hw
      intro hL hst hσ H locs ls hP hS hLH
      exact lv_ldc2 hx hb hown (wk_hts hts ho.1) hd (h hL (okVs_mk (show InL (v : Int) by omega) hst) hσ H locs ls hP hS hLH)
    · cases ho
  case lconst n =>
    simp only [stepW] at hw
    obtain ⟨rfl, h⟩ := next hE hw
    intro hL hst hσ H locs ls hP hS hLH
    refine lv_lconst hx hb hd rfl (h hL (okVs_mk (show InL (n.val : Int) by omega) hst) hσ H locs ls hP hS hLH)
  case i2l =>
    simp only [stepW] at hw
    split at hw
    · next v r =>
      obtain ⟨rfl, h⟩ := next hE hw
      intro hL hst hσ H locs ls hP hS hLH
      obtain ⟨h1, h2⟩ := okVs_cons hst
      have h1 : InR v := h1
      exact lv_i2l hx hb hd (o32_i2l h1) (h hL (okVs_mk (show InL v by omega) h2) hσ H locs ls hP hS hLH)
    · exact hw.elim
  case lcmp =>
    simp only [stepW] at hw
    split at hw
    · next b a r =>
      obtain ⟨rfl, h⟩ := next hE hw
      intro hL hst hσ H locs ls hP hS hLH
      obtain ⟨h1, h2⟩ := okVs_cons hst
      obtain ⟨h3, h4⟩ := okVs_cons h2
      refine W.lcmp hx hb hd ?_
      rw [o64_cmp (show InL a from h3) (show InL b from h1)]
      refine h hL (okVs_mk (show InR (cmpI a b) from ?_) h4) hσ H locs ls hP hS hLH
      unfold cmpI
      split
      · omega
      · split <;> omega
    · exact hw.elim
  case i2b =>
    simp only [stepW] at hw
    split at hw
    · next v r =>
      obtain ⟨rfl, h⟩ := next hE hw
      intro hL hst hσ H locs ls hP hS hLH
      obtain ⟨h1, h2⟩ := okVs_cons hst
      have h1 : InR v := h1
      have h3 := Int.bmod_lt (x := v) (m := 256) (by decide)
      have h4 := Int.le_bmod (x := v) (m := 256) (by decide)
      exact lv_i2b hx hb hd (o32_i2b v h1) (h hL (okVs_mk (show InR (i2bI v) by unfold i2bI; omega) h2) hσ H locs ls hP hS hLH)
    · exact hw.elim
  case iadd =>
    simp only [stepW] at hw
    split at hw
    · next b a r =>
      obtain ⟨hr, hw⟩ := hw
      obtain ⟨rfl, h⟩ := next hE hw
      intro hL hst hσ H locs ls hP hS hLH
      obtain ⟨h1, h2⟩ := okVs_cons hst
      obtain ⟨h3, h4⟩ := okVs_cons h2
      have h1 : InR b := h1
      have h3 : InR a := h3
      refine lv_iadd (x := Int32.ofInt a) (y := Int32.ofInt b) hx hb hd ?_
      rw [← Int32.ofInt_add]
      exact h hL (okVs_mk (show okV (vI (a + b)) from hr) h4) hσ H locs ls hP hS hLH
    · exact hw.elim
  case isub =>
    simp only [stepW] at hw
    split at hw
    · next b a r =>
      obtain ⟨hr, hw⟩ := hw
      obtain ⟨rfl, h⟩ := next hE hw
      intro hL hst hσ H locs ls hP hS hLH
      obtain ⟨h1, h2⟩ := okVs_cons hst
      obtain ⟨h3, h4⟩ := okVs_cons h2
      have h1 : InR b := h1
      have h3 : InR a := h3
      refine lv_isub (x := Int32.ofInt a) (y := Int32.ofInt b) hx hb hd ?_
      rw [← Int32.ofInt_sub]
      exact h hL (okVs_mk (show okV (vI (a - b)) from hr) h4) hσ H locs ls hP hS hLH
    · exact hw.elim
  case imul =>
    simp only [stepW] at hw
    split at hw
    · next b a r =>
      obtain ⟨hr, hw⟩ := hw
      obtain ⟨rfl, h⟩ := next hE hw
      intro hL hst hσ H locs ls hP hS hLH
      obtain ⟨h1, h2⟩ := okVs_cons hst
      obtain ⟨h3, h4⟩ := okVs_cons h2
      have h1 : InR b := h1
      have h3 : InR a := h3
      refine lv_imul (x := Int32.ofInt a) (y := Int32.ofInt b) hx hb hd ?_
      rw [← Int32.ofInt_mul]
      exact h hL (okVs_mk (show okV (vI (a * b)) from hr) h4) hσ H locs ls hP hS hLH
    · exact hw.elim
  case idiv =>
    simp only [stepW] at hw
    split at hw
    · next b a r =>
      obtain ⟨hr, hw⟩ := hw
      obtain ⟨rfl, h⟩ := next hE hw
      intro hL hst hσ H locs ls hP hS hLH
      obtain ⟨h1, h2⟩ := okVs_cons hst
      obtain ⟨h3, h4⟩ := okVs_cons h2
      have h1 : InR b := h1
      have h3 : InR a := h3
      refine lv_idiv (x := Int32.ofInt a) (y := Int32.ofInt b) hx hb hd (fun z => hr.1 ((o32_inj h1 (by omega)).mp (z.trans o32_0))) ?_
      rw [o32_div h3 h1]
      exact h hL (okVs_mk (show okV (vI (Int.tdiv a b)) from hr.2) h4) hσ H locs ls hP hS hLH
    · exact hw.elim
  case irem =>
    simp only [stepW] at hw
    split at hw
    · next b a r =>
      obtain ⟨hr, hw⟩ := hw
      obtain ⟨rfl, h⟩ := next hE hw
      intro hL hst hσ H locs ls hP hS hLH
      obtain ⟨h1, h2⟩ := okVs_cons hst
      obtain ⟨h3, h4⟩ := okVs_cons h2
      have h1 : InR b := h1
      have h3 : InR a := h3
      refine lv_irem (x := Int32.ofInt a) (y := Int32.ofInt b) hx hb hd (fun z => hr.1 ((o32_inj h1 (by omega)).mp (z.trans o32_0))) ?_
      rw [o32_rem h3 h1]
      exact h hL (okVs_mk (show okV (vI (Int.tmod a b)) from hr.2) h4) hσ H locs ls hP hS hLH
    · exact hw.elim
  case ishl =>
    simp only [stepW] at hw
    split at hw
    · next b a r =>
      obtain ⟨hr, hw⟩ := hw
      obtain ⟨rfl, h⟩ := next hE hw
      intro hL hst hσ H locs ls hP hS hLH
      obtain ⟨h1, h2⟩ := okVs_cons hst
      obtain ⟨h3, h4⟩ := okVs_cons h2
      have h1 : InR b := h1
      have h3 : InR a := h3
      refine lv_ishl (x := Int32.ofInt a) (y := Int32.ofInt b) hx hb hd ?_
      rw [o32_shl hr.1 hr.2.1]
      exact h hL (okVs_mk (show okV (vI (shlI a b)) from hr.2.2) h4) hσ H locs ls hP hS hLH
    · exact hw.elim
  case ishr =>
    simp only [stepW] at hw
    split at hw
    · next b a r =>
      obtain ⟨hr, hw⟩ := hw
      obtain ⟨rfl, h⟩ := next hE hw
      intro hL hst hσ H locs ls hP hS hLH
      obtain ⟨h1, h2⟩ := okVs_cons hst
      obtain ⟨h3, h4⟩ := okVs_cons h2
      have h1 : InR b := h1
      have h3 : InR a := h3
      refine lv_ishr (x := Int32.ofInt a) (y := Int32.ofInt b) hx hb hd ?_
      rw [o32_shr h3 hr.1 hr.2.1]
      exact h hL (okVs_mk (show okV (vI (shrI a b)) from hr.2.2) h4) hσ H locs ls hP hS hLH
    · exact hw.elim
  case ineg =>
    simp only [stepW] at hw
    split at hw
    · next a r =>
      obtain ⟨hr, hw⟩ := hw
      obtain ⟨rfl, h⟩ := next hE hw
      intro hL hst hσ H locs ls hP hS hLH
      obtain ⟨h3, h4⟩ := okVs_cons hst
      refine lv_ineg (x := Int32.ofInt a) hx hb hd ?_
      rw [← Int32.ofInt_neg]
      exact h hL (okVs_mk (show okV (vI (-a)) from hr) h4) hσ H locs ls hP hS hLH
    · exact hw.elim
  case iand =>
    simp only [stepW] at hw
    split at hw
    · next b a r =>
      obtain ⟨rfl, h⟩ := next hE hw
      intro hL hst hσ H locs ls hP hS hLH
      obtain ⟨h1, h2⟩ := okVs_cons hst
      obtain ⟨h3, h4⟩ := okVs_cons h2
      refine lv_iand (x := Int32.ofInt a) (y := Int32.ofInt b) hx hb hd ?_
      rw [← o32_of (x := Int32.ofInt a &&& Int32.ofInt b)]
      exact h hL (okVs_mk (show okV (vI (andI a b)) from i32r _) h4) hσ H locs ls hP hS hLH
    · exact hw.elim
  case ior =>
    simp only [stepW] at hw
    split at hw
    · next b a r =>
      obtain ⟨rfl, h⟩ := next hE hw
      intro hL hst hσ H locs ls hP hS hLH
      obtain ⟨h1, h2⟩ := okVs_cons hst
      obtain ⟨h3, h4⟩ := okVs_cons h2
      refine lv_ior (x := Int32.ofInt a) (y := Int32.ofInt b) hx hb hd ?_
      rw [← o32_of (x := Int32.ofInt a ||| Int32.ofInt b)]
      exact h hL (okVs_mk (show okV (vI (orI a b)) from i32r _) h4) hσ H locs ls hP hS hLH
    · exact hw.elim
  case ixor =>
    simp only [stepW] at hw
    split at hw
    · next b a r =>
      obtain ⟨rfl, h⟩ := next hE hw
      intro hL hst hσ H locs ls hP hS hLH
      obtain ⟨h1, h2⟩ := okVs_cons hst
      obtain ⟨h3, h4⟩ := okVs_cons h2
      refine lv_ixor (x := Int32.ofInt a) (y := Int32.ofInt b) hx hb hd ?_
      rw [← o32_of (x := Int32.ofInt a ^^^ Int32.ofInt b)]
      exact h hL (okVs_mk (show okV (vI (xorI a b)) from i32r _) h4) hσ H locs ls hP hS hLH
    · exact hw.elim
  case iushr =>
    simp only [stepW] at hw
    split at hw
    · next b a r =>
      obtain ⟨rfl, h⟩ := next hE hw
      intro hL hst hσ H locs ls hP hS hLH
      obtain ⟨h1, h2⟩ := okVs_cons hst
      obtain ⟨h3, h4⟩ := okVs_cons h2
      refine lv_iushr (x := Int32.ofInt a) (y := Int32.ofInt b) hx hb hd (v := Int32.ofInt (ushI a b)) (o32_of.symm) ?_
      exact h hL (okVs_mk (show okV (vI (ushI a b)) from i32r _) h4) hσ H locs ls hP hS hLH
    · exact hw.elim
  case dup =>
    simp only [stepW] at hw
    split at hw
    · next v r =>
      split at hw
      · next hl =>
        obtain ⟨rfl, h⟩ := next hE hw
        intro hL hst hσ H locs ls hP hS hLH
        obtain ⟨h1, h2⟩ := okVs_cons hst
        exact lv_dup hx hb hd (isL_cat hl) (h hL (okVs_mk h1 hst) hσ H locs ls hP hS hLH)
      · exact hw.elim
    · exact hw.elim
  case dup2 =>
    simp only [stepW] at hw
    split at hw
    · next v w r =>
      split at hw
      · next hl hl2 =>
        obtain ⟨rfl, h⟩ := next hE hw
        intro hL hst hσ H locs ls hP hS hLH
        obtain ⟨h1, h2⟩ := okVs_cons hst
        obtain ⟨h3, h4⟩ := okVs_cons h2
        exact lv_dup2_11 hx hb hd (isL_cat hl) (isL_cat hl2) (h hL (okVs_mk h1 (okVs_mk h3 hst)) hσ H locs ls hP hS hLH)
      · exact hw.elim
    · exact hw.elim
  case pop =>
    simp only [stepW] at hw
    split at hw
    · next v r =>
      split at hw
      · next hl =>
        obtain ⟨rfl, h⟩ := next hE hw
        intro hL hst hσ H locs ls hP hS hLH
        obtain ⟨h1, h2⟩ := okVs_cons hst
        exact lv_pop hx hb hd (isL_cat hl) (h hL h2 hσ H locs ls hP hS hLH)
      · exact hw.elim
    · exact hw.elim
  case getfield cp =>
    replace hE : (Nat.beq len 3 && nx C k pc 3 && okG own cp x) = true := hE
    rw [Bool.and_eq_true] at hE
    obtain ⟨hE, ho⟩ := hE
    have hl : len = 3 := by
      rw [Bool.and_eq_true] at hE
      exact Nat.eq_of_beq_eq_true hE.1
    subst hl
    simp only [stepW] at hw
    split at hw
    · next z ci f y t i r =>
      split at hw
      · next ht =>
        have ht := Nat.eq_of_beq_eq_true ht
        subst ht
        refine rt_getf hC hd ho ⟨_, _, rfl⟩ ?_
        split at hw
        · next tt oi hrf => rw [hrf]; exact (next hE hw).2
        · next hrf => rw [hrf]; exact (next hE hw).2
      · exact hw.elim
    · exact hw.elim
  case putfield cp =>
    replace hE : (Nat.beq len 3 && nx C k pc 3 && okP own cp x) = true := hE
    rw [Bool.and_eq_true] at hE
    obtain ⟨hE, ho⟩ := hE
    have hl : len = 3 := by
      rw [Bool.and_eq_true] at hE
      exact Nat.eq_of_beq_eq_true hE.1
    subst hl
    simp only [stepW] at hw
    split at hw
    · next z ci f y v t i r =>
      split at hw
      · next ht =>
        have ht := Nat.eq_of_beq_eq_true ht
        subst ht
        refine rt_putf hC hd ho ⟨_, _, rfl⟩ ?_
        unfold putZ at hw ⊢
        split at hw
        · next hz => exact ⟨hw.1, fun σ' h => (next hE (hw.2 σ' h)).2⟩
        · next hz => exact fun σ' h => (next hE (hw σ' h)).2
      · exact hw.elim
    · exact hw.elim
  case iaload =>
    replace hE : (Nat.beq len 1 && nx C k pc 1) = true := hE
    have hl : len = 1 := by
      rw [Bool.and_eq_true] at hE
      exact Nat.eq_of_beq_eq_true hE.1
    subst hl
    simp only [stepW] at hw
    split at hw
    · next j t i r =>
      split at hw
      · next h1 h2 h3 => exact rt_ild hC hd h1 (Nat.le_of_ble_eq_true h2) (Nat.le_of_ble_eq_true h3) hw.1 (next hE hw.2).2
      · split at hw
        · next n xs ht =>
          have ht := Nat.eq_of_beq_eq_true ht
          subst ht
          obtain ⟨hr, hw⟩ := hw
          obtain ⟨-, h⟩ := next hE hw
          obtain ⟨-, -, -, -, -, -, -, -, ln, e1, e2, hX, hbl, hbA, hin⟩ := hC
          intro hL hst hσ H locs ls hP hS hLH
          obtain ⟨g1, g2⟩ := okVs_cons hst
          obtain ⟨g3, g4⟩ := okVs_cons g2
          have g3 : i < 1 := g3
          have hi0 : i = 0 := by omega
          subst hi0
          have g1 : InR j := g1
          refine va_sld (i := Int32.ofInt j) hx hb hX hbl hbA hS (o32_in g1 hr.1 (by omega)) hd ?_
          rw [o32_cl g1, show ((j.toNat : Nat) : Int) = j by omega]
          exact h hL (okVs_mk (show okV (vI (xs j)) from hin j) g4) hσ H locs ls hP hS hLH
        · exact hw.elim
    · exact hw.elim
  case baload =>
    replace hE : (Nat.beq len 1 && nx C k pc 1) = true := hE
    have hl : len = 1 := by
      rw [Bool.and_eq_true] at hE
      exact Nat.eq_of_beq_eq_true hE.1
    subst hl
    simp only [stepW] at hw
    split at hw
    · next j t i r =>
      split at hw
      · next h1 h2 h3 => exact rt_bld hC hd (Or.inl h1) (Nat.le_of_ble_eq_true h2) (Nat.le_of_ble_eq_true h3) hw.1 (next hE hw.2).2
      · next h1 h2 h3 => exact rt_bld hC hd (Or.inr h1) (Nat.le_of_ble_eq_true h2) (Nat.le_of_ble_eq_true h3) hw.1 (next hE hw.2).2
      · exact hw.elim
    · exact hw.elim
  case aaload =>
    replace hE : (Nat.beq len 1 && nx C k pc 1) = true := hE
    have hl : len = 1 := by
      rw [Bool.and_eq_true] at hE
      exact Nat.eq_of_beq_eq_true hE.1
    subst hl
    simp only [stepW] at hw
    split at hw
    · next j t i r =>
      split at hw
      · next h1 h2 h3 => exact rt_ald hC hd h1 (Nat.le_of_ble_eq_true h2) (Nat.le_of_ble_eq_true h3) hw.1 (next hE hw.2).2
      · exact hw.elim
    · exact hw.elim
  case iastore =>
    replace hE : (Nat.beq len 1 && nx C k pc 1) = true := hE
    have hl : len = 1 := by
      rw [Bool.and_eq_true] at hE
      exact Nat.eq_of_beq_eq_true hE.1
    subst hl
    simp only [stepW] at hw
    split at hw
    · next v j t i r =>
      split at hw
      · next h1 h2 h3 => exact rt_ist hC hd h1 (Nat.le_of_ble_eq_true h2) (Nat.le_of_ble_eq_true h3) hw.1 (fun σ' h => (next hE (hw.2 σ' h)).2)
      · exact hw.elim
    · exact hw.elim
  case bastore =>
    replace hE : (Nat.beq len 1 && nx C k pc 1) = true := hE
    have hl : len = 1 := by
      rw [Bool.and_eq_true] at hE
      exact Nat.eq_of_beq_eq_true hE.1
    subst hl
    simp only [stepW] at hw
    split at hw
    · next v j t i r =>
      split at hw
      · next h1 h2 h3 => exact rt_bst hC hd (Or.inl ⟨h1, hw.1.2⟩) (Nat.le_of_ble_eq_true h2) (Nat.le_of_ble_eq_true h3) hw.1.1 (fun σ' h => (next hE (hw.2 σ' h)).2)
      · next h1 h2 h3 => exact rt_bst hC hd (Or.inr ⟨h1, hw.1.2⟩) (Nat.le_of_ble_eq_true h2) (Nat.le_of_ble_eq_true h3) hw.1.1 (fun σ' h => (next hE (hw.2 σ' h)).2)
      · exact hw.elim
    · exact hw.elim
  case arraylength =>
    replace hE : (Nat.beq len 1 && nx C k pc 1) = true := hE
    have hl : len = 1 := by
      rw [Bool.and_eq_true] at hE
      exact Nat.eq_of_beq_eq_true hE.1
    subst hl
    simp only [stepW] at hw
    split at hw
    · next t i r =>
      split at hw
      · next h2 h3 => exact rt_alen hC hd (Nat.le_of_ble_eq_true h2) (Nat.le_of_ble_eq_true h3) (next hE hw).2
      · split at hw
        · next n xs ht =>
          have ht := Nat.eq_of_beq_eq_true ht
          subst ht
          obtain ⟨-, h⟩ := next hE hw
          obtain ⟨-, -, -, -, -, -, -, -, ln, e1, e2, hX, hbl, hbA, hin⟩ := hC
          intro hL hst hσ H locs ls hP hS hLH
          obtain ⟨g3, g4⟩ := okVs_cons hst
          have g3 : i < 1 := g3
          have hi0 : i = 0 := by omega
          subst hi0
          refine va_slen hx hb hX hbl hbA hS hd ?_
          have e3 : Int32.ofNat ln = Int32.ofInt n := by rw [e1]; rfl
          rw [e3]
          exact h hL (okVs_mk (show InR n by omega) g4) hσ H locs ls hP hS hLH
        · exact hw.elim
    · exact hw.elim
  case goto off =>
    replace hE : (Nat.beq len 3 && okJ C pc off x) = true := hE
    rw [Bool.and_eq_true] at hE
    obtain ⟨hE, ho⟩ := hE
    have hE := Nat.eq_of_beq_eq_true hE
    subst hE
    simp only [stepW] at hw
    split at hw
    · next t =>
      obtain ⟨q', h1, h2⟩ := tg_at ho
      have h := hN _ _ _ _ hw q' h1
      intro hL hst hσ H locs ls hP hS hLH
      exact lv_goto hx hb hd h2 (h hL hst hσ H locs ls hP hS hLH)
    · exact hw.elim
  case ifCond cnd off =>
    replace hE : (Nat.beq len 3 && nx C k pc 3 && okJ C pc off x) = true := hE
    rw [Bool.and_eq_true] at hE
    obtain ⟨hE, ho⟩ := hE
    simp only [stepW] at hw
    split at hw
    · next t v r =>
      obtain ⟨q', h1, h2⟩ := tg_at ho
      have hl3 : len = 3 := by
        rw [Bool.and_eq_true] at hE
        exact Nat.eq_of_beq_eq_true hE.1
      subst hl3
      intro hL hst hσ H locs ls hP hS hLH
      obtain ⟨hv, hr⟩ := okVs_cons hst
      have hv : InR v := hv
      have h0 : InR 0 := by omega
      cases cnd
      case eq => exact lv_if_eq (x := Int32.ofInt v) hx hb hd h2 (fun z => hN _ _ _ _ (hw.1 ((o32_inj hv h0).mp z)) q' h1 hL hr hσ H locs ls hP hS hLH) (fun z => (next hE (hw.2 (fun y => z ((o32_inj hv h0).mpr y)))).2 hL hr hσ H locs ls hP hS hLH)
      case ne => exact lv_if_ne (x := Int32.ofInt v) hx hb hd h2 (fun z => hN _ _ _ _ (hw.1 (fun y => z ((o32_inj hv h0).mpr y))) q' h1 hL hr hσ H locs ls hP hS hLH) (fun z => (next hE (hw.2 ((o32_inj hv h0).mp z))).2 hL hr hσ H locs ls hP hS hLH)
      case lt => exact lv_if_lt (x := Int32.ofInt v) hx hb hd h2 (fun z => hN _ _ _ _ (hw.1 ((o32_lt hv h0).mp z)) q' h1 hL hr hσ H locs ls hP hS hLH) (fun z => (next hE (hw.2 (Int.not_lt.mp (fun y => z ((o32_lt hv h0).mpr y))))).2 hL hr hσ H locs ls hP hS hLH)
      case ge => exact lv_if_ge (x := Int32.ofInt v) hx hb hd h2 (fun z => hN _ _ _ _ (hw.1 ((o32_le h0 hv).mp z)) q' h1 hL hr hσ H locs ls hP hS hLH) (fun z => (next hE (hw.2 (Int.not_le.mp (fun y => z ((o32_le h0 hv).mpr y))))).2 hL hr hσ H locs ls hP hS hLH)
      case gt => exact lv_if_gt (x := Int32.ofInt v) hx hb hd h2 (fun z => hN _ _ _ _ (hw.1 ((o32_lt h0 hv).mp z)) q' h1 hL hr hσ H locs ls hP hS hLH) (fun z => (next hE (hw.2 (Int.not_lt.mp (fun y => z ((o32_lt h0 hv).mpr y))))).2 hL hr hσ H locs ls hP hS hLH)
      case le => exact lv_if_le (x := Int32.ofInt v) hx hb hd h2 (fun z => hN _ _ _ _ (hw.1 ((o32_le hv h0).mp z)) q' h1 hL hr hσ H locs ls hP hS hLH) (fun z => (next hE (hw.2 (Int.not_le.mp (fun y => z ((o32_le hv h0).mpr y))))).2 hL hr hσ H locs ls hP hS hLH)
    · exact hw.elim
  case if_icmp cnd off =>
    replace hE : (Nat.beq len 3 && nx C k pc 3 && okJ C pc off x) = true := hE
    rw [Bool.and_eq_true] at hE
    obtain ⟨hE, ho⟩ := hE
    simp only [stepW] at hw
    split at hw
    · next t b a r =>
      obtain ⟨q', h1, h2⟩ := tg_at ho
      have hl3 : len = 3 := by
        rw [Bool.and_eq_true] at hE
        exact Nat.eq_of_beq_eq_true hE.1
      subst hl3
      intro hL hst hσ H locs ls hP hS hLH
      obtain ⟨hv, hr1⟩ := okVs_cons hst
      obtain ⟨hu, hr⟩ := okVs_cons hr1
      have hv : InR b := hv
      have hu : InR a := hu
      cases cnd
      case eq => exact lv_icmp_eq (x := Int32.ofInt a) (y := Int32.ofInt b) hx hb hd h2 (fun z => hN _ _ _ _ (hw.1 ((o32_inj hu hv).mp z)) q' h1 hL hr hσ H locs ls hP hS hLH) (fun z => (next hE (hw.2 (fun y => z ((o32_inj hu hv).mpr y)))).2 hL hr hσ H locs ls hP hS hLH)
      case ne => exact lv_icmp_ne (x := Int32.ofInt a) (y := Int32.ofInt b) hx hb hd h2 (fun z => hN _ _ _ _ (hw.1 (fun y => z ((o32_inj hu hv).mpr y))) q' h1 hL hr hσ H locs ls hP hS hLH) (fun z => (next hE (hw.2 ((o32_inj hu hv).mp z))).2 hL hr hσ H locs ls hP hS hLH)
      case lt => exact lv_icmp_lt (x := Int32.ofInt a) (y := Int32.ofInt b) hx hb hd h2 (fun z => hN _ _ _ _ (hw.1 ((o32_lt hu hv).mp z)) q' h1 hL hr hσ H locs ls hP hS hLH) (fun z => (next hE (hw.2 (Int.not_lt.mp (fun y => z ((o32_lt hu hv).mpr y))))).2 hL hr hσ H locs ls hP hS hLH)
      case ge => exact lv_icmp_ge (x := Int32.ofInt a) (y := Int32.ofInt b) hx hb hd h2 (fun z => hN _ _ _ _ (hw.1 ((o32_le hv hu).mp z)) q' h1 hL hr hσ H locs ls hP hS hLH) (fun z => (next hE (hw.2 (Int.not_le.mp (fun y => z ((o32_le hv hu).mpr y))))).2 hL hr hσ H locs ls hP hS hLH)
      case gt => exact lv_icmp_gt (x := Int32.ofInt a) (y := Int32.ofInt b) hx hb hd h2 (fun z => hN _ _ _ _ (hw.1 ((o32_lt hv hu).mp z)) q' h1 hL hr hσ H locs ls hP hS hLH) (fun z => (next hE (hw.2 (Int.not_lt.mp (fun y => z ((o32_lt hv hu).mpr y))))).2 hL hr hσ H locs ls hP hS hLH)
      case le => exact lv_icmp_le (x := Int32.ofInt a) (y := Int32.ofInt b) hx hb hd h2 (fun z => hN _ _ _ _ (hw.1 ((o32_le hu hv).mp z)) q' h1 hL hr hσ H locs ls hP hS hLH) (fun z => (next hE (hw.2 (Int.not_le.mp (fun y => z ((o32_le hu hv).mpr y))))).2 hL hr hσ H locs ls hP hS hLH)
    · exact hw.elim
  case tableswitch d lo hi offs =>
    have ho : okT C pc d lo hi offs x = true := hE
    simp only [stepW] at hw
    split at hw
    · next dt ts v r =>
      unfold okT at ho
      simp only [Bool.and_eq_true, decide_eq_true_eq] at ho
      obtain ⟨⟨o1, o2⟩, o3⟩ := ho
      obtain ⟨hsw, hdf⟩ := hw
      intro hL hst hσ H locs ls hP hS hLH
      obtain ⟨hv, hr⟩ := okVs_cons hst
      have hv : InR v := hv
      by_cases hout : v < lo ∨ hi < v
      · obtain ⟨q', h1, h2⟩ := tg_at o1
        exact lv_tableOut (x := Int32.ofInt v) hx hb hd (by rw [o32 hv]; exact hout) h2 (hN _ _ _ _ (hdf hout) q' h1 hL hr hσ H locs ls hP hS hLH)
      · obtain ⟨g1, g2⟩ := tgs_at o3
        obtain ⟨t, o, g3, g4, g5⟩ := g2 (v - lo).toNat (by rw [Array.length_toList]; omega)
        obtain ⟨q', h1, h2⟩ := tg_at g5
        have hP1 := swW_at hsw _ _ g3 (by omega)
        rw [Array.getElem?_toList] at g4
        exact lv_tableIn (x := Int32.ofInt v) hx hb hd (by rw [o32 hv]; omega) (by rw [o32 hv]; omega) (by rw [o32 hv]; exact g4) h2 (hN _ _ _ _ hP1 q' h1 hL hr hσ H locs ls hP hS hLH)
    · exact hw.elim
  case lookupswitch d ps =>
    have ho : okK C pc d ps x = true := hE
    simp only [stepW] at hw
    split at hw
    · next dt ts v r =>
      unfold okK at ho
      simp only [Bool.and_eq_true] at ho
      obtain ⟨⟨o1, o2⟩, o3⟩ := ho
      intro hL hst hσ H locs ls hP hS hLH
      obtain ⟨hv, hr⟩ := okVs_cons hst
      have hv : InR v := hv
      obtain ⟨t, g1, g2⟩ := lkW_at (P := fun t => N t L r σ) o1 (fun z => z) hw o3
      obtain ⟨q', h1, h2⟩ := tg_at g2
      exact lv_lookup (x := Int32.ofInt v) hx hb hd o2 (by rw [o32 hv]) h2 (hN _ _ _ _ g1 q' h1 hL hr hσ H locs ls hP hS hLH)
    · exact hw.elim
  case invokevirtual cp =>
    replace hE : (Nat.beq len 3 && nx C k pc 3 && okIV own (cal.map (fun z => z.1)) cp x) = true := hE
    rw [Bool.and_eq_true] at hE
    obtain ⟨hE, ho⟩ := hE
    have hl : len = 3 := by
      rw [Bool.and_eq_true] at hE
      exact Nat.eq_of_beq_eq_true hE.1
    subst hl
    simp only [stepW] at hw
    split at hw
    · next ci na tc rk rr y =>
      split at hw
      · next I G as t i r hcl htk =>
        split at hw
        · next h1 h2 =>
          exact rt_callV hC hd ho ⟨_, rfl⟩ (by rw [List.getElem?_map, hcl]; rfl) (hcal _ (List.mem_of_getElem? hcl)) hfit htk (Nat.eq_of_beq_eq_true h1) (Nat.le_of_ble_eq_true h2) hw (fun st' σ' h => (next hE h).2)
        · exact hw.elim
      · exact hw.elim
    · exact hw.elim
  case invokestatic cp =>
    replace hE : (Nat.beq len 3 && nx C k pc 3 && okIS own (cal.map (fun z => z.1)) cp x) = true := hE
    rw [Bool.and_eq_true] at hE
    obtain ⟨hE, ho⟩ := hE
    have hl : len = 3 := by
      rw [Bool.and_eq_true] at hE
      exact Nat.eq_of_beq_eq_true hE.1
    subst hl
    simp only [stepW] at hw
    split at hw
    · next ci na rk rr y1 y2 y =>
      split at hw
      · next I G as r hcl htk =>
        split at hw
        · next h2 =>
          exact rt_callS hC hd ho ⟨_, _, _, rfl⟩ (by rw [List.getElem?_map, hcl]; rfl) (hcal _ (List.mem_of_getElem? hcl)) hfit htk (Nat.le_of_ble_eq_true h2) hw (fun st' σ' h => (next hE h).2)
        · exact hw.elim
      · exact hw.elim
    · split at hw
      · next b a r =>
        split at hw
        · next h2 => exact rt_max hC hd ho (Nat.le_of_ble_eq_true h2) (next hE hw).2
        · exact hw.elim
      · exact hw.elim
    · split at hw
      · next b a r =>
        split at hw
        · next h2 => exact rt_min hC hd ho (Nat.le_of_ble_eq_true h2) (next hE hw).2
        · exact hw.elim
      · exact hw.elim
    · exact hw.elim
  case ireturn =>
    replace hE : (Nat.beq len 1 && (Nat.beq rt 1 || Nat.beq rt 2)) = true := hE
    rw [Bool.and_eq_true, Bool.or_eq_true] at hE
    have hl := Nat.eq_of_beq_eq_true hE.1
    subst hl
    simp only [stepW] at hw
    split at hw
    · next v =>
      intro hL hst hσ H locs ls hP hS hLH
      obtain ⟨hv, -⟩ := okVs_cons hst
      unfold retZ at hw
      rcases hE.2 with h1 | h1
      · have h1 := Nat.eq_of_beq_eq_true h1
        subst h1
        exact (hret pc σ H locs ls hσ hP hS).1 v hv (Or.inl rfl) hw hd
      · have h1 := Nat.eq_of_beq_eq_true h1
        subst h1
        exact (hret pc σ H locs ls hσ hP hS).1 v hv (Or.inr ⟨rfl, hw.1⟩) hw.2 hd
    · exact hw.elim
  case areturn =>
    replace hE : Nat.beq len 1 = true := hE
    have hl := Nat.eq_of_beq_eq_true hE
    subst hl
    simp only [stepW] at hw
    split at hw
    · next t i =>
      intro hL hst hσ H locs ls hP hS hLH
      obtain ⟨hv, -⟩ := okVs_cons hst
      exact (hret pc σ H locs ls hσ hP hS).2.1 t i hv rfl hw hd
    · exact hw.elim
  case return_ =>
    replace hE : Nat.beq len 1 = true := hE
    have hl := Nat.eq_of_beq_eq_true hE
    subst hl
    simp only [stepW] at hw
    split at hw
    · intro hL hst hσ H locs ls hP hS hLH
      exact (hret pc σ H locs ls hσ hP hS).2.2 rfl hw hd
    · exact hw.elim
  all_goals exact False.elim hw
/-- a whole method's code, from any instruction; J: what may be taken for granted at the cut places -/
theorem wp_sound (hC : CX p R s m args c D cA ad adV cc nL cells slots own sc) {rt d' : Nat} {K : AV → SS → Prop} {cal : List (MI × GS)} {C : List EI} (hO : okC own (cal.map (fun z => z.1)) cc rt nL C = true)
    (hcal : ∀ x ∈ cal, Holds d' x.1 x.2) (hfit : d' + 1 ≤ R.frames ∧ 64 * (d' + 1) ≤ R.locals) (hret : RetOK p l e R s m args below meth c D cA ad cells slots Qf cc rt K) {J : Nat → Option (List AV → SS → Prop)}
    (hJ : ∀ k I L σ, J k = some I → I L σ → ∀ q, C[k]? = some q → RT p l e R s m args below meth c D cA ad nL cells slots Qf q.1 L [] σ) :
    ∀ (f k : Nat) (L st : List AV) (σ : SS), wp sc rt cal C J K f k L st σ → ∀ q, C[k]? = some q → RT p l e R s m args below meth c D cA ad nL cells slots Qf q.1 L st σ := by
  intro f
  induction f with
  | zero => intro k L st σ h; exact h.elim
  | succ f ih =>
    intro k L st σ h q hq
    unfold wp at h
    rw [hq] at h
    have hE : okE own (cal.map (fun z => z.1)) cc rt nL C k q = true := by
      have h1 := List.all_eq_true.mp hO k (List.mem_range.mpr (List.getElem?_eq_some_iff.mp hq).1)
      rw [hq] at h1
      exact h1
    refine step_sound hC hE hcal hfit hret (fun k' L' st' σ' h' q' hq' => ?_) h
    split at h'
    · next I hI =>
      split at h'
      · exact hJ _ _ _ _ hI h' q' hq'
      · exact h'.elim
    · exact ih _ _ _ _ h' q' hq'
/-- loops: J k is the invariant at the cut place k, μ what falls -/
theorem loop_sound (hC : CX p R s m args c D cA ad adV cc nL cells slots own sc) {rt d' : Nat} {K : AV → SS → Prop} {cal : List (MI × GS)} {C : List EI} (hO : okC own (cal.map (fun z => z.1)) cc rt nL C = true)
    (hcal : ∀ x ∈ cal, Holds d' x.1 x.2) (hfit : d' + 1 ≤ R.frames ∧ 64 * (d' + 1) ≤ R.locals) (hret : RetOK p l e R s m args below meth c D cA ad cells slots Qf cc rt K) {I : Nat → Option (Nat → List AV → SS → Prop)}
    (hI : ∀ (k n : Nat) (P : Nat → List AV → SS → Prop) (L : List AV) (σ : SS), I k = some P → okVs L → okS σ → P n L σ → ∃ f, wp sc rt cal C (fun k' => (I k').map (fun P' => fun L' σ' => ∃ n', n' < n ∧ P' n' L' σ')) K f k L [] σ) :
    ∀ (n k : Nat) (P : Nat → List AV → SS → Prop) (L : List AV) (σ : SS), I k = some P → P n L σ → ∀ q, C[k]? = some q → RT p l e R s m args below meth c D cA ad nL cells slots Qf q.1 L [] σ := by
  intro n
  induction n using Nat.strongRecOn with
  | ind n ih =>
    intro k P L σ hk hP q hq hL hst hσ
    obtain ⟨f, hf⟩ := hI k n P L σ hk hL hσ hP
    refine wp_sound hC hO hcal hfit hret (fun k' I' L' σ' hk' hI' q' hq' => ?_) f k L [] σ hf q hq hL hst hσ
    rw [Option.map_eq_some_iff] at hk'
    obtain ⟨P', hP', rfl⟩ := hk'
    obtain ⟨n', hn, hP2⟩ := hI'
    exact ih n' hn k' P' L' σ' hP' hP2 q' hq'
/-- a body with loops, from its first instruction -/
theorem body_sound (hC : CX p R s m args c D cA ad adV cc nL cells slots own sc) {rt d' : Nat} {K : AV → SS → Prop} {cal : List (MI × GS)} {C : List EI} (hO : okC own (cal.map (fun z => z.1)) cc rt nL C = true)
    (hcal : ∀ x ∈ cal, Holds d' x.1 x.2) (hfit : d' + 1 ≤ R.frames ∧ 64 * (d' + 1) ≤ R.locals) (hret : RetOK p l e R s m args below meth c D cA ad cells slots Qf cc rt K) {I : Nat → Option (Nat → List AV → SS → Prop)}
    (hI : ∀ (k n : Nat) (P : Nat → List AV → SS → Prop) (L : List AV) (σ : SS), I k = some P → okVs L → okS σ → P n L σ → ∃ f, wp sc rt cal C (fun k' => (I k').map (fun P' => fun L' σ' => ∃ n', n' < n ∧ P' n' L' σ')) K f k L [] σ)
    {L : List AV} {σ : SS} {f : Nat} (h0 : wp sc rt cal C (fun k' => (I k').map (fun P' => fun L' σ' => ∃ n', P' n' L' σ')) K f 0 L [] σ) {q : EI} (hq : C[0]? = some q) :
    RT p l e R s m args below meth c D cA ad nL cells slots Qf q.1 L [] σ := by
  refine wp_sound hC hO hcal hfit hret (fun k' I' L' σ' hk' hI' q' hq' => ?_) f 0 L [] σ h0 q hq
  rw [Option.map_eq_some_iff] at hk'
  obtain ⟨P', hP', rfl⟩ := hk'
  obtain ⟨n', hP2⟩ := hI'
  exact loop_sound hC hO hcal hfit hret hI n' k' P' L' σ' hP' hP2 q' hq'
end RTM
end
