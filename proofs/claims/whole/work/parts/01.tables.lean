-- begun from the skeleton's PART A and the printed names: the tables' words; classes, fields, types
-- ===== PART A: goes FIRST, ahead of the names: the tables' words, and 'selects' of the private methods out of them =====
/-- a private method of a class that the tables say can be made, by its rows of tables_1 -/
def lw_okq (q : MethodName × Nat) : Prop := (q.1.cls ≠ "java/lang/invoke/MethodHandle" ∧ q.1.cls ≠ "java/lang/invoke/VarHandle") ∧ Cond.instantiable q.1.cls q.2 ∈ tables_1 ∧ Cond.privateMethod q.1 ∈ tables_1 ∧ Cond.instanceMethod q.1 ∈ tables_1
theorem lw_p0 : lw_okq (⟨"WordRuns$Reader", "takeFour", "(I)V"⟩, 10) := ⟨⟨by decide +kernel, by decide +kernel⟩, List.mem_of_getElem? (i := 66) (by decide +kernel), List.mem_of_getElem? (i := 327) (by decide +kernel), List.mem_of_getElem? (i := 328) (by decide +kernel)⟩
theorem lw_p1 : lw_okq (⟨"WordRuns$Reader", "passLet", "()Z"⟩, 10) := ⟨⟨by decide +kernel, by decide +kernel⟩, List.mem_of_getElem? (i := 66) (by decide +kernel), List.mem_of_getElem? (i := 347) (by decide +kernel), List.mem_of_getElem? (i := 348) (by decide +kernel)⟩
theorem lw_p2 : lw_okq (⟨"WordRuns$Reader", "skipBlanks", "()V"⟩, 10) := ⟨⟨by decide +kernel, by decide +kernel⟩, List.mem_of_getElem? (i := 66) (by decide +kernel), List.mem_of_getElem? (i := 351) (by decide +kernel), List.mem_of_getElem? (i := 352) (by decide +kernel)⟩
theorem lw_p3 : lw_okq (⟨"WordRuns$Reader", "byteAt", "(I)I"⟩, 10) := ⟨⟨by decide +kernel, by decide +kernel⟩, List.mem_of_getElem? (i := 66) (by decide +kernel), List.mem_of_getElem? (i := 355) (by decide +kernel), List.mem_of_getElem? (i := 356) (by decide +kernel)⟩
theorem lw_p4 : lw_okq (⟨"WordRuns$Reader", "wordEnd", "(I)I"⟩, 10) := ⟨⟨by decide +kernel, by decide +kernel⟩, List.mem_of_getElem? (i := 66) (by decide +kernel), List.mem_of_getElem? (i := 359) (by decide +kernel), List.mem_of_getElem? (i := 360) (by decide +kernel)⟩
theorem lw_p5 : lw_okq (⟨"WordRuns$Reader", "isSmall", "(I)Z"⟩, 10) := ⟨⟨by decide +kernel, by decide +kernel⟩, List.mem_of_getElem? (i := 66) (by decide +kernel), List.mem_of_getElem? (i := 363) (by decide +kernel), List.mem_of_getElem? (i := 364) (by decide +kernel)⟩
theorem lw_p6 : lw_okq (⟨"WordRuns$Reader", "codeOf", "(II)I"⟩, 10) := ⟨⟨by decide +kernel, by decide +kernel⟩, List.mem_of_getElem? (i := 66) (by decide +kernel), List.mem_of_getElem? (i := 367) (by decide +kernel), List.mem_of_getElem? (i := 368) (by decide +kernel)⟩
theorem lw_p7 : lw_okq (⟨"WordRuns$Reader", "readName", "()V"⟩, 10) := ⟨⟨by decide +kernel, by decide +kernel⟩, List.mem_of_getElem? (i := 66) (by decide +kernel), List.mem_of_getElem? (i := 371) (by decide +kernel), List.mem_of_getElem? (i := 372) (by decide +kernel)⟩
theorem lw_p8 : lw_okq (⟨"WordRuns$Reader", "slotOf", "(I)I"⟩, 10) := ⟨⟨by decide +kernel, by decide +kernel⟩, List.mem_of_getElem? (i := 66) (by decide +kernel), List.mem_of_getElem? (i := 375) (by decide +kernel), List.mem_of_getElem? (i := 376) (by decide +kernel)⟩
theorem lw_p9 : lw_okq (⟨"WordRuns$Reader", "isName", "(II)Z"⟩, 10) := ⟨⟨by decide +kernel, by decide +kernel⟩, List.mem_of_getElem? (i := 66) (by decide +kernel), List.mem_of_getElem? (i := 379) (by decide +kernel), List.mem_of_getElem? (i := 380) (by decide +kernel)⟩
theorem lw_p10 : lw_okq (⟨"WordRuns$Reader", "fail", "(II)Z"⟩, 10) := ⟨⟨by decide +kernel, by decide +kernel⟩, List.mem_of_getElem? (i := 66) (by decide +kernel), List.mem_of_getElem? (i := 383) (by decide +kernel), List.mem_of_getElem? (i := 384) (by decide +kernel)⟩
theorem lw_p11 : lw_okq (⟨"WordRuns$Reader", "expect", "(I)Z"⟩, 10) := ⟨⟨by decide +kernel, by decide +kernel⟩, List.mem_of_getElem? (i := 66) (by decide +kernel), List.mem_of_getElem? (i := 387) (by decide +kernel), List.mem_of_getElem? (i := 388) (by decide +kernel)⟩
theorem lw_p12 : lw_okq (⟨"WordRuns$Reader", "readRow", "(I)Z"⟩, 10) := ⟨⟨by decide +kernel, by decide +kernel⟩, List.mem_of_getElem? (i := 66) (by decide +kernel), List.mem_of_getElem? (i := 391) (by decide +kernel), List.mem_of_getElem? (i := 392) (by decide +kernel)⟩
theorem lw_p13 : lw_okq (⟨"WordRuns$Reader", "isItemBegin", "(I)Z"⟩, 10) := ⟨⟨by decide +kernel, by decide +kernel⟩, List.mem_of_getElem? (i := 66) (by decide +kernel), List.mem_of_getElem? (i := 395) (by decide +kernel), List.mem_of_getElem? (i := 396) (by decide +kernel)⟩
theorem lw_p14 : lw_okq (⟨"WordRuns$Reader", "isDigit", "(I)Z"⟩, 10) := ⟨⟨by decide +kernel, by decide +kernel⟩, List.mem_of_getElem? (i := 66) (by decide +kernel), List.mem_of_getElem? (i := 399) (by decide +kernel), List.mem_of_getElem? (i := 400) (by decide +kernel)⟩
theorem lw_p15 : lw_okq (⟨"WordRuns$Reader", "readItem", "(II)Z"⟩, 10) := ⟨⟨by decide +kernel, by decide +kernel⟩, List.mem_of_getElem? (i := 66) (by decide +kernel), List.mem_of_getElem? (i := 403) (by decide +kernel), List.mem_of_getElem? (i := 404) (by decide +kernel)⟩
def lw_privs_1 : List (MethodName × Nat) := [(⟨"WordRuns$Reader", "takeFour", "(I)V"⟩, 10), (⟨"WordRuns$Reader", "passLet", "()Z"⟩, 10), (⟨"WordRuns$Reader", "skipBlanks", "()V"⟩, 10), (⟨"WordRuns$Reader", "byteAt", "(I)I"⟩, 10), (⟨"WordRuns$Reader", "wordEnd", "(I)I"⟩, 10), (⟨"WordRuns$Reader", "isSmall", "(I)Z"⟩, 10), (⟨"WordRuns$Reader", "codeOf", "(II)I"⟩, 10), (⟨"WordRuns$Reader", "readName", "()V"⟩, 10), (⟨"WordRuns$Reader", "slotOf", "(I)I"⟩, 10), (⟨"WordRuns$Reader", "isName", "(II)Z"⟩, 10), (⟨"WordRuns$Reader", "fail", "(II)Z"⟩, 10), (⟨"WordRuns$Reader", "expect", "(I)Z"⟩, 10), (⟨"WordRuns$Reader", "readRow", "(I)Z"⟩, 10), (⟨"WordRuns$Reader", "isItemBegin", "(I)Z"⟩, 10), (⟨"WordRuns$Reader", "isDigit", "(I)Z"⟩, 10), (⟨"WordRuns$Reader", "readItem", "(II)Z"⟩, 10)]
theorem lw_r1 : ∀ q ∈ lw_privs_1, lw_okq q := List.forall_mem_cons.mpr ⟨lw_p0, List.forall_mem_cons.mpr ⟨lw_p1, List.forall_mem_cons.mpr ⟨lw_p2, List.forall_mem_cons.mpr ⟨lw_p3, List.forall_mem_cons.mpr ⟨lw_p4, List.forall_mem_cons.mpr ⟨lw_p5, List.forall_mem_cons.mpr ⟨lw_p6, List.forall_mem_cons.mpr ⟨lw_p7, List.forall_mem_cons.mpr ⟨lw_p8, List.forall_mem_cons.mpr ⟨lw_p9, List.forall_mem_cons.mpr ⟨lw_p10, List.forall_mem_cons.mpr ⟨lw_p11, List.forall_mem_cons.mpr ⟨lw_p12, List.forall_mem_cons.mpr ⟨lw_p13, List.forall_mem_cons.mpr ⟨lw_p14, List.forall_mem_cons.mpr ⟨lw_p15, fun _ h => absurd h List.not_mem_nil⟩⟩⟩⟩⟩⟩⟩⟩⟩⟩⟩⟩⟩⟩⟩⟩
theorem lw_p16 : lw_okq (⟨"WordRuns$Reader", "readLetters", "(I)Z"⟩, 10) := ⟨⟨by decide +kernel, by decide +kernel⟩, List.mem_of_getElem? (i := 66) (by decide +kernel), List.mem_of_getElem? (i := 407) (by decide +kernel), List.mem_of_getElem? (i := 408) (by decide +kernel)⟩
theorem lw_p17 : lw_okq (⟨"WordRuns$Reader", "push", "(I)V"⟩, 10) := ⟨⟨by decide +kernel, by decide +kernel⟩, List.mem_of_getElem? (i := 66) (by decide +kernel), List.mem_of_getElem? (i := 411) (by decide +kernel), List.mem_of_getElem? (i := 412) (by decide +kernel)⟩
theorem lw_p18 : lw_okq (⟨"WordRuns$Reader", "readTimes", "(II)Z"⟩, 10) := ⟨⟨by decide +kernel, by decide +kernel⟩, List.mem_of_getElem? (i := 66) (by decide +kernel), List.mem_of_getElem? (i := 415) (by decide +kernel), List.mem_of_getElem? (i := 416) (by decide +kernel)⟩
theorem lw_p19 : lw_okq (⟨"WordRuns$Reader", "readNumber", "(I)I"⟩, 10) := ⟨⟨by decide +kernel, by decide +kernel⟩, List.mem_of_getElem? (i := 66) (by decide +kernel), List.mem_of_getElem? (i := 419) (by decide +kernel), List.mem_of_getElem? (i := 420) (by decide +kernel)⟩
theorem lw_p20 : lw_okq (⟨"WordRuns$Reader", "readInside", "(I)Z"⟩, 10) := ⟨⟨by decide +kernel, by decide +kernel⟩, List.mem_of_getElem? (i := 66) (by decide +kernel), List.mem_of_getElem? (i := 426) (by decide +kernel), List.mem_of_getElem? (i := 427) (by decide +kernel)⟩
theorem lw_p21 : lw_okq (⟨"WordRuns$Reader", "pileAt", "(I)I"⟩, 10) := ⟨⟨by decide +kernel, by decide +kernel⟩, List.mem_of_getElem? (i := 66) (by decide +kernel), List.mem_of_getElem? (i := 430) (by decide +kernel), List.mem_of_getElem? (i := 431) (by decide +kernel)⟩
theorem lw_p22 : lw_okq (⟨"WordRuns$Reader", "readWord", "(II)Z"⟩, 10) := ⟨⟨by decide +kernel, by decide +kernel⟩, List.mem_of_getElem? (i := 66) (by decide +kernel), List.mem_of_getElem? (i := 434) (by decide +kernel), List.mem_of_getElem? (i := 435) (by decide +kernel)⟩
theorem lw_p23 : lw_okq (⟨"WordRuns$Reader", "readReversed", "(III)Z"⟩, 10) := ⟨⟨by decide +kernel, by decide +kernel⟩, List.mem_of_getElem? (i := 66) (by decide +kernel), List.mem_of_getElem? (i := 438) (by decide +kernel), List.mem_of_getElem? (i := 439) (by decide +kernel)⟩
theorem lw_p24 : lw_okq (⟨"WordRuns$Reader", "readGrown", "(IZI)Z"⟩, 10) := ⟨⟨by decide +kernel, by decide +kernel⟩, List.mem_of_getElem? (i := 66) (by decide +kernel), List.mem_of_getElem? (i := 443) (by decide +kernel), List.mem_of_getElem? (i := 444) (by decide +kernel)⟩
theorem lw_p25 : lw_okq (⟨"WordRuns$Reader", "fibSize", "(I)I"⟩, 10) := ⟨⟨by decide +kernel, by decide +kernel⟩, List.mem_of_getElem? (i := 66) (by decide +kernel), List.mem_of_getElem? (i := 447) (by decide +kernel), List.mem_of_getElem? (i := 448) (by decide +kernel)⟩
theorem lw_p26 : lw_okq (⟨"WordRuns$Reader", "growFib", "(I)V"⟩, 10) := ⟨⟨by decide +kernel, by decide +kernel⟩, List.mem_of_getElem? (i := 66) (by decide +kernel), List.mem_of_getElem? (i := 451) (by decide +kernel), List.mem_of_getElem? (i := 452) (by decide +kernel)⟩
theorem lw_p27 : lw_okq (⟨"WordRuns$Reader", "growMorse", "(I)V"⟩, 10) := ⟨⟨by decide +kernel, by decide +kernel⟩, List.mem_of_getElem? (i := 66) (by decide +kernel), List.mem_of_getElem? (i := 455) (by decide +kernel), List.mem_of_getElem? (i := 456) (by decide +kernel)⟩
theorem lw_p28 : lw_okq (⟨"WordRuns$Reader", "store", "(II)V"⟩, 10) := ⟨⟨by decide +kernel, by decide +kernel⟩, List.mem_of_getElem? (i := 66) (by decide +kernel), List.mem_of_getElem? (i := 459) (by decide +kernel), List.mem_of_getElem? (i := 460) (by decide +kernel)⟩
theorem lw_p29 : lw_okq (⟨"WordRuns", "replaceWord", "(LWordRuns$Word;)V"⟩, 15) := ⟨⟨by decide +kernel, by decide +kernel⟩, List.mem_of_getElem? (i := 21) (by decide +kernel), List.mem_of_getElem? (i := 474) (by decide +kernel), List.mem_of_getElem? (i := 475) (by decide +kernel)⟩
theorem lw_p30 : lw_okq (⟨"WordRuns", "isPlace", "(I)Z"⟩, 15) := ⟨⟨by decide +kernel, by decide +kernel⟩, List.mem_of_getElem? (i := 21) (by decide +kernel), List.mem_of_getElem? (i := 517) (by decide +kernel), List.mem_of_getElem? (i := 518) (by decide +kernel)⟩
theorem lw_p31 : lw_okq (⟨"WordRuns", "isLetter", "(I)Z"⟩, 15) := ⟨⟨by decide +kernel, by decide +kernel⟩, List.mem_of_getElem? (i := 21) (by decide +kernel), List.mem_of_getElem? (i := 521) (by decide +kernel), List.mem_of_getElem? (i := 522) (by decide +kernel)⟩
def lw_privs_2 : List (MethodName × Nat) := [(⟨"WordRuns$Reader", "readLetters", "(I)Z"⟩, 10), (⟨"WordRuns$Reader", "push", "(I)V"⟩, 10), (⟨"WordRuns$Reader", "readTimes", "(II)Z"⟩, 10), (⟨"WordRuns$Reader", "readNumber", "(I)I"⟩, 10), (⟨"WordRuns$Reader", "readInside", "(I)Z"⟩, 10), (⟨"WordRuns$Reader", "pileAt", "(I)I"⟩, 10), (⟨"WordRuns$Reader", "readWord", "(II)Z"⟩, 10), (⟨"WordRuns$Reader", "readReversed", "(III)Z"⟩, 10), (⟨"WordRuns$Reader", "readGrown", "(IZI)Z"⟩, 10), (⟨"WordRuns$Reader", "fibSize", "(I)I"⟩, 10), (⟨"WordRuns$Reader", "growFib", "(I)V"⟩, 10), (⟨"WordRuns$Reader", "growMorse", "(I)V"⟩, 10), (⟨"WordRuns$Reader", "store", "(II)V"⟩, 10), (⟨"WordRuns", "replaceWord", "(LWordRuns$Word;)V"⟩, 15), (⟨"WordRuns", "isPlace", "(I)Z"⟩, 15), (⟨"WordRuns", "isLetter", "(I)Z"⟩, 15)]
theorem lw_r2 : ∀ q ∈ lw_privs_2, lw_okq q := List.forall_mem_cons.mpr ⟨lw_p16, List.forall_mem_cons.mpr ⟨lw_p17, List.forall_mem_cons.mpr ⟨lw_p18, List.forall_mem_cons.mpr ⟨lw_p19, List.forall_mem_cons.mpr ⟨lw_p20, List.forall_mem_cons.mpr ⟨lw_p21, List.forall_mem_cons.mpr ⟨lw_p22, List.forall_mem_cons.mpr ⟨lw_p23, List.forall_mem_cons.mpr ⟨lw_p24, List.forall_mem_cons.mpr ⟨lw_p25, List.forall_mem_cons.mpr ⟨lw_p26, List.forall_mem_cons.mpr ⟨lw_p27, List.forall_mem_cons.mpr ⟨lw_p28, List.forall_mem_cons.mpr ⟨lw_p29, List.forall_mem_cons.mpr ⟨lw_p30, List.forall_mem_cons.mpr ⟨lw_p31, fun _ h => absurd h List.not_mem_nil⟩⟩⟩⟩⟩⟩⟩⟩⟩⟩⟩⟩⟩⟩⟩⟩
theorem lw_p32 : lw_okq (⟨"WordRuns", "act", "()I"⟩, 15) := ⟨⟨by decide +kernel, by decide +kernel⟩, List.mem_of_getElem? (i := 21) (by decide +kernel), List.mem_of_getElem? (i := 530) (by decide +kernel), List.mem_of_getElem? (i := 531) (by decide +kernel)⟩
theorem lw_p33 : lw_okq (⟨"WordRuns", "isPart", "(II)Z"⟩, 15) := ⟨⟨by decide +kernel, by decide +kernel⟩, List.mem_of_getElem? (i := 21) (by decide +kernel), List.mem_of_getElem? (i := 555) (by decide +kernel), List.mem_of_getElem? (i := 556) (by decide +kernel)⟩
theorem lw_p34 : lw_okq (⟨"WordRuns", "actIfOther", "()I"⟩, 15) := ⟨⟨by decide +kernel, by decide +kernel⟩, List.mem_of_getElem? (i := 21) (by decide +kernel), List.mem_of_getElem? (i := 559) (by decide +kernel), List.mem_of_getElem? (i := 560) (by decide +kernel)⟩
theorem lw_p35 : lw_okq (⟨"WordRuns", "isFullPart", "(II)Z"⟩, 15) := ⟨⟨by decide +kernel, by decide +kernel⟩, List.mem_of_getElem? (i := 21) (by decide +kernel), List.mem_of_getElem? (i := 571) (by decide +kernel), List.mem_of_getElem? (i := 572) (by decide +kernel)⟩
theorem lw_p36 : lw_okq (⟨"WordRuns$Shapes", "isPeriod", "(III)Z"⟩, 2) := ⟨⟨by decide +kernel, by decide +kernel⟩, List.mem_of_getElem? (i := 123) (by decide +kernel), List.mem_of_getElem? (i := 627) (by decide +kernel), List.mem_of_getElem? (i := 628) (by decide +kernel)⟩
theorem lw_p37 : lw_okq (⟨"WordRuns$Twins", "build", "()V"⟩, 4) := ⟨⟨by decide +kernel, by decide +kernel⟩, List.mem_of_getElem? (i := 104) (by decide +kernel), List.mem_of_getElem? (i := 638) (by decide +kernel), List.mem_of_getElem? (i := 639) (by decide +kernel)⟩
theorem lw_p38 : lw_okq (⟨"WordRuns$Orders", "isRotationLess", "(IIII)Z"⟩, 4) := ⟨⟨by decide +kernel, by decide +kernel⟩, List.mem_of_getElem? (i := 211) (by decide +kernel), List.mem_of_getElem? (i := 660) (by decide +kernel), List.mem_of_getElem? (i := 661) (by decide +kernel)⟩
theorem lw_p39 : lw_okq (⟨"WordRuns$Shapes", "isCover", "(III)Z"⟩, 2) := ⟨⟨by decide +kernel, by decide +kernel⟩, List.mem_of_getElem? (i := 123) (by decide +kernel), List.mem_of_getElem? (i := 673) (by decide +kernel), List.mem_of_getElem? (i := 674) (by decide +kernel)⟩
theorem lw_p40 : lw_okq (⟨"WordRuns$Orders", "sort", "()V"⟩, 4) := ⟨⟨by decide +kernel, by decide +kernel⟩, List.mem_of_getElem? (i := 211) (by decide +kernel), List.mem_of_getElem? (i := 731) (by decide +kernel), List.mem_of_getElem? (i := 732) (by decide +kernel)⟩
theorem lw_p41 : lw_okq (⟨"WordRuns", "foundRuns", "()LWordRuns$RunList;"⟩, 15) := ⟨⟨by decide +kernel, by decide +kernel⟩, List.mem_of_getElem? (i := 21) (by decide +kernel), List.mem_of_getElem? (i := 740) (by decide +kernel), List.mem_of_getElem? (i := 741) (by decide +kernel)⟩
theorem lw_p42 : lw_okq (⟨"WordRuns$RunList", "findWithGap", "(LWordRuns$Word;I)V"⟩, 4) := ⟨⟨by decide +kernel, by decide +kernel⟩, List.mem_of_getElem? (i := 254) (by decide +kernel), List.mem_of_getElem? (i := 749) (by decide +kernel), List.mem_of_getElem? (i := 750) (by decide +kernel)⟩
theorem lw_p43 : lw_okq (⟨"WordRuns$RunList", "add", "(III)V"⟩, 4) := ⟨⟨by decide +kernel, by decide +kernel⟩, List.mem_of_getElem? (i := 254) (by decide +kernel), List.mem_of_getElem? (i := 754) (by decide +kernel), List.mem_of_getElem? (i := 755) (by decide +kernel)⟩
theorem lw_p44 : lw_okq (⟨"WordRuns$Repeats", "addClosed", "(I)V"⟩, 5) := ⟨⟨by decide +kernel, by decide +kernel⟩, List.mem_of_getElem? (i := 136) (by decide +kernel), List.mem_of_getElem? (i := 866) (by decide +kernel), List.mem_of_getElem? (i := 867) (by decide +kernel)⟩
theorem lw_p45 : lw_okq (⟨"WordRuns$Repeats", "addAbelian", "(I)V"⟩, 5) := ⟨⟨by decide +kernel, by decide +kernel⟩, List.mem_of_getElem? (i := 136) (by decide +kernel), List.mem_of_getElem? (i := 886) (by decide +kernel), List.mem_of_getElem? (i := 887) (by decide +kernel)⟩
theorem lw_p46 : lw_okq (⟨"WordRuns$Repeats", "changeSurplus", "(II)I"⟩, 5) := ⟨⟨by decide +kernel, by decide +kernel⟩, List.mem_of_getElem? (i := 136) (by decide +kernel), List.mem_of_getElem? (i := 890) (by decide +kernel), List.mem_of_getElem? (i := 891) (by decide +kernel)⟩
theorem lw_p47 : lw_okq (⟨"WordRuns$Unlike", "countSeedsFrom", "(I)V"⟩, 10) := ⟨⟨by decide +kernel, by decide +kernel⟩, List.mem_of_getElem? (i := 174) (by decide +kernel), List.mem_of_getElem? (i := 916) (by decide +kernel), List.mem_of_getElem? (i := 917) (by decide +kernel)⟩
def lw_privs_3 : List (MethodName × Nat) := [(⟨"WordRuns", "act", "()I"⟩, 15), (⟨"WordRuns", "isPart", "(II)Z"⟩, 15), (⟨"WordRuns", "actIfOther", "()I"⟩, 15), (⟨"WordRuns", "isFullPart", "(II)Z"⟩, 15), (⟨"WordRuns$Shapes", "isPeriod", "(III)Z"⟩, 2), (⟨"WordRuns$Twins", "build", "()V"⟩, 4), (⟨"WordRuns$Orders", "isRotationLess", "(IIII)Z"⟩, 4), (⟨"WordRuns$Shapes", "isCover", "(III)Z"⟩, 2), (⟨"WordRuns$Orders", "sort", "()V"⟩, 4), (⟨"WordRuns", "foundRuns", "()LWordRuns$RunList;"⟩, 15), (⟨"WordRuns$RunList", "findWithGap", "(LWordRuns$Word;I)V"⟩, 4), (⟨"WordRuns$RunList", "add", "(III)V"⟩, 4), (⟨"WordRuns$Repeats", "addClosed", "(I)V"⟩, 5), (⟨"WordRuns$Repeats", "addAbelian", "(I)V"⟩, 5), (⟨"WordRuns$Repeats", "changeSurplus", "(II)I"⟩, 5), (⟨"WordRuns$Unlike", "countSeedsFrom", "(I)V"⟩, 10)]
theorem lw_r3 : ∀ q ∈ lw_privs_3, lw_okq q := List.forall_mem_cons.mpr ⟨lw_p32, List.forall_mem_cons.mpr ⟨lw_p33, List.forall_mem_cons.mpr ⟨lw_p34, List.forall_mem_cons.mpr ⟨lw_p35, List.forall_mem_cons.mpr ⟨lw_p36, List.forall_mem_cons.mpr ⟨lw_p37, List.forall_mem_cons.mpr ⟨lw_p38, List.forall_mem_cons.mpr ⟨lw_p39, List.forall_mem_cons.mpr ⟨lw_p40, List.forall_mem_cons.mpr ⟨lw_p41, List.forall_mem_cons.mpr ⟨lw_p42, List.forall_mem_cons.mpr ⟨lw_p43, List.forall_mem_cons.mpr ⟨lw_p44, List.forall_mem_cons.mpr ⟨lw_p45, List.forall_mem_cons.mpr ⟨lw_p46, List.forall_mem_cons.mpr ⟨lw_p47, fun _ h => absurd h List.not_mem_nil⟩⟩⟩⟩⟩⟩⟩⟩⟩⟩⟩⟩⟩⟩⟩⟩
theorem lw_p48 : lw_okq (⟨"WordRuns$Unlike", "coversBehind", "(II)Z"⟩, 10) := ⟨⟨by decide +kernel, by decide +kernel⟩, List.mem_of_getElem? (i := 174) (by decide +kernel), List.mem_of_getElem? (i := 924) (by decide +kernel), List.mem_of_getElem? (i := 925) (by decide +kernel)⟩
theorem lw_p49 : lw_okq (⟨"WordRuns$Unlike", "seedBegin", "(II)I"⟩, 10) := ⟨⟨by decide +kernel, by decide +kernel⟩, List.mem_of_getElem? (i := 174) (by decide +kernel), List.mem_of_getElem? (i := 936) (by decide +kernel), List.mem_of_getElem? (i := 937) (by decide +kernel)⟩
theorem lw_p50 : lw_okq (⟨"WordRuns$Unlike", "isSeed", "(II)Z"⟩, 10) := ⟨⟨by decide +kernel, by decide +kernel⟩, List.mem_of_getElem? (i := 174) (by decide +kernel), List.mem_of_getElem? (i := 940) (by decide +kernel), List.mem_of_getElem? (i := 941) (by decide +kernel)⟩
theorem lw_p51 : lw_okq (⟨"WordRuns$Unlike", "isFirst", "(II)Z"⟩, 10) := ⟨⟨by decide +kernel, by decide +kernel⟩, List.mem_of_getElem? (i := 174) (by decide +kernel), List.mem_of_getElem? (i := 944) (by decide +kernel), List.mem_of_getElem? (i := 945) (by decide +kernel)⟩
theorem lw_p52 : lw_okq (⟨"WordRuns$Unlike", "coversAhead", "(II)Z"⟩, 10) := ⟨⟨by decide +kernel, by decide +kernel⟩, List.mem_of_getElem? (i := 174) (by decide +kernel), List.mem_of_getElem? (i := 948) (by decide +kernel), List.mem_of_getElem? (i := 949) (by decide +kernel)⟩
theorem lw_p53 : lw_okq (⟨"WordRuns$Unlike", "placesUnder", "(II)I"⟩, 10) := ⟨⟨by decide +kernel, by decide +kernel⟩, List.mem_of_getElem? (i := 174) (by decide +kernel), List.mem_of_getElem? (i := 960) (by decide +kernel), List.mem_of_getElem? (i := 961) (by decide +kernel)⟩
theorem lw_p54 : lw_okq (⟨"WordRuns$Unlike", "lettersBehind", "(II)I"⟩, 10) := ⟨⟨by decide +kernel, by decide +kernel⟩, List.mem_of_getElem? (i := 174) (by decide +kernel), List.mem_of_getElem? (i := 984) (by decide +kernel), List.mem_of_getElem? (i := 985) (by decide +kernel)⟩
theorem lw_p55 : lw_okq (⟨"WordRuns$Unlike", "addAbsentAround", "(II)V"⟩, 10) := ⟨⟨by decide +kernel, by decide +kernel⟩, List.mem_of_getElem? (i := 174) (by decide +kernel), List.mem_of_getElem? (i := 1003) (by decide +kernel), List.mem_of_getElem? (i := 1004) (by decide +kernel)⟩
theorem lw_p56 : lw_okq (⟨"WordRuns$Unlike", "addAbsent", "(II)V"⟩, 10) := ⟨⟨by decide +kernel, by decide +kernel⟩, List.mem_of_getElem? (i := 174) (by decide +kernel), List.mem_of_getElem? (i := 1007) (by decide +kernel), List.mem_of_getElem? (i := 1008) (by decide +kernel)⟩
theorem lw_p57 : lw_okq (⟨"WordRuns$Unlike", "addAbsentFrom", "(I)V"⟩, 10) := ⟨⟨by decide +kernel, by decide +kernel⟩, List.mem_of_getElem? (i := 174) (by decide +kernel), List.mem_of_getElem? (i := 1011) (by decide +kernel), List.mem_of_getElem? (i := 1012) (by decide +kernel)⟩
theorem lw_p58 : lw_okq (⟨"WordRuns$Mirrors", "span", "(I)I"⟩, 5) := ⟨⟨by decide +kernel, by decide +kernel⟩, List.mem_of_getElem? (i := 230) (by decide +kernel), List.mem_of_getElem? (i := 1023) (by decide +kernel), List.mem_of_getElem? (i := 1024) (by decide +kernel)⟩
theorem lw_p59 : lw_okq (⟨"WordRuns$Mirrors", "middles", "()I"⟩, 5) := ⟨⟨by decide +kernel, by decide +kernel⟩, List.mem_of_getElem? (i := 230) (by decide +kernel), List.mem_of_getElem? (i := 1027) (by decide +kernel), List.mem_of_getElem? (i := 1028) (by decide +kernel)⟩
theorem lw_p60 : lw_okq (⟨"WordRunsModel", "isPlace", "(I)Z"⟩, 33) := ⟨⟨by decide +kernel, by decide +kernel⟩, List.mem_of_getElem? (i := 1080) (by decide +kernel), List.mem_of_getElem? (i := 1192) (by decide +kernel), List.mem_of_getElem? (i := 1193) (by decide +kernel)⟩
theorem lw_p61 : lw_okq (⟨"WordRunsModel", "size", "()I"⟩, 33) := ⟨⟨by decide +kernel, by decide +kernel⟩, List.mem_of_getElem? (i := 1080) (by decide +kernel), List.mem_of_getElem? (i := 1196) (by decide +kernel), List.mem_of_getElem? (i := 1197) (by decide +kernel)⟩
theorem lw_p62 : lw_okq (⟨"WordRunsModel", "at", "(I)I"⟩, 33) := ⟨⟨by decide +kernel, by decide +kernel⟩, List.mem_of_getElem? (i := 1080) (by decide +kernel), List.mem_of_getElem? (i := 1203) (by decide +kernel), List.mem_of_getElem? (i := 1204) (by decide +kernel)⟩
theorem lw_p63 : lw_okq (⟨"WordRunsModel", "isPart", "(II)Z"⟩, 33) := ⟨⟨by decide +kernel, by decide +kernel⟩, List.mem_of_getElem? (i := 1080) (by decide +kernel), List.mem_of_getElem? (i := 1211) (by decide +kernel), List.mem_of_getElem? (i := 1212) (by decide +kernel)⟩
def lw_privs_4 : List (MethodName × Nat) := [(⟨"WordRuns$Unlike", "coversBehind", "(II)Z"⟩, 10), (⟨"WordRuns$Unlike", "seedBegin", "(II)I"⟩, 10), (⟨"WordRuns$Unlike", "isSeed", "(II)Z"⟩, 10), (⟨"WordRuns$Unlike", "isFirst", "(II)Z"⟩, 10), (⟨"WordRuns$Unlike", "coversAhead", "(II)Z"⟩, 10), (⟨"WordRuns$Unlike", "placesUnder", "(II)I"⟩, 10), (⟨"WordRuns$Unlike", "lettersBehind", "(II)I"⟩, 10), (⟨"WordRuns$Unlike", "addAbsentAround", "(II)V"⟩, 10), (⟨"WordRuns$Unlike", "addAbsent", "(II)V"⟩, 10), (⟨"WordRuns$Unlike", "addAbsentFrom", "(I)V"⟩, 10), (⟨"WordRuns$Mirrors", "span", "(I)I"⟩, 5), (⟨"WordRuns$Mirrors", "middles", "()I"⟩, 5), (⟨"WordRunsModel", "isPlace", "(I)Z"⟩, 33), (⟨"WordRunsModel", "size", "()I"⟩, 33), (⟨"WordRunsModel", "at", "(I)I"⟩, 33), (⟨"WordRunsModel", "isPart", "(II)Z"⟩, 33)]
theorem lw_r4 : ∀ q ∈ lw_privs_4, lw_okq q := List.forall_mem_cons.mpr ⟨lw_p48, List.forall_mem_cons.mpr ⟨lw_p49, List.forall_mem_cons.mpr ⟨lw_p50, List.forall_mem_cons.mpr ⟨lw_p51, List.forall_mem_cons.mpr ⟨lw_p52, List.forall_mem_cons.mpr ⟨lw_p53, List.forall_mem_cons.mpr ⟨lw_p54, List.forall_mem_cons.mpr ⟨lw_p55, List.forall_mem_cons.mpr ⟨lw_p56, List.forall_mem_cons.mpr ⟨lw_p57, List.forall_mem_cons.mpr ⟨lw_p58, List.forall_mem_cons.mpr ⟨lw_p59, List.forall_mem_cons.mpr ⟨lw_p60, List.forall_mem_cons.mpr ⟨lw_p61, List.forall_mem_cons.mpr ⟨lw_p62, List.forall_mem_cons.mpr ⟨lw_p63, fun _ h => absurd h List.not_mem_nil⟩⟩⟩⟩⟩⟩⟩⟩⟩⟩⟩⟩⟩⟩⟩⟩
theorem lw_p64 : lw_okq (⟨"WordRunsModel", "common", "(III)I"⟩, 33) := ⟨⟨by decide +kernel, by decide +kernel⟩, List.mem_of_getElem? (i := 1080) (by decide +kernel), List.mem_of_getElem? (i := 1218) (by decide +kernel), List.mem_of_getElem? (i := 1219) (by decide +kernel)⟩
theorem lw_p65 : lw_okq (⟨"WordRunsModel", "isPeriod", "(III)Z"⟩, 33) := ⟨⟨by decide +kernel, by decide +kernel⟩, List.mem_of_getElem? (i := 1080) (by decide +kernel), List.mem_of_getElem? (i := 1229) (by decide +kernel), List.mem_of_getElem? (i := 1230) (by decide +kernel)⟩
theorem lw_p66 : lw_okq (⟨"WordRunsModel", "areAlike", "(III)Z"⟩, 33) := ⟨⟨by decide +kernel, by decide +kernel⟩, List.mem_of_getElem? (i := 1080) (by decide +kernel), List.mem_of_getElem? (i := 1233) (by decide +kernel), List.mem_of_getElem? (i := 1234) (by decide +kernel)⟩
theorem lw_p67 : lw_okq (⟨"WordRunsModel", "isSome", "(II)Z"⟩, 33) := ⟨⟨by decide +kernel, by decide +kernel⟩, List.mem_of_getElem? (i := 1080) (by decide +kernel), List.mem_of_getElem? (i := 1245) (by decide +kernel), List.mem_of_getElem? (i := 1246) (by decide +kernel)⟩
theorem lw_p68 : lw_okq (⟨"WordRunsModel", "rootOf", "(II)I"⟩, 33) := ⟨⟨by decide +kernel, by decide +kernel⟩, List.mem_of_getElem? (i := 1080) (by decide +kernel), List.mem_of_getElem? (i := 1249) (by decide +kernel), List.mem_of_getElem? (i := 1250) (by decide +kernel)⟩
theorem lw_p69 : lw_okq (⟨"WordRunsModel", "leastRotation", "(II)I"⟩, 33) := ⟨⟨by decide +kernel, by decide +kernel⟩, List.mem_of_getElem? (i := 1080) (by decide +kernel), List.mem_of_getElem? (i := 1253) (by decide +kernel), List.mem_of_getElem? (i := 1254) (by decide +kernel)⟩
theorem lw_p70 : lw_okq (⟨"WordRunsModel", "rotated", "(IIIIZ)I"⟩, 33) := ⟨⟨by decide +kernel, by decide +kernel⟩, List.mem_of_getElem? (i := 1080) (by decide +kernel), List.mem_of_getElem? (i := 1257) (by decide +kernel), List.mem_of_getElem? (i := 1258) (by decide +kernel)⟩
theorem lw_p71 : lw_okq (⟨"WordRunsModel", "longestFrom", "(IZ)I"⟩, 33) := ⟨⟨by decide +kernel, by decide +kernel⟩, List.mem_of_getElem? (i := 1080) (by decide +kernel), List.mem_of_getElem? (i := 1265) (by decide +kernel), List.mem_of_getElem? (i := 1266) (by decide +kernel)⟩
theorem lw_p72 : lw_okq (⟨"WordRunsModel", "isLyndon", "(IIZ)Z"⟩, 33) := ⟨⟨by decide +kernel, by decide +kernel⟩, List.mem_of_getElem? (i := 1080) (by decide +kernel), List.mem_of_getElem? (i := 1269) (by decide +kernel), List.mem_of_getElem? (i := 1270) (by decide +kernel)⟩
theorem lw_p73 : lw_okq (⟨"WordRunsModel", "laysRuns", "()V"⟩, 33) := ⟨⟨by decide +kernel, by decide +kernel⟩, List.mem_of_getElem? (i := 1080) (by decide +kernel), List.mem_of_getElem? (i := 1281) (by decide +kernel), List.mem_of_getElem? (i := 1282) (by decide +kernel)⟩
theorem lw_p74 : lw_okq (⟨"WordRunsModel", "leastPeriod", "(II)I"⟩, 33) := ⟨⟨by decide +kernel, by decide +kernel⟩, List.mem_of_getElem? (i := 1080) (by decide +kernel), List.mem_of_getElem? (i := 1285) (by decide +kernel), List.mem_of_getElem? (i := 1286) (by decide +kernel)⟩
theorem lw_p75 : lw_okq (⟨"WordRunsModel", "comesRun", "(III)V"⟩, 33) := ⟨⟨by decide +kernel, by decide +kernel⟩, List.mem_of_getElem? (i := 1080) (by decide +kernel), List.mem_of_getElem? (i := 1289) (by decide +kernel), List.mem_of_getElem? (i := 1290) (by decide +kernel)⟩
theorem lw_p76 : lw_okq (⟨"WordRunsModel", "lyndonAt", "(I)I"⟩, 33) := ⟨⟨by decide +kernel, by decide +kernel⟩, List.mem_of_getElem? (i := 1080) (by decide +kernel), List.mem_of_getElem? (i := 1293) (by decide +kernel), List.mem_of_getElem? (i := 1294) (by decide +kernel)⟩
theorem lw_p77 : lw_okq (⟨"WordRunsModel", "exponent", "(I)I"⟩, 33) := ⟨⟨by decide +kernel, by decide +kernel⟩, List.mem_of_getElem? (i := 1080) (by decide +kernel), List.mem_of_getElem? (i := 1297) (by decide +kernel), List.mem_of_getElem? (i := 1298) (by decide +kernel)⟩
theorem lw_p78 : lw_okq (⟨"WordRunsModel", "countedSquares", "(I)I"⟩, 33) := ⟨⟨by decide +kernel, by decide +kernel⟩, List.mem_of_getElem? (i := 1080) (by decide +kernel), List.mem_of_getElem? (i := 1310) (by decide +kernel), List.mem_of_getElem? (i := 1311) (by decide +kernel)⟩
theorem lw_p79 : lw_okq (⟨"WordRunsModel", "isSquare", "(II)Z"⟩, 33) := ⟨⟨by decide +kernel, by decide +kernel⟩, List.mem_of_getElem? (i := 1080) (by decide +kernel), List.mem_of_getElem? (i := 1314) (by decide +kernel), List.mem_of_getElem? (i := 1315) (by decide +kernel)⟩
def lw_privs_5 : List (MethodName × Nat) := [(⟨"WordRunsModel", "common", "(III)I"⟩, 33), (⟨"WordRunsModel", "isPeriod", "(III)Z"⟩, 33), (⟨"WordRunsModel", "areAlike", "(III)Z"⟩, 33), (⟨"WordRunsModel", "isSome", "(II)Z"⟩, 33), (⟨"WordRunsModel", "rootOf", "(II)I"⟩, 33), (⟨"WordRunsModel", "leastRotation", "(II)I"⟩, 33), (⟨"WordRunsModel", "rotated", "(IIIIZ)I"⟩, 33), (⟨"WordRunsModel", "longestFrom", "(IZ)I"⟩, 33), (⟨"WordRunsModel", "isLyndon", "(IIZ)Z"⟩, 33), (⟨"WordRunsModel", "laysRuns", "()V"⟩, 33), (⟨"WordRunsModel", "leastPeriod", "(II)I"⟩, 33), (⟨"WordRunsModel", "comesRun", "(III)V"⟩, 33), (⟨"WordRunsModel", "lyndonAt", "(I)I"⟩, 33), (⟨"WordRunsModel", "exponent", "(I)I"⟩, 33), (⟨"WordRunsModel", "countedSquares", "(I)I"⟩, 33), (⟨"WordRunsModel", "isSquare", "(II)Z"⟩, 33)]
theorem lw_r5 : ∀ q ∈ lw_privs_5, lw_okq q := List.forall_mem_cons.mpr ⟨lw_p64, List.forall_mem_cons.mpr ⟨lw_p65, List.forall_mem_cons.mpr ⟨lw_p66, List.forall_mem_cons.mpr ⟨lw_p67, List.forall_mem_cons.mpr ⟨lw_p68, List.forall_mem_cons.mpr ⟨lw_p69, List.forall_mem_cons.mpr ⟨lw_p70, List.forall_mem_cons.mpr ⟨lw_p71, List.forall_mem_cons.mpr ⟨lw_p72, List.forall_mem_cons.mpr ⟨lw_p73, List.forall_mem_cons.mpr ⟨lw_p74, List.forall_mem_cons.mpr ⟨lw_p75, List.forall_mem_cons.mpr ⟨lw_p76, List.forall_mem_cons.mpr ⟨lw_p77, List.forall_mem_cons.mpr ⟨lw_p78, List.forall_mem_cons.mpr ⟨lw_p79, fun _ h => absurd h List.not_mem_nil⟩⟩⟩⟩⟩⟩⟩⟩⟩⟩⟩⟩⟩⟩⟩⟩
theorem lw_p80 : lw_okq (⟨"WordRunsModel", "isEarlier", "(II)Z"⟩, 33) := ⟨⟨by decide +kernel, by decide +kernel⟩, List.mem_of_getElem? (i := 1080) (by decide +kernel), List.mem_of_getElem? (i := 1318) (by decide +kernel), List.mem_of_getElem? (i := 1319) (by decide +kernel)⟩
theorem lw_p81 : lw_okq (⟨"WordRunsModel", "cubes", "()I"⟩, 33) := ⟨⟨by decide +kernel, by decide +kernel⟩, List.mem_of_getElem? (i := 1080) (by decide +kernel), List.mem_of_getElem? (i := 1322) (by decide +kernel), List.mem_of_getElem? (i := 1323) (by decide +kernel)⟩
theorem lw_p82 : lw_okq (⟨"WordRunsModel", "isCube", "(II)Z"⟩, 33) := ⟨⟨by decide +kernel, by decide +kernel⟩, List.mem_of_getElem? (i := 1080) (by decide +kernel), List.mem_of_getElem? (i := 1326) (by decide +kernel), List.mem_of_getElem? (i := 1327) (by decide +kernel)⟩
theorem lw_p83 : lw_okq (⟨"WordRunsModel", "backBy", "(II)I"⟩, 33) := ⟨⟨by decide +kernel, by decide +kernel⟩, List.mem_of_getElem? (i := 1080) (by decide +kernel), List.mem_of_getElem? (i := 1336) (by decide +kernel), List.mem_of_getElem? (i := 1337) (by decide +kernel)⟩
theorem lw_p84 : lw_okq (⟨"WordRunsModel", "isCover", "(III)Z"⟩, 33) := ⟨⟨by decide +kernel, by decide +kernel⟩, List.mem_of_getElem? (i := 1080) (by decide +kernel), List.mem_of_getElem? (i := 1344) (by decide +kernel), List.mem_of_getElem? (i := 1345) (by decide +kernel)⟩
theorem lw_p85 : lw_okq (⟨"WordRunsModel", "laysSeeds", "()V"⟩, 33) := ⟨⟨by decide +kernel, by decide +kernel⟩, List.mem_of_getElem? (i := 1080) (by decide +kernel), List.mem_of_getElem? (i := 1352) (by decide +kernel), List.mem_of_getElem? (i := 1353) (by decide +kernel)⟩
theorem lw_p86 : lw_okq (⟨"WordRunsModel", "isSeed", "(II)Z"⟩, 33) := ⟨⟨by decide +kernel, by decide +kernel⟩, List.mem_of_getElem? (i := 1080) (by decide +kernel), List.mem_of_getElem? (i := 1356) (by decide +kernel), List.mem_of_getElem? (i := 1357) (by decide +kernel)⟩
theorem lw_p87 : lw_okq (⟨"WordRunsModel", "liesAt", "(III)Z"⟩, 33) := ⟨⟨by decide +kernel, by decide +kernel⟩, List.mem_of_getElem? (i := 1080) (by decide +kernel), List.mem_of_getElem? (i := 1360) (by decide +kernel), List.mem_of_getElem? (i := 1361) (by decide +kernel)⟩
theorem lw_p88 : lw_okq (⟨"WordRunsModel", "covered", "(II)I"⟩, 33) := ⟨⟨by decide +kernel, by decide +kernel⟩, List.mem_of_getElem? (i := 1080) (by decide +kernel), List.mem_of_getElem? (i := 1368) (by decide +kernel), List.mem_of_getElem? (i := 1369) (by decide +kernel)⟩
theorem lw_p89 : lw_okq (⟨"WordRunsModel", "mirrored", "(II)I"⟩, 33) := ⟨⟨by decide +kernel, by decide +kernel⟩, List.mem_of_getElem? (i := 1080) (by decide +kernel), List.mem_of_getElem? (i := 1376) (by decide +kernel), List.mem_of_getElem? (i := 1377) (by decide +kernel)⟩
theorem lw_p90 : lw_okq (⟨"WordRunsModel", "mirrorsMany", "(Z)I"⟩, 33) := ⟨⟨by decide +kernel, by decide +kernel⟩, List.mem_of_getElem? (i := 1080) (by decide +kernel), List.mem_of_getElem? (i := 1384) (by decide +kernel), List.mem_of_getElem? (i := 1385) (by decide +kernel)⟩
theorem lw_p91 : lw_okq (⟨"WordRunsModel", "isMirror", "(II)Z"⟩, 33) := ⟨⟨by decide +kernel, by decide +kernel⟩, List.mem_of_getElem? (i := 1080) (by decide +kernel), List.mem_of_getElem? (i := 1388) (by decide +kernel), List.mem_of_getElem? (i := 1389) (by decide +kernel)⟩
theorem lw_p92 : lw_okq (⟨"WordRunsModel", "fewest", "()I"⟩, 33) := ⟨⟨by decide +kernel, by decide +kernel⟩, List.mem_of_getElem? (i := 1080) (by decide +kernel), List.mem_of_getElem? (i := 1392) (by decide +kernel), List.mem_of_getElem? (i := 1393) (by decide +kernel)⟩
theorem lw_p93 : lw_okq (⟨"WordRunsModel", "longestMirror", "(I)I"⟩, 33) := ⟨⟨by decide +kernel, by decide +kernel⟩, List.mem_of_getElem? (i := 1080) (by decide +kernel), List.mem_of_getElem? (i := 1396) (by decide +kernel), List.mem_of_getElem? (i := 1397) (by decide +kernel)⟩
theorem lw_p94 : lw_okq (⟨"WordRunsModel", "unlikeOf", "(I)I"⟩, 33) := ⟨⟨by decide +kernel, by decide +kernel⟩, List.mem_of_getElem? (i := 1080) (by decide +kernel), List.mem_of_getElem? (i := 1404) (by decide +kernel), List.mem_of_getElem? (i := 1405) (by decide +kernel)⟩
theorem lw_p95 : lw_okq (⟨"WordRunsModel", "isBare", "(II)Z"⟩, 33) := ⟨⟨by decide +kernel, by decide +kernel⟩, List.mem_of_getElem? (i := 1080) (by decide +kernel), List.mem_of_getElem? (i := 1412) (by decide +kernel), List.mem_of_getElem? (i := 1413) (by decide +kernel)⟩
def lw_privs_6 : List (MethodName × Nat) := [(⟨"WordRunsModel", "isEarlier", "(II)Z"⟩, 33), (⟨"WordRunsModel", "cubes", "()I"⟩, 33), (⟨"WordRunsModel", "isCube", "(II)Z"⟩, 33), (⟨"WordRunsModel", "backBy", "(II)I"⟩, 33), (⟨"WordRunsModel", "isCover", "(III)Z"⟩, 33), (⟨"WordRunsModel", "laysSeeds", "()V"⟩, 33), (⟨"WordRunsModel", "isSeed", "(II)Z"⟩, 33), (⟨"WordRunsModel", "liesAt", "(III)Z"⟩, 33), (⟨"WordRunsModel", "covered", "(II)I"⟩, 33), (⟨"WordRunsModel", "mirrored", "(II)I"⟩, 33), (⟨"WordRunsModel", "mirrorsMany", "(Z)I"⟩, 33), (⟨"WordRunsModel", "isMirror", "(II)Z"⟩, 33), (⟨"WordRunsModel", "fewest", "()I"⟩, 33), (⟨"WordRunsModel", "longestMirror", "(I)I"⟩, 33), (⟨"WordRunsModel", "unlikeOf", "(I)I"⟩, 33), (⟨"WordRunsModel", "isBare", "(II)Z"⟩, 33)]
theorem lw_r6 : ∀ q ∈ lw_privs_6, lw_okq q := List.forall_mem_cons.mpr ⟨lw_p80, List.forall_mem_cons.mpr ⟨lw_p81, List.forall_mem_cons.mpr ⟨lw_p82, List.forall_mem_cons.mpr ⟨lw_p83, List.forall_mem_cons.mpr ⟨lw_p84, List.forall_mem_cons.mpr ⟨lw_p85, List.forall_mem_cons.mpr ⟨lw_p86, List.forall_mem_cons.mpr ⟨lw_p87, List.forall_mem_cons.mpr ⟨lw_p88, List.forall_mem_cons.mpr ⟨lw_p89, List.forall_mem_cons.mpr ⟨lw_p90, List.forall_mem_cons.mpr ⟨lw_p91, List.forall_mem_cons.mpr ⟨lw_p92, List.forall_mem_cons.mpr ⟨lw_p93, List.forall_mem_cons.mpr ⟨lw_p94, List.forall_mem_cons.mpr ⟨lw_p95, fun _ h => absurd h List.not_mem_nil⟩⟩⟩⟩⟩⟩⟩⟩⟩⟩⟩⟩⟩⟩⟩⟩
theorem lw_p96 : lw_okq (⟨"WordRunsModel", "nextOf", "(III)I"⟩, 33) := ⟨⟨by decide +kernel, by decide +kernel⟩, List.mem_of_getElem? (i := 1080) (by decide +kernel), List.mem_of_getElem? (i := 1421) (by decide +kernel), List.mem_of_getElem? (i := 1422) (by decide +kernel)⟩
theorem lw_p97 : lw_okq (⟨"WordRunsModel", "copied", "(I)I"⟩, 33) := ⟨⟨by decide +kernel, by decide +kernel⟩, List.mem_of_getElem? (i := 1080) (by decide +kernel), List.mem_of_getElem? (i := 1429) (by decide +kernel), List.mem_of_getElem? (i := 1430) (by decide +kernel)⟩
theorem lw_p98 : lw_okq (⟨"WordRunsModel", "ofPhrase", "(III)I"⟩, 33) := ⟨⟨by decide +kernel, by decide +kernel⟩, List.mem_of_getElem? (i := 1080) (by decide +kernel), List.mem_of_getElem? (i := 1433) (by decide +kernel), List.mem_of_getElem? (i := 1434) (by decide +kernel)⟩
theorem lw_p99 : lw_okq (⟨"WordRunsModel", "copiedFrom", "(II)I"⟩, 33) := ⟨⟨by decide +kernel, by decide +kernel⟩, List.mem_of_getElem? (i := 1080) (by decide +kernel), List.mem_of_getElem? (i := 1437) (by decide +kernel), List.mem_of_getElem? (i := 1438) (by decide +kernel)⟩
theorem lw_p100 : lw_okq (⟨"WordRunsModel", "laysEnds", "()V"⟩, 33) := ⟨⟨by decide +kernel, by decide +kernel⟩, List.mem_of_getElem? (i := 1080) (by decide +kernel), List.mem_of_getElem? (i := 1445) (by decide +kernel), List.mem_of_getElem? (i := 1446) (by decide +kernel)⟩
theorem lw_p101 : lw_okq (⟨"WordRunsModel", "isAhead", "(II)Z"⟩, 33) := ⟨⟨by decide +kernel, by decide +kernel⟩, List.mem_of_getElem? (i := 1080) (by decide +kernel), List.mem_of_getElem? (i := 1449) (by decide +kernel), List.mem_of_getElem? (i := 1450) (by decide +kernel)⟩
theorem lw_p102 : lw_okq (⟨"WordRunsModel", "isAbel", "(II)Z"⟩, 33) := ⟨⟨by decide +kernel, by decide +kernel⟩, List.mem_of_getElem? (i := 1080) (by decide +kernel), List.mem_of_getElem? (i := 1458) (by decide +kernel), List.mem_of_getElem? (i := 1459) (by decide +kernel)⟩
theorem lw_p103 : lw_okq (⟨"WordRunsModel", "longestUnlike", "()I"⟩, 33) := ⟨⟨by decide +kernel, by decide +kernel⟩, List.mem_of_getElem? (i := 1080) (by decide +kernel), List.mem_of_getElem? (i := 1466) (by decide +kernel), List.mem_of_getElem? (i := 1467) (by decide +kernel)⟩
theorem lw_p104 : lw_okq (⟨"WordRunsModel", "isIn", "(III)Z"⟩, 33) := ⟨⟨by decide +kernel, by decide +kernel⟩, List.mem_of_getElem? (i := 1080) (by decide +kernel), List.mem_of_getElem? (i := 1470) (by decide +kernel), List.mem_of_getElem? (i := 1471) (by decide +kernel)⟩
theorem lw_p105 : lw_okq (⟨"WordRunsModel", "unlikeLetters", "()I"⟩, 33) := ⟨⟨by decide +kernel, by decide +kernel⟩, List.mem_of_getElem? (i := 1080) (by decide +kernel), List.mem_of_getElem? (i := 1483) (by decide +kernel), List.mem_of_getElem? (i := 1484) (by decide +kernel)⟩
theorem lw_p106 : lw_okq (⟨"WordRunsModel", "exponents", "()I"⟩, 33) := ⟨⟨by decide +kernel, by decide +kernel⟩, List.mem_of_getElem? (i := 1080) (by decide +kernel), List.mem_of_getElem? (i := 1487) (by decide +kernel), List.mem_of_getElem? (i := 1488) (by decide +kernel)⟩
theorem lw_p107 : lw_okq (⟨"WordRunsModel", "keepsAct", "()V"⟩, 33) := ⟨⟨by decide +kernel, by decide +kernel⟩, List.mem_of_getElem? (i := 1080) (by decide +kernel), List.mem_of_getElem? (i := 1495) (by decide +kernel), List.mem_of_getElem? (i := 1496) (by decide +kernel)⟩
theorem lw_p108 : lw_okq (⟨"WordRunsModel", "becomesOther", "()V"⟩, 33) := ⟨⟨by decide +kernel, by decide +kernel⟩, List.mem_of_getElem? (i := 1080) (by decide +kernel), List.mem_of_getElem? (i := 1499) (by decide +kernel), List.mem_of_getElem? (i := 1500) (by decide +kernel)⟩
theorem lw_p109 : lw_okq (⟨"WordRunsModel", "putsAside", "()V"⟩, 33) := ⟨⟨by decide +kernel, by decide +kernel⟩, List.mem_of_getElem? (i := 1080) (by decide +kernel), List.mem_of_getElem? (i := 1515) (by decide +kernel), List.mem_of_getElem? (i := 1516) (by decide +kernel)⟩
theorem lw_p110 : lw_okq (⟨"WordRunsModel", "becomesAside", "()I"⟩, 33) := ⟨⟨by decide +kernel, by decide +kernel⟩, List.mem_of_getElem? (i := 1080) (by decide +kernel), List.mem_of_getElem? (i := 1519) (by decide +kernel), List.mem_of_getElem? (i := 1520) (by decide +kernel)⟩
theorem lw_p111 : lw_okq (⟨"WordRunsModel", "others", "()I"⟩, 33) := ⟨⟨by decide +kernel, by decide +kernel⟩, List.mem_of_getElem? (i := 1080) (by decide +kernel), List.mem_of_getElem? (i := 1523) (by decide +kernel), List.mem_of_getElem? (i := 1524) (by decide +kernel)⟩
def lw_privs_7 : List (MethodName × Nat) := [(⟨"WordRunsModel", "nextOf", "(III)I"⟩, 33), (⟨"WordRunsModel", "copied", "(I)I"⟩, 33), (⟨"WordRunsModel", "ofPhrase", "(III)I"⟩, 33), (⟨"WordRunsModel", "copiedFrom", "(II)I"⟩, 33), (⟨"WordRunsModel", "laysEnds", "()V"⟩, 33), (⟨"WordRunsModel", "isAhead", "(II)Z"⟩, 33), (⟨"WordRunsModel", "isAbel", "(II)Z"⟩, 33), (⟨"WordRunsModel", "longestUnlike", "()I"⟩, 33), (⟨"WordRunsModel", "isIn", "(III)Z"⟩, 33), (⟨"WordRunsModel", "unlikeLetters", "()I"⟩, 33), (⟨"WordRunsModel", "exponents", "()I"⟩, 33), (⟨"WordRunsModel", "keepsAct", "()V"⟩, 33), (⟨"WordRunsModel", "becomesOther", "()V"⟩, 33), (⟨"WordRunsModel", "putsAside", "()V"⟩, 33), (⟨"WordRunsModel", "becomesAside", "()I"⟩, 33), (⟨"WordRunsModel", "others", "()I"⟩, 33)]
theorem lw_r7 : ∀ q ∈ lw_privs_7, lw_okq q := List.forall_mem_cons.mpr ⟨lw_p96, List.forall_mem_cons.mpr ⟨lw_p97, List.forall_mem_cons.mpr ⟨lw_p98, List.forall_mem_cons.mpr ⟨lw_p99, List.forall_mem_cons.mpr ⟨lw_p100, List.forall_mem_cons.mpr ⟨lw_p101, List.forall_mem_cons.mpr ⟨lw_p102, List.forall_mem_cons.mpr ⟨lw_p103, List.forall_mem_cons.mpr ⟨lw_p104, List.forall_mem_cons.mpr ⟨lw_p105, List.forall_mem_cons.mpr ⟨lw_p106, List.forall_mem_cons.mpr ⟨lw_p107, List.forall_mem_cons.mpr ⟨lw_p108, List.forall_mem_cons.mpr ⟨lw_p109, List.forall_mem_cons.mpr ⟨lw_p110, List.forall_mem_cons.mpr ⟨lw_p111, fun _ h => absurd h List.not_mem_nil⟩⟩⟩⟩⟩⟩⟩⟩⟩⟩⟩⟩⟩⟩⟩⟩
theorem lw_p112 : lw_okq (⟨"WordRunsModel", "puts", "(I)V"⟩, 33) := ⟨⟨by decide +kernel, by decide +kernel⟩, List.mem_of_getElem? (i := 1080) (by decide +kernel), List.mem_of_getElem? (i := 1555) (by decide +kernel), List.mem_of_getElem? (i := 1556) (by decide +kernel)⟩
theorem lw_p113 : lw_okq (⟨"WordRunsModel", "readsAll", "()Z"⟩, 33) := ⟨⟨by decide +kernel, by decide +kernel⟩, List.mem_of_getElem? (i := 1080) (by decide +kernel), List.mem_of_getElem? (i := 1567) (by decide +kernel), List.mem_of_getElem? (i := 1568) (by decide +kernel)⟩
theorem lw_p114 : lw_okq (⟨"WordRunsModel", "isWord", "(Ljava/lang/String;)Z"⟩, 33) := ⟨⟨by decide +kernel, by decide +kernel⟩, List.mem_of_getElem? (i := 1080) (by decide +kernel), List.mem_of_getElem? (i := 1572) (by decide +kernel), List.mem_of_getElem? (i := 1573) (by decide +kernel)⟩
theorem lw_p115 : lw_okq (⟨"WordRunsModel", "nextByte", "()I"⟩, 33) := ⟨⟨by decide +kernel, by decide +kernel⟩, List.mem_of_getElem? (i := 1080) (by decide +kernel), List.mem_of_getElem? (i := 1576) (by decide +kernel), List.mem_of_getElem? (i := 1577) (by decide +kernel)⟩
theorem lw_p116 : lw_okq (⟨"WordRunsModel", "byteAt", "(I)I"⟩, 33) := ⟨⟨by decide +kernel, by decide +kernel⟩, List.mem_of_getElem? (i := 1080) (by decide +kernel), List.mem_of_getElem? (i := 1580) (by decide +kernel), List.mem_of_getElem? (i := 1581) (by decide +kernel)⟩
theorem lw_p117 : lw_okq (⟨"WordRunsModel", "readsLet", "()Z"⟩, 33) := ⟨⟨by decide +kernel, by decide +kernel⟩, List.mem_of_getElem? (i := 1080) (by decide +kernel), List.mem_of_getElem? (i := 1637) (by decide +kernel), List.mem_of_getElem? (i := 1638) (by decide +kernel)⟩
theorem lw_p118 : lw_okq (⟨"WordRunsModel", "isName", "()Z"⟩, 33) := ⟨⟨by decide +kernel, by decide +kernel⟩, List.mem_of_getElem? (i := 1080) (by decide +kernel), List.mem_of_getElem? (i := 1641) (by decide +kernel), List.mem_of_getElem? (i := 1642) (by decide +kernel)⟩
theorem lw_p119 : lw_okq (⟨"WordRunsModel", "fails", "(II)Z"⟩, 33) := ⟨⟨by decide +kernel, by decide +kernel⟩, List.mem_of_getElem? (i := 1080) (by decide +kernel), List.mem_of_getElem? (i := 1647) (by decide +kernel), List.mem_of_getElem? (i := 1648) (by decide +kernel)⟩
theorem lw_p120 : lw_okq (⟨"WordRunsModel", "nameAt", "()I"⟩, 33) := ⟨⟨by decide +kernel, by decide +kernel⟩, List.mem_of_getElem? (i := 1080) (by decide +kernel), List.mem_of_getElem? (i := 1651) (by decide +kernel), List.mem_of_getElem? (i := 1652) (by decide +kernel)⟩
theorem lw_p121 : lw_okq (⟨"WordRunsModel", "takesSign", "(I)Z"⟩, 33) := ⟨⟨by decide +kernel, by decide +kernel⟩, List.mem_of_getElem? (i := 1080) (by decide +kernel), List.mem_of_getElem? (i := 1655) (by decide +kernel), List.mem_of_getElem? (i := 1656) (by decide +kernel)⟩
theorem lw_p122 : lw_okq (⟨"WordRunsModel", "readsRow", "()Z"⟩, 33) := ⟨⟨by decide +kernel, by decide +kernel⟩, List.mem_of_getElem? (i := 1080) (by decide +kernel), List.mem_of_getElem? (i := 1659) (by decide +kernel), List.mem_of_getElem? (i := 1660) (by decide +kernel)⟩
theorem lw_p123 : lw_okq (⟨"WordRunsModel", "isItem", "()Z"⟩, 33) := ⟨⟨by decide +kernel, by decide +kernel⟩, List.mem_of_getElem? (i := 1080) (by decide +kernel), List.mem_of_getElem? (i := 1663) (by decide +kernel), List.mem_of_getElem? (i := 1664) (by decide +kernel)⟩
theorem lw_p124 : lw_okq (⟨"WordRunsModel", "readsItem", "()Z"⟩, 33) := ⟨⟨by decide +kernel, by decide +kernel⟩, List.mem_of_getElem? (i := 1080) (by decide +kernel), List.mem_of_getElem? (i := 1669) (by decide +kernel), List.mem_of_getElem? (i := 1670) (by decide +kernel)⟩
theorem lw_p125 : lw_okq (⟨"WordRunsModel", "readsLetters", "()Z"⟩, 33) := ⟨⟨by decide +kernel, by decide +kernel⟩, List.mem_of_getElem? (i := 1080) (by decide +kernel), List.mem_of_getElem? (i := 1673) (by decide +kernel), List.mem_of_getElem? (i := 1674) (by decide +kernel)⟩
theorem lw_p126 : lw_okq (⟨"WordRunsModel", "comes", "(I)V"⟩, 33) := ⟨⟨by decide +kernel, by decide +kernel⟩, List.mem_of_getElem? (i := 1080) (by decide +kernel), List.mem_of_getElem? (i := 1677) (by decide +kernel), List.mem_of_getElem? (i := 1678) (by decide +kernel)⟩
theorem lw_p127 : lw_okq (⟨"WordRunsModel", "readsTimes", "()Z"⟩, 33) := ⟨⟨by decide +kernel, by decide +kernel⟩, List.mem_of_getElem? (i := 1080) (by decide +kernel), List.mem_of_getElem? (i := 1681) (by decide +kernel), List.mem_of_getElem? (i := 1682) (by decide +kernel)⟩
def lw_privs_8 : List (MethodName × Nat) := [(⟨"WordRunsModel", "puts", "(I)V"⟩, 33), (⟨"WordRunsModel", "readsAll", "()Z"⟩, 33), (⟨"WordRunsModel", "isWord", "(Ljava/lang/String;)Z"⟩, 33), (⟨"WordRunsModel", "nextByte", "()I"⟩, 33), (⟨"WordRunsModel", "byteAt", "(I)I"⟩, 33), (⟨"WordRunsModel", "readsLet", "()Z"⟩, 33), (⟨"WordRunsModel", "isName", "()Z"⟩, 33), (⟨"WordRunsModel", "fails", "(II)Z"⟩, 33), (⟨"WordRunsModel", "nameAt", "()I"⟩, 33), (⟨"WordRunsModel", "takesSign", "(I)Z"⟩, 33), (⟨"WordRunsModel", "readsRow", "()Z"⟩, 33), (⟨"WordRunsModel", "isItem", "()Z"⟩, 33), (⟨"WordRunsModel", "readsItem", "()Z"⟩, 33), (⟨"WordRunsModel", "readsLetters", "()Z"⟩, 33), (⟨"WordRunsModel", "comes", "(I)V"⟩, 33), (⟨"WordRunsModel", "readsTimes", "()Z"⟩, 33)]
theorem lw_r8 : ∀ q ∈ lw_privs_8, lw_okq q := List.forall_mem_cons.mpr ⟨lw_p112, List.forall_mem_cons.mpr ⟨lw_p113, List.forall_mem_cons.mpr ⟨lw_p114, List.forall_mem_cons.mpr ⟨lw_p115, List.forall_mem_cons.mpr ⟨lw_p116, List.forall_mem_cons.mpr ⟨lw_p117, List.forall_mem_cons.mpr ⟨lw_p118, List.forall_mem_cons.mpr ⟨lw_p119, List.forall_mem_cons.mpr ⟨lw_p120, List.forall_mem_cons.mpr ⟨lw_p121, List.forall_mem_cons.mpr ⟨lw_p122, List.forall_mem_cons.mpr ⟨lw_p123, List.forall_mem_cons.mpr ⟨lw_p124, List.forall_mem_cons.mpr ⟨lw_p125, List.forall_mem_cons.mpr ⟨lw_p126, List.forall_mem_cons.mpr ⟨lw_p127, fun _ h => absurd h List.not_mem_nil⟩⟩⟩⟩⟩⟩⟩⟩⟩⟩⟩⟩⟩⟩⟩⟩
theorem lw_p128 : lw_okq (⟨"WordRunsModel", "readsNumber", "(I)Z"⟩, 33) := ⟨⟨by decide +kernel, by decide +kernel⟩, List.mem_of_getElem? (i := 1080) (by decide +kernel), List.mem_of_getElem? (i := 1685) (by decide +kernel), List.mem_of_getElem? (i := 1686) (by decide +kernel)⟩
theorem lw_p129 : lw_okq (⟨"WordRunsModel", "readsWithin", "()Z"⟩, 33) := ⟨⟨by decide +kernel, by decide +kernel⟩, List.mem_of_getElem? (i := 1080) (by decide +kernel), List.mem_of_getElem? (i := 1689) (by decide +kernel), List.mem_of_getElem? (i := 1690) (by decide +kernel)⟩
theorem lw_p130 : lw_okq (⟨"WordRunsModel", "readsRev", "()Z"⟩, 33) := ⟨⟨by decide +kernel, by decide +kernel⟩, List.mem_of_getElem? (i := 1080) (by decide +kernel), List.mem_of_getElem? (i := 1693) (by decide +kernel), List.mem_of_getElem? (i := 1694) (by decide +kernel)⟩
theorem lw_p131 : lw_okq (⟨"WordRunsModel", "readsFib", "()Z"⟩, 33) := ⟨⟨by decide +kernel, by decide +kernel⟩, List.mem_of_getElem? (i := 1080) (by decide +kernel), List.mem_of_getElem? (i := 1697) (by decide +kernel), List.mem_of_getElem? (i := 1698) (by decide +kernel)⟩
theorem lw_p132 : lw_okq (⟨"WordRunsModel", "fib", "(I)V"⟩, 33) := ⟨⟨by decide +kernel, by decide +kernel⟩, List.mem_of_getElem? (i := 1080) (by decide +kernel), List.mem_of_getElem? (i := 1701) (by decide +kernel), List.mem_of_getElem? (i := 1702) (by decide +kernel)⟩
theorem lw_p133 : lw_okq (⟨"WordRunsModel", "readsMorse", "()Z"⟩, 33) := ⟨⟨by decide +kernel, by decide +kernel⟩, List.mem_of_getElem? (i := 1080) (by decide +kernel), List.mem_of_getElem? (i := 1706) (by decide +kernel), List.mem_of_getElem? (i := 1707) (by decide +kernel)⟩
theorem lw_p134 : lw_okq (⟨"WordRunsModel", "readsName", "()Z"⟩, 33) := ⟨⟨by decide +kernel, by decide +kernel⟩, List.mem_of_getElem? (i := 1080) (by decide +kernel), List.mem_of_getElem? (i := 1710) (by decide +kernel), List.mem_of_getElem? (i := 1711) (by decide +kernel)⟩
theorem lw_p135 : lw_okq (⟨"WordRunsModel", "isClosed", "(II)Z"⟩, 33) := ⟨⟨by decide +kernel, by decide +kernel⟩, List.mem_of_getElem? (i := 1080) (by decide +kernel), List.mem_of_getElem? (i := 1731) (by decide +kernel), List.mem_of_getElem? (i := 1732) (by decide +kernel)⟩
theorem lw_p136 : lw_okq (⟨"WordRunsModel", "absentTwos", "()I"⟩, 33) := ⟨⟨by decide +kernel, by decide +kernel⟩, List.mem_of_getElem? (i := 1080) (by decide +kernel), List.mem_of_getElem? (i := 1739) (by decide +kernel), List.mem_of_getElem? (i := 1740) (by decide +kernel)⟩
theorem lw_p137 : lw_okq (⟨"WordRunsModel", "isTwo", "(II)Z"⟩, 33) := ⟨⟨by decide +kernel, by decide +kernel⟩, List.mem_of_getElem? (i := 1080) (by decide +kernel), List.mem_of_getElem? (i := 1743) (by decide +kernel), List.mem_of_getElem? (i := 1744) (by decide +kernel)⟩
theorem lw_p138 : lw_okq (⟨"WordRunsModel", "isOnce", "(II)Z"⟩, 33) := ⟨⟨by decide +kernel, by decide +kernel⟩, List.mem_of_getElem? (i := 1080) (by decide +kernel), List.mem_of_getElem? (i := 1747) (by decide +kernel), List.mem_of_getElem? (i := 1748) (by decide +kernel)⟩
theorem lw_p139 : lw_okq (⟨"WordRunsModel", "absentAround", "(II)I"⟩, 33) := ⟨⟨by decide +kernel, by decide +kernel⟩, List.mem_of_getElem? (i := 1080) (by decide +kernel), List.mem_of_getElem? (i := 1751) (by decide +kernel), List.mem_of_getElem? (i := 1752) (by decide +kernel)⟩
theorem lw_p140 : lw_okq (⟨"WordRunsModel", "laysAround", "(II)V"⟩, 33) := ⟨⟨by decide +kernel, by decide +kernel⟩, List.mem_of_getElem? (i := 1080) (by decide +kernel), List.mem_of_getElem? (i := 1755) (by decide +kernel), List.mem_of_getElem? (i := 1756) (by decide +kernel)⟩
def lw_privs_9 : List (MethodName × Nat) := [(⟨"WordRunsModel", "readsNumber", "(I)Z"⟩, 33), (⟨"WordRunsModel", "readsWithin", "()Z"⟩, 33), (⟨"WordRunsModel", "readsRev", "()Z"⟩, 33), (⟨"WordRunsModel", "readsFib", "()Z"⟩, 33), (⟨"WordRunsModel", "fib", "(I)V"⟩, 33), (⟨"WordRunsModel", "readsMorse", "()Z"⟩, 33), (⟨"WordRunsModel", "readsName", "()Z"⟩, 33), (⟨"WordRunsModel", "isClosed", "(II)Z"⟩, 33), (⟨"WordRunsModel", "absentTwos", "()I"⟩, 33), (⟨"WordRunsModel", "isTwo", "(II)Z"⟩, 33), (⟨"WordRunsModel", "isOnce", "(II)Z"⟩, 33), (⟨"WordRunsModel", "absentAround", "(II)I"⟩, 33), (⟨"WordRunsModel", "laysAround", "(II)V"⟩, 33)]
theorem lw_r9 : ∀ q ∈ lw_privs_9, lw_okq q := List.forall_mem_cons.mpr ⟨lw_p128, List.forall_mem_cons.mpr ⟨lw_p129, List.forall_mem_cons.mpr ⟨lw_p130, List.forall_mem_cons.mpr ⟨lw_p131, List.forall_mem_cons.mpr ⟨lw_p132, List.forall_mem_cons.mpr ⟨lw_p133, List.forall_mem_cons.mpr ⟨lw_p134, List.forall_mem_cons.mpr ⟨lw_p135, List.forall_mem_cons.mpr ⟨lw_p136, List.forall_mem_cons.mpr ⟨lw_p137, List.forall_mem_cons.mpr ⟨lw_p138, List.forall_mem_cons.mpr ⟨lw_p139, List.forall_mem_cons.mpr ⟨lw_p140, fun _ h => absurd h List.not_mem_nil⟩⟩⟩⟩⟩⟩⟩⟩⟩⟩⟩⟩⟩
def lw_privs : List (MethodName × Nat) := lw_privs_1 ++ (lw_privs_2 ++ (lw_privs_3 ++ (lw_privs_4 ++ (lw_privs_5 ++ (lw_privs_6 ++ (lw_privs_7 ++ (lw_privs_8 ++ (lw_privs_9))))))))
def lw_tbl : List Cond := k2_sels lw_privs ++ tables_1
theorem lw_privs_ok : ∀ q ∈ lw_privs, lw_okq q := by
  show ∀ q ∈ lw_privs_1 ++ (lw_privs_2 ++ (lw_privs_3 ++ (lw_privs_4 ++ (lw_privs_5 ++ (lw_privs_6 ++ (lw_privs_7 ++ (lw_privs_8 ++ (lw_privs_9)))))))), lw_okq q
  exact List.forall_mem_append.mpr ⟨lw_r1, List.forall_mem_append.mpr ⟨lw_r2, List.forall_mem_append.mpr ⟨lw_r3, List.forall_mem_append.mpr ⟨lw_r4, List.forall_mem_append.mpr ⟨lw_r5, List.forall_mem_append.mpr ⟨lw_r6, List.forall_mem_append.mpr ⟨lw_r7, List.forall_mem_append.mpr ⟨lw_r8, lw_r9⟩⟩⟩⟩⟩⟩⟩⟩
def RX0 : String := "WordRuns$Mirrors"
def TX0 : u_T := fun k => match k with
  | 0 => ("WordRuns$Mirrors", "word", "LWordRuns$Word;", true)
  | 1 => ("WordRuns$Mirrors", "twins", "LWordRuns$Twins;", true)
  | 2 => ("WordRuns$Mirrors", "tally", "LWordRuns$Tally;", true)
  | 3 => ("WordRuns$Mirrors", "fewestTo", "[I", true)
  | _ => ("WordRuns$Mirrors", "spans", "[I", true)
def tyX0 : Nat → FieldType := fun k => match k with
  | 0 => .object "WordRuns$Word"
  | 1 => .object "WordRuns$Twins"
  | 2 => .object "WordRuns$Tally"
  | 3 => .array .int
  | _ => .array .int
theorem nmX0 : ∀ a, a < 5 → ∀ b, b < 5 → a ≠ b → (TX0 a).2.1 ≠ (TX0 b).2.1 := by decide +kernel
theorem tyX0_ok : ∀ k, k < 5 → parseFieldDescriptor (TX0 k).2.2.1 = some (tyX0 k) := by decide +kernel
def RX1 : String := "WordRuns$Orders"
def TX1 : u_T := fun k => match k with
  | 0 => ("WordRuns$Orders", "word", "LWordRuns$Word;", true)
  | 1 => ("WordRuns$Orders", "twins", "LWordRuns$Twins;", true)
  | 2 => ("WordRuns$Orders", "endsInOrder", "[I", true)
  | _ => ("WordRuns$Orders", "sorted", "Z", false)
def tyX1 : Nat → FieldType := fun k => match k with
  | 0 => .object "WordRuns$Word"
  | 1 => .object "WordRuns$Twins"
  | 2 => .array .int
  | _ => .boolean
theorem nmX1 : ∀ a, a < 4 → ∀ b, b < 4 → a ≠ b → (TX1 a).2.1 ≠ (TX1 b).2.1 := by decide +kernel
theorem tyX1_ok : ∀ k, k < 4 → parseFieldDescriptor (TX1 k).2.2.1 = some (tyX1 k) := by decide +kernel
def RX2 : String := "WordRuns$Past"
def TX2 : u_T := fun k => match k with
  | 0 => ("WordRuns$Past", "words", "[LWordRuns$Word;", true)
  | 1 => ("WordRuns$Past", "place", "I", false)
  | _ => ("WordRuns$Past", "size", "I", false)
def tyX2 : Nat → FieldType := fun k => match k with
  | 0 => .array (.object "WordRuns$Word")
  | 1 => .int
  | _ => .int
theorem nmX2 : ∀ a, a < 3 → ∀ b, b < 3 → a ≠ b → (TX2 a).2.1 ≠ (TX2 b).2.1 := by decide +kernel
theorem tyX2_ok : ∀ k, k < 3 → parseFieldDescriptor (TX2 k).2.2.1 = some (tyX2 k) := by decide +kernel
def RX3 : String := "WordRuns$Reader"
def TX3 : u_T := fun k => match k with
  | 0 => ("WordRuns$Reader", "tape", "[B", true)
  | 1 => ("WordRuns$Reader", "tapeSize", "I", false)
  | 2 => ("WordRuns$Reader", "pile", "[B", true)
  | 3 => ("WordRuns$Reader", "top", "I", false)
  | 4 => ("WordRuns$Reader", "told", "[B", true)
  | 5 => ("WordRuns$Reader", "toldSize", "[I", true)
  | 6 => ("WordRuns$Reader", "toldName", "[I", true)
  | 7 => ("WordRuns$Reader", "names", "I", false)
  | 8 => ("WordRuns$Reader", "at", "I", false)
  | _ => ("WordRuns$Reader", "fault", "I", false)
def tyX3 : Nat → FieldType := fun k => match k with
  | 0 => .array .byte
  | 1 => .int
  | 2 => .array .byte
  | 3 => .int
  | 4 => .array .byte
  | 5 => .array .int
  | 6 => .array .int
  | 7 => .int
  | 8 => .int
  | _ => .int
theorem nmX3 : ∀ a, a < 10 → ∀ b, b < 10 → a ≠ b → (TX3 a).2.1 ≠ (TX3 b).2.1 := by decide +kernel
theorem tyX3_ok : ∀ k, k < 10 → parseFieldDescriptor (TX3 k).2.2.1 = some (tyX3 k) := by decide +kernel
def RX4 : String := "WordRuns$Repeats"
def TX4 : u_T := fun k => match k with
  | 0 => ("WordRuns$Repeats", "word", "LWordRuns$Word;", true)
  | 1 => ("WordRuns$Repeats", "twins", "LWordRuns$Twins;", true)
  | 2 => ("WordRuns$Repeats", "shapes", "LWordRuns$Shapes;", true)
  | 3 => ("WordRuns$Repeats", "tally", "LWordRuns$Tally;", true)
  | _ => ("WordRuns$Repeats", "surplus", "[I", true)
def tyX4 : Nat → FieldType := fun k => match k with
  | 0 => .object "WordRuns$Word"
  | 1 => .object "WordRuns$Twins"
  | 2 => .object "WordRuns$Shapes"
  | 3 => .object "WordRuns$Tally"
  | _ => .array .int
theorem nmX4 : ∀ a, a < 5 → ∀ b, b < 5 → a ≠ b → (TX4 a).2.1 ≠ (TX4 b).2.1 := by decide +kernel
theorem tyX4_ok : ∀ k, k < 5 → parseFieldDescriptor (TX4 k).2.2.1 = some (tyX4 k) := by decide +kernel
def RX5 : String := "WordRuns$RunList"
def TX5 : u_T := fun k => match k with
  | 0 => ("WordRuns$RunList", "froms", "[I", true)
  | 1 => ("WordRuns$RunList", "tos", "[I", true)
  | 2 => ("WordRuns$RunList", "gaps", "[I", true)
  | _ => ("WordRuns$RunList", "size", "I", false)
def tyX5 : Nat → FieldType := fun k => match k with
  | 0 => .array .int
  | 1 => .array .int
  | 2 => .array .int
  | _ => .int
theorem nmX5 : ∀ a, a < 4 → ∀ b, b < 4 → a ≠ b → (TX5 a).2.1 ≠ (TX5 b).2.1 := by decide +kernel
theorem tyX5_ok : ∀ k, k < 4 → parseFieldDescriptor (TX5 k).2.2.1 = some (tyX5 k) := by decide +kernel
def RX6 : String := "WordRuns$Shapes"
def TX6 : u_T := fun k => match k with
  | 0 => ("WordRuns$Shapes", "word", "LWordRuns$Word;", true)
  | _ => ("WordRuns$Shapes", "twins", "LWordRuns$Twins;", true)
def tyX6 : Nat → FieldType := fun k => match k with
  | 0 => .object "WordRuns$Word"
  | _ => .object "WordRuns$Twins"
theorem nmX6 : ∀ a, a < 2 → ∀ b, b < 2 → a ≠ b → (TX6 a).2.1 ≠ (TX6 b).2.1 := by decide +kernel
theorem tyX6_ok : ∀ k, k < 2 → parseFieldDescriptor (TX6 k).2.2.1 = some (tyX6 k) := by decide +kernel
def RX7 : String := "WordRuns$Tally"
def TX7 : u_T := fun k => match k with
  | 0 => ("WordRuns$Tally", "many", "I", false)
  | 1 => ("WordRuns$Tally", "longest", "I", false)
  | _ => ("WordRuns$Tally", "first", "I", false)
def tyX7 : Nat → FieldType := fun k => match k with
  | 0 => .int
  | 1 => .int
  | _ => .int
theorem nmX7 : ∀ a, a < 3 → ∀ b, b < 3 → a ≠ b → (TX7 a).2.1 ≠ (TX7 b).2.1 := by decide +kernel
theorem tyX7_ok : ∀ k, k < 3 → parseFieldDescriptor (TX7 k).2.2.1 = some (tyX7 k) := by decide +kernel
def RX8 : String := "WordRuns$Twins"
def TX8 : u_T := fun k => match k with
  | 0 => ("WordRuns$Twins", "word", "LWordRuns$Word;", true)
  | 1 => ("WordRuns$Twins", "rows", "[B", true)
  | 2 => ("WordRuns$Twins", "before", "[B", true)
  | _ => ("WordRuns$Twins", "ready", "Z", false)
def tyX8 : Nat → FieldType := fun k => match k with
  | 0 => .object "WordRuns$Word"
  | 1 => .array .byte
  | 2 => .array .byte
  | _ => .boolean
theorem nmX8 : ∀ a, a < 4 → ∀ b, b < 4 → a ≠ b → (TX8 a).2.1 ≠ (TX8 b).2.1 := by decide +kernel
theorem tyX8_ok : ∀ k, k < 4 → parseFieldDescriptor (TX8 k).2.2.1 = some (tyX8 k) := by decide +kernel
def RX9 : String := "WordRuns$Unlike"
def TX9 : u_T := fun k => match k with
  | 0 => ("WordRuns$Unlike", "word", "LWordRuns$Word;", true)
  | 1 => ("WordRuns$Unlike", "twins", "LWordRuns$Twins;", true)
  | 2 => ("WordRuns$Unlike", "seedsOfLength", "[I", true)
  | 3 => ("WordRuns$Unlike", "allSeeds", "I", false)
  | 4 => ("WordRuns$Unlike", "seedsCounted", "Z", false)
  | 5 => ("WordRuns$Unlike", "rightOf", "[I", true)
  | 6 => ("WordRuns$Unlike", "seenFrom", "[I", true)
  | 7 => ("WordRuns$Unlike", "absent", "I", false)
  | 8 => ("WordRuns$Unlike", "shortestAbsent", "I", false)
  | _ => ("WordRuns$Unlike", "longestAbsent", "I", false)
def tyX9 : Nat → FieldType := fun k => match k with
  | 0 => .object "WordRuns$Word"
  | 1 => .object "WordRuns$Twins"
  | 2 => .array .int
  | 3 => .int
  | 4 => .boolean
  | 5 => .array .int
  | 6 => .array .int
  | 7 => .int
  | 8 => .int
  | _ => .int
theorem nmX9 : ∀ a, a < 10 → ∀ b, b < 10 → a ≠ b → (TX9 a).2.1 ≠ (TX9 b).2.1 := by decide +kernel
theorem tyX9_ok : ∀ k, k < 10 → parseFieldDescriptor (TX9 k).2.2.1 = some (tyX9 k) := by decide +kernel
def RX10 : String := "WordRuns$Word"
def TX10 : u_T := fun k => match k with
  | 0 => ("WordRuns$Word", "letters", "[B", true)
  | _ => ("WordRuns$Word", "size", "I", false)
def tyX10 : Nat → FieldType := fun k => match k with
  | 0 => .array .byte
  | _ => .int
theorem nmX10 : ∀ a, a < 2 → ∀ b, b < 2 → a ≠ b → (TX10 a).2.1 ≠ (TX10 b).2.1 := by decide +kernel
theorem tyX10_ok : ∀ k, k < 2 → parseFieldDescriptor (TX10 k).2.2.1 = some (tyX10 k) := by decide +kernel
def RX11 : String := "WordRuns"
def TX11 : u_T := fun k => match k with
  | 0 => ("WordRuns", "word", "LWordRuns$Word;", true)
  | 1 => ("WordRuns", "draft", "LWordRuns$Word;", true)
  | 2 => ("WordRuns", "past", "LWordRuns$Past;", true)
  | 3 => ("WordRuns", "shelves", "[LWordRuns$Word;", true)
  | 4 => ("WordRuns", "reader", "LWordRuns$Reader;", true)
  | 5 => ("WordRuns", "twins", "LWordRuns$Twins;", true)
  | 6 => ("WordRuns", "shapes", "LWordRuns$Shapes;", true)
  | 7 => ("WordRuns", "repeats", "LWordRuns$Repeats;", true)
  | 8 => ("WordRuns", "unlike", "LWordRuns$Unlike;", true)
  | 9 => ("WordRuns", "orders", "LWordRuns$Orders;", true)
  | 10 => ("WordRuns", "mirrors", "LWordRuns$Mirrors;", true)
  | 11 => ("WordRuns", "runList", "LWordRuns$RunList;", true)
  | 12 => ("WordRuns", "triedRuns", "LWordRuns$RunList;", true)
  | 13 => ("WordRuns", "runsFound", "Z", false)
  | _ => ("WordRuns", "keptShelves", "I", false)
def tyX11 : Nat → FieldType := fun k => match k with
  | 0 => .object "WordRuns$Word"
  | 1 => .object "WordRuns$Word"
  | 2 => .object "WordRuns$Past"
  | 3 => .array (.object "WordRuns$Word")
  | 4 => .object "WordRuns$Reader"
  | 5 => .object "WordRuns$Twins"
  | 6 => .object "WordRuns$Shapes"
  | 7 => .object "WordRuns$Repeats"
  | 8 => .object "WordRuns$Unlike"
  | 9 => .object "WordRuns$Orders"
  | 10 => .object "WordRuns$Mirrors"
  | 11 => .object "WordRuns$RunList"
  | 12 => .object "WordRuns$RunList"
  | 13 => .boolean
  | _ => .int
theorem nmX11 : ∀ a, a < 15 → ∀ b, b < 15 → a ≠ b → (TX11 a).2.1 ≠ (TX11 b).2.1 := by decide +kernel
theorem tyX11_ok : ∀ k, k < 15 → parseFieldDescriptor (TX11 k).2.2.1 = some (tyX11 k) := by decide +kernel
def RX12 : String := "WordRunsModel"
def TX12 : u_T := fun k => match k with
  | 0 => ("WordRunsModel", "now", "[I", true)
  | 1 => ("WordRunsModel", "was", "[I", true)
  | 2 => ("WordRunsModel", "undone", "I", false)
  | 3 => ("WordRunsModel", "kept", "[I", true)
  | 4 => ("WordRunsModel", "isKept", "[Z", true)
  | 5 => ("WordRunsModel", "run", "[I", true)
  | 6 => ("WordRunsModel", "runMany", "I", false)
  | 7 => ("WordRunsModel", "areRuns", "Z", false)
  | 8 => ("WordRunsModel", "seed", "[I", true)
  | 9 => ("WordRunsModel", "seedMany", "I", false)
  | 10 => ("WordRunsModel", "areSeeds", "Z", false)
  | 11 => ("WordRunsModel", "few", "[I", true)
  | 12 => ("WordRunsModel", "end", "[I", true)
  | 13 => ("WordRunsModel", "often", "[I", true)
  | 14 => ("WordRunsModel", "aside", "[I", true)
  | 15 => ("WordRunsModel", "tape", "[B", true)
  | 16 => ("WordRunsModel", "taped", "I", false)
  | 17 => ("WordRunsModel", "spot", "I", false)
  | 18 => ("WordRunsModel", "wrong", "I", false)
  | 19 => ("WordRunsModel", "number", "I", false)
  | 20 => ("WordRunsModel", "read", "[I", true)
  | 21 => ("WordRunsModel", "top", "I", false)
  | 22 => ("WordRunsModel", "open", "I", false)
  | 23 => ("WordRunsModel", "name", "[I", true)
  | 24 => ("WordRunsModel", "nameFrom", "[I", true)
  | 25 => ("WordRunsModel", "nameMany", "[I", true)
  | 26 => ("WordRunsModel", "nameLetters", "[I", true)
  | 27 => ("WordRunsModel", "names", "I", false)
  | 28 => ("WordRunsModel", "nameHere", "I", false)
  | 29 => ("WordRunsModel", "nameEnd", "I", false)
  | 30 => ("WordRunsModel", "isAheadOf", "[Z", true)
  | 31 => ("WordRunsModel", "isBehind", "[Z", true)
  | _ => ("WordRunsModel", "areBoth", "[Z", true)
def tyX12 : Nat → FieldType := fun k => match k with
  | 0 => .array .int
  | 1 => .array .int
  | 2 => .int
  | 3 => .array .int
  | 4 => .array .boolean
  | 5 => .array .int
  | 6 => .int
  | 7 => .boolean
  | 8 => .array .int
  | 9 => .int
  | 10 => .boolean
  | 11 => .array .int
  | 12 => .array .int
  | 13 => .array .int
  | 14 => .array .int
  | 15 => .array .byte
  | 16 => .int
  | 17 => .int
  | 18 => .int
  | 19 => .int
  | 20 => .array .int
  | 21 => .int
  | 22 => .int
  | 23 => .array .int
  | 24 => .array .int
  | 25 => .array .int
  | 26 => .array .int
  | 27 => .int
  | 28 => .int
  | 29 => .int
  | 30 => .array .boolean
  | 31 => .array .boolean
  | _ => .array .boolean
theorem nmX12 : ∀ a, a < 33 → ∀ b, b < 33 → a ≠ b → (TX12 a).2.1 ≠ (TX12 b).2.1 := by decide +kernel
theorem tyX12_ok : ∀ k, k < 33 → parseFieldDescriptor (TX12 k).2.2.1 = some (tyX12 k) := by decide +kernel
abbrev vwCl : List vw_C := [(RX0, TX0, 5), (RX1, TX1, 4), (RX2, TX2, 3), (RX3, TX3, 10), (RX4, TX4, 5), (RX5, TX5, 4), (RX6, TX6, 2), (RX7, TX7, 3), (RX8, TX8, 4), (RX9, TX9, 10), (RX10, TX10, 2), (RX11, TX11, 15), (RX12, TX12, 33)]
/-! the words of the tables by place; the good ones -/
def lw_T (a : Nat) : List Cond := match a with
  | 0 => k2_sels lw_privs
  | 1 => tables_1_1
  | 2 => tables_1_2
  | 3 => tables_1_3
  | 4 => tables_1_4
  | 5 => tables_1_5
  | 6 => tables_1_6
  | 7 => tables_1_7
  | 8 => tables_1_8
  | _ => []
theorem lw_T_in {a : Nat} {w : Cond} (h : w ∈ lw_T a) : w ∈ lw_tbl := by
  have e : lw_tbl = k2_sels lw_privs ++ (tables_1_1 ++ (tables_1_2 ++ (tables_1_3 ++ (tables_1_4 ++ (tables_1_5 ++ (tables_1_6 ++ (tables_1_7 ++ tables_1_8))))))) := rfl
  rw [e]
  simp only [List.mem_append]
  unfold lw_T at h
  split at h
  case h_10 => exact absurd h List.not_mem_nil
  all_goals simp only [h, true_or, or_true]
def TBL : List Cond := lw_tbl.filter goodWord
def wk (a b : Nat) (w : Cond) : Bool := decide ((lw_T a)[b]? = some w) && goodWord w
theorem wk_tbl {a b : Nat} {w : Cond} (h : wk a b w = true) : w ∈ TBL := by
  unfold wk at h
  rw [Bool.and_eq_true, decide_eq_true_eq] at h
  exact List.mem_filter.mpr ⟨lw_T_in (List.mem_of_getElem? h.1), h.2⟩
theorem TBL_good {w : Cond} (h : w ∈ TBL) : (w.onTables && w.keeps) = true ∨ ∃ ty, w = .arrayClass ty := good_of_word (List.mem_filter.mp h).2
theorem TBL_in {w : Cond} (h : w ∈ TBL) : w ∈ lw_tbl := (List.mem_filter.mp h).1
theorem wk_test : wk 1 0 (Jvm.Cond.initialized "WordRunsLaw") = true := by decide +kernel
