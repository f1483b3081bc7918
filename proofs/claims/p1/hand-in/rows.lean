section
-- ===== PART A: goes FIRST, ahead of the names: the tables' words, and 'selects' of the private methods out of them =====
/-- a private method of a class that the tables say can be made, by its rows of tables_1 -/
def lw_okq (q : MethodName × Nat) : Prop := (q.1.cls ≠ "java/lang/invoke/MethodHandle" ∧ q.1.cls ≠ "java/lang/invoke/VarHandle") ∧ Cond.instantiable q.1.cls q.2 ∈ tables_1 ∧ Cond.privateMethod q.1 ∈ tables_1 ∧ Cond.instanceMethod q.1 ∈ tables_1
theorem lw_p0 : lw_okq (⟨"SymmetryHouse$SymbolReader", "skipBlanks", "()V"⟩, 11) := ⟨⟨by decide +kernel, by decide +kernel⟩, List.mem_of_getElem? (i := 240) (by decide +kernel), List.mem_of_getElem? (i := 406) (by decide +kernel), List.mem_of_getElem? (i := 407) (by decide +kernel)⟩
theorem lw_p1 : lw_okq (⟨"SymmetryHouse$SymbolReader", "readLattice", "()Z"⟩, 11) := ⟨⟨by decide +kernel, by decide +kernel⟩, List.mem_of_getElem? (i := 240) (by decide +kernel), List.mem_of_getElem? (i := 410) (by decide +kernel), List.mem_of_getElem? (i := 411) (by decide +kernel)⟩
theorem lw_p2 : lw_okq (⟨"SymmetryHouse$SymbolReader", "readMinus", "()Z"⟩, 11) := ⟨⟨by decide +kernel, by decide +kernel⟩, List.mem_of_getElem? (i := 240) (by decide +kernel), List.mem_of_getElem? (i := 414) (by decide +kernel), List.mem_of_getElem? (i := 415) (by decide +kernel)⟩
theorem lw_p3 : lw_okq (⟨"SymmetryHouse$SymbolReader", "here", "()I"⟩, 11) := ⟨⟨by decide +kernel, by decide +kernel⟩, List.mem_of_getElem? (i := 240) (by decide +kernel), List.mem_of_getElem? (i := 418) (by decide +kernel), List.mem_of_getElem? (i := 419) (by decide +kernel)⟩
theorem lw_p4 : lw_okq (⟨"SymmetryHouse$SymbolReader", "addLattice", "(I)Z"⟩, 11) := ⟨⟨by decide +kernel, by decide +kernel⟩, List.mem_of_getElem? (i := 240) (by decide +kernel), List.mem_of_getElem? (i := 422) (by decide +kernel), List.mem_of_getElem? (i := 423) (by decide +kernel)⟩
theorem lw_p5 : lw_okq (⟨"SymmetryHouse$SymbolReader", "readWord", "()Z"⟩, 11) := ⟨⟨by decide +kernel, by decide +kernel⟩, List.mem_of_getElem? (i := 240) (by decide +kernel), List.mem_of_getElem? (i := 447) (by decide +kernel), List.mem_of_getElem? (i := 448) (by decide +kernel)⟩
theorem lw_p6 : lw_okq (⟨"SymmetryHouse$SymbolReader", "readShift", "()Z"⟩, 11) := ⟨⟨by decide +kernel, by decide +kernel⟩, List.mem_of_getElem? (i := 240) (by decide +kernel), List.mem_of_getElem? (i := 451) (by decide +kernel), List.mem_of_getElem? (i := 452) (by decide +kernel)⟩
theorem lw_p7 : lw_okq (⟨"SymmetryHouse$SymbolReader", "readTwelfths", "(I)Z"⟩, 11) := ⟨⟨by decide +kernel, by decide +kernel⟩, List.mem_of_getElem? (i := 240) (by decide +kernel), List.mem_of_getElem? (i := 455) (by decide +kernel), List.mem_of_getElem? (i := 456) (by decide +kernel)⟩
theorem lw_p8 : lw_okq (⟨"SymmetryHouse$SymbolReader", "readRotation", "()Z"⟩, 11) := ⟨⟨by decide +kernel, by decide +kernel⟩, List.mem_of_getElem? (i := 240) (by decide +kernel), List.mem_of_getElem? (i := 462) (by decide +kernel), List.mem_of_getElem? (i := 463) (by decide +kernel)⟩
theorem lw_p9 : lw_okq (⟨"SymmetryHouse$SymbolReader", "readAxis", "(I)I"⟩, 11) := ⟨⟨by decide +kernel, by decide +kernel⟩, List.mem_of_getElem? (i := 240) (by decide +kernel), List.mem_of_getElem? (i := 466) (by decide +kernel), List.mem_of_getElem? (i := 467) (by decide +kernel)⟩
theorem lw_p10 : lw_okq (⟨"SymmetryHouse$SymbolReader", "axisUntold", "(I)I"⟩, 11) := ⟨⟨by decide +kernel, by decide +kernel⟩, List.mem_of_getElem? (i := 240) (by decide +kernel), List.mem_of_getElem? (i := 476) (by decide +kernel), List.mem_of_getElem? (i := 477) (by decide +kernel)⟩
theorem lw_p11 : lw_okq (⟨"SymmetryHouse$SymbolReader", "readMoves", "(II)Z"⟩, 11) := ⟨⟨by decide +kernel, by decide +kernel⟩, List.mem_of_getElem? (i := 240) (by decide +kernel), List.mem_of_getElem? (i := 480) (by decide +kernel), List.mem_of_getElem? (i := 481) (by decide +kernel)⟩
theorem lw_p12 : lw_okq (⟨"SymmetryHouse$SymbolReader", "addMove", "(I)Z"⟩, 11) := ⟨⟨by decide +kernel, by decide +kernel⟩, List.mem_of_getElem? (i := 240) (by decide +kernel), List.mem_of_getElem? (i := 484) (by decide +kernel), List.mem_of_getElem? (i := 485) (by decide +kernel)⟩
theorem lw_p13 : lw_okq (⟨"SymmetryHouse$SymbolReader", "setMatrix", "(III)V"⟩, 11) := ⟨⟨by decide +kernel, by decide +kernel⟩, List.mem_of_getElem? (i := 240) (by decide +kernel), List.mem_of_getElem? (i := 488) (by decide +kernel), List.mem_of_getElem? (i := 489) (by decide +kernel)⟩
theorem lw_p14 : lw_okq (⟨"SymmetryHouse$TripleReader", "readTriple", "(I)Z"⟩, 7) := ⟨⟨by decide +kernel, by decide +kernel⟩, List.mem_of_getElem? (i := 212) (by decide +kernel), List.mem_of_getElem? (i := 516) (by decide +kernel), List.mem_of_getElem? (i := 517) (by decide +kernel)⟩
theorem lw_p15 : lw_okq (⟨"SymmetryHouse$TripleReader", "token", "()I"⟩, 7) := ⟨⟨by decide +kernel, by decide +kernel⟩, List.mem_of_getElem? (i := 212) (by decide +kernel), List.mem_of_getElem? (i := 520) (by decide +kernel), List.mem_of_getElem? (i := 521) (by decide +kernel)⟩
def lw_privs_1 : List (MethodName × Nat) := [(⟨"SymmetryHouse$SymbolReader", "skipBlanks", "()V"⟩, 11), (⟨"SymmetryHouse$SymbolReader", "readLattice", "()Z"⟩, 11), (⟨"SymmetryHouse$SymbolReader", "readMinus", "()Z"⟩, 11), (⟨"SymmetryHouse$SymbolReader", "here", "()I"⟩, 11), (⟨"SymmetryHouse$SymbolReader", "addLattice", "(I)Z"⟩, 11), (⟨"SymmetryHouse$SymbolReader", "readWord", "()Z"⟩, 11), (⟨"SymmetryHouse$SymbolReader", "readShift", "()Z"⟩, 11), (⟨"SymmetryHouse$SymbolReader", "readTwelfths", "(I)Z"⟩, 11), (⟨"SymmetryHouse$SymbolReader", "readRotation", "()Z"⟩, 11), (⟨"SymmetryHouse$SymbolReader", "readAxis", "(I)I"⟩, 11), (⟨"SymmetryHouse$SymbolReader", "axisUntold", "(I)I"⟩, 11), (⟨"SymmetryHouse$SymbolReader", "readMoves", "(II)Z"⟩, 11), (⟨"SymmetryHouse$SymbolReader", "addMove", "(I)Z"⟩, 11), (⟨"SymmetryHouse$SymbolReader", "setMatrix", "(III)V"⟩, 11), (⟨"SymmetryHouse$TripleReader", "readTriple", "(I)Z"⟩, 7), (⟨"SymmetryHouse$TripleReader", "token", "()I"⟩, 7)]
theorem lw_r1 : ∀ q ∈ lw_privs_1, lw_okq q := List.forall_mem_cons.mpr ⟨lw_p0, List.forall_mem_cons.mpr ⟨lw_p1, List.forall_mem_cons.mpr ⟨lw_p2, List.forall_mem_cons.mpr ⟨lw_p3, List.forall_mem_cons.mpr ⟨lw_p4, List.forall_mem_cons.mpr ⟨lw_p5, List.forall_mem_cons.mpr ⟨lw_p6, List.forall_mem_cons.mpr ⟨lw_p7, List.forall_mem_cons.mpr ⟨lw_p8, List.forall_mem_cons.mpr ⟨lw_p9, List.forall_mem_cons.mpr ⟨lw_p10, List.forall_mem_cons.mpr ⟨lw_p11, List.forall_mem_cons.mpr ⟨lw_p12, List.forall_mem_cons.mpr ⟨lw_p13, List.forall_mem_cons.mpr ⟨lw_p14, List.forall_mem_cons.mpr ⟨lw_p15, fun _ h => absurd h List.not_mem_nil⟩⟩⟩⟩⟩⟩⟩⟩⟩⟩⟩⟩⟩⟩⟩⟩
theorem lw_p16 : lw_okq (⟨"SymmetryHouse$TripleReader", "digitsHere", "()I"⟩, 7) := ⟨⟨by decide +kernel, by decide +kernel⟩, List.mem_of_getElem? (i := 212) (by decide +kernel), List.mem_of_getElem? (i := 524) (by decide +kernel), List.mem_of_getElem? (i := 525) (by decide +kernel)⟩
theorem lw_p17 : lw_okq (⟨"SymmetryHouse$TripleReader", "readComma", "()Z"⟩, 7) := ⟨⟨by decide +kernel, by decide +kernel⟩, List.mem_of_getElem? (i := 212) (by decide +kernel), List.mem_of_getElem? (i := 535) (by decide +kernel), List.mem_of_getElem? (i := 536) (by decide +kernel)⟩
theorem lw_p18 : lw_okq (⟨"SymmetryHouse$TripleReader", "readSum", "(I)Z"⟩, 7) := ⟨⟨by decide +kernel, by decide +kernel⟩, List.mem_of_getElem? (i := 212) (by decide +kernel), List.mem_of_getElem? (i := 539) (by decide +kernel), List.mem_of_getElem? (i := 540) (by decide +kernel)⟩
theorem lw_p19 : lw_okq (⟨"SymmetryHouse$TripleReader", "readSign", "()I"⟩, 7) := ⟨⟨by decide +kernel, by decide +kernel⟩, List.mem_of_getElem? (i := 212) (by decide +kernel), List.mem_of_getElem? (i := 543) (by decide +kernel), List.mem_of_getElem? (i := 544) (by decide +kernel)⟩
theorem lw_p20 : lw_okq (⟨"SymmetryHouse$TripleReader", "readMove", "(II)Z"⟩, 7) := ⟨⟨by decide +kernel, by decide +kernel⟩, List.mem_of_getElem? (i := 212) (by decide +kernel), List.mem_of_getElem? (i := 547) (by decide +kernel), List.mem_of_getElem? (i := 548) (by decide +kernel)⟩
theorem lw_p21 : lw_okq (⟨"SymmetryHouse$TripleReader", "readNumber", "()I"⟩, 7) := ⟨⟨by decide +kernel, by decide +kernel⟩, List.mem_of_getElem? (i := 212) (by decide +kernel), List.mem_of_getElem? (i := 551) (by decide +kernel), List.mem_of_getElem? (i := 552) (by decide +kernel)⟩
theorem lw_p22 : lw_okq (⟨"SymmetryHouse$TripleReader", "readLetter", "(II)Z"⟩, 7) := ⟨⟨by decide +kernel, by decide +kernel⟩, List.mem_of_getElem? (i := 212) (by decide +kernel), List.mem_of_getElem? (i := 555) (by decide +kernel), List.mem_of_getElem? (i := 556) (by decide +kernel)⟩
theorem lw_p23 : lw_okq (⟨"SymmetryHouse$TripleReader", "goesOn", "()Z"⟩, 7) := ⟨⟨by decide +kernel, by decide +kernel⟩, List.mem_of_getElem? (i := 212) (by decide +kernel), List.mem_of_getElem? (i := 567) (by decide +kernel), List.mem_of_getElem? (i := 568) (by decide +kernel)⟩
theorem lw_p24 : lw_okq (⟨"SymmetryHouse$Draft", "clear", "()V"⟩, 9) := ⟨⟨by decide +kernel, by decide +kernel⟩, List.mem_of_getElem? (i := 31) (by decide +kernel), List.mem_of_getElem? (i := 575) (by decide +kernel), List.mem_of_getElem? (i := 576) (by decide +kernel)⟩
theorem lw_p25 : lw_okq (⟨"SymmetryHouse$Draft", "addMatrix", "([III)Z"⟩, 9) := ⟨⟨by decide +kernel, by decide +kernel⟩, List.mem_of_getElem? (i := 31) (by decide +kernel), List.mem_of_getElem? (i := 580) (by decide +kernel), List.mem_of_getElem? (i := 581) (by decide +kernel)⟩
theorem lw_p26 : lw_okq (⟨"SymmetryHouse$Draft", "addPure", "(I)V"⟩, 9) := ⟨⟨by decide +kernel, by decide +kernel⟩, List.mem_of_getElem? (i := 31) (by decide +kernel), List.mem_of_getElem? (i := 585) (by decide +kernel), List.mem_of_getElem? (i := 586) (by decide +kernel)⟩
theorem lw_p27 : lw_okq (⟨"SymmetryHouse$Draft", "spreadMatrices", "(LSymmetryHouse$Generators;)Z"⟩, 9) := ⟨⟨by decide +kernel, by decide +kernel⟩, List.mem_of_getElem? (i := 31) (by decide +kernel), List.mem_of_getElem? (i := 589) (by decide +kernel), List.mem_of_getElem? (i := 590) (by decide +kernel)⟩
theorem lw_p28 : lw_okq (⟨"SymmetryHouse$Draft", "numberOf", "([I)I"⟩, 9) := ⟨⟨by decide +kernel, by decide +kernel⟩, List.mem_of_getElem? (i := 31) (by decide +kernel), List.mem_of_getElem? (i := 601) (by decide +kernel), List.mem_of_getElem? (i := 602) (by decide +kernel)⟩
theorem lw_p29 : lw_okq (⟨"SymmetryHouse$Draft", "addGap", "(I)V"⟩, 9) := ⟨⟨by decide +kernel, by decide +kernel⟩, List.mem_of_getElem? (i := 31) (by decide +kernel), List.mem_of_getElem? (i := 609) (by decide +kernel), List.mem_of_getElem? (i := 610) (by decide +kernel)⟩
theorem lw_p30 : lw_okq (⟨"SymmetryHouse$Draft", "gatherPures", "()Z"⟩, 9) := ⟨⟨by decide +kernel, by decide +kernel⟩, List.mem_of_getElem? (i := 31) (by decide +kernel), List.mem_of_getElem? (i := 619) (by decide +kernel), List.mem_of_getElem? (i := 620) (by decide +kernel)⟩
theorem lw_p31 : lw_okq (⟨"SymmetryHouse$Draft", "extendPures", "(I)Z"⟩, 9) := ⟨⟨by decide +kernel, by decide +kernel⟩, List.mem_of_getElem? (i := 31) (by decide +kernel), List.mem_of_getElem? (i := 623) (by decide +kernel), List.mem_of_getElem? (i := 624) (by decide +kernel)⟩
def lw_privs_2 : List (MethodName × Nat) := [(⟨"SymmetryHouse$TripleReader", "digitsHere", "()I"⟩, 7), (⟨"SymmetryHouse$TripleReader", "readComma", "()Z"⟩, 7), (⟨"SymmetryHouse$TripleReader", "readSum", "(I)Z"⟩, 7), (⟨"SymmetryHouse$TripleReader", "readSign", "()I"⟩, 7), (⟨"SymmetryHouse$TripleReader", "readMove", "(II)Z"⟩, 7), (⟨"SymmetryHouse$TripleReader", "readNumber", "()I"⟩, 7), (⟨"SymmetryHouse$TripleReader", "readLetter", "(II)Z"⟩, 7), (⟨"SymmetryHouse$TripleReader", "goesOn", "()Z"⟩, 7), (⟨"SymmetryHouse$Draft", "clear", "()V"⟩, 9), (⟨"SymmetryHouse$Draft", "addMatrix", "([III)Z"⟩, 9), (⟨"SymmetryHouse$Draft", "addPure", "(I)V"⟩, 9), (⟨"SymmetryHouse$Draft", "spreadMatrices", "(LSymmetryHouse$Generators;)Z"⟩, 9), (⟨"SymmetryHouse$Draft", "numberOf", "([I)I"⟩, 9), (⟨"SymmetryHouse$Draft", "addGap", "(I)V"⟩, 9), (⟨"SymmetryHouse$Draft", "gatherPures", "()Z"⟩, 9), (⟨"SymmetryHouse$Draft", "extendPures", "(I)Z"⟩, 9)]
theorem lw_r2 : ∀ q ∈ lw_privs_2, lw_okq q := List.forall_mem_cons.mpr ⟨lw_p16, List.forall_mem_cons.mpr ⟨lw_p17, List.forall_mem_cons.mpr ⟨lw_p18, List.forall_mem_cons.mpr ⟨lw_p19, List.forall_mem_cons.mpr ⟨lw_p20, List.forall_mem_cons.mpr ⟨lw_p21, List.forall_mem_cons.mpr ⟨lw_p22, List.forall_mem_cons.mpr ⟨lw_p23, List.forall_mem_cons.mpr ⟨lw_p24, List.forall_mem_cons.mpr ⟨lw_p25, List.forall_mem_cons.mpr ⟨lw_p26, List.forall_mem_cons.mpr ⟨lw_p27, List.forall_mem_cons.mpr ⟨lw_p28, List.forall_mem_cons.mpr ⟨lw_p29, List.forall_mem_cons.mpr ⟨lw_p30, List.forall_mem_cons.mpr ⟨lw_p31, fun _ h => absurd h List.not_mem_nil⟩⟩⟩⟩⟩⟩⟩⟩⟩⟩⟩⟩⟩⟩⟩⟩
theorem lw_p32 : lw_okq (⟨"SymmetryHouse$Draft", "holdsPure", "(I)Z"⟩, 9) := ⟨⟨by decide +kernel, by decide +kernel⟩, List.mem_of_getElem? (i := 31) (by decide +kernel), List.mem_of_getElem? (i := 627) (by decide +kernel), List.mem_of_getElem? (i := 628) (by decide +kernel)⟩
theorem lw_p33 : lw_okq (⟨"SymmetryHouse$Group", "settleCodes", "(LSymmetryHouse$Draft;II)V"⟩, 9) := ⟨⟨by decide +kernel, by decide +kernel⟩, List.mem_of_getElem? (i := 279) (by decide +kernel), List.mem_of_getElem? (i := 647) (by decide +kernel), List.mem_of_getElem? (i := 648) (by decide +kernel)⟩
theorem lw_p34 : lw_okq (⟨"SymmetryHouse", "groupAt", "(I)LSymmetryHouse$Group;"⟩, 17) := ⟨⟨by decide +kernel, by decide +kernel⟩, List.mem_of_getElem? (i := 21) (by decide +kernel), List.mem_of_getElem? (i := 666) (by decide +kernel), List.mem_of_getElem? (i := 667) (by decide +kernel)⟩
theorem lw_p35 : lw_okq (⟨"SymmetryHouse", "write", "(I)V"⟩, 17) := ⟨⟨by decide +kernel, by decide +kernel⟩, List.mem_of_getElem? (i := 21) (by decide +kernel), List.mem_of_getElem? (i := 682) (by decide +kernel), List.mem_of_getElem? (i := 683) (by decide +kernel)⟩
theorem lw_p36 : lw_okq (⟨"SymmetryHouse", "writeRow", "([II)V"⟩, 17) := ⟨⟨by decide +kernel, by decide +kernel⟩, List.mem_of_getElem? (i := 21) (by decide +kernel), List.mem_of_getElem? (i := 686) (by decide +kernel), List.mem_of_getElem? (i := 687) (by decide +kernel)⟩
theorem lw_p37 : lw_okq (⟨"SymmetryHouse", "writeNumber", "(I)V"⟩, 17) := ⟨⟨by decide +kernel, by decide +kernel⟩, List.mem_of_getElem? (i := 21) (by decide +kernel), List.mem_of_getElem? (i := 690) (by decide +kernel), List.mem_of_getElem? (i := 691) (by decide +kernel)⟩
theorem lw_p38 : lw_okq (⟨"SymmetryHouse", "writeFraction", "(I)V"⟩, 17) := ⟨⟨by decide +kernel, by decide +kernel⟩, List.mem_of_getElem? (i := 21) (by decide +kernel), List.mem_of_getElem? (i := 697) (by decide +kernel), List.mem_of_getElem? (i := 698) (by decide +kernel)⟩
theorem lw_p39 : lw_okq (⟨"SymmetryHouse$Group", "fillTable", "()V"⟩, 9) := ⟨⟨by decide +kernel, by decide +kernel⟩, List.mem_of_getElem? (i := 279) (by decide +kernel), List.mem_of_getElem? (i := 755) (by decide +kernel), List.mem_of_getElem? (i := 756) (by decide +kernel)⟩
theorem lw_p40 : lw_okq (⟨"SymmetryHouse", "fixingOperators", "(LSymmetryHouse$Group;)I"⟩, 17) := ⟨⟨by decide +kernel, by decide +kernel⟩, List.mem_of_getElem? (i := 21) (by decide +kernel), List.mem_of_getElem? (i := 770) (by decide +kernel), List.mem_of_getElem? (i := 771) (by decide +kernel)⟩
theorem lw_p41 : lw_okq (⟨"SymmetryHouse$Nature", "findPitch", "([III)V"⟩, 8) := ⟨⟨by decide +kernel, by decide +kernel⟩, List.mem_of_getElem? (i := 72) (by decide +kernel), List.mem_of_getElem? (i := 779) (by decide +kernel), List.mem_of_getElem? (i := 780) (by decide +kernel)⟩
theorem lw_p42 : lw_okq (⟨"SymmetryHouse$Nature", "findOrder", "()V"⟩, 8) := ⟨⟨by decide +kernel, by decide +kernel⟩, List.mem_of_getElem? (i := 72) (by decide +kernel), List.mem_of_getElem? (i := 785) (by decide +kernel), List.mem_of_getElem? (i := 786) (by decide +kernel)⟩
theorem lw_p43 : lw_okq (⟨"SymmetryHouse$Nature", "findAxis", "()V"⟩, 8) := ⟨⟨by decide +kernel, by decide +kernel⟩, List.mem_of_getElem? (i := 72) (by decide +kernel), List.mem_of_getElem? (i := 791) (by decide +kernel), List.mem_of_getElem? (i := 792) (by decide +kernel)⟩
theorem lw_p44 : lw_okq (⟨"SymmetryHouse$Nature", "findSense", "()V"⟩, 8) := ⟨⟨by decide +kernel, by decide +kernel⟩, List.mem_of_getElem? (i := 72) (by decide +kernel), List.mem_of_getElem? (i := 797) (by decide +kernel), List.mem_of_getElem? (i := 798) (by decide +kernel)⟩
theorem lw_p45 : lw_okq (⟨"SymmetryHouse", "natureNumber", "(I)I"⟩, 17) := ⟨⟨by decide +kernel, by decide +kernel⟩, List.mem_of_getElem? (i := 21) (by decide +kernel), List.mem_of_getElem? (i := 819) (by decide +kernel), List.mem_of_getElem? (i := 820) (by decide +kernel)⟩
theorem lw_p46 : lw_okq (⟨"SymmetryHouse$Group", "markCoset", "(LSymmetryHouse$Group;[III)V"⟩, 9) := ⟨⟨by decide +kernel, by decide +kernel⟩, List.mem_of_getElem? (i := 279) (by decide +kernel), List.mem_of_getElem? (i := 877) (by decide +kernel), List.mem_of_getElem? (i := 878) (by decide +kernel)⟩
theorem lw_p47 : lw_okq (⟨"SymmetryHouse$Group", "leaves", "(LSymmetryHouse$Group;I)Z"⟩, 9) := ⟨⟨by decide +kernel, by decide +kernel⟩, List.mem_of_getElem? (i := 279) (by decide +kernel), List.mem_of_getElem? (i := 891) (by decide +kernel), List.mem_of_getElem? (i := 892) (by decide +kernel)⟩
def lw_privs_3 : List (MethodName × Nat) := [(⟨"SymmetryHouse$Draft", "holdsPure", "(I)Z"⟩, 9), (⟨"SymmetryHouse$Group", "settleCodes", "(LSymmetryHouse$Draft;II)V"⟩, 9), (⟨"SymmetryHouse", "groupAt", "(I)LSymmetryHouse$Group;"⟩, 17), (⟨"SymmetryHouse", "write", "(I)V"⟩, 17), (⟨"SymmetryHouse", "writeRow", "([II)V"⟩, 17), (⟨"SymmetryHouse", "writeNumber", "(I)V"⟩, 17), (⟨"SymmetryHouse", "writeFraction", "(I)V"⟩, 17), (⟨"SymmetryHouse$Group", "fillTable", "()V"⟩, 9), (⟨"SymmetryHouse", "fixingOperators", "(LSymmetryHouse$Group;)I"⟩, 17), (⟨"SymmetryHouse$Nature", "findPitch", "([III)V"⟩, 8), (⟨"SymmetryHouse$Nature", "findOrder", "()V"⟩, 8), (⟨"SymmetryHouse$Nature", "findAxis", "()V"⟩, 8), (⟨"SymmetryHouse$Nature", "findSense", "()V"⟩, 8), (⟨"SymmetryHouse", "natureNumber", "(I)I"⟩, 17), (⟨"SymmetryHouse$Group", "markCoset", "(LSymmetryHouse$Group;[III)V"⟩, 9), (⟨"SymmetryHouse$Group", "leaves", "(LSymmetryHouse$Group;I)Z"⟩, 9)]
theorem lw_r3 : ∀ q ∈ lw_privs_3, lw_okq q := List.forall_mem_cons.mpr ⟨lw_p32, List.forall_mem_cons.mpr ⟨lw_p33, List.forall_mem_cons.mpr ⟨lw_p34, List.forall_mem_cons.mpr ⟨lw_p35, List.forall_mem_cons.mpr ⟨lw_p36, List.forall_mem_cons.mpr ⟨lw_p37, List.forall_mem_cons.mpr ⟨lw_p38, List.forall_mem_cons.mpr ⟨lw_p39, List.forall_mem_cons.mpr ⟨lw_p40, List.forall_mem_cons.mpr ⟨lw_p41, List.forall_mem_cons.mpr ⟨lw_p42, List.forall_mem_cons.mpr ⟨lw_p43, List.forall_mem_cons.mpr ⟨lw_p44, List.forall_mem_cons.mpr ⟨lw_p45, List.forall_mem_cons.mpr ⟨lw_p46, List.forall_mem_cons.mpr ⟨lw_p47, fun _ h => absurd h List.not_mem_nil⟩⟩⟩⟩⟩⟩⟩⟩⟩⟩⟩⟩⟩⟩⟩⟩
theorem lw_p48 : lw_okq (⟨"SymmetryHouse$Metric", "carried", "([IIII)J"⟩, 3) := ⟨⟨by decide +kernel, by decide +kernel⟩, List.mem_of_getElem? (i := 127) (by decide +kernel), List.mem_of_getElem? (i := 954) (by decide +kernel), List.mem_of_getElem? (i := 955) (by decide +kernel)⟩
theorem lw_p49 : lw_okq (⟨"SymmetryHouse$Points", "ownKey", "()J"⟩, 8) := ⟨⟨by decide +kernel, by decide +kernel⟩, List.mem_of_getElem? (i := 145) (by decide +kernel), List.mem_of_getElem? (i := 975) (by decide +kernel), List.mem_of_getElem? (i := 976) (by decide +kernel)⟩
theorem lw_p50 : lw_okq (⟨"SymmetryHouse$Points", "keyOf", "([IIII)J"⟩, 8) := ⟨⟨by decide +kernel, by decide +kernel⟩, List.mem_of_getElem? (i := 145) (by decide +kernel), List.mem_of_getElem? (i := 982) (by decide +kernel), List.mem_of_getElem? (i := 983) (by decide +kernel)⟩
theorem lw_p51 : lw_okq (⟨"SymmetryHouse$Points", "insert", "(J)V"⟩, 8) := ⟨⟨by decide +kernel, by decide +kernel⟩, List.mem_of_getElem? (i := 145) (by decide +kernel), List.mem_of_getElem? (i := 988) (by decide +kernel), List.mem_of_getElem? (i := 989) (by decide +kernel)⟩
theorem lw_p52 : lw_okq (⟨"SymmetryHouse$Points", "positionOf", "(J)I"⟩, 8) := ⟨⟨by decide +kernel, by decide +kernel⟩, List.mem_of_getElem? (i := 145) (by decide +kernel), List.mem_of_getElem? (i := 992) (by decide +kernel), List.mem_of_getElem? (i := 993) (by decide +kernel)⟩
theorem lw_p53 : lw_okq (⟨"java/lang/Throwable", "fillInStackTrace", "(I)Ljava/lang/Throwable;"⟩, 6) := ⟨⟨by decide +kernel, by decide +kernel⟩, List.mem_of_getElem? (i := 1103) (by decide +kernel), List.mem_of_getElem? (i := 1101) (by decide +kernel), List.mem_of_getElem? (i := 1102) (by decide +kernel)⟩
theorem lw_p54 : lw_okq (⟨"SymmetryHouseModel", "feedOne", "(I)V"⟩, 60) := ⟨⟨by decide +kernel, by decide +kernel⟩, List.mem_of_getElem? (i := 1133) (by decide +kernel), List.mem_of_getElem? (i := 1360) (by decide +kernel), List.mem_of_getElem? (i := 1361) (by decide +kernel)⟩
theorem lw_p55 : lw_okq (⟨"SymmetryHouseModel", "isIn", "(III)Z"⟩, 60) := ⟨⟨by decide +kernel, by decide +kernel⟩, List.mem_of_getElem? (i := 1133) (by decide +kernel), List.mem_of_getElem? (i := 1368) (by decide +kernel), List.mem_of_getElem? (i := 1369) (by decide +kernel)⟩
theorem lw_p56 : lw_okq (⟨"SymmetryHouseModel", "readSymbol", "()V"⟩, 60) := ⟨⟨by decide +kernel, by decide +kernel⟩, List.mem_of_getElem? (i := 1133) (by decide +kernel), List.mem_of_getElem? (i := 1372) (by decide +kernel), List.mem_of_getElem? (i := 1373) (by decide +kernel)⟩
theorem lw_p57 : lw_okq (⟨"SymmetryHouseModel", "skip", "()V"⟩, 60) := ⟨⟨by decide +kernel, by decide +kernel⟩, List.mem_of_getElem? (i := 1133) (by decide +kernel), List.mem_of_getElem? (i := 1376) (by decide +kernel), List.mem_of_getElem? (i := 1377) (by decide +kernel)⟩
theorem lw_p58 : lw_okq (⟨"SymmetryHouseModel", "byteAt", "(I)I"⟩, 60) := ⟨⟨by decide +kernel, by decide +kernel⟩, List.mem_of_getElem? (i := 1133) (by decide +kernel), List.mem_of_getElem? (i := 1380) (by decide +kernel), List.mem_of_getElem? (i := 1381) (by decide +kernel)⟩
theorem lw_p59 : lw_okq (⟨"SymmetryHouseModel", "wrong", "(II)V"⟩, 60) := ⟨⟨by decide +kernel, by decide +kernel⟩, List.mem_of_getElem? (i := 1133) (by decide +kernel), List.mem_of_getElem? (i := 1384) (by decide +kernel), List.mem_of_getElem? (i := 1385) (by decide +kernel)⟩
theorem lw_p60 : lw_okq (⟨"SymmetryHouseModel", "centre", "(I)V"⟩, 60) := ⟨⟨by decide +kernel, by decide +kernel⟩, List.mem_of_getElem? (i := 1133) (by decide +kernel), List.mem_of_getElem? (i := 1388) (by decide +kernel), List.mem_of_getElem? (i := 1389) (by decide +kernel)⟩
theorem lw_p61 : lw_okq (⟨"SymmetryHouseModel", "move", "(III)V"⟩, 60) := ⟨⟨by decide +kernel, by decide +kernel⟩, List.mem_of_getElem? (i := 1133) (by decide +kernel), List.mem_of_getElem? (i := 1392) (by decide +kernel), List.mem_of_getElem? (i := 1393) (by decide +kernel)⟩
theorem lw_p62 : lw_okq (⟨"SymmetryHouseModel", "generator", "()V"⟩, 60) := ⟨⟨by decide +kernel, by decide +kernel⟩, List.mem_of_getElem? (i := 1133) (by decide +kernel), List.mem_of_getElem? (i := 1396) (by decide +kernel), List.mem_of_getElem? (i := 1397) (by decide +kernel)⟩
theorem lw_p63 : lw_okq (⟨"SymmetryHouseModel", "round", "(II)I"⟩, 60) := ⟨⟨by decide +kernel, by decide +kernel⟩, List.mem_of_getElem? (i := 1133) (by decide +kernel), List.mem_of_getElem? (i := 1400) (by decide +kernel), List.mem_of_getElem? (i := 1401) (by decide +kernel)⟩
def lw_privs_4 : List (MethodName × Nat) := [(⟨"SymmetryHouse$Metric", "carried", "([IIII)J"⟩, 3), (⟨"SymmetryHouse$Points", "ownKey", "()J"⟩, 8), (⟨"SymmetryHouse$Points", "keyOf", "([IIII)J"⟩, 8), (⟨"SymmetryHouse$Points", "insert", "(J)V"⟩, 8), (⟨"SymmetryHouse$Points", "positionOf", "(J)I"⟩, 8), (⟨"java/lang/Throwable", "fillInStackTrace", "(I)Ljava/lang/Throwable;"⟩, 6), (⟨"SymmetryHouseModel", "feedOne", "(I)V"⟩, 60), (⟨"SymmetryHouseModel", "isIn", "(III)Z"⟩, 60), (⟨"SymmetryHouseModel", "readSymbol", "()V"⟩, 60), (⟨"SymmetryHouseModel", "skip", "()V"⟩, 60), (⟨"SymmetryHouseModel", "byteAt", "(I)I"⟩, 60), (⟨"SymmetryHouseModel", "wrong", "(II)V"⟩, 60), (⟨"SymmetryHouseModel", "centre", "(I)V"⟩, 60), (⟨"SymmetryHouseModel", "move", "(III)V"⟩, 60), (⟨"SymmetryHouseModel", "generator", "()V"⟩, 60), (⟨"SymmetryHouseModel", "round", "(II)I"⟩, 60)]
theorem lw_r4 : ∀ q ∈ lw_privs_4, lw_okq q := List.forall_mem_cons.mpr ⟨lw_p48, List.forall_mem_cons.mpr ⟨lw_p49, List.forall_mem_cons.mpr ⟨lw_p50, List.forall_mem_cons.mpr ⟨lw_p51, List.forall_mem_cons.mpr ⟨lw_p52, List.forall_mem_cons.mpr ⟨lw_p53, List.forall_mem_cons.mpr ⟨lw_p54, List.forall_mem_cons.mpr ⟨lw_p55, List.forall_mem_cons.mpr ⟨lw_p56, List.forall_mem_cons.mpr ⟨lw_p57, List.forall_mem_cons.mpr ⟨lw_p58, List.forall_mem_cons.mpr ⟨lw_p59, List.forall_mem_cons.mpr ⟨lw_p60, List.forall_mem_cons.mpr ⟨lw_p61, List.forall_mem_cons.mpr ⟨lw_p62, List.forall_mem_cons.mpr ⟨lw_p63, fun _ h => absurd h List.not_mem_nil⟩⟩⟩⟩⟩⟩⟩⟩⟩⟩⟩⟩⟩⟩⟩⟩
theorem lw_p64 : lw_okq (⟨"SymmetryHouseModel", "bad", "()Z"⟩, 60) := ⟨⟨by decide +kernel, by decide +kernel⟩, List.mem_of_getElem? (i := 1133) (by decide +kernel), List.mem_of_getElem? (i := 1404) (by decide +kernel), List.mem_of_getElem? (i := 1405) (by decide +kernel)⟩
theorem lw_p65 : lw_okq (⟨"SymmetryHouseModel", "isRotation", "(I)Z"⟩, 60) := ⟨⟨by decide +kernel, by decide +kernel⟩, List.mem_of_getElem? (i := 1133) (by decide +kernel), List.mem_of_getElem? (i := 1408) (by decide +kernel), List.mem_of_getElem? (i := 1409) (by decide +kernel)⟩
theorem lw_p66 : lw_okq (⟨"SymmetryHouseModel", "readRotation", "()V"⟩, 60) := ⟨⟨by decide +kernel, by decide +kernel⟩, List.mem_of_getElem? (i := 1133) (by decide +kernel), List.mem_of_getElem? (i := 1412) (by decide +kernel), List.mem_of_getElem? (i := 1413) (by decide +kernel)⟩
theorem lw_p67 : lw_okq (⟨"SymmetryHouseModel", "usual", "(I)I"⟩, 60) := ⟨⟨by decide +kernel, by decide +kernel⟩, List.mem_of_getElem? (i := 1133) (by decide +kernel), List.mem_of_getElem? (i := 1416) (by decide +kernel), List.mem_of_getElem? (i := 1417) (by decide +kernel)⟩
theorem lw_p68 : lw_okq (⟨"SymmetryHouseModel", "set", "(IIIIIIIII)V"⟩, 60) := ⟨⟨by decide +kernel, by decide +kernel⟩, List.mem_of_getElem? (i := 1133) (by decide +kernel), List.mem_of_getElem? (i := 1420) (by decide +kernel), List.mem_of_getElem? (i := 1421) (by decide +kernel)⟩
theorem lw_p69 : lw_okq (⟨"SymmetryHouseModel", "turnAlong", "(I)V"⟩, 60) := ⟨⟨by decide +kernel, by decide +kernel⟩, List.mem_of_getElem? (i := 1133) (by decide +kernel), List.mem_of_getElem? (i := 1424) (by decide +kernel), List.mem_of_getElem? (i := 1425) (by decide +kernel)⟩
theorem lw_p70 : lw_okq (⟨"SymmetryHouseModel", "readMoves", "(II)V"⟩, 60) := ⟨⟨by decide +kernel, by decide +kernel⟩, List.mem_of_getElem? (i := 1133) (by decide +kernel), List.mem_of_getElem? (i := 1428) (by decide +kernel), List.mem_of_getElem? (i := 1429) (by decide +kernel)⟩
theorem lw_p71 : lw_okq (⟨"SymmetryHouseModel", "readShift", "()V"⟩, 60) := ⟨⟨by decide +kernel, by decide +kernel⟩, List.mem_of_getElem? (i := 1133) (by decide +kernel), List.mem_of_getElem? (i := 1432) (by decide +kernel), List.mem_of_getElem? (i := 1433) (by decide +kernel)⟩
theorem lw_p72 : lw_okq (⟨"SymmetryHouseModel", "isDigit", "(I)Z"⟩, 60) := ⟨⟨by decide +kernel, by decide +kernel⟩, List.mem_of_getElem? (i := 1133) (by decide +kernel), List.mem_of_getElem? (i := 1436) (by decide +kernel), List.mem_of_getElem? (i := 1437) (by decide +kernel)⟩
theorem lw_p73 : lw_okq (⟨"SymmetryHouseModel", "readTriples", "()V"⟩, 60) := ⟨⟨by decide +kernel, by decide +kernel⟩, List.mem_of_getElem? (i := 1133) (by decide +kernel), List.mem_of_getElem? (i := 1440) (by decide +kernel), List.mem_of_getElem? (i := 1441) (by decide +kernel)⟩
theorem lw_p74 : lw_okq (⟨"SymmetryHouseModel", "nextToken", "()V"⟩, 60) := ⟨⟨by decide +kernel, by decide +kernel⟩, List.mem_of_getElem? (i := 1133) (by decide +kernel), List.mem_of_getElem? (i := 1444) (by decide +kernel), List.mem_of_getElem? (i := 1445) (by decide +kernel)⟩
theorem lw_p75 : lw_okq (⟨"SymmetryHouseModel", "isTerm", "()Z"⟩, 60) := ⟨⟨by decide +kernel, by decide +kernel⟩, List.mem_of_getElem? (i := 1133) (by decide +kernel), List.mem_of_getElem? (i := 1448) (by decide +kernel), List.mem_of_getElem? (i := 1449) (by decide +kernel)⟩
theorem lw_p76 : lw_okq (⟨"SymmetryHouseModel", "readTriple", "()V"⟩, 60) := ⟨⟨by decide +kernel, by decide +kernel⟩, List.mem_of_getElem? (i := 1133) (by decide +kernel), List.mem_of_getElem? (i := 1452) (by decide +kernel), List.mem_of_getElem? (i := 1453) (by decide +kernel)⟩
theorem lw_p77 : lw_okq (⟨"SymmetryHouseModel", "readSum", "(I)V"⟩, 60) := ⟨⟨by decide +kernel, by decide +kernel⟩, List.mem_of_getElem? (i := 1133) (by decide +kernel), List.mem_of_getElem? (i := 1456) (by decide +kernel), List.mem_of_getElem? (i := 1457) (by decide +kernel)⟩
theorem lw_p78 : lw_okq (⟨"SymmetryHouseModel", "determinant", "([II)I"⟩, 60) := ⟨⟨by decide +kernel, by decide +kernel⟩, List.mem_of_getElem? (i := 1133) (by decide +kernel), List.mem_of_getElem? (i := 1460) (by decide +kernel), List.mem_of_getElem? (i := 1461) (by decide +kernel)⟩
theorem lw_p79 : lw_okq (⟨"SymmetryHouseModel", "growMatrices", "()V"⟩, 60) := ⟨⟨by decide +kernel, by decide +kernel⟩, List.mem_of_getElem? (i := 1133) (by decide +kernel), List.mem_of_getElem? (i := 1464) (by decide +kernel), List.mem_of_getElem? (i := 1465) (by decide +kernel)⟩
def lw_privs_5 : List (MethodName × Nat) := [(⟨"SymmetryHouseModel", "bad", "()Z"⟩, 60), (⟨"SymmetryHouseModel", "isRotation", "(I)Z"⟩, 60), (⟨"SymmetryHouseModel", "readRotation", "()V"⟩, 60), (⟨"SymmetryHouseModel", "usual", "(I)I"⟩, 60), (⟨"SymmetryHouseModel", "set", "(IIIIIIIII)V"⟩, 60), (⟨"SymmetryHouseModel", "turnAlong", "(I)V"⟩, 60), (⟨"SymmetryHouseModel", "readMoves", "(II)V"⟩, 60), (⟨"SymmetryHouseModel", "readShift", "()V"⟩, 60), (⟨"SymmetryHouseModel", "isDigit", "(I)Z"⟩, 60), (⟨"SymmetryHouseModel", "readTriples", "()V"⟩, 60), (⟨"SymmetryHouseModel", "nextToken", "()V"⟩, 60), (⟨"SymmetryHouseModel", "isTerm", "()Z"⟩, 60), (⟨"SymmetryHouseModel", "readTriple", "()V"⟩, 60), (⟨"SymmetryHouseModel", "readSum", "(I)V"⟩, 60), (⟨"SymmetryHouseModel", "determinant", "([II)I"⟩, 60), (⟨"SymmetryHouseModel", "growMatrices", "()V"⟩, 60)]
theorem lw_r5 : ∀ q ∈ lw_privs_5, lw_okq q := List.forall_mem_cons.mpr ⟨lw_p64, List.forall_mem_cons.mpr ⟨lw_p65, List.forall_mem_cons.mpr ⟨lw_p66, List.forall_mem_cons.mpr ⟨lw_p67, List.forall_mem_cons.mpr ⟨lw_p68, List.forall_mem_cons.mpr ⟨lw_p69, List.forall_mem_cons.mpr ⟨lw_p70, List.forall_mem_cons.mpr ⟨lw_p71, List.forall_mem_cons.mpr ⟨lw_p72, List.forall_mem_cons.mpr ⟨lw_p73, List.forall_mem_cons.mpr ⟨lw_p74, List.forall_mem_cons.mpr ⟨lw_p75, List.forall_mem_cons.mpr ⟨lw_p76, List.forall_mem_cons.mpr ⟨lw_p77, List.forall_mem_cons.mpr ⟨lw_p78, List.forall_mem_cons.mpr ⟨lw_p79, fun _ h => absurd h List.not_mem_nil⟩⟩⟩⟩⟩⟩⟩⟩⟩⟩⟩⟩⟩⟩⟩⟩
theorem lw_p80 : lw_okq (⟨"SymmetryHouseModel", "identity", "()V"⟩, 60) := ⟨⟨by decide +kernel, by decide +kernel⟩, List.mem_of_getElem? (i := 1133) (by decide +kernel), List.mem_of_getElem? (i := 1468) (by decide +kernel), List.mem_of_getElem? (i := 1469) (by decide +kernel)⟩
theorem lw_p81 : lw_okq (⟨"SymmetryHouseModel", "after", "([II[II)V"⟩, 60) := ⟨⟨by decide +kernel, by decide +kernel⟩, List.mem_of_getElem? (i := 1133) (by decide +kernel), List.mem_of_getElem? (i := 1472) (by decide +kernel), List.mem_of_getElem? (i := 1473) (by decide +kernel)⟩
theorem lw_p82 : lw_okq (⟨"SymmetryHouseModel", "hasGot", "(I)Z"⟩, 60) := ⟨⟨by decide +kernel, by decide +kernel⟩, List.mem_of_getElem? (i := 1133) (by decide +kernel), List.mem_of_getElem? (i := 1476) (by decide +kernel), List.mem_of_getElem? (i := 1477) (by decide +kernel)⟩
theorem lw_p83 : lw_okq (⟨"SymmetryHouseModel", "putGot", "()V"⟩, 60) := ⟨⟨by decide +kernel, by decide +kernel⟩, List.mem_of_getElem? (i := 1133) (by decide +kernel), List.mem_of_getElem? (i := 1480) (by decide +kernel), List.mem_of_getElem? (i := 1481) (by decide +kernel)⟩
theorem lw_p84 : lw_okq (⟨"SymmetryHouseModel", "growOperators", "()Z"⟩, 60) := ⟨⟨by decide +kernel, by decide +kernel⟩, List.mem_of_getElem? (i := 1133) (by decide +kernel), List.mem_of_getElem? (i := 1484) (by decide +kernel), List.mem_of_getElem? (i := 1485) (by decide +kernel)⟩
theorem lw_p85 : lw_okq (⟨"SymmetryHouseModel", "order", "()V"⟩, 60) := ⟨⟨by decide +kernel, by decide +kernel⟩, List.mem_of_getElem? (i := 1133) (by decide +kernel), List.mem_of_getElem? (i := 1488) (by decide +kernel), List.mem_of_getElem? (i := 1489) (by decide +kernel)⟩
theorem lw_p86 : lw_okq (⟨"SymmetryHouseModel", "isAhead", "(II)Z"⟩, 60) := ⟨⟨by decide +kernel, by decide +kernel⟩, List.mem_of_getElem? (i := 1133) (by decide +kernel), List.mem_of_getElem? (i := 1492) (by decide +kernel), List.mem_of_getElem? (i := 1493) (by decide +kernel)⟩
theorem lw_p87 : lw_okq (⟨"SymmetryHouseModel", "exchange", "(II)V"⟩, 60) := ⟨⟨by decide +kernel, by decide +kernel⟩, List.mem_of_getElem? (i := 1133) (by decide +kernel), List.mem_of_getElem? (i := 1496) (by decide +kernel), List.mem_of_getElem? (i := 1497) (by decide +kernel)⟩
theorem lw_p88 : lw_okq (⟨"SymmetryHouseModel", "keep", "(I)V"⟩, 60) := ⟨⟨by decide +kernel, by decide +kernel⟩, List.mem_of_getElem? (i := 1133) (by decide +kernel), List.mem_of_getElem? (i := 1500) (by decide +kernel), List.mem_of_getElem? (i := 1501) (by decide +kernel)⟩
theorem lw_p89 : lw_okq (⟨"SymmetryHouseModel", "isOperator", "(II)Z"⟩, 60) := ⟨⟨by decide +kernel, by decide +kernel⟩, List.mem_of_getElem? (i := 1133) (by decide +kernel), List.mem_of_getElem? (i := 1512) (by decide +kernel), List.mem_of_getElem? (i := 1513) (by decide +kernel)⟩
theorem lw_p90 : lw_okq (⟨"SymmetryHouseModel", "isGroup", "(I)Z"⟩, 60) := ⟨⟨by decide +kernel, by decide +kernel⟩, List.mem_of_getElem? (i := 1133) (by decide +kernel), List.mem_of_getElem? (i := 1516) (by decide +kernel), List.mem_of_getElem? (i := 1517) (by decide +kernel)⟩
theorem lw_p91 : lw_okq (⟨"SymmetryHouseModel", "productOf", "(III)I"⟩, 60) := ⟨⟨by decide +kernel, by decide +kernel⟩, List.mem_of_getElem? (i := 1133) (by decide +kernel), List.mem_of_getElem? (i := 1520) (by decide +kernel), List.mem_of_getElem? (i := 1521) (by decide +kernel)⟩
theorem lw_p92 : lw_okq (⟨"SymmetryHouseModel", "placeOf", "(II)I"⟩, 60) := ⟨⟨by decide +kernel, by decide +kernel⟩, List.mem_of_getElem? (i := 1133) (by decide +kernel), List.mem_of_getElem? (i := 1524) (by decide +kernel), List.mem_of_getElem? (i := 1525) (by decide +kernel)⟩
theorem lw_p93 : lw_okq (⟨"SymmetryHouseModel", "numberOf", "(I)I"⟩, 60) := ⟨⟨by decide +kernel, by decide +kernel⟩, List.mem_of_getElem? (i := 1133) (by decide +kernel), List.mem_of_getElem? (i := 1528) (by decide +kernel), List.mem_of_getElem? (i := 1529) (by decide +kernel)⟩
theorem lw_p94 : lw_okq (⟨"SymmetryHouseModel", "typeAt", "(I)I"⟩, 60) := ⟨⟨by decide +kernel, by decide +kernel⟩, List.mem_of_getElem? (i := 1133) (by decide +kernel), List.mem_of_getElem? (i := 1537) (by decide +kernel), List.mem_of_getElem? (i := 1538) (by decide +kernel)⟩
theorem lw_p95 : lw_okq (⟨"SymmetryHouseModel", "turnsAt", "(I)I"⟩, 60) := ⟨⟨by decide +kernel, by decide +kernel⟩, List.mem_of_getElem? (i := 1133) (by decide +kernel), List.mem_of_getElem? (i := 1541) (by decide +kernel), List.mem_of_getElem? (i := 1542) (by decide +kernel)⟩
def lw_privs_6 : List (MethodName × Nat) := [(⟨"SymmetryHouseModel", "identity", "()V"⟩, 60), (⟨"SymmetryHouseModel", "after", "([II[II)V"⟩, 60), (⟨"SymmetryHouseModel", "hasGot", "(I)Z"⟩, 60), (⟨"SymmetryHouseModel", "putGot", "()V"⟩, 60), (⟨"SymmetryHouseModel", "growOperators", "()Z"⟩, 60), (⟨"SymmetryHouseModel", "order", "()V"⟩, 60), (⟨"SymmetryHouseModel", "isAhead", "(II)Z"⟩, 60), (⟨"SymmetryHouseModel", "exchange", "(II)V"⟩, 60), (⟨"SymmetryHouseModel", "keep", "(I)V"⟩, 60), (⟨"SymmetryHouseModel", "isOperator", "(II)Z"⟩, 60), (⟨"SymmetryHouseModel", "isGroup", "(I)Z"⟩, 60), (⟨"SymmetryHouseModel", "productOf", "(III)I"⟩, 60), (⟨"SymmetryHouseModel", "placeOf", "(II)I"⟩, 60), (⟨"SymmetryHouseModel", "numberOf", "(I)I"⟩, 60), (⟨"SymmetryHouseModel", "typeAt", "(I)I"⟩, 60), (⟨"SymmetryHouseModel", "turnsAt", "(I)I"⟩, 60)]
theorem lw_r6 : ∀ q ∈ lw_privs_6, lw_okq q := List.forall_mem_cons.mpr ⟨lw_p80, List.forall_mem_cons.mpr ⟨lw_p81, List.forall_mem_cons.mpr ⟨lw_p82, List.forall_mem_cons.mpr ⟨lw_p83, List.forall_mem_cons.mpr ⟨lw_p84, List.forall_mem_cons.mpr ⟨lw_p85, List.forall_mem_cons.mpr ⟨lw_p86, List.forall_mem_cons.mpr ⟨lw_p87, List.forall_mem_cons.mpr ⟨lw_p88, List.forall_mem_cons.mpr ⟨lw_p89, List.forall_mem_cons.mpr ⟨lw_p90, List.forall_mem_cons.mpr ⟨lw_p91, List.forall_mem_cons.mpr ⟨lw_p92, List.forall_mem_cons.mpr ⟨lw_p93, List.forall_mem_cons.mpr ⟨lw_p94, List.forall_mem_cons.mpr ⟨lw_p95, fun _ h => absurd h List.not_mem_nil⟩⟩⟩⟩⟩⟩⟩⟩⟩⟩⟩⟩⟩⟩⟩⟩
theorem lw_p96 : lw_okq (⟨"SymmetryHouseModel", "isPlain", "()Z"⟩, 60) := ⟨⟨by decide +kernel, by decide +kernel⟩, List.mem_of_getElem? (i := 1133) (by decide +kernel), List.mem_of_getElem? (i := 1545) (by decide +kernel), List.mem_of_getElem? (i := 1546) (by decide +kernel)⟩
theorem lw_p97 : lw_okq (⟨"SymmetryHouseModel", "orderAt", "(I)I"⟩, 60) := ⟨⟨by decide +kernel, by decide +kernel⟩, List.mem_of_getElem? (i := 1133) (by decide +kernel), List.mem_of_getElem? (i := 1549) (by decide +kernel), List.mem_of_getElem? (i := 1550) (by decide +kernel)⟩
theorem lw_p98 : lw_okq (⟨"SymmetryHouseModel", "axisAt", "(I)V"⟩, 60) := ⟨⟨by decide +kernel, by decide +kernel⟩, List.mem_of_getElem? (i := 1133) (by decide +kernel), List.mem_of_getElem? (i := 1553) (by decide +kernel), List.mem_of_getElem? (i := 1554) (by decide +kernel)⟩
theorem lw_p99 : lw_okq (⟨"SymmetryHouseModel", "divisor", "(II)I"⟩, 60) := ⟨⟨by decide +kernel, by decide +kernel⟩, List.mem_of_getElem? (i := 1133) (by decide +kernel), List.mem_of_getElem? (i := 1557) (by decide +kernel), List.mem_of_getElem? (i := 1558) (by decide +kernel)⟩
theorem lw_p100 : lw_okq (⟨"SymmetryHouseModel", "senseAt", "(I)I"⟩, 60) := ⟨⟨by decide +kernel, by decide +kernel⟩, List.mem_of_getElem? (i := 1133) (by decide +kernel), List.mem_of_getElem? (i := 1561) (by decide +kernel), List.mem_of_getElem? (i := 1562) (by decide +kernel)⟩
theorem lw_p101 : lw_okq (⟨"SymmetryHouseModel", "pitchAt", "(I)V"⟩, 60) := ⟨⟨by decide +kernel, by decide +kernel⟩, List.mem_of_getElem? (i := 1133) (by decide +kernel), List.mem_of_getElem? (i := 1565) (by decide +kernel), List.mem_of_getElem? (i := 1566) (by decide +kernel)⟩
theorem lw_p102 : lw_okq (⟨"SymmetryHouseModel", "inverseOf", "(II)I"⟩, 60) := ⟨⟨by decide +kernel, by decide +kernel⟩, List.mem_of_getElem? (i := 1133) (by decide +kernel), List.mem_of_getElem? (i := 1569) (by decide +kernel), List.mem_of_getElem? (i := 1570) (by decide +kernel)⟩
theorem lw_p103 : lw_okq (⟨"SymmetryHouseModel", "identityOf", "(I)I"⟩, 60) := ⟨⟨by decide +kernel, by decide +kernel⟩, List.mem_of_getElem? (i := 1133) (by decide +kernel), List.mem_of_getElem? (i := 1573) (by decide +kernel), List.mem_of_getElem? (i := 1574) (by decide +kernel)⟩
theorem lw_p104 : lw_okq (⟨"SymmetryHouseModel", "exchangedWith", "(II)I"⟩, 60) := ⟨⟨by decide +kernel, by decide +kernel⟩, List.mem_of_getElem? (i := 1133) (by decide +kernel), List.mem_of_getElem? (i := 1577) (by decide +kernel), List.mem_of_getElem? (i := 1578) (by decide +kernel)⟩
theorem lw_p105 : lw_okq (⟨"SymmetryHouseModel", "areExchanged", "(III)Z"⟩, 60) := ⟨⟨by decide +kernel, by decide +kernel⟩, List.mem_of_getElem? (i := 1133) (by decide +kernel), List.mem_of_getElem? (i := 1581) (by decide +kernel), List.mem_of_getElem? (i := 1582) (by decide +kernel)⟩
theorem lw_p106 : lw_okq (⟨"SymmetryHouseModel", "isFirstMatrix", "(II)Z"⟩, 60) := ⟨⟨by decide +kernel, by decide +kernel⟩, List.mem_of_getElem? (i := 1133) (by decide +kernel), List.mem_of_getElem? (i := 1589) (by decide +kernel), List.mem_of_getElem? (i := 1590) (by decide +kernel)⟩
theorem lw_p107 : lw_okq (⟨"SymmetryHouseModel", "classOfGroup", "(I)I"⟩, 60) := ⟨⟨by decide +kernel, by decide +kernel⟩, List.mem_of_getElem? (i := 1133) (by decide +kernel), List.mem_of_getElem? (i := 1593) (by decide +kernel), List.mem_of_getElem? (i := 1594) (by decide +kernel)⟩
theorem lw_p108 : lw_okq (⟨"SymmetryHouseModel", "noTypes", "()V"⟩, 60) := ⟨⟨by decide +kernel, by decide +kernel⟩, List.mem_of_getElem? (i := 1133) (by decide +kernel), List.mem_of_getElem? (i := 1597) (by decide +kernel), List.mem_of_getElem? (i := 1598) (by decide +kernel)⟩
theorem lw_p109 : lw_okq (⟨"SymmetryHouseModel", "countType", "(I)V"⟩, 60) := ⟨⟨by decide +kernel, by decide +kernel⟩, List.mem_of_getElem? (i := 1133) (by decide +kernel), List.mem_of_getElem? (i := 1601) (by decide +kernel), List.mem_of_getElem? (i := 1602) (by decide +kernel)⟩
theorem lw_p110 : lw_okq (⟨"SymmetryHouseModel", "classOf", "()I"⟩, 60) := ⟨⟨by decide +kernel, by decide +kernel⟩, List.mem_of_getElem? (i := 1133) (by decide +kernel), List.mem_of_getElem? (i := 1605) (by decide +kernel), List.mem_of_getElem? (i := 1606) (by decide +kernel)⟩
theorem lw_p111 : lw_okq (⟨"SymmetryHouseModel", "systemOf", "(I)I"⟩, 60) := ⟨⟨by decide +kernel, by decide +kernel⟩, List.mem_of_getElem? (i := 1133) (by decide +kernel), List.mem_of_getElem? (i := 1610) (by decide +kernel), List.mem_of_getElem? (i := 1611) (by decide +kernel)⟩
def lw_privs_7 : List (MethodName × Nat) := [(⟨"SymmetryHouseModel", "isPlain", "()Z"⟩, 60), (⟨"SymmetryHouseModel", "orderAt", "(I)I"⟩, 60), (⟨"SymmetryHouseModel", "axisAt", "(I)V"⟩, 60), (⟨"SymmetryHouseModel", "divisor", "(II)I"⟩, 60), (⟨"SymmetryHouseModel", "senseAt", "(I)I"⟩, 60), (⟨"SymmetryHouseModel", "pitchAt", "(I)V"⟩, 60), (⟨"SymmetryHouseModel", "inverseOf", "(II)I"⟩, 60), (⟨"SymmetryHouseModel", "identityOf", "(I)I"⟩, 60), (⟨"SymmetryHouseModel", "exchangedWith", "(II)I"⟩, 60), (⟨"SymmetryHouseModel", "areExchanged", "(III)Z"⟩, 60), (⟨"SymmetryHouseModel", "isFirstMatrix", "(II)Z"⟩, 60), (⟨"SymmetryHouseModel", "classOfGroup", "(I)I"⟩, 60), (⟨"SymmetryHouseModel", "noTypes", "()V"⟩, 60), (⟨"SymmetryHouseModel", "countType", "(I)V"⟩, 60), (⟨"SymmetryHouseModel", "classOf", "()I"⟩, 60), (⟨"SymmetryHouseModel", "systemOf", "(I)I"⟩, 60)]
theorem lw_r7 : ∀ q ∈ lw_privs_7, lw_okq q := List.forall_mem_cons.mpr ⟨lw_p96, List.forall_mem_cons.mpr ⟨lw_p97, List.forall_mem_cons.mpr ⟨lw_p98, List.forall_mem_cons.mpr ⟨lw_p99, List.forall_mem_cons.mpr ⟨lw_p100, List.forall_mem_cons.mpr ⟨lw_p101, List.forall_mem_cons.mpr ⟨lw_p102, List.forall_mem_cons.mpr ⟨lw_p103, List.forall_mem_cons.mpr ⟨lw_p104, List.forall_mem_cons.mpr ⟨lw_p105, List.forall_mem_cons.mpr ⟨lw_p106, List.forall_mem_cons.mpr ⟨lw_p107, List.forall_mem_cons.mpr ⟨lw_p108, List.forall_mem_cons.mpr ⟨lw_p109, List.forall_mem_cons.mpr ⟨lw_p110, List.forall_mem_cons.mpr ⟨lw_p111, fun _ h => absurd h List.not_mem_nil⟩⟩⟩⟩⟩⟩⟩⟩⟩⟩⟩⟩⟩⟩⟩⟩
theorem lw_p112 : lw_okq (⟨"SymmetryHouseModel", "classesOf", "(I)I"⟩, 60) := ⟨⟨by decide +kernel, by decide +kernel⟩, List.mem_of_getElem? (i := 1133) (by decide +kernel), List.mem_of_getElem? (i := 1614) (by decide +kernel), List.mem_of_getElem? (i := 1615) (by decide +kernel)⟩
theorem lw_p113 : lw_okq (⟨"SymmetryHouseModel", "numberIn", "(III)I"⟩, 60) := ⟨⟨by decide +kernel, by decide +kernel⟩, List.mem_of_getElem? (i := 1133) (by decide +kernel), List.mem_of_getElem? (i := 1622) (by decide +kernel), List.mem_of_getElem? (i := 1623) (by decide +kernel)⟩
theorem lw_p114 : lw_okq (⟨"SymmetryHouseModel", "hasAll", "(II)Z"⟩, 60) := ⟨⟨by decide +kernel, by decide +kernel⟩, List.mem_of_getElem? (i := 1133) (by decide +kernel), List.mem_of_getElem? (i := 1630) (by decide +kernel), List.mem_of_getElem? (i := 1631) (by decide +kernel)⟩
theorem lw_p115 : lw_okq (⟨"SymmetryHouseModel", "commonTo", "(III)I"⟩, 60) := ⟨⟨by decide +kernel, by decide +kernel⟩, List.mem_of_getElem? (i := 1133) (by decide +kernel), List.mem_of_getElem? (i := 1638) (by decide +kernel), List.mem_of_getElem? (i := 1639) (by decide +kernel)⟩
theorem lw_p116 : lw_okq (⟨"SymmetryHouseModel", "missing", "(II)I"⟩, 60) := ⟨⟨by decide +kernel, by decide +kernel⟩, List.mem_of_getElem? (i := 1133) (by decide +kernel), List.mem_of_getElem? (i := 1646) (by decide +kernel), List.mem_of_getElem? (i := 1647) (by decide +kernel)⟩
theorem lw_p117 : lw_okq (⟨"SymmetryHouseModel", "mixed", "(IIII)I"⟩, 60) := ⟨⟨by decide +kernel, by decide +kernel⟩, List.mem_of_getElem? (i := 1133) (by decide +kernel), List.mem_of_getElem? (i := 1654) (by decide +kernel), List.mem_of_getElem? (i := 1655) (by decide +kernel)⟩
theorem lw_p118 : lw_okq (⟨"SymmetryHouseModel", "isType", "(I)Z"⟩, 60) := ⟨⟨by decide +kernel, by decide +kernel⟩, List.mem_of_getElem? (i := 1133) (by decide +kernel), List.mem_of_getElem? (i := 1666) (by decide +kernel), List.mem_of_getElem? (i := 1667) (by decide +kernel)⟩
theorem lw_p119 : lw_okq (⟨"SymmetryHouseModel", "turnBasis", "(I)V"⟩, 60) := ⟨⟨by decide +kernel, by decide +kernel⟩, List.mem_of_getElem? (i := 1133) (by decide +kernel), List.mem_of_getElem? (i := 1678) (by decide +kernel), List.mem_of_getElem? (i := 1679) (by decide +kernel)⟩
theorem lw_p120 : lw_okq (⟨"SymmetryHouseModel", "between", "([II[I)V"⟩, 60) := ⟨⟨by decide +kernel, by decide +kernel⟩, List.mem_of_getElem? (i := 1133) (by decide +kernel), List.mem_of_getElem? (i := 1682) (by decide +kernel), List.mem_of_getElem? (i := 1683) (by decide +kernel)⟩
theorem lw_p121 : lw_okq (⟨"SymmetryHouseModel", "times", "([IIJJJ)J"⟩, 60) := ⟨⟨by decide +kernel, by decide +kernel⟩, List.mem_of_getElem? (i := 1133) (by decide +kernel), List.mem_of_getElem? (i := 1686) (by decide +kernel), List.mem_of_getElem? (i := 1687) (by decide +kernel)⟩
theorem lw_p122 : lw_okq (⟨"SymmetryHouseModel", "roundLong", "(J)J"⟩, 60) := ⟨⟨by decide +kernel, by decide +kernel⟩, List.mem_of_getElem? (i := 1133) (by decide +kernel), List.mem_of_getElem? (i := 1690) (by decide +kernel), List.mem_of_getElem? (i := 1691) (by decide +kernel)⟩
theorem lw_p123 : lw_okq (⟨"SymmetryHouseModel", "isMetric", "(I)Z"⟩, 60) := ⟨⟨by decide +kernel, by decide +kernel⟩, List.mem_of_getElem? (i := 1133) (by decide +kernel), List.mem_of_getElem? (i := 1701) (by decide +kernel), List.mem_of_getElem? (i := 1702) (by decide +kernel)⟩
theorem lw_p124 : lw_okq (⟨"SymmetryHouseModel", "putPlace", "()V"⟩, 60) := ⟨⟨by decide +kernel, by decide +kernel⟩, List.mem_of_getElem? (i := 1133) (by decide +kernel), List.mem_of_getElem? (i := 1713) (by decide +kernel), List.mem_of_getElem? (i := 1714) (by decide +kernel)⟩
theorem lw_p125 : lw_okq (⟨"SymmetryHouseModel", "compareTo", "(I[I)I"⟩, 60) := ⟨⟨by decide +kernel, by decide +kernel⟩, List.mem_of_getElem? (i := 1133) (by decide +kernel), List.mem_of_getElem? (i := 1717) (by decide +kernel), List.mem_of_getElem? (i := 1718) (by decide +kernel)⟩
theorem lw_p126 : lw_okq (⟨"SymmetryHouseModel", "isReflection", "(I)Z"⟩, 60) := ⟨⟨by decide +kernel, by decide +kernel⟩, List.mem_of_getElem? (i := 1133) (by decide +kernel), List.mem_of_getElem? (i := 1737) (by decide +kernel), List.mem_of_getElem? (i := 1738) (by decide +kernel)⟩
theorem lw_p127 : lw_okq (⟨"SymmetryHouseModel", "isAbsent", "(IIII)Z"⟩, 60) := ⟨⟨by decide +kernel, by decide +kernel⟩, List.mem_of_getElem? (i := 1133) (by decide +kernel), List.mem_of_getElem? (i := 1741) (by decide +kernel), List.mem_of_getElem? (i := 1742) (by decide +kernel)⟩
def lw_privs_8 : List (MethodName × Nat) := [(⟨"SymmetryHouseModel", "classesOf", "(I)I"⟩, 60), (⟨"SymmetryHouseModel", "numberIn", "(III)I"⟩, 60), (⟨"SymmetryHouseModel", "hasAll", "(II)Z"⟩, 60), (⟨"SymmetryHouseModel", "commonTo", "(III)I"⟩, 60), (⟨"SymmetryHouseModel", "missing", "(II)I"⟩, 60), (⟨"SymmetryHouseModel", "mixed", "(IIII)I"⟩, 60), (⟨"SymmetryHouseModel", "isType", "(I)Z"⟩, 60), (⟨"SymmetryHouseModel", "turnBasis", "(I)V"⟩, 60), (⟨"SymmetryHouseModel", "between", "([II[I)V"⟩, 60), (⟨"SymmetryHouseModel", "times", "([IIJJJ)J"⟩, 60), (⟨"SymmetryHouseModel", "roundLong", "(J)J"⟩, 60), (⟨"SymmetryHouseModel", "isMetric", "(I)Z"⟩, 60), (⟨"SymmetryHouseModel", "putPlace", "()V"⟩, 60), (⟨"SymmetryHouseModel", "compareTo", "(I[I)I"⟩, 60), (⟨"SymmetryHouseModel", "isReflection", "(I)Z"⟩, 60), (⟨"SymmetryHouseModel", "isAbsent", "(IIII)Z"⟩, 60)]
theorem lw_r8 : ∀ q ∈ lw_privs_8, lw_okq q := List.forall_mem_cons.mpr ⟨lw_p112, List.forall_mem_cons.mpr ⟨lw_p113, List.forall_mem_cons.mpr ⟨lw_p114, List.forall_mem_cons.mpr ⟨lw_p115, List.forall_mem_cons.mpr ⟨lw_p116, List.forall_mem_cons.mpr ⟨lw_p117, List.forall_mem_cons.mpr ⟨lw_p118, List.forall_mem_cons.mpr ⟨lw_p119, List.forall_mem_cons.mpr ⟨lw_p120, List.forall_mem_cons.mpr ⟨lw_p121, List.forall_mem_cons.mpr ⟨lw_p122, List.forall_mem_cons.mpr ⟨lw_p123, List.forall_mem_cons.mpr ⟨lw_p124, List.forall_mem_cons.mpr ⟨lw_p125, List.forall_mem_cons.mpr ⟨lw_p126, List.forall_mem_cons.mpr ⟨lw_p127, fun _ h => absurd h List.not_mem_nil⟩⟩⟩⟩⟩⟩⟩⟩⟩⟩⟩⟩⟩⟩⟩⟩
theorem lw_p128 : lw_okq (⟨"SymmetryHouseModel", "lead", "(IIII)V"⟩, 60) := ⟨⟨by decide +kernel, by decide +kernel⟩, List.mem_of_getElem? (i := 1133) (by decide +kernel), List.mem_of_getElem? (i := 1745) (by decide +kernel), List.mem_of_getElem? (i := 1746) (by decide +kernel)⟩
theorem lw_p129 : lw_okq (⟨"SymmetryHouseModel", "isLed", "(IIII)Z"⟩, 60) := ⟨⟨by decide +kernel, by decide +kernel⟩, List.mem_of_getElem? (i := 1133) (by decide +kernel), List.mem_of_getElem? (i := 1749) (by decide +kernel), List.mem_of_getElem? (i := 1750) (by decide +kernel)⟩
theorem lw_p130 : lw_okq (⟨"SymmetryHouseModel", "phase", "(IIIII)I"⟩, 60) := ⟨⟨by decide +kernel, by decide +kernel⟩, List.mem_of_getElem? (i := 1133) (by decide +kernel), List.mem_of_getElem? (i := 1753) (by decide +kernel), List.mem_of_getElem? (i := 1754) (by decide +kernel)⟩
theorem lw_p131 : lw_okq (⟨"SymmetryHouseModel", "putAlike", "(III)V"⟩, 60) := ⟨⟨by decide +kernel, by decide +kernel⟩, List.mem_of_getElem? (i := 1133) (by decide +kernel), List.mem_of_getElem? (i := 1757) (by decide +kernel), List.mem_of_getElem? (i := 1758) (by decide +kernel)⟩
theorem lw_p132 : lw_okq (⟨"SymmetryHouseModel", "add", "(I)V"⟩, 60) := ⟨⟨by decide +kernel, by decide +kernel⟩, List.mem_of_getElem? (i := 1133) (by decide +kernel), List.mem_of_getElem? (i := 1769) (by decide +kernel), List.mem_of_getElem? (i := 1770) (by decide +kernel)⟩
theorem lw_p133 : lw_okq (⟨"SymmetryHouseModel", "addNumber", "(I)V"⟩, 60) := ⟨⟨by decide +kernel, by decide +kernel⟩, List.mem_of_getElem? (i := 1133) (by decide +kernel), List.mem_of_getElem? (i := 1773) (by decide +kernel), List.mem_of_getElem? (i := 1774) (by decide +kernel)⟩
def lw_privs_9 : List (MethodName × Nat) := [(⟨"SymmetryHouseModel", "lead", "(IIII)V"⟩, 60), (⟨"SymmetryHouseModel", "isLed", "(IIII)Z"⟩, 60), (⟨"SymmetryHouseModel", "phase", "(IIIII)I"⟩, 60), (⟨"SymmetryHouseModel", "putAlike", "(III)V"⟩, 60), (⟨"SymmetryHouseModel", "add", "(I)V"⟩, 60), (⟨"SymmetryHouseModel", "addNumber", "(I)V"⟩, 60)]
theorem lw_r9 : ∀ q ∈ lw_privs_9, lw_okq q := List.forall_mem_cons.mpr ⟨lw_p128, List.forall_mem_cons.mpr ⟨lw_p129, List.forall_mem_cons.mpr ⟨lw_p130, List.forall_mem_cons.mpr ⟨lw_p131, List.forall_mem_cons.mpr ⟨lw_p132, List.forall_mem_cons.mpr ⟨lw_p133, fun _ h => absurd h List.not_mem_nil⟩⟩⟩⟩⟩⟩
def lw_privs : List (MethodName × Nat) := lw_privs_1 ++ (lw_privs_2 ++ (lw_privs_3 ++ (lw_privs_4 ++ (lw_privs_5 ++ (lw_privs_6 ++ (lw_privs_7 ++ (lw_privs_8 ++ (lw_privs_9))))))))
def lw_tbl : List Cond := k2_sels lw_privs ++ tables_1
theorem lw_privs_ok : ∀ q ∈ lw_privs, lw_okq q := by
  show ∀ q ∈ lw_privs_1 ++ (lw_privs_2 ++ (lw_privs_3 ++ (lw_privs_4 ++ (lw_privs_5 ++ (lw_privs_6 ++ (lw_privs_7 ++ (lw_privs_8 ++ (lw_privs_9)))))))), lw_okq q
  exact List.forall_mem_append.mpr ⟨lw_r1, List.forall_mem_append.mpr ⟨lw_r2, List.forall_mem_append.mpr ⟨lw_r3, List.forall_mem_append.mpr ⟨lw_r4, List.forall_mem_append.mpr ⟨lw_r5, List.forall_mem_append.mpr ⟨lw_r6, List.forall_mem_append.mpr ⟨lw_r7, List.forall_mem_append.mpr ⟨lw_r8, lw_r9⟩⟩⟩⟩⟩⟩⟩⟩
end
section
def RX0 : String := "SymmetryHouse$Algebra"
def TX0 : u_T := fun k => match k with
  | _ => ("", "", "", false)
def tyX0 : Nat → FieldType := fun k => match k with
  | _ => .int
abbrev wsX00 : List Cond := u_ws RX0 TX0 0
theorem nmX0 : ∀ a, a < 0 → ∀ b, b < 0 → a ≠ b → (TX0 a).2.1 ≠ (TX0 b).2.1 := by decide +kernel
theorem tyX0_ok : ∀ k, k < 0 → parseFieldDescriptor (TX0 k).2.2.1 = some (tyX0 k) := by decide +kernel
abbrev cX0_encode : ByteArray := prog_2_method_2_code
def yX0_encode : MethodName := ⟨RX0, "encode", "(III)I"⟩
abbrev cX0_shareOf : ByteArray := prog_2_method_3_code
def yX0_shareOf : MethodName := ⟨RX0, "shareOf", "(II)I"⟩
abbrev cX0_sum : ByteArray := prog_2_method_4_code
def yX0_sum : MethodName := ⟨RX0, "sum", "(II)I"⟩
abbrev cX0_difference : ByteArray := prog_2_method_5_code
def yX0_difference : MethodName := ⟨RX0, "difference", "(II)I"⟩
abbrev cX0_rowTimes : ByteArray := prog_2_method_6_code
def yX0_rowTimes : MethodName := ⟨RX0, "rowTimes", "([IIIII)I"⟩
abbrev cX0_columnTimes : ByteArray := prog_2_method_7_code
def yX0_columnTimes : MethodName := ⟨RX0, "columnTimes", "([IIIII)I"⟩
abbrev cX0_moved : ByteArray := prog_2_method_8_code
def yX0_moved : MethodName := ⟨RX0, "moved", "([III)I"⟩
abbrev cX0_multiply : ByteArray := prog_2_method_9_code
def yX0_multiply : MethodName := ⟨RX0, "multiply", "([II[II[I)V"⟩
abbrev cX0_isModest : ByteArray := prog_2_method_10_code
def yX0_isModest : MethodName := ⟨RX0, "isModest", "([I)Z"⟩
abbrev cX0_order : ByteArray := prog_2_method_11_code
def yX0_order : MethodName := ⟨RX0, "order", "([II[II)I"⟩
abbrev cX0_trace : ByteArray := prog_2_method_12_code
def yX0_trace : MethodName := ⟨RX0, "trace", "([II)I"⟩
abbrev cX0_cofactor : ByteArray := prog_2_method_13_code
def yX0_cofactor : MethodName := ⟨RX0, "cofactor", "([IIII)I"⟩
abbrev cX0_determinant : ByteArray := prog_2_method_14_code
def yX0_determinant : MethodName := ⟨RX0, "determinant", "([II)I"⟩
abbrev cX0_typeOf : ByteArray := prog_2_method_15_code
def yX0_typeOf : MethodName := ⟨RX0, "typeOf", "([II)I"⟩
abbrev cX0_weightOf : ByteArray := prog_2_method_16_code
def yX0_weightOf : MethodName := ⟨RX0, "weightOf", "(I)J"⟩
abbrev cX0_classOf : ByteArray := prog_2_method_17_code
def yX0_classOf : MethodName := ⟨RX0, "classOf", "(J)I"⟩
abbrev cX0_commonDivisor : ByteArray := prog_2_method_18_code
def yX0_commonDivisor : MethodName := ⟨RX0, "commonDivisor", "(II)I"⟩
def RX1 : String := "SymmetryHouse$Basis"
def TX1 : u_T := fun k => match k with
  | 0 => ("SymmetryHouse$Basis", "matrix", "[I", true)
  | 1 => ("SymmetryHouse$Basis", "inverse", "[I", true)
  | _ => ("SymmetryHouse$Basis", "origin", "[I", true)
def tyX1 : Nat → FieldType := fun k => match k with
  | 0 => .array .int
  | 1 => .array .int
  | _ => .array .int
abbrev wsX10 : List Cond := u_ws RX1 TX1 3
theorem nmX1 : ∀ a, a < 3 → ∀ b, b < 3 → a ≠ b → (TX1 a).2.1 ≠ (TX1 b).2.1 := by decide +kernel
theorem tyX1_ok : ∀ k, k < 3 → parseFieldDescriptor (TX1 k).2.2.1 = some (tyX1 k) := by decide +kernel
abbrev cX1_init : ByteArray := prog_3_method_1_code
def yX1_init : MethodName := ⟨RX1, "<init>", "()V"⟩
abbrev cX1_put : ByteArray := prog_3_method_2_code
def yX1_put : MethodName := ⟨RX1, "put", "(II)Z"⟩
abbrev cX1_originCode : ByteArray := prog_3_method_3_code
def yX1_originCode : MethodName := ⟨RX1, "originCode", "()I"⟩
abbrev cX1_invert : ByteArray := prog_3_method_4_code
def yX1_invert : MethodName := ⟨RX1, "invert", "()Z"⟩
def RX2 : String := "SymmetryHouse$Draft"
def TX2 : u_T := fun k => match k with
  | 0 => ("SymmetryHouse$Draft", "rows", "[I", true)
  | 1 => ("SymmetryHouse$Draft", "firsts", "[I", true)
  | 2 => ("SymmetryHouse$Draft", "pures", "[I", true)
  | 3 => ("SymmetryHouse$Draft", "gaps", "[I", true)
  | 4 => ("SymmetryHouse$Draft", "half", "[I", true)
  | 5 => ("SymmetryHouse$Draft", "work", "[I", true)
  | 6 => ("SymmetryHouse$Draft", "gapCount", "I", false)
  | 7 => ("SymmetryHouse$Draft", "matrices", "I", false)
  | _ => ("SymmetryHouse$Draft", "pure", "I", false)
def tyX2 : Nat → FieldType := fun k => match k with
  | 0 => .array .int
  | 1 => .array .int
  | 2 => .array .int
  | 3 => .array .int
  | 4 => .array .int
  | 5 => .array .int
  | 6 => .int
  | 7 => .int
  | _ => .int
abbrev wsX20 : List Cond := u_ws RX2 TX2 9
theorem nmX2 : ∀ a, a < 9 → ∀ b, b < 9 → a ≠ b → (TX2 a).2.1 ≠ (TX2 b).2.1 := by decide +kernel
theorem tyX2_ok : ∀ k, k < 9 → parseFieldDescriptor (TX2 k).2.2.1 = some (tyX2 k) := by decide +kernel
abbrev cX2_init : ByteArray := prog_4_method_1_code
def yX2_init : MethodName := ⟨RX2, "<init>", "()V"⟩
abbrev cX2_clear : ByteArray := prog_4_method_2_code
def yX2_clear : MethodName := ⟨RX2, "clear", "()V"⟩
abbrev cX2_addMatrix : ByteArray := prog_4_method_3_code
def yX2_addMatrix : MethodName := ⟨RX2, "addMatrix", "([III)Z"⟩
abbrev cX2_addPure : ByteArray := prog_4_method_4_code
def yX2_addPure : MethodName := ⟨RX2, "addPure", "(I)V"⟩
abbrev cX2_numberOf : ByteArray := prog_4_method_5_code
def yX2_numberOf : MethodName := ⟨RX2, "numberOf", "([I)I"⟩
abbrev cX2_rankOf : ByteArray := prog_4_method_6_code
def yX2_rankOf : MethodName := ⟨RX2, "rankOf", "(I)I"⟩
abbrev cX2_generate : ByteArray := prog_4_method_7_code
def yX2_generate : MethodName := ⟨RX2, "generate", "(LSymmetryHouse$Generators;)I"⟩
abbrev cX2_spreadMatrices : ByteArray := prog_4_method_8_code
def yX2_spreadMatrices : MethodName := ⟨RX2, "spreadMatrices", "(LSymmetryHouse$Generators;)Z"⟩
abbrev cX2_addGap : ByteArray := prog_4_method_9_code
def yX2_addGap : MethodName := ⟨RX2, "addGap", "(I)V"⟩
abbrev cX2_gatherPures : ByteArray := prog_4_method_10_code
def yX2_gatherPures : MethodName := ⟨RX2, "gatherPures", "()Z"⟩
abbrev cX2_extendPures : ByteArray := prog_4_method_11_code
def yX2_extendPures : MethodName := ⟨RX2, "extendPures", "(I)Z"⟩
abbrev cX2_holdsPure : ByteArray := prog_4_method_12_code
def yX2_holdsPure : MethodName := ⟨RX2, "holdsPure", "(I)Z"⟩
abbrev cX2_meet : ByteArray := prog_4_method_13_code
def yX2_meet : MethodName := ⟨RX2, "meet", "(LSymmetryHouse$Group;LSymmetryHouse$Group;)V"⟩
abbrev cX2_choose : ByteArray := prog_4_method_14_code
def yX2_choose : MethodName := ⟨RX2, "choose", "(LSymmetryHouse$Group;II)Z"⟩
abbrev cX2_isChosen : ByteArray := prog_4_method_15_code
def yX2_isChosen : MethodName := ⟨RX2, "isChosen", "(III)Z"⟩
abbrev cX2_carry : ByteArray := prog_4_method_16_code
def yX2_carry : MethodName := ⟨RX2, "carry", "(LSymmetryHouse$Group;LSymmetryHouse$Basis;Z)Z"⟩
def RX3 : String := "SymmetryHouse$Generators"
def TX3 : u_T := fun k => match k with
  | 0 => ("SymmetryHouse$Generators", "rows", "[I", true)
  | 1 => ("SymmetryHouse$Generators", "codes", "[I", true)
  | 2 => ("SymmetryHouse$Generators", "count", "I", false)
  | 3 => ("SymmetryHouse$Generators", "fault", "I", false)
  | _ => ("SymmetryHouse$Generators", "place", "I", false)
def tyX3 : Nat → FieldType := fun k => match k with
  | 0 => .array .int
  | 1 => .array .int
  | 2 => .int
  | 3 => .int
  | _ => .int
abbrev wsX30 : List Cond := u_ws RX3 TX3 5
theorem nmX3 : ∀ a, a < 5 → ∀ b, b < 5 → a ≠ b → (TX3 a).2.1 ≠ (TX3 b).2.1 := by decide +kernel
theorem tyX3_ok : ∀ k, k < 5 → parseFieldDescriptor (TX3 k).2.2.1 = some (tyX3 k) := by decide +kernel
abbrev cX3_init : ByteArray := prog_5_method_1_code
def yX3_init : MethodName := ⟨RX3, "<init>", "()V"⟩
abbrev cX3_clear : ByteArray := prog_5_method_2_code
def yX3_clear : MethodName := ⟨RX3, "clear", "()V"⟩
abbrev cX3_fail : ByteArray := prog_5_method_3_code
def yX3_fail : MethodName := ⟨RX3, "fail", "(II)Z"⟩
abbrev cX3_add : ByteArray := prog_5_method_4_code
def yX3_add : MethodName := ⟨RX3, "add", "([II)V"⟩
abbrev cX3_shiftOrigin : ByteArray := prog_5_method_5_code
def yX3_shiftOrigin : MethodName := ⟨RX3, "shiftOrigin", "(I)V"⟩
def RX4 : String := "SymmetryHouse$Group"
def TX4 : u_T := fun k => match k with
  | 0 => ("SymmetryHouse$Group", "rows", "[I", true)
  | 1 => ("SymmetryHouse$Group", "types", "[I", true)
  | 2 => ("SymmetryHouse$Group", "codes", "[I", true)
  | 3 => ("SymmetryHouse$Group", "table", "[I", true)
  | 4 => ("SymmetryHouse$Group", "work", "[I", true)
  | 5 => ("SymmetryHouse$Group", "matrices", "I", false)
  | 6 => ("SymmetryHouse$Group", "pure", "I", false)
  | 7 => ("SymmetryHouse$Group", "unit", "I", false)
  | _ => ("SymmetryHouse$Group", "tabled", "Z", false)
def tyX4 : Nat → FieldType := fun k => match k with
  | 0 => .array .int
  | 1 => .array .int
  | 2 => .array .int
  | 3 => .array .int
  | 4 => .array .int
  | 5 => .int
  | 6 => .int
  | 7 => .int
  | _ => .boolean
abbrev wsX40 : List Cond := u_ws RX4 TX4 9
theorem nmX4 : ∀ a, a < 9 → ∀ b, b < 9 → a ≠ b → (TX4 a).2.1 ≠ (TX4 b).2.1 := by decide +kernel
theorem tyX4_ok : ∀ k, k < 9 → parseFieldDescriptor (TX4 k).2.2.1 = some (tyX4 k) := by decide +kernel
abbrev cX4_init : ByteArray := prog_6_method_1_code
def yX4_init : MethodName := ⟨RX4, "<init>", "()V"⟩
abbrev cX4_settle : ByteArray := prog_6_method_2_code
def yX4_settle : MethodName := ⟨RX4, "settle", "(LSymmetryHouse$Draft;)V"⟩
abbrev cX4_settleCodes : ByteArray := prog_6_method_3_code
def yX4_settleCodes : MethodName := ⟨RX4, "settleCodes", "(LSymmetryHouse$Draft;II)V"⟩
abbrev cX4_fillTable : ByteArray := prog_6_method_4_code
def yX4_fillTable : MethodName := ⟨RX4, "fillTable", "()V"⟩
abbrev cX4_order : ByteArray := prog_6_method_5_code
def yX4_order : MethodName := ⟨RX4, "order", "()I"⟩
abbrev cX4_hasOperator : ByteArray := prog_6_method_6_code
def yX4_hasOperator : MethodName := ⟨RX4, "hasOperator", "(I)Z"⟩
abbrev cX4_matrixOf : ByteArray := prog_6_method_7_code
def yX4_matrixOf : MethodName := ⟨RX4, "matrixOf", "(I)I"⟩
abbrev cX4_pureCode : ByteArray := prog_6_method_8_code
def yX4_pureCode : MethodName := ⟨RX4, "pureCode", "(I)I"⟩
abbrev cX4_matrixNumber : ByteArray := prog_6_method_9_code
def yX4_matrixNumber : MethodName := ⟨RX4, "matrixNumber", "([II)I"⟩
abbrev cX4_codeNumber : ByteArray := prog_6_method_10_code
def yX4_codeNumber : MethodName := ⟨RX4, "codeNumber", "(II)I"⟩
abbrev cX4_numberIn : ByteArray := prog_6_method_11_code
def yX4_numberIn : MethodName := ⟨RX4, "numberIn", "(LSymmetryHouse$Group;I)I"⟩
abbrev cX4_matrixAfter : ByteArray := prog_6_method_12_code
def yX4_matrixAfter : MethodName := ⟨RX4, "matrixAfter", "(II)I"⟩
abbrev cX4_after : ByteArray := prog_6_method_13_code
def yX4_after : MethodName := ⟨RX4, "after", "(II)I"⟩
abbrev cX4_inverseOf : ByteArray := prog_6_method_14_code
def yX4_inverseOf : MethodName := ⟨RX4, "inverseOf", "(I)I"⟩
abbrev cX4_exchangedWith : ByteArray := prog_6_method_15_code
def yX4_exchangedWith : MethodName := ⟨RX4, "exchangedWith", "(I)I"⟩
abbrev cX4_centreSize : ByteArray := prog_6_method_16_code
def yX4_centreSize : MethodName := ⟨RX4, "centreSize", "()I"⟩
abbrev cX4_conjugateSets : ByteArray := prog_6_method_17_code
def yX4_conjugateSets : MethodName := ⟨RX4, "conjugateSets", "()I"⟩
abbrev cX4_pointClass : ByteArray := prog_6_method_18_code
def yX4_pointClass : MethodName := ⟨RX4, "pointClass", "()I"⟩
abbrev cX4_traceSum : ByteArray := prog_6_method_19_code
def yX4_traceSum : MethodName := ⟨RX4, "traceSum", "()I"⟩
abbrev cX4_isProper : ByteArray := prog_6_method_20_code
def yX4_isProper : MethodName := ⟨RX4, "isProper", "()Z"⟩
abbrev cX4_holdsAll : ByteArray := prog_6_method_21_code
def yX4_holdsAll : MethodName := ⟨RX4, "holdsAll", "(LSymmetryHouse$Group;)Z"⟩
abbrev cX4_markCosets : ByteArray := prog_6_method_22_code
def yX4_markCosets : MethodName := ⟨RX4, "markCosets", "(LSymmetryHouse$Group;[I)V"⟩
abbrev cX4_markCoset : ByteArray := prog_6_method_23_code
def yX4_markCoset : MethodName := ⟨RX4, "markCoset", "(LSymmetryHouse$Group;[III)V"⟩
abbrev cX4_hasNormal : ByteArray := prog_6_method_24_code
def yX4_hasNormal : MethodName := ⟨RX4, "hasNormal", "(LSymmetryHouse$Group;[I)Z"⟩
abbrev cX4_leaves : ByteArray := prog_6_method_25_code
def yX4_leaves : MethodName := ⟨RX4, "leaves", "(LSymmetryHouse$Group;I)Z"⟩
def RX5 : String := "SymmetryHouse$Metric"
def TX5 : u_T := fun k => match k with
  | 0 => ("SymmetryHouse$Metric", "sums", "[J", true)
  | 1 => ("SymmetryHouse$Metric", "told", "[I", true)
  | _ => ("SymmetryHouse$Metric", "full", "[J", true)
def tyX5 : Nat → FieldType := fun k => match k with
  | 0 => .array .long
  | 1 => .array .int
  | _ => .array .long
abbrev wsX50 : List Cond := u_ws RX5 TX5 3
theorem nmX5 : ∀ a, a < 3 → ∀ b, b < 3 → a ≠ b → (TX5 a).2.1 ≠ (TX5 b).2.1 := by decide +kernel
theorem tyX5_ok : ∀ k, k < 3 → parseFieldDescriptor (TX5 k).2.2.1 = some (tyX5 k) := by decide +kernel
abbrev cX5_init : ByteArray := prog_7_method_1_code
def yX5_init : MethodName := ⟨RX5, "<init>", "()V"⟩
abbrev cX5_put : ByteArray := prog_7_method_2_code
def yX5_put : MethodName := ⟨RX5, "put", "(IIIIII)Z"⟩
abbrev cX5_measure : ByteArray := prog_7_method_3_code
def yX5_measure : MethodName := ⟨RX5, "measure", "(LSymmetryHouse$Group;)Z"⟩
abbrev cX5_carried : ByteArray := prog_7_method_4_code
def yX5_carried : MethodName := ⟨RX5, "carried", "([IIII)J"⟩
def RX6 : String := "SymmetryHouse$Nature"
def TX6 : u_T := fun k => match k with
  | 0 => ("SymmetryHouse$Nature", "axis", "[I", true)
  | 1 => ("SymmetryHouse$Nature", "pitch", "[I", true)
  | 2 => ("SymmetryHouse$Nature", "proper", "[I", true)
  | 3 => ("SymmetryHouse$Nature", "rest", "[I", true)
  | 4 => ("SymmetryHouse$Nature", "type", "I", false)
  | 5 => ("SymmetryHouse$Nature", "turns", "I", false)
  | 6 => ("SymmetryHouse$Nature", "order", "I", false)
  | _ => ("SymmetryHouse$Nature", "sense", "I", false)
def tyX6 : Nat → FieldType := fun k => match k with
  | 0 => .array .int
  | 1 => .array .int
  | 2 => .array .int
  | 3 => .array .int
  | 4 => .int
  | 5 => .int
  | 6 => .int
  | _ => .int
abbrev wsX60 : List Cond := u_ws RX6 TX6 8
theorem nmX6 : ∀ a, a < 8 → ∀ b, b < 8 → a ≠ b → (TX6 a).2.1 ≠ (TX6 b).2.1 := by decide +kernel
theorem tyX6_ok : ∀ k, k < 8 → parseFieldDescriptor (TX6 k).2.2.1 = some (tyX6 k) := by decide +kernel
abbrev cX6_init : ByteArray := prog_8_method_1_code
def yX6_init : MethodName := ⟨RX6, "<init>", "()V"⟩
abbrev cX6_look : ByteArray := prog_8_method_2_code
def yX6_look : MethodName := ⟨RX6, "look", "([III)V"⟩
abbrev cX6_fixes : ByteArray := prog_8_method_3_code
def yX6_fixes : MethodName := ⟨RX6, "fixes", "()Z"⟩
abbrev cX6_findPitch : ByteArray := prog_8_method_4_code
def yX6_findPitch : MethodName := ⟨RX6, "findPitch", "([III)V"⟩
abbrev cX6_findOrder : ByteArray := prog_8_method_5_code
def yX6_findOrder : MethodName := ⟨RX6, "findOrder", "()V"⟩
abbrev cX6_findAxis : ByteArray := prog_8_method_6_code
def yX6_findAxis : MethodName := ⟨RX6, "findAxis", "()V"⟩
abbrev cX6_findSense : ByteArray := prog_8_method_7_code
def yX6_findSense : MethodName := ⟨RX6, "findSense", "()V"⟩
def RX7 : String := "SymmetryHouse$Points"
def TX7 : u_T := fun k => match k with
  | 0 => ("SymmetryHouse$Points", "keys", "[J", true)
  | 1 => ("SymmetryHouse$Points", "stabiliser", "[I", true)
  | 2 => ("SymmetryHouse$Points", "point", "[I", true)
  | 3 => ("SymmetryHouse$Points", "places", "I", false)
  | 4 => ("SymmetryHouse$Points", "staying", "I", false)
  | 5 => ("SymmetryHouse$Points", "siteClass", "I", false)
  | 6 => ("SymmetryHouse$Points", "free", "I", false)
  | _ => ("SymmetryHouse$Points", "parts", "I", false)
def tyX7 : Nat → FieldType := fun k => match k with
  | 0 => .array .long
  | 1 => .array .int
  | 2 => .array .int
  | 3 => .int
  | 4 => .int
  | 5 => .int
  | 6 => .int
  | _ => .int
abbrev wsX70 : List Cond := u_ws RX7 TX7 8
theorem nmX7 : ∀ a, a < 8 → ∀ b, b < 8 → a ≠ b → (TX7 a).2.1 ≠ (TX7 b).2.1 := by decide +kernel
theorem tyX7_ok : ∀ k, k < 8 → parseFieldDescriptor (TX7 k).2.2.1 = some (tyX7 k) := by decide +kernel
abbrev cX7_init : ByteArray := prog_9_method_1_code
def yX7_init : MethodName := ⟨RX7, "<init>", "()V"⟩
abbrev cX7_spread : ByteArray := prog_9_method_2_code
def yX7_spread : MethodName := ⟨RX7, "spread", "(LSymmetryHouse$Group;IIII)V"⟩
abbrev cX7_ownPlace : ByteArray := prog_9_method_3_code
def yX7_ownPlace : MethodName := ⟨RX7, "ownPlace", "()I"⟩
abbrev cX7_coordinate : ByteArray := prog_9_method_4_code
def yX7_coordinate : MethodName := ⟨RX7, "coordinate", "(II)I"⟩
abbrev cX7_ownKey : ByteArray := prog_9_method_5_code
def yX7_ownKey : MethodName := ⟨RX7, "ownKey", "()J"⟩
abbrev cX7_keyOf : ByteArray := prog_9_method_6_code
def yX7_keyOf : MethodName := ⟨RX7, "keyOf", "([IIII)J"⟩
abbrev cX7_positionOf : ByteArray := prog_9_method_7_code
def yX7_positionOf : MethodName := ⟨RX7, "positionOf", "(J)I"⟩
abbrev cX7_insert : ByteArray := prog_9_method_8_code
def yX7_insert : MethodName := ⟨RX7, "insert", "(J)V"⟩
def RX8 : String := "SymmetryHouse$Reflections"
def TX8 : u_T := fun k => match k with
  | _ => ("", "", "", false)
def tyX8 : Nat → FieldType := fun k => match k with
  | _ => .int
abbrev wsX80 : List Cond := u_ws RX8 TX8 0
theorem nmX8 : ∀ a, a < 0 → ∀ b, b < 0 → a ≠ b → (TX8 a).2.1 ≠ (TX8 b).2.1 := by decide +kernel
theorem tyX8_ok : ∀ k, k < 0 → parseFieldDescriptor (TX8 k).2.2.1 = some (tyX8 k) := by decide +kernel
abbrev cX8_leads : ByteArray := prog_10_method_2_code
def yX8_leads : MethodName := ⟨RX8, "leads", "(LSymmetryHouse$Group;IIIII)Z"⟩
abbrev cX8_phase : ByteArray := prog_10_method_3_code
def yX8_phase : MethodName := ⟨RX8, "phase", "(IIII)I"⟩
abbrev cX8_isAbsent : ByteArray := prog_10_method_4_code
def yX8_isAbsent : MethodName := ⟨RX8, "isAbsent", "(LSymmetryHouse$Group;III)Z"⟩
abbrev cX8_countLeading : ByteArray := prog_10_method_5_code
def yX8_countLeading : MethodName := ⟨RX8, "countLeading", "(LSymmetryHouse$Group;IIII)I"⟩
abbrev cX8_countAlike : ByteArray := prog_10_method_6_code
def yX8_countAlike : MethodName := ⟨RX8, "countAlike", "(LSymmetryHouse$Group;III)I"⟩
abbrev cX8_countWithFriedel : ByteArray := prog_10_method_7_code
def yX8_countWithFriedel : MethodName := ⟨RX8, "countWithFriedel", "(LSymmetryHouse$Group;III)I"⟩
abbrev cX8_turningPhase : ByteArray := prog_10_method_8_code
def yX8_turningPhase : MethodName := ⟨RX8, "turningPhase", "(LSymmetryHouse$Group;III)I"⟩
abbrev cX8_countAbsent : ByteArray := prog_10_method_9_code
def yX8_countAbsent : MethodName := ⟨RX8, "countAbsent", "(LSymmetryHouse$Group;I)I"⟩
def RX9 : String := "SymmetryHouse$SymbolReader"
def TX9 : u_T := fun k => match k with
  | 0 => ("SymmetryHouse$SymbolReader", "tape", "[I", true)
  | 1 => ("SymmetryHouse$SymbolReader", "made", "LSymmetryHouse$Generators;", true)
  | 2 => ("SymmetryHouse$SymbolReader", "matrix", "[I", true)
  | 3 => ("SymmetryHouse$SymbolReader", "moves", "[I", true)
  | 4 => ("SymmetryHouse$SymbolReader", "shift", "[I", true)
  | 5 => ("SymmetryHouse$SymbolReader", "rotations", "I", false)
  | 6 => ("SymmetryHouse$SymbolReader", "turnAhead", "I", false)
  | 7 => ("SymmetryHouse$SymbolReader", "axisAhead", "I", false)
  | 8 => ("SymmetryHouse$SymbolReader", "shifted", "Z", false)
  | 9 => ("SymmetryHouse$SymbolReader", "length", "I", false)
  | _ => ("SymmetryHouse$SymbolReader", "at", "I", false)
def tyX9 : Nat → FieldType := fun k => match k with
  | 0 => .array .int
  | 1 => .object "SymmetryHouse$Generators"
  | 2 => .array .int
  | 3 => .array .int
  | 4 => .array .int
  | 5 => .int
  | 6 => .int
  | 7 => .int
  | 8 => .boolean
  | 9 => .int
  | _ => .int
abbrev wsX90 : List Cond := u_ws RX9 TX9 11
theorem nmX9 : ∀ a, a < 11 → ∀ b, b < 11 → a ≠ b → (TX9 a).2.1 ≠ (TX9 b).2.1 := by decide +kernel
theorem tyX9_ok : ∀ k, k < 11 → parseFieldDescriptor (TX9 k).2.2.1 = some (tyX9 k) := by decide +kernel
abbrev cX9_init : ByteArray := prog_11_method_1_code
def yX9_init : MethodName := ⟨RX9, "<init>", "([ILSymmetryHouse$Generators;)V"⟩
abbrev cX9_readSymbol : ByteArray := prog_11_method_2_code
def yX9_readSymbol : MethodName := ⟨RX9, "readSymbol", "(I)V"⟩
abbrev cX9_skipBlanks : ByteArray := prog_11_method_3_code
def yX9_skipBlanks : MethodName := ⟨RX9, "skipBlanks", "()V"⟩
abbrev cX9_here : ByteArray := prog_11_method_4_code
def yX9_here : MethodName := ⟨RX9, "here", "()I"⟩
abbrev cX9_readMinus : ByteArray := prog_11_method_5_code
def yX9_readMinus : MethodName := ⟨RX9, "readMinus", "()Z"⟩
abbrev cX9_readLattice : ByteArray := prog_11_method_6_code
def yX9_readLattice : MethodName := ⟨RX9, "readLattice", "()Z"⟩
abbrev cX9_addLattice : ByteArray := prog_11_method_7_code
def yX9_addLattice : MethodName := ⟨RX9, "addLattice", "(I)Z"⟩
abbrev cX9_readWord : ByteArray := prog_11_method_8_code
def yX9_readWord : MethodName := ⟨RX9, "readWord", "()Z"⟩
abbrev cX9_readRotation : ByteArray := prog_11_method_9_code
def yX9_readRotation : MethodName := ⟨RX9, "readRotation", "()Z"⟩
abbrev cX9_readAxis : ByteArray := prog_11_method_10_code
def yX9_readAxis : MethodName := ⟨RX9, "readAxis", "(I)I"⟩
abbrev cX9_axisUntold : ByteArray := prog_11_method_11_code
def yX9_axisUntold : MethodName := ⟨RX9, "axisUntold", "(I)I"⟩
abbrev cX9_readMoves : ByteArray := prog_11_method_12_code
def yX9_readMoves : MethodName := ⟨RX9, "readMoves", "(II)Z"⟩
abbrev cX9_addMove : ByteArray := prog_11_method_13_code
def yX9_addMove : MethodName := ⟨RX9, "addMove", "(I)Z"⟩
abbrev cX9_setMatrix : ByteArray := prog_11_method_14_code
def yX9_setMatrix : MethodName := ⟨RX9, "setMatrix", "(III)V"⟩
abbrev cX9_readShift : ByteArray := prog_11_method_15_code
def yX9_readShift : MethodName := ⟨RX9, "readShift", "()Z"⟩
abbrev cX9_readTwelfths : ByteArray := prog_11_method_16_code
def yX9_readTwelfths : MethodName := ⟨RX9, "readTwelfths", "(I)Z"⟩
abbrev cX9_isStraight : ByteArray := prog_11_method_17_code
def yX9_isStraight : MethodName := ⟨RX9, "isStraight", "(I)Z"⟩
abbrev cX9_isQuote : ByteArray := prog_11_method_18_code
def yX9_isQuote : MethodName := ⟨RX9, "isQuote", "(I)Z"⟩
abbrev cX9_rotationNumber : ByteArray := prog_11_method_19_code
def yX9_rotationNumber : MethodName := ⟨RX9, "rotationNumber", "(I)I"⟩
def RX10 : String := "SymmetryHouse$TripleReader"
def TX10 : u_T := fun k => match k with
  | 0 => ("SymmetryHouse$TripleReader", "tape", "[I", true)
  | 1 => ("SymmetryHouse$TripleReader", "made", "LSymmetryHouse$Generators;", true)
  | 2 => ("SymmetryHouse$TripleReader", "matrix", "[I", true)
  | 3 => ("SymmetryHouse$TripleReader", "moves", "[I", true)
  | 4 => ("SymmetryHouse$TripleReader", "numbered", "Z", false)
  | 5 => ("SymmetryHouse$TripleReader", "length", "I", false)
  | _ => ("SymmetryHouse$TripleReader", "at", "I", false)
def tyX10 : Nat → FieldType := fun k => match k with
  | 0 => .array .int
  | 1 => .object "SymmetryHouse$Generators"
  | 2 => .array .int
  | 3 => .array .int
  | 4 => .boolean
  | 5 => .int
  | _ => .int
abbrev wsX100 : List Cond := u_ws RX10 TX10 7
theorem nmX10 : ∀ a, a < 7 → ∀ b, b < 7 → a ≠ b → (TX10 a).2.1 ≠ (TX10 b).2.1 := by decide +kernel
theorem tyX10_ok : ∀ k, k < 7 → parseFieldDescriptor (TX10 k).2.2.1 = some (tyX10 k) := by decide +kernel
abbrev cX10_init : ByteArray := prog_12_method_1_code
def yX10_init : MethodName := ⟨RX10, "<init>", "([ILSymmetryHouse$Generators;)V"⟩
abbrev cX10_readTriples : ByteArray := prog_12_method_2_code
def yX10_readTriples : MethodName := ⟨RX10, "readTriples", "(I)V"⟩
abbrev cX10_goesOn : ByteArray := prog_12_method_3_code
def yX10_goesOn : MethodName := ⟨RX10, "goesOn", "()Z"⟩
abbrev cX10_readTriple : ByteArray := prog_12_method_4_code
def yX10_readTriple : MethodName := ⟨RX10, "readTriple", "(I)Z"⟩
abbrev cX10_readComma : ByteArray := prog_12_method_5_code
def yX10_readComma : MethodName := ⟨RX10, "readComma", "()Z"⟩
abbrev cX10_readSum : ByteArray := prog_12_method_6_code
def yX10_readSum : MethodName := ⟨RX10, "readSum", "(I)Z"⟩
abbrev cX10_readSign : ByteArray := prog_12_method_7_code
def yX10_readSign : MethodName := ⟨RX10, "readSign", "()I"⟩
abbrev cX10_readLetter : ByteArray := prog_12_method_8_code
def yX10_readLetter : MethodName := ⟨RX10, "readLetter", "(II)Z"⟩
abbrev cX10_readMove : ByteArray := prog_12_method_9_code
def yX10_readMove : MethodName := ⟨RX10, "readMove", "(II)Z"⟩
abbrev cX10_readNumber : ByteArray := prog_12_method_10_code
def yX10_readNumber : MethodName := ⟨RX10, "readNumber", "()I"⟩
abbrev cX10_token : ByteArray := prog_12_method_11_code
def yX10_token : MethodName := ⟨RX10, "token", "()I"⟩
abbrev cX10_digitsHere : ByteArray := prog_12_method_12_code
def yX10_digitsHere : MethodName := ⟨RX10, "digitsHere", "()I"⟩
abbrev cX10_isSign : ByteArray := prog_12_method_13_code
def yX10_isSign : MethodName := ⟨RX10, "isSign", "(I)Z"⟩
abbrev cX10_isLetter : ByteArray := prog_12_method_14_code
def yX10_isLetter : MethodName := ⟨RX10, "isLetter", "(I)Z"⟩
def RX11 : String := "SymmetryHouse"
def TX11 : u_T := fun k => match k with
  | 0 => ("SymmetryHouse", "tape", "[I", true)
  | 1 => ("SymmetryHouse", "fed", "[I", true)
  | 2 => ("SymmetryHouse", "line", "[I", true)
  | 3 => ("SymmetryHouse", "marks", "[I", true)
  | 4 => ("SymmetryHouse", "slots", "[LSymmetryHouse$Group;", true)
  | 5 => ("SymmetryHouse", "generators", "LSymmetryHouse$Generators;", true)
  | 6 => ("SymmetryHouse", "triples", "LSymmetryHouse$TripleReader;", true)
  | 7 => ("SymmetryHouse", "symbols", "LSymmetryHouse$SymbolReader;", true)
  | 8 => ("SymmetryHouse", "draft", "LSymmetryHouse$Draft;", true)
  | 9 => ("SymmetryHouse", "nature", "LSymmetryHouse$Nature;", true)
  | 10 => ("SymmetryHouse", "frame", "LSymmetryHouse$Basis;", true)
  | 11 => ("SymmetryHouse", "form", "LSymmetryHouse$Metric;", true)
  | 12 => ("SymmetryHouse", "points", "LSymmetryHouse$Points;", true)
  | 13 => ("SymmetryHouse", "tapeLength", "I", false)
  | 14 => ("SymmetryHouse", "lineLength", "I", false)
  | 15 => ("SymmetryHouse", "hasRead", "Z", false)
  | _ => ("SymmetryHouse", "readMatrices", "I", false)
def tyX11 : Nat → FieldType := fun k => match k with
  | 0 => .array .int
  | 1 => .array .int
  | 2 => .array .int
  | 3 => .array .int
  | 4 => .array (.object "SymmetryHouse$Group")
  | 5 => .object "SymmetryHouse$Generators"
  | 6 => .object "SymmetryHouse$TripleReader"
  | 7 => .object "SymmetryHouse$SymbolReader"
  | 8 => .object "SymmetryHouse$Draft"
  | 9 => .object "SymmetryHouse$Nature"
  | 10 => .object "SymmetryHouse$Basis"
  | 11 => .object "SymmetryHouse$Metric"
  | 12 => .object "SymmetryHouse$Points"
  | 13 => .int
  | 14 => .int
  | 15 => .boolean
  | _ => .int
abbrev wsX110 : List Cond := u_ws RX11 TX11 17
theorem nmX11 : ∀ a, a < 17 → ∀ b, b < 17 → a ≠ b → (TX11 a).2.1 ≠ (TX11 b).2.1 := by decide +kernel
theorem tyX11_ok : ∀ k, k < 17 → parseFieldDescriptor (TX11 k).2.2.1 = some (tyX11 k) := by decide +kernel
abbrev cX11_init : ByteArray := prog_1_method_1_code
def yX11_init : MethodName := ⟨RX11, "<init>", "()V"⟩
abbrev cX11_feed : ByteArray := prog_1_method_2_code
def yX11_feed : MethodName := ⟨RX11, "feed", "(IIIII)I"⟩
abbrev cX11_read : ByteArray := prog_1_method_3_code
def yX11_read : MethodName := ⟨RX11, "read", "(IIZ)I"⟩
abbrev cX11_fault : ByteArray := prog_1_method_4_code
def yX11_fault : MethodName := ⟨RX11, "fault", "(I)I"⟩
abbrev cX11_text : ByteArray := prog_1_method_5_code
def yX11_text : MethodName := ⟨RX11, "text", "(II)I"⟩
abbrev cX11_out : ByteArray := prog_1_method_6_code
def yX11_out : MethodName := ⟨RX11, "out", "(I)I"⟩
abbrev cX11_group : ByteArray := prog_1_method_7_code
def yX11_group : MethodName := ⟨RX11, "group", "(II)I"⟩
abbrev cX11_operator : ByteArray := prog_1_method_8_code
def yX11_operator : MethodName := ⟨RX11, "operator", "(III)I"⟩
abbrev cX11_product : ByteArray := prog_1_method_9_code
def yX11_product : MethodName := ⟨RX11, "product", "(III)I"⟩
abbrev cX11_find : ByteArray := prog_1_method_10_code
def yX11_find : MethodName := ⟨RX11, "find", "(III)I"⟩
abbrev cX11_compare : ByteArray := prog_1_method_11_code
def yX11_compare : MethodName := ⟨RX11, "compare", "(II)I"⟩
abbrev cX11_common : ByteArray := prog_1_method_12_code
def yX11_common : MethodName := ⟨RX11, "common", "(III)I"⟩
abbrev cX11_cosets : ByteArray := prog_1_method_13_code
def yX11_cosets : MethodName := ⟨RX11, "cosets", "(II)I"⟩
abbrev cX11_coset : ByteArray := prog_1_method_14_code
def yX11_coset : MethodName := ⟨RX11, "coset", "(III)I"⟩
abbrev cX11_normal : ByteArray := prog_1_method_15_code
def yX11_normal : MethodName := ⟨RX11, "normal", "(II)I"⟩
abbrev cX11_part : ByteArray := prog_1_method_16_code
def yX11_part : MethodName := ⟨RX11, "part", "(IIII)I"⟩
abbrev cX11_basis : ByteArray := prog_1_method_17_code
def yX11_basis : MethodName := ⟨RX11, "basis", "(II)Z"⟩
abbrev cX11_turn : ByteArray := prog_1_method_18_code
def yX11_turn : MethodName := ⟨RX11, "turn", "(IIZ)I"⟩
abbrev cX11_metric : ByteArray := prog_1_method_19_code
def yX11_metric : MethodName := ⟨RX11, "metric", "(IIIIIII)I"⟩
abbrev cX11_mean : ByteArray := prog_1_method_20_code
def yX11_mean : MethodName := ⟨RX11, "mean", "(I)J"⟩
abbrev cX11_orbit : ByteArray := prog_1_method_21_code
def yX11_orbit : MethodName := ⟨RX11, "orbit", "(IIIII)I"⟩
abbrev cX11_place : ByteArray := prog_1_method_22_code
def yX11_place : MethodName := ⟨RX11, "place", "(II)I"⟩
abbrev cX11_site : ByteArray := prog_1_method_23_code
def yX11_site : MethodName := ⟨RX11, "site", "(I)I"⟩
abbrev cX11_stays : ByteArray := prog_1_method_24_code
def yX11_stays : MethodName := ⟨RX11, "stays", "(I)I"⟩
abbrev cX11_reflection : ByteArray := prog_1_method_25_code
def yX11_reflection : MethodName := ⟨RX11, "reflection", "(IIIII)I"⟩
abbrev cX11_absent : ByteArray := prog_1_method_26_code
def yX11_absent : MethodName := ⟨RX11, "absent", "(II)I"⟩
abbrev cX11_isSlot : ByteArray := prog_1_method_27_code
def yX11_isSlot : MethodName := ⟨RX11, "isSlot", "(I)Z"⟩
abbrev cX11_within : ByteArray := prog_1_method_28_code
def yX11_within : MethodName := ⟨RX11, "within", "(II)Z"⟩
abbrev cX11_groupAt : ByteArray := prog_1_method_29_code
def yX11_groupAt : MethodName := ⟨RX11, "groupAt", "(I)LSymmetryHouse$Group;"⟩
abbrev cX11_systemOf : ByteArray := prog_1_method_30_code
def yX11_systemOf : MethodName := ⟨RX11, "systemOf", "(I)I"⟩
abbrev cX11_fixingOperators : ByteArray := prog_1_method_31_code
def yX11_fixingOperators : MethodName := ⟨RX11, "fixingOperators", "(LSymmetryHouse$Group;)I"⟩
abbrev cX11_natureNumber : ByteArray := prog_1_method_32_code
def yX11_natureNumber : MethodName := ⟨RX11, "natureNumber", "(I)I"⟩
abbrev cX11_countCosets : ByteArray := prog_1_method_33_code
def yX11_countCosets : MethodName := ⟨RX11, "countCosets", "(LSymmetryHouse$Group;LSymmetryHouse$Group;)I"⟩
abbrev cX11_write : ByteArray := prog_1_method_34_code
def yX11_write : MethodName := ⟨RX11, "write", "(I)V"⟩
abbrev cX11_writeNumber : ByteArray := prog_1_method_35_code
def yX11_writeNumber : MethodName := ⟨RX11, "writeNumber", "(I)V"⟩
abbrev cX11_writeRow : ByteArray := prog_1_method_36_code
def yX11_writeRow : MethodName := ⟨RX11, "writeRow", "([II)V"⟩
abbrev cX11_writeFraction : ByteArray := prog_1_method_37_code
def yX11_writeFraction : MethodName := ⟨RX11, "writeFraction", "(I)V"⟩
def RX12 : String := "SymmetryHouseModel"
def TX12 : u_T := fun k => match k with
  | 0 => ("SymmetryHouseModel", "tape", "[B", true)
  | 1 => ("SymmetryHouseModel", "text", "[B", true)
  | 2 => ("SymmetryHouseModel", "taped", "I", false)
  | 3 => ("SymmetryHouseModel", "size", "I", false)
  | 4 => ("SymmetryHouseModel", "out", "[B", true)
  | 5 => ("SymmetryHouseModel", "written", "I", false)
  | 6 => ("SymmetryHouseModel", "faultNumber", "I", false)
  | 7 => ("SymmetryHouseModel", "faultPlace", "I", false)
  | 8 => ("SymmetryHouseModel", "faultGenerators", "I", false)
  | 9 => ("SymmetryHouseModel", "faultMatrices", "I", false)
  | 10 => ("SymmetryHouseModel", "gen", "[I", true)
  | 11 => ("SymmetryHouseModel", "gens", "I", false)
  | 12 => ("SymmetryHouseModel", "grown", "[I", true)
  | 13 => ("SymmetryHouseModel", "one", "[I", true)
  | 14 => ("SymmetryHouseModel", "two", "[I", true)
  | 15 => ("SymmetryHouseModel", "got", "[I", true)
  | 16 => ("SymmetryHouseModel", "many", "I", false)
  | 17 => ("SymmetryHouseModel", "op", "[I", true)
  | 18 => ("SymmetryHouseModel", "count", "[I", true)
  | 19 => ("SymmetryHouseModel", "has", "[Z", true)
  | 20 => ("SymmetryHouseModel", "axis", "[I", true)
  | 21 => ("SymmetryHouseModel", "row", "[I", true)
  | 22 => ("SymmetryHouseModel", "row2", "[I", true)
  | 23 => ("SymmetryHouseModel", "types", "[I", true)
  | 24 => ("SymmetryHouseModel", "thrown", "I", false)
  | 25 => ("SymmetryHouseModel", "tokenAt", "I", false)
  | 26 => ("SymmetryHouseModel", "tokenEnd", "I", false)
  | 27 => ("SymmetryHouseModel", "token", "I", false)
  | 28 => ("SymmetryHouseModel", "tokenValue", "I", false)
  | 29 => ("SymmetryHouseModel", "p", "I", false)
  | 30 => ("SymmetryHouseModel", "aheadNumber", "I", false)
  | 31 => ("SymmetryHouseModel", "aheadAxis", "I", false)
  | 32 => ("SymmetryHouseModel", "rotations", "I", false)
  | 33 => ("SymmetryHouseModel", "firstGenerator", "I", false)
  | 34 => ("SymmetryHouseModel", "classes", "[J", true)
  | 35 => ("SymmetryHouseModel", "seen", "[Z", true)
  | 36 => ("SymmetryHouseModel", "chosen", "[Z", true)
  | 37 => ("SymmetryHouseModel", "inverse", "[I", true)
  | 38 => ("SymmetryHouseModel", "base", "[I", true)
  | 39 => ("SymmetryHouseModel", "back", "[I", true)
  | 40 => ("SymmetryHouseModel", "wide", "[J", true)
  | 41 => ("SymmetryHouseModel", "wide2", "[J", true)
  | 42 => ("SymmetryHouseModel", "shift", "[J", true)
  | 43 => ("SymmetryHouseModel", "mean", "[J", true)
  | 44 => ("SymmetryHouseModel", "form", "[J", true)
  | 45 => ("SymmetryHouseModel", "turned", "[J", true)
  | 46 => ("SymmetryHouseModel", "places", "[I", true)
  | 47 => ("SymmetryHouseModel", "stay", "[I", true)
  | 48 => ("SymmetryHouseModel", "point", "[I", true)
  | 49 => ("SymmetryHouseModel", "moved", "[I", true)
  | 50 => ("SymmetryHouseModel", "placeMany", "I", false)
  | 51 => ("SymmetryHouseModel", "stayMany", "I", false)
  | 52 => ("SymmetryHouseModel", "siteClass", "I", false)
  | 53 => ("SymmetryHouseModel", "siteFree", "I", false)
  | 54 => ("SymmetryHouseModel", "siteOwn", "I", false)
  | 55 => ("SymmetryHouseModel", "siteParts", "I", false)
  | 56 => ("SymmetryHouseModel", "hasOrbit", "Z", false)
  | 57 => ("SymmetryHouseModel", "led", "[I", true)
  | 58 => ("SymmetryHouseModel", "alike", "[I", true)
  | _ => ("SymmetryHouseModel", "alikeMany", "I", false)
def tyX12 : Nat → FieldType := fun k => match k with
  | 0 => .array .byte
  | 1 => .array .byte
  | 2 => .int
  | 3 => .int
  | 4 => .array .byte
  | 5 => .int
  | 6 => .int
  | 7 => .int
  | 8 => .int
  | 9 => .int
  | 10 => .array .int
  | 11 => .int
  | 12 => .array .int
  | 13 => .array .int
  | 14 => .array .int
  | 15 => .array .int
  | 16 => .int
  | 17 => .array .int
  | 18 => .array .int
  | 19 => .array .boolean
  | 20 => .array .int
  | 21 => .array .int
  | 22 => .array .int
  | 23 => .array .int
  | 24 => .int
  | 25 => .int
  | 26 => .int
  | 27 => .int
  | 28 => .int
  | 29 => .int
  | 30 => .int
  | 31 => .int
  | 32 => .int
  | 33 => .int
  | 34 => .array .long
  | 35 => .array .boolean
  | 36 => .array .boolean
  | 37 => .array .int
  | 38 => .array .int
  | 39 => .array .int
  | 40 => .array .long
  | 41 => .array .long
  | 42 => .array .long
  | 43 => .array .long
  | 44 => .array .long
  | 45 => .array .long
  | 46 => .array .int
  | 47 => .array .int
  | 48 => .array .int
  | 49 => .array .int
  | 50 => .int
  | 51 => .int
  | 52 => .int
  | 53 => .int
  | 54 => .int
  | 55 => .int
  | 56 => .boolean
  | 57 => .array .int
  | 58 => .array .int
  | _ => .int
abbrev wsX120 : List Cond := u_ws RX12 TX12 60
theorem nmX12 : ∀ a, a < 60 → ∀ b, b < 60 → a ≠ b → (TX12 a).2.1 ≠ (TX12 b).2.1 := by decide +kernel
theorem tyX12_ok : ∀ k, k < 60 → parseFieldDescriptor (TX12 k).2.2.1 = some (tyX12 k) := by decide +kernel
abbrev cX12_init : ByteArray := prog_14_method_1_code
def yX12_init : MethodName := ⟨RX12, "<init>", "()V"⟩
abbrev cX12_thrown : ByteArray := prog_14_method_2_code
def yX12_thrown : MethodName := ⟨RX12, "thrown", "()I"⟩
abbrev cX12_round : ByteArray := prog_14_method_3_code
def yX12_round : MethodName := ⟨RX12, "round", "(II)I"⟩
abbrev cX12_roundLong : ByteArray := prog_14_method_4_code
def yX12_roundLong : MethodName := ⟨RX12, "roundLong", "(J)J"⟩
abbrev cX12_isIn : ByteArray := prog_14_method_5_code
def yX12_isIn : MethodName := ⟨RX12, "isIn", "(III)Z"⟩
abbrev cX12_feed : ByteArray := prog_14_method_6_code
def yX12_feed : MethodName := ⟨RX12, "feed", "(IIIII)I"⟩
abbrev cX12_feedOne : ByteArray := prog_14_method_7_code
def yX12_feedOne : MethodName := ⟨RX12, "feedOne", "(I)V"⟩
abbrev cX12_byteAt : ByteArray := prog_14_method_8_code
def yX12_byteAt : MethodName := ⟨RX12, "byteAt", "(I)I"⟩
abbrev cX12_read : ByteArray := prog_14_method_9_code
def yX12_read : MethodName := ⟨RX12, "read", "(IIZ)I"⟩
abbrev cX12_bad : ByteArray := prog_14_method_10_code
def yX12_bad : MethodName := ⟨RX12, "bad", "()Z"⟩
abbrev cX12_wrong : ByteArray := prog_14_method_11_code
def yX12_wrong : MethodName := ⟨RX12, "wrong", "(II)V"⟩
abbrev cX12_fault : ByteArray := prog_14_method_12_code
def yX12_fault : MethodName := ⟨RX12, "fault", "(I)I"⟩
abbrev cX12_isDigit : ByteArray := prog_14_method_13_code
def yX12_isDigit : MethodName := ⟨RX12, "isDigit", "(I)Z"⟩
abbrev cX12_nextToken : ByteArray := prog_14_method_14_code
def yX12_nextToken : MethodName := ⟨RX12, "nextToken", "()V"⟩
abbrev cX12_isTerm : ByteArray := prog_14_method_15_code
def yX12_isTerm : MethodName := ⟨RX12, "isTerm", "()Z"⟩
abbrev cX12_readTriples : ByteArray := prog_14_method_16_code
def yX12_readTriples : MethodName := ⟨RX12, "readTriples", "()V"⟩
abbrev cX12_readTriple : ByteArray := prog_14_method_17_code
def yX12_readTriple : MethodName := ⟨RX12, "readTriple", "()V"⟩
abbrev cX12_generator : ByteArray := prog_14_method_18_code
def yX12_generator : MethodName := ⟨RX12, "generator", "()V"⟩
abbrev cX12_readSum : ByteArray := prog_14_method_19_code
def yX12_readSum : MethodName := ⟨RX12, "readSum", "(I)V"⟩
abbrev cX12_determinant : ByteArray := prog_14_method_20_code
def yX12_determinant : MethodName := ⟨RX12, "determinant", "([II)I"⟩
abbrev cX12_skip : ByteArray := prog_14_method_21_code
def yX12_skip : MethodName := ⟨RX12, "skip", "()V"⟩
abbrev cX12_isRotation : ByteArray := prog_14_method_22_code
def yX12_isRotation : MethodName := ⟨RX12, "isRotation", "(I)Z"⟩
abbrev cX12_readSymbol : ByteArray := prog_14_method_23_code
def yX12_readSymbol : MethodName := ⟨RX12, "readSymbol", "()V"⟩
abbrev cX12_move : ByteArray := prog_14_method_24_code
def yX12_move : MethodName := ⟨RX12, "move", "(III)V"⟩
abbrev cX12_centre : ByteArray := prog_14_method_25_code
def yX12_centre : MethodName := ⟨RX12, "centre", "(I)V"⟩
abbrev cX12_set : ByteArray := prog_14_method_26_code
def yX12_set : MethodName := ⟨RX12, "set", "(IIIIIIIII)V"⟩
abbrev cX12_turnAlong : ByteArray := prog_14_method_27_code
def yX12_turnAlong : MethodName := ⟨RX12, "turnAlong", "(I)V"⟩
abbrev cX12_readRotation : ByteArray := prog_14_method_28_code
def yX12_readRotation : MethodName := ⟨RX12, "readRotation", "()V"⟩
abbrev cX12_usual : ByteArray := prog_14_method_29_code
def yX12_usual : MethodName := ⟨RX12, "usual", "(I)I"⟩
abbrev cX12_readMoves : ByteArray := prog_14_method_30_code
def yX12_readMoves : MethodName := ⟨RX12, "readMoves", "(II)V"⟩
abbrev cX12_readShift : ByteArray := prog_14_method_31_code
def yX12_readShift : MethodName := ⟨RX12, "readShift", "()V"⟩
abbrev cX12_after : ByteArray := prog_14_method_32_code
def yX12_after : MethodName := ⟨RX12, "after", "([II[II)V"⟩
abbrev cX12_hasGot : ByteArray := prog_14_method_33_code
def yX12_hasGot : MethodName := ⟨RX12, "hasGot", "(I)Z"⟩
abbrev cX12_putGot : ByteArray := prog_14_method_34_code
def yX12_putGot : MethodName := ⟨RX12, "putGot", "()V"⟩
abbrev cX12_identity : ByteArray := prog_14_method_35_code
def yX12_identity : MethodName := ⟨RX12, "identity", "()V"⟩
abbrev cX12_growMatrices : ByteArray := prog_14_method_36_code
def yX12_growMatrices : MethodName := ⟨RX12, "growMatrices", "()V"⟩
abbrev cX12_growOperators : ByteArray := prog_14_method_37_code
def yX12_growOperators : MethodName := ⟨RX12, "growOperators", "()Z"⟩
abbrev cX12_isAhead : ByteArray := prog_14_method_38_code
def yX12_isAhead : MethodName := ⟨RX12, "isAhead", "(II)Z"⟩
abbrev cX12_exchange : ByteArray := prog_14_method_39_code
def yX12_exchange : MethodName := ⟨RX12, "exchange", "(II)V"⟩
abbrev cX12_order : ByteArray := prog_14_method_40_code
def yX12_order : MethodName := ⟨RX12, "order", "()V"⟩
abbrev cX12_keep : ByteArray := prog_14_method_41_code
def yX12_keep : MethodName := ⟨RX12, "keep", "(I)V"⟩
abbrev cX12_isGroup : ByteArray := prog_14_method_42_code
def yX12_isGroup : MethodName := ⟨RX12, "isGroup", "(I)Z"⟩
abbrev cX12_isOperator : ByteArray := prog_14_method_43_code
def yX12_isOperator : MethodName := ⟨RX12, "isOperator", "(II)Z"⟩
abbrev cX12_placeOf : ByteArray := prog_14_method_44_code
def yX12_placeOf : MethodName := ⟨RX12, "placeOf", "(II)I"⟩
abbrev cX12_numberOf : ByteArray := prog_14_method_45_code
def yX12_numberOf : MethodName := ⟨RX12, "numberOf", "(I)I"⟩
abbrev cX12_productOf : ByteArray := prog_14_method_46_code
def yX12_productOf : MethodName := ⟨RX12, "productOf", "(III)I"⟩
abbrev cX12_product : ByteArray := prog_14_method_47_code
def yX12_product : MethodName := ⟨RX12, "product", "(III)I"⟩
abbrev cX12_inverseOf : ByteArray := prog_14_method_48_code
def yX12_inverseOf : MethodName := ⟨RX12, "inverseOf", "(II)I"⟩
abbrev cX12_identityOf : ByteArray := prog_14_method_49_code
def yX12_identityOf : MethodName := ⟨RX12, "identityOf", "(I)I"⟩
abbrev cX12_typeAt : ByteArray := prog_14_method_50_code
def yX12_typeAt : MethodName := ⟨RX12, "typeAt", "(I)I"⟩
abbrev cX12_isFirstMatrix : ByteArray := prog_14_method_51_code
def yX12_isFirstMatrix : MethodName := ⟨RX12, "isFirstMatrix", "(II)Z"⟩
abbrev cX12_turnsAt : ByteArray := prog_14_method_52_code
def yX12_turnsAt : MethodName := ⟨RX12, "turnsAt", "(I)I"⟩
abbrev cX12_isPlain : ByteArray := prog_14_method_53_code
def yX12_isPlain : MethodName := ⟨RX12, "isPlain", "()Z"⟩
abbrev cX12_orderAt : ByteArray := prog_14_method_54_code
def yX12_orderAt : MethodName := ⟨RX12, "orderAt", "(I)I"⟩
abbrev cX12_divisor : ByteArray := prog_14_method_55_code
def yX12_divisor : MethodName := ⟨RX12, "divisor", "(II)I"⟩
abbrev cX12_axisAt : ByteArray := prog_14_method_56_code
def yX12_axisAt : MethodName := ⟨RX12, "axisAt", "(I)V"⟩
abbrev cX12_senseAt : ByteArray := prog_14_method_57_code
def yX12_senseAt : MethodName := ⟨RX12, "senseAt", "(I)I"⟩
abbrev cX12_pitchAt : ByteArray := prog_14_method_58_code
def yX12_pitchAt : MethodName := ⟨RX12, "pitchAt", "(I)V"⟩
abbrev cX12_areExchanged : ByteArray := prog_14_method_59_code
def yX12_areExchanged : MethodName := ⟨RX12, "areExchanged", "(III)Z"⟩
abbrev cX12_exchangedWith : ByteArray := prog_14_method_60_code
def yX12_exchangedWith : MethodName := ⟨RX12, "exchangedWith", "(II)I"⟩
abbrev cX12_operator : ByteArray := prog_14_method_61_code
def yX12_operator : MethodName := ⟨RX12, "operator", "(III)I"⟩
abbrev cX12_countType : ByteArray := prog_14_method_62_code
def yX12_countType : MethodName := ⟨RX12, "countType", "(I)V"⟩
abbrev cX12_noTypes : ByteArray := prog_14_method_63_code
def yX12_noTypes : MethodName := ⟨RX12, "noTypes", "()V"⟩
abbrev cX12_classOf : ByteArray := prog_14_method_64_code
def yX12_classOf : MethodName := ⟨RX12, "classOf", "()I"⟩
abbrev cX12_systemOf : ByteArray := prog_14_method_65_code
def yX12_systemOf : MethodName := ⟨RX12, "systemOf", "(I)I"⟩
abbrev cX12_classOfGroup : ByteArray := prog_14_method_66_code
def yX12_classOfGroup : MethodName := ⟨RX12, "classOfGroup", "(I)I"⟩
abbrev cX12_group : ByteArray := prog_14_method_67_code
def yX12_group : MethodName := ⟨RX12, "group", "(II)I"⟩
abbrev cX12_classesOf : ByteArray := prog_14_method_68_code
def yX12_classesOf : MethodName := ⟨RX12, "classesOf", "(I)I"⟩
abbrev cX12_numberIn : ByteArray := prog_14_method_69_code
def yX12_numberIn : MethodName := ⟨RX12, "numberIn", "(III)I"⟩
abbrev cX12_find : ByteArray := prog_14_method_70_code
def yX12_find : MethodName := ⟨RX12, "find", "(III)I"⟩
abbrev cX12_hasAll : ByteArray := prog_14_method_71_code
def yX12_hasAll : MethodName := ⟨RX12, "hasAll", "(II)Z"⟩
abbrev cX12_compare : ByteArray := prog_14_method_72_code
def yX12_compare : MethodName := ⟨RX12, "compare", "(II)I"⟩
abbrev cX12_common : ByteArray := prog_14_method_73_code
def yX12_common : MethodName := ⟨RX12, "common", "(III)I"⟩
abbrev cX12_commonTo : ByteArray := prog_14_method_74_code
def yX12_commonTo : MethodName := ⟨RX12, "commonTo", "(III)I"⟩
abbrev cX12_missing : ByteArray := prog_14_method_75_code
def yX12_missing : MethodName := ⟨RX12, "missing", "(II)I"⟩
abbrev cX12_cosets : ByteArray := prog_14_method_76_code
def yX12_cosets : MethodName := ⟨RX12, "cosets", "(II)I"⟩
abbrev cX12_mixed : ByteArray := prog_14_method_77_code
def yX12_mixed : MethodName := ⟨RX12, "mixed", "(IIII)I"⟩
abbrev cX12_coset : ByteArray := prog_14_method_78_code
def yX12_coset : MethodName := ⟨RX12, "coset", "(III)I"⟩
abbrev cX12_normal : ByteArray := prog_14_method_79_code
def yX12_normal : MethodName := ⟨RX12, "normal", "(II)I"⟩
abbrev cX12_isType : ByteArray := prog_14_method_80_code
def yX12_isType : MethodName := ⟨RX12, "isType", "(I)Z"⟩
abbrev cX12_part : ByteArray := prog_14_method_81_code
def yX12_part : MethodName := ⟨RX12, "part", "(IIII)I"⟩
abbrev cX12_basis : ByteArray := prog_14_method_82_code
def yX12_basis : MethodName := ⟨RX12, "basis", "(II)Z"⟩
abbrev cX12_turnBasis : ByteArray := prog_14_method_83_code
def yX12_turnBasis : MethodName := ⟨RX12, "turnBasis", "(I)V"⟩
abbrev cX12_times : ByteArray := prog_14_method_84_code
def yX12_times : MethodName := ⟨RX12, "times", "([IIJJJ)J"⟩
abbrev cX12_between : ByteArray := prog_14_method_85_code
def yX12_between : MethodName := ⟨RX12, "between", "([II[I)V"⟩
abbrev cX12_turn : ByteArray := prog_14_method_86_code
def yX12_turn : MethodName := ⟨RX12, "turn", "(IIZ)I"⟩
abbrev cX12_isMetric : ByteArray := prog_14_method_87_code
def yX12_isMetric : MethodName := ⟨RX12, "isMetric", "(I)Z"⟩
abbrev cX12_metric : ByteArray := prog_14_method_88_code
def yX12_metric : MethodName := ⟨RX12, "metric", "(IIIIIII)I"⟩
abbrev cX12_mean : ByteArray := prog_14_method_89_code
def yX12_mean : MethodName := ⟨RX12, "mean", "(I)J"⟩
abbrev cX12_orbit : ByteArray := prog_14_method_90_code
def yX12_orbit : MethodName := ⟨RX12, "orbit", "(IIIII)I"⟩
abbrev cX12_compareTo : ByteArray := prog_14_method_91_code
def yX12_compareTo : MethodName := ⟨RX12, "compareTo", "(I[I)I"⟩
abbrev cX12_putPlace : ByteArray := prog_14_method_92_code
def yX12_putPlace : MethodName := ⟨RX12, "putPlace", "()V"⟩
abbrev cX12_place : ByteArray := prog_14_method_93_code
def yX12_place : MethodName := ⟨RX12, "place", "(II)I"⟩
abbrev cX12_site : ByteArray := prog_14_method_94_code
def yX12_site : MethodName := ⟨RX12, "site", "(I)I"⟩
abbrev cX12_stays : ByteArray := prog_14_method_95_code
def yX12_stays : MethodName := ⟨RX12, "stays", "(I)I"⟩
abbrev cX12_isReflection : ByteArray := prog_14_method_96_code
def yX12_isReflection : MethodName := ⟨RX12, "isReflection", "(I)Z"⟩
abbrev cX12_lead : ByteArray := prog_14_method_97_code
def yX12_lead : MethodName := ⟨RX12, "lead", "(IIII)V"⟩
abbrev cX12_isLed : ByteArray := prog_14_method_98_code
def yX12_isLed : MethodName := ⟨RX12, "isLed", "(IIII)Z"⟩
abbrev cX12_phase : ByteArray := prog_14_method_99_code
def yX12_phase : MethodName := ⟨RX12, "phase", "(IIIII)I"⟩
abbrev cX12_isAbsent : ByteArray := prog_14_method_100_code
def yX12_isAbsent : MethodName := ⟨RX12, "isAbsent", "(IIII)Z"⟩
abbrev cX12_putAlike : ByteArray := prog_14_method_101_code
def yX12_putAlike : MethodName := ⟨RX12, "putAlike", "(III)V"⟩
abbrev cX12_reflection : ByteArray := prog_14_method_102_code
def yX12_reflection : MethodName := ⟨RX12, "reflection", "(IIIII)I"⟩
abbrev cX12_absent : ByteArray := prog_14_method_103_code
def yX12_absent : MethodName := ⟨RX12, "absent", "(II)I"⟩
abbrev cX12_add : ByteArray := prog_14_method_104_code
def yX12_add : MethodName := ⟨RX12, "add", "(I)V"⟩
abbrev cX12_addNumber : ByteArray := prog_14_method_105_code
def yX12_addNumber : MethodName := ⟨RX12, "addNumber", "(I)V"⟩
abbrev cX12_text : ByteArray := prog_14_method_106_code
def yX12_text : MethodName := ⟨RX12, "text", "(II)I"⟩
abbrev cX12_out : ByteArray := prog_14_method_107_code
def yX12_out : MethodName := ⟨RX12, "out", "(I)I"⟩
def RJ9 : String := "java/lang/Math"
def TJ9 : u_T := fun k => match k with
  | _ => ("", "", "", false)
def tyJ9 : Nat → FieldType := fun k => match k with
  | _ => .int
abbrev wsJ90 : List Cond := u_ws RJ9 TJ9 0
theorem nmJ9 : ∀ a, a < 0 → ∀ b, b < 0 → a ≠ b → (TJ9 a).2.1 ≠ (TJ9 b).2.1 := by decide +kernel
theorem tyJ9_ok : ∀ k, k < 0 → parseFieldDescriptor (TJ9 k).2.2.1 = some (tyJ9 k) := by decide +kernel
abbrev cJ9_floorMod_7cf53 : ByteArray := prog_16_method_50_code
def yJ9_floorMod_7cf53 : MethodName := ⟨RJ9, "floorMod", "(II)I"⟩
abbrev cJ9_max_7cf53 : ByteArray := prog_16_method_65_code
def yJ9_max_7cf53 : MethodName := ⟨RJ9, "max", "(II)I"⟩
abbrev cJ9_min_7cf53 : ByteArray := prog_16_method_69_code
def yJ9_min_7cf53 : MethodName := ⟨RJ9, "min", "(II)I"⟩
def RJ0 : String := "java/lang/String"
def TJ0 : u_T := fun k => match k with
  | _ => ("", "", "", false)
def tyJ0 : Nat → FieldType := fun k => match k with
  | _ => .int
abbrev wsJ00 : List Cond := u_ws RJ0 TJ0 0
theorem nmJ0 : ∀ a, a < 0 → ∀ b, b < 0 → a ≠ b → (TJ0 a).2.1 ≠ (TJ0 b).2.1 := by decide +kernel
theorem tyJ0_ok : ∀ k, k < 0 → parseFieldDescriptor (TJ0 k).2.2.1 = some (tyJ0 k) := by decide +kernel
def RJ10 : String := "java/lang/System"
def TJ10 : u_T := fun k => match k with
  | _ => ("", "", "", false)
def tyJ10 : Nat → FieldType := fun k => match k with
  | _ => .int
abbrev wsJ100 : List Cond := u_ws RJ10 TJ10 0
theorem nmJ10 : ∀ a, a < 0 → ∀ b, b < 0 → a ≠ b → (TJ10 a).2.1 ≠ (TJ10 b).2.1 := by decide +kernel
theorem tyJ10_ok : ∀ k, k < 0 → parseFieldDescriptor (TJ10 k).2.2.1 = some (tyJ10 k) := by decide +kernel
def RL : String := "SymmetryHouseLaw"
abbrev cL_out : ByteArray := method_3_code
def yL_out : MethodName := ⟨RL, "out", "(LSymmetryHouse;I[J)I"⟩
abbrev cL_law : ByteArray := code
def yL_law : MethodName := ⟨RL, "law", "([I)Z"⟩
abbrev vwCl : List vw_C := [(RX1, TX1, 3), (RX2, TX2, 9), (RX3, TX3, 5), (RX4, TX4, 9), (RX5, TX5, 3), (RX6, TX6, 8), (RX7, TX7, 8), (RX9, TX9, 11), (RX10, TX10, 7), (RX11, TX11, 17), (RX12, TX12, 60)]
end
section
/-! ABSTRACT RUNS, the pure side: an int is known by its bounds (and perhaps as a named number plus a constant), a reference by its place, an array of numbers by its length and the bounds of all it holds. -/
section AXP
abbrev ax_I : Type := Int × Int
abbrev ax_N : Type := (Int × Int) × Option (Nat × Int)
/-- an int, a long, a reference (none: null; 0: the script; k + 1: place k of the world) -/
abbrev ax_V : Type := ax_N ⊕ (ax_I ⊕ Option Nat)
/-- where a value on the stack was read: a local, a field of a place, a fixed number of the run -/
abbrev ax_O : Type := Option (Nat ⊕ ((Nat × Nat) ⊕ Nat))
abbrev ax_L : Type := List (Nat × (ax_V × Option Nat))
abbrev ax_K : Type := List (ax_V × ax_O)
abbrev ax_C : Type := (Nat × List ax_V) ⊕ ((FieldType × Nat) × (ax_I ⊕ (ax_I ⊕ List (Option Nat))))
abbrev ax_S : Type := Nat × (ax_L × (ax_K × (List ax_C × (List ax_V × (Nat × Nat)))))
abbrev ax_R : Type := Option ax_V × (List ax_V × List ax_C)

def ax_all2 {α β : Type} (R : α → β → Prop) : List α → List β → Prop
  | [], [] => True
  | a :: l, b :: k => R a b ∧ ax_all2 R l k
  | _, _ => False
theorem ax_all2_len {α β : Type} {R : α → β → Prop} : ∀ {l : List α} {k : List β}, ax_all2 R l k → l.length = k.length
  | [], [], _ => rfl
  | _ :: _, _ :: _, h => by simp [ax_all2_len h.2]
  | [], _ :: _, h => h.elim
  | _ :: _, [], h => h.elim
theorem ax_all2_get {α β : Type} {R : α → β → Prop} : ∀ {l : List α} {k : List β} {i : Nat} {a : α}, ax_all2 R l k → l[i]? = some a → ∃ b, k[i]? = some b ∧ R a b
  | a :: l, b :: k, 0, x, h, e => ⟨b, rfl, by simp at e; subst e; exact h.1⟩
  | a :: l, b :: k, i + 1, x, h, e => by
    obtain ⟨y, h1, h2⟩ := ax_all2_get (i := i) (a := x) h.2 (by simpa using e)
    exact ⟨y, by simpa using h1, h2⟩
  | [], [], _, _, _, e => by simp at e
  | [], _ :: _, _, _, h, _ => h.elim
  | _ :: _, [], _, _, h, _ => h.elim
theorem ax_all2_set {α β : Type} {R : α → β → Prop} : ∀ {l : List α} {k : List β} {i : Nat} {a : α} {b : β}, ax_all2 R l k → R a b → ax_all2 R (l.set i a) (k.set i b)
  | _ :: _, _ :: _, 0, _, _, h, r => ⟨r, h.2⟩
  | _ :: _, _ :: _, i + 1, _, _, h, r => ⟨h.1, ax_all2_set (i := i) h.2 r⟩
  | [], [], _, _, _, _, _ => trivial
  | [], _ :: _, _, _, _, h, _ => h.elim
  | _ :: _, [], _, _, _, h, _ => h.elim
theorem ax_all2_setL {α β : Type} {R : α → β → Prop} {l : List α} {k : List β} {i : Nat} {a : α} {b : β} (h : ax_all2 R l k) (e : k[i]? = some b) (r : R a b) : ax_all2 R (l.set i a) k := by
  have h1 := ax_all2_set (i := i) h r
  rwa [show k.set i b = k from by
    apply List.ext_getElem?
    intro j
    by_cases hj : i = j
    · subst hj
      rw [List.getElem?_set_self' , e]
      rfl
    · rw [List.getElem?_set_ne hj]] at h1
theorem ax_all2_app {α β : Type} {R : α → β → Prop} : ∀ {l l2 : List α} {k k2 : List β}, ax_all2 R l k → ax_all2 R l2 k2 → ax_all2 R (l ++ l2) (k ++ k2)
  | [], _, [], _, _, h => h
  | _ :: _, _, _ :: _, _, h, h2 => ⟨h.1, ax_all2_app h.2 h2⟩
  | [], _, _ :: _, _, h, _ => h.elim
  | _ :: _, _, [], _, h, _ => h.elim
theorem ax_all2_mono {α β : Type} {R S : α → β → Prop} (f : ∀ a b, R a b → S a b) : ∀ {l : List α} {k : List β}, ax_all2 R l k → ax_all2 S l k
  | [], [], _ => trivial
  | _ :: _, _ :: _, h => ⟨f _ _ h.1, ax_all2_mono f h.2⟩
  | [], _ :: _, h => h.elim
  | _ :: _, [], h => h.elim
theorem ax_all2_filter {α β : Type} {R : α → β → Prop} {p : α → Bool} {q : β → Bool} (f : ∀ a b, R a b → p a = q b) : ∀ {l : List α} {k : List β}, ax_all2 R l k → ax_all2 R (l.filter p) (k.filter q)
  | [], [], _ => trivial
  | a :: l, b :: k, h => by
    have e := f a b h.1
    have h2 := ax_all2_filter f h.2
    simp only [List.filter_cons, e]
    split
    · exact ⟨h.1, h2⟩
    · exact h2
  | [], _ :: _, h => h.elim
  | _ :: _, [], h => h.elim
theorem ax_all2_mapL {α β γ : Type} {R : α → β → Prop} {S : γ → β → Prop} (g : α → γ) (f : ∀ a b, R a b → S (g a) b) : ∀ {l : List α} {k : List β}, ax_all2 R l k → ax_all2 S (l.map g) k
  | [], [], _ => trivial
  | _ :: _, _ :: _, h => ⟨f _ _ h.1, ax_all2_mapL g f h.2⟩
  | [], _ :: _, h => h.elim
  | _ :: _, [], h => h.elim
theorem ax_all2_rev {α β : Type} {R : α → β → Prop} : ∀ {l : List α} {k : List β}, ax_all2 R l k → ax_all2 R l.reverse k.reverse
  | [], [], _ => trivial
  | _ :: _, _ :: _, h => by
    rw [List.reverse_cons, List.reverse_cons]
    exact ax_all2_app (ax_all2_rev h.2) ⟨h.1, trivial⟩
  | [], _ :: _, h => h.elim
  | _ :: _, [], h => h.elim
theorem ax_all2_take {α β : Type} {R : α → β → Prop} : ∀ {l : List α} {k : List β} (n : Nat), ax_all2 R l k → ax_all2 R (l.take n) (k.take n)
  | [], [], n, _ => by simp [ax_all2]
  | _ :: _, _ :: _, 0, _ => trivial
  | _ :: _, _ :: _, n + 1, h => ⟨h.1, ax_all2_take n h.2⟩
  | [], _ :: _, _, h => h.elim
  | _ :: _, [], _, h => h.elim
theorem ax_all2_drop {α β : Type} {R : α → β → Prop} : ∀ {l : List α} {k : List β} (n : Nat), ax_all2 R l k → ax_all2 R (l.drop n) (k.drop n)
  | [], [], n, _ => by simp [ax_all2]
  | _ :: _, _ :: _, 0, h => h
  | _ :: _, _ :: _, n + 1, h => ax_all2_drop n h.2
  | [], _ :: _, _, h => h.elim
  | _ :: _, [], _, h => h.elim

def ax_get {α : Type} (i : Nat) : List (Nat × α) → Option α
  | [] => none
  | q :: r => if q.1 = i then some q.2 else ax_get i r
theorem ax_get_mem {α : Type} {i : Nat} {v : α} : ∀ {l : List (Nat × α)}, ax_get i l = some v → (i, v) ∈ l
  | [], h => by simp [ax_get] at h
  | q :: r, h => by
    unfold ax_get at h
    split at h
    · rename_i e
      cases h
      subst e
      exact List.mem_cons_self
    · exact List.mem_cons_of_mem _ (ax_get_mem h)
theorem ax_get_ok {α β : Type} {P : α → β → Prop} {i : Nat} {a : α} : ∀ {l : List (Nat × α)} {k : List (Nat × β)}, ax_all2 (fun q r => q.1 = r.1 ∧ P q.2 r.2) l k → ax_get i l = some a → ∃ v, ax_get i k = some v ∧ P a v
  | [], [], _, h => by simp [ax_get] at h
  | q :: l, r :: k, h, e => by
    unfold ax_get at e ⊢
    split at e
    · rename_i e1
      cases e
      refine ⟨r.2, ?_, h.1.2⟩
      rw [if_pos (by rw [← h.1.1]; exact e1)]
    · rename_i e1
      obtain ⟨v, h1, h2⟩ := ax_get_ok h.2 e
      refine ⟨v, ?_, h2⟩
      rw [if_neg (by rw [← h.1.1]; exact e1)]
      exact h1
  | [], _ :: _, h, _ => h.elim
  | _ :: _, [], h, _ => h.elim

/-- the bounds, where they are an int's; else nothing is known -/
def ax_fitN (lo hi : Int) (y : Option (Nat × Int)) : ax_N := if -2147483648 ≤ lo ∧ hi ≤ 2147483647 then ((lo, hi), y) else ((-2147483648, 2147483647), none)
def ax_topN : ax_N := ((-2147483648, 2147483647), none)
def ax_topL : ax_I := (-9223372036854775808, 9223372036854775807)
def ax_sy (a b : ax_N) : Option (Nat × Int) := match a.2 with
  | some (g, c) => if b.1.1 = b.1.2 then some (g, c + b.1.1) else none
  | none => match b.2 with
    | some (g, c) => if a.1.1 = a.1.2 then some (g, a.1.1 + c) else none
    | none => none
def ax_sy2 (a b : ax_N) : Option (Nat × Int) := match a.2 with
  | some (g, c) => if b.1.1 = b.1.2 then some (g, c - b.1.1) else none
  | none => none
def ax_add (a b : ax_N) : ax_N := ax_fitN (a.1.1 + b.1.1) (a.1.2 + b.1.2) (ax_sy a b)
def ax_sub (a b : ax_N) : ax_N := ax_fitN (a.1.1 - b.1.2) (a.1.2 - b.1.1) (ax_sy2 a b)
def ax_mul (a b : ax_N) : ax_N := ax_fitN (min (min (a.1.1 * b.1.1) (a.1.1 * b.1.2)) (min (a.1.2 * b.1.1) (a.1.2 * b.1.2))) (max (max (a.1.1 * b.1.1) (a.1.1 * b.1.2)) (max (a.1.2 * b.1.1) (a.1.2 * b.1.2))) none
def ax_neg (a : ax_N) : ax_N := ax_fitN (-a.1.2) (-a.1.1) none
def ax_div (a b : ax_N) : Option ax_N := if 1 ≤ b.1.1 then (if 0 ≤ a.1.1 then some (ax_fitN 0 (a.1.2 / b.1.1) none) else some (ax_fitN (min a.1.1 0) (max a.1.2 0) none)) else if b.1.2 < 0 then some ax_topN else none
def ax_rem (a b : ax_N) : Option ax_N := if 1 ≤ b.1.1 then (if 0 ≤ a.1.1 then (if a.1.1 = a.1.2 ∧ b.1.1 = b.1.2 then some ((a.1.1 % b.1.1, a.1.1 % b.1.1), none) else some (ax_fitN 0 (min a.1.2 (b.1.2 - 1)) none)) else some (ax_fitN (-(b.1.2 - 1)) (b.1.2 - 1) none)) else if b.1.2 < 0 then some ax_topN else none
def ax_and (a b : ax_N) : ax_N := if 0 ≤ b.1.1 then ((0, b.1.2), none) else if 0 ≤ a.1.1 then ((0, a.1.2), none) else ax_topN
def ax_c32 (v : Int32) : ax_V := .inl ((v.toInt, v.toInt), none)

def ax_nok (γ : Nat → Int) (a : ax_N) (x : Int) : Prop := (a.1.1 ≤ x ∧ x ≤ a.1.2) ∧ ∀ g c, a.2 = some (g, c) → x = γ g + c
theorem ax_lt (x : Int32) : -2147483648 ≤ x.toInt ∧ x.toInt ≤ 2147483647 := by
  have h1 := x.le_toInt
  have h2 := x.toInt_lt
  omega
theorem ax_ltL (x : Int64) : -9223372036854775808 ≤ x.toInt ∧ x.toInt ≤ 9223372036854775807 := by
  have h1 := x.le_toInt
  have h2 := x.toInt_lt
  omega
theorem ax_topN_ok (γ : Nat → Int) (x : Int32) : ax_nok γ ax_topN x.toInt := ⟨ax_lt x, fun _ _ h => by cases h⟩
theorem ax_c_ok (γ : Nat → Int) (v : Int32) : ax_nok γ ((v.toInt, v.toInt), none) v.toInt := ⟨⟨Int.le_refl _, Int.le_refl _⟩, fun _ _ h => by cases h⟩
theorem ax_bmod {z : Int} (h1 : -2147483648 ≤ z) (h2 : z ≤ 2147483647) : z.bmod (2 ^ 32) = z := by
  have e : ((2 ^ 32 : Nat) : Int) = 4294967296 := by decide
  unfold Int.bmod
  simp only [e]
  split <;> omega
theorem ax_fitN_ok {γ : Nat → Int} {lo hi : Int} {y : Option (Nat × Int)} {x : Int32} {z : Int} (hz : x.toInt = z.bmod (2 ^ 32)) (h : lo ≤ z ∧ z ≤ hi) (hy : ∀ g c, y = some (g, c) → z = γ g + c) : ax_nok γ (ax_fitN lo hi y) x.toInt := by
  unfold ax_fitN
  split
  · rename_i hf
    rw [hz, ax_bmod (by omega) (by omega)]
    exact ⟨h, hy⟩
  · exact ax_topN_ok γ x
theorem ax_add_ok {γ : Nat → Int} {a b : ax_N} {x y : Int32} (ha : ax_nok γ a x.toInt) (hb : ax_nok γ b y.toInt) : ax_nok γ (ax_add a b) (x + y).toInt := by
  obtain ⟨⟨a1, a2⟩, a3⟩ := ha
  obtain ⟨⟨b1, b2⟩, b3⟩ := hb
  refine ax_fitN_ok (z := x.toInt + y.toInt) (Int32.toInt_add x y) ⟨by omega, by omega⟩ ?_
  intro g c h
  unfold ax_sy at h
  split at h
  · rename_i g1 c1 e
    split at h
    · have := a3 _ _ e
      simp at h
      obtain ⟨h1, h2⟩ := h
      subst h1
      omega
    · cases h
  · split at h
    · rename_i g1 c1 e
      split at h
      · have := b3 _ _ e
        simp at h
        obtain ⟨h1, h2⟩ := h
        subst h1
        omega
      · cases h
    · cases h
theorem ax_sub_ok {γ : Nat → Int} {a b : ax_N} {x y : Int32} (ha : ax_nok γ a x.toInt) (hb : ax_nok γ b y.toInt) : ax_nok γ (ax_sub a b) (x - y).toInt := by
  obtain ⟨⟨a1, a2⟩, a3⟩ := ha
  obtain ⟨⟨b1, b2⟩, b3⟩ := hb
  refine ax_fitN_ok (z := x.toInt - y.toInt) (Int32.toInt_sub x y) ⟨by omega, by omega⟩ ?_
  intro g c h
  unfold ax_sy2 at h
  split at h
  · rename_i g1 c1 e
    split at h
    · have := a3 _ _ e
      simp at h
      obtain ⟨h1, h2⟩ := h
      subst h1
      omega
    · cases h
  · cases h
theorem ax_mulk {lo hi t k : Int} (h1 : lo ≤ t) (h2 : t ≤ hi) : min (lo * k) (hi * k) ≤ t * k ∧ t * k ≤ max (lo * k) (hi * k) := by
  by_cases hk : 0 ≤ k
  · have e1 := Int.mul_le_mul_of_nonneg_right h1 hk
    have e2 := Int.mul_le_mul_of_nonneg_right h2 hk
    omega
  · have e1 := Int.mul_le_mul_of_nonpos_right h1 (by omega : k ≤ 0)
    have e2 := Int.mul_le_mul_of_nonpos_right h2 (by omega : k ≤ 0)
    omega
theorem ax_mul_ok {γ : Nat → Int} {a b : ax_N} {x y : Int32} (ha : ax_nok γ a x.toInt) (hb : ax_nok γ b y.toInt) : ax_nok γ (ax_mul a b) (x * y).toInt := by
  obtain ⟨⟨a1, a2⟩, -⟩ := ha
  obtain ⟨⟨b1, b2⟩, -⟩ := hb
  refine ax_fitN_ok (z := x.toInt * y.toInt) (Int32.toInt_mul x y) ?_ (fun _ _ h => by cases h)
  have h1 := ax_mulk (k := y.toInt) a1 a2
  have h2 := ax_mulk (k := a.1.1) b1 b2
  have h3 := ax_mulk (k := a.1.2) b1 b2
  rw [Int.mul_comm b.1.1, Int.mul_comm b.1.2, Int.mul_comm y.toInt] at h2 h3
  omega
theorem ax_neg_ok {γ : Nat → Int} {a : ax_N} {x : Int32} (ha : ax_nok γ a x.toInt) : ax_nok γ (ax_neg a) (-x).toInt := by
  obtain ⟨⟨a1, a2⟩, -⟩ := ha
  exact ax_fitN_ok (z := -x.toInt) (Int32.toInt_neg x) ⟨by omega, by omega⟩ (fun _ _ h => by cases h)
end AXP
end
section
/-! TABLES, written by gen_tab.py out of the printed names: methods, fields, links, with the places of their words in wsL_law0 -/
section AXT
def ax_nm (o : Nat) : String := match o with
  | 0 => RX0
  | 1 => RX1
  | 2 => RX2
  | 3 => RX3
  | 4 => RX4
  | 5 => RX5
  | 6 => RX6
  | 7 => RX7
  | 8 => RX8
  | 9 => RX9
  | 10 => RX10
  | 11 => RX11
  | 12 => RX12
  | 13 => RL
  | _ => RJ9
abbrev ax_T : Type := MethodName × (ByteArray × (Nat × (Option FieldType × ((Nat × Nat) × (Nat × (Nat × Nat))))))
def ax_tab0 : List ax_T := [(yX11_init, cX11_init, 4, none, (11, 2), 0, (75, 20583)), (yX2_init, cX2_init, 1, none, (2, 2), 0, (6, 1266)), (yX6_init, cX6_init, 1, none, (6, 2), 0, (4, 24)), (yX1_init, cX1_init, 1, none, (1, 2), 0, (3, 21)), (yX5_init, cX5_init, 1, none, (5, 2), 0, (3, 21)), (yX7_init, cX7_init, 1, none, (7, 2), 0, (3, 387)), (yX3_init, cX3_init, 1, none, (3, 2), 0, (2, 120)), (yX10_init, cX10_init, 3, none, (10, 2), 2, (2, 12)), (yX9_init, cX9_init, 3, none, (9, 2), 2, (3, 15)), (yX4_init, cX4_init, 1, none, (4, 2), 0, (5, 2985)), (yX11_feed, cX11_feed, 8, (some .int), (11, 1), 5, (0, 0)), (yX11_read, cX11_read, 5, (some .int), (11, 1), 3, (0, 0)), (yX11_isSlot, cX11_isSlot, 1, (some .boolean), (11, 0), 1, (0, 0)), (yX3_clear, cX3_clear, 1, none, (3, 1), 0, (0, 0)), (yX9_readSymbol, cX9_readSymbol, 4, none, (9, 1), 1, (0, 0)), (yX9_skipBlanks, cX9_skipBlanks, 1, none, (9, 1), 0, (0, 0)), (yX9_readLattice, cX9_readLattice, 2, (some .boolean), (9, 1), 0, (0, 0)), (yX9_readMinus, cX9_readMinus, 1, (some .boolean), (9, 1), 0, (0, 0)), (yX9_here, cX9_here, 1, (some .int), (9, 1), 0, (0, 0)), (yX9_addLattice, cX9_addLattice, 3, (some .boolean), (9, 1), 1, (0, 0)), (yX0_encode, cX0_encode, 3, (some .int), (0, 0), 3, (0, 0)), (yX3_add, cX3_add, 3, none, (3, 1), 2, (0, 0)), (yX3_fail, cX3_fail, 3, (some .boolean), (3, 1), 2, (0, 0)), (yX9_readWord, cX9_readWord, 2, (some .boolean), (9, 1), 0, (0, 0)), (yX9_readShift, cX9_readShift, 2, (some .boolean), (9, 1), 0, (0, 0)), (yX9_readTwelfths, cX9_readTwelfths, 5, (some .boolean), (9, 1), 1, (0, 0)), (yX9_rotationNumber, cX9_rotationNumber, 1, (some .int), (9, 0), 1, (0, 0)), (yX9_readRotation, cX9_readRotation, 4, (some .boolean), (9, 1), 0, (0, 0)), (yX9_readAxis, cX9_readAxis, 3, (some .int), (9, 1), 1, (0, 0)), (yX9_isStraight, cX9_isStraight, 1, (some .boolean), (9, 0), 1, (0, 0)), (yX9_isQuote, cX9_isQuote, 1, (some .boolean), (9, 0), 1, (0, 0)), (yX9_axisUntold, cX9_axisUntold, 2, (some .int), (9, 1), 1, (0, 0)), (yX9_readMoves, cX9_readMoves, 6, (some .boolean), (9, 1), 2, (0, 0)), (yX9_addMove, cX9_addMove, 3, (some .boolean), (9, 1), 1, (0, 0)), (yX9_setMatrix, cX9_setMatrix, 9, none, (9, 1), 3, (0, 0)), (yX3_shiftOrigin, cX3_shiftOrigin, 5, none, (3, 1), 1, (0, 0)), (yX0_sum, cX0_sum, 2, (some .int), (0, 0), 2, (0, 0)), (yX0_moved, cX0_moved, 6, (some .int), (0, 0), 3, (0, 0)), (yX0_rowTimes, cX0_rowTimes, 5, (some .int), (0, 0), 5, (0, 0)), (yX0_difference, cX0_difference, 2, (some .int), (0, 0), 2, (0, 0))]
def ax_tab1 : List ax_T := [(yX10_readTriples, cX10_readTriples, 4, none, (10, 1), 1, (0, 0)), (yX10_readTriple, cX10_readTriple, 5, (some .boolean), (10, 1), 1, (0, 0)), (yX10_token, cX10_token, 4, (some .int), (10, 1), 0, (0, 0)), (yX10_digitsHere, cX10_digitsHere, 2, (some .int), (10, 1), 0, (0, 0)), (yX10_isSign, cX10_isSign, 1, (some .boolean), (10, 0), 1, (0, 0)), (yX10_isLetter, cX10_isLetter, 1, (some .boolean), (10, 0), 1, (0, 0)), (yX10_readComma, cX10_readComma, 1, (some .boolean), (10, 1), 0, (0, 0)), (yX10_readSum, cX10_readSum, 5, (some .boolean), (10, 1), 1, (0, 0)), (yX10_readSign, cX10_readSign, 2, (some .int), (10, 1), 0, (0, 0)), (yX10_readMove, cX10_readMove, 6, (some .boolean), (10, 1), 2, (0, 0)), (yX10_readNumber, cX10_readNumber, 3, (some .int), (10, 1), 0, (0, 0)), (yX10_readLetter, cX10_readLetter, 5, (some .boolean), (10, 1), 2, (0, 0)), (yX0_determinant, cX0_determinant, 4, (some .int), (0, 0), 2, (0, 0)), (yX0_cofactor, cX0_cofactor, 8, (some .int), (0, 0), 4, (0, 0)), (yX10_goesOn, cX10_goesOn, 2, (some .boolean), (10, 1), 0, (0, 0)), (yX2_generate, cX2_generate, 2, (some .int), (2, 1), 1, (0, 0)), (yX2_clear, cX2_clear, 1, none, (2, 1), 0, (0, 0)), (yX2_addMatrix, cX2_addMatrix, 4, (some .boolean), (2, 1), 3, (0, 0)), (yX2_addPure, cX2_addPure, 2, none, (2, 1), 1, (0, 0)), (yX2_spreadMatrices, cX2_spreadMatrices, 6, (some .boolean), (2, 1), 1, (0, 0)), (yX0_multiply, cX0_multiply, 10, none, (0, 0), 5, (0, 0)), (yX0_columnTimes, cX0_columnTimes, 5, (some .int), (0, 0), 5, (0, 0)), (yX2_numberOf, cX2_numberOf, 3, (some .int), (2, 1), 1, (0, 0)), (yX0_order, cX0_order, 5, (some .int), (0, 0), 4, (0, 0)), (yX2_addGap, cX2_addGap, 2, none, (2, 1), 1, (0, 0)), (yX0_isModest, cX0_isModest, 2, (some .boolean), (0, 0), 1, (0, 0)), (yX11_within, cX11_within, 2, (some .boolean), (11, 0), 2, (0, 0)), (yX2_gatherPures, cX2_gatherPures, 2, (some .boolean), (2, 1), 0, (0, 0)), (yX2_extendPures, cX2_extendPures, 6, (some .boolean), (2, 1), 1, (0, 0)), (yX2_holdsPure, cX2_holdsPure, 3, (some .boolean), (2, 1), 1, (0, 0)), (yX4_settle, cX4_settle, 4, none, (4, 1), 1, (0, 0)), (yX2_rankOf, cX2_rankOf, 4, (some .int), (2, 1), 1, (0, 0)), (yX0_typeOf, cX0_typeOf, 3, (some .int), (0, 0), 2, (0, 0)), (yX0_trace, cX0_trace, 2, (some .int), (0, 0), 2, (0, 0)), (yX4_settleCodes, cX4_settleCodes, 7, none, (4, 1), 3, (0, 0)), (yX4_matrixNumber, cX4_matrixNumber, 7, (some .int), (4, 1), 2, (0, 0)), (yX11_fault, cX11_fault, 2, (some .int), (11, 1), 1, (0, 0)), (yX11_text, cX11_text, 6, (some .int), (11, 1), 2, (0, 0)), (yX11_groupAt, cX11_groupAt, 2, (some (.object "SymmetryHouse$Group")), (11, 1), 1, (0, 0)), (yX4_order, cX4_order, 1, (some .int), (4, 1), 0, (0, 0))]
def ax_tab2 : List ax_T := [(yX4_hasOperator, cX4_hasOperator, 2, (some .boolean), (4, 1), 1, (0, 0)), (yX4_matrixOf, cX4_matrixOf, 2, (some .int), (4, 1), 1, (0, 0)), (yX11_write, cX11_write, 2, none, (11, 1), 1, (0, 0)), (yX11_writeRow, cX11_writeRow, 7, none, (11, 1), 2, (0, 0)), (yX11_writeNumber, cX11_writeNumber, 5, none, (11, 1), 1, (0, 0)), (yX0_shareOf, cX0_shareOf, 2, (some .int), (0, 0), 2, (0, 0)), (yX11_writeFraction, cX11_writeFraction, 3, none, (11, 1), 1, (0, 0)), (yX0_commonDivisor, cX0_commonDivisor, 6, (some .int), (0, 0), 2, (0, 0)), (yX11_group, cX11_group, 4, (some .int), (11, 1), 2, (0, 0)), (yX4_pointClass, cX4_pointClass, 4, (some .int), (4, 1), 0, (0, 0)), (yX0_weightOf, cX0_weightOf, 1, (some .long), (0, 0), 1, (0, 0)), (yX0_classOf, cX0_classOf, 3, (some .int), (0, 0), 1, (0, 0)), (yX11_systemOf, cX11_systemOf, 2, (some .int), (11, 0), 1, (0, 0)), (yX4_traceSum, cX4_traceSum, 3, (some .int), (4, 1), 0, (0, 0)), (yX4_centreSize, cX4_centreSize, 3, (some .int), (4, 1), 0, (0, 0)), (yX4_exchangedWith, cX4_exchangedWith, 7, (some .int), (4, 1), 1, (0, 0)), (yX4_matrixAfter, cX4_matrixAfter, 3, (some .int), (4, 1), 2, (0, 0)), (yX4_fillTable, cX4_fillTable, 3, none, (4, 1), 0, (0, 0)), (yX4_conjugateSets, cX4_conjugateSets, 3, (some .int), (4, 1), 0, (0, 0)), (yX4_isProper, cX4_isProper, 2, (some .boolean), (4, 1), 0, (0, 0)), (yX11_fixingOperators, cX11_fixingOperators, 4, (some .int), (11, 1), 1, (0, 0)), (yX6_look, cX6_look, 5, none, (6, 1), 3, (0, 0)), (yX6_findPitch, cX6_findPitch, 10, none, (6, 1), 3, (0, 0)), (yX6_findOrder, cX6_findOrder, 2, none, (6, 1), 0, (0, 0)), (yX6_findAxis, cX6_findAxis, 5, none, (6, 1), 0, (0, 0)), (yX6_findSense, cX6_findSense, 6, none, (6, 1), 0, (0, 0)), (yX6_fixes, cX6_fixes, 1, (some .boolean), (6, 1), 0, (0, 0)), (yX11_operator, cX11_operator, 6, (some .int), (11, 1), 3, (0, 0)), (yX4_inverseOf, cX4_inverseOf, 4, (some .int), (4, 1), 1, (0, 0)), (yX4_codeNumber, cX4_codeNumber, 6, (some .int), (4, 1), 2, (0, 0)), (yX11_natureNumber, cX11_natureNumber, 2, (some .int), (11, 1), 1, (0, 0)), (yX11_product, cX11_product, 5, (some .int), (11, 1), 3, (0, 0)), (yX4_after, cX4_after, 5, (some .int), (4, 1), 2, (0, 0)), (yX11_find, cX11_find, 6, (some .int), (11, 1), 3, (0, 0)), (yX4_numberIn, cX4_numberIn, 3, (some .int), (4, 1), 2, (0, 0)), (yX11_compare, cX11_compare, 5, (some .int), (11, 1), 2, (0, 0)), (yX4_holdsAll, cX4_holdsAll, 3, (some .boolean), (4, 1), 1, (0, 0)), (yX11_common, cX11_common, 6, (some .int), (11, 1), 3, (0, 0)), (yX2_meet, cX2_meet, 8, none, (2, 1), 2, (0, 0)), (yX4_pureCode, cX4_pureCode, 2, (some .int), (4, 1), 1, (0, 0))]
def ax_tab3 : List ax_T := [(yX11_cosets, cX11_cosets, 3, (some .int), (11, 1), 2, (0, 0)), (yX11_countCosets, cX11_countCosets, 3, (some .int), (11, 0), 2, (0, 0)), (yX11_coset, cX11_coset, 7, (some .int), (11, 1), 3, (0, 0)), (yX4_markCosets, cX4_markCosets, 5, none, (4, 1), 2, (0, 0)), (yX4_markCoset, cX4_markCoset, 8, none, (4, 1), 4, (0, 0)), (yX11_normal, cX11_normal, 6, (some .int), (11, 1), 2, (0, 0)), (yX4_hasNormal, cX4_hasNormal, 5, (some .boolean), (4, 1), 2, (0, 0)), (yX4_leaves, cX4_leaves, 7, (some .boolean), (4, 1), 2, (0, 0)), (yX11_part, cX11_part, 6, (some .int), (11, 1), 4, (0, 0)), (yX2_choose, cX2_choose, 7, (some .boolean), (2, 1), 3, (0, 0)), (yX2_isChosen, cX2_isChosen, 3, (some .boolean), (2, 0), 3, (0, 0)), (yX11_basis, cX11_basis, 3, (some .boolean), (11, 1), 2, (0, 0)), (yX1_put, cX1_put, 3, (some .boolean), (1, 1), 2, (0, 0)), (yX11_turn, cX11_turn, 5, (some .int), (11, 1), 3, (0, 0)), (yX1_invert, cX1_invert, 4, (some .boolean), (1, 1), 0, (0, 0)), (yX2_carry, cX2_carry, 10, (some .boolean), (2, 1), 3, (0, 0)), (yX1_originCode, cX1_originCode, 1, (some .int), (1, 1), 0, (0, 0)), (yX11_metric, cX11_metric, 9, (some .int), (11, 1), 7, (0, 0)), (yX5_put, cX5_put, 9, (some .boolean), (5, 1), 6, (0, 0)), (yX5_measure, cX5_measure, 7, (some .boolean), (5, 1), 1, (0, 0)), (yX5_carried, cX5_carried, 9, (some .long), (5, 1), 4, (0, 0)), (yX11_mean, cX11_mean, 2, (some .long), (11, 1), 1, (0, 0)), (yX11_orbit, cX11_orbit, 7, (some .int), (11, 1), 5, (0, 0)), (yX7_spread, cX7_spread, 15, none, (7, 1), 5, (0, 0)), (yX7_ownKey, cX7_ownKey, 1, (some .long), (7, 1), 0, (0, 0)), (yX7_keyOf, cX7_keyOf, 10, (some .long), (7, 1), 4, (0, 0)), (yX7_insert, cX7_insert, 5, none, (7, 1), 1, (0, 0)), (yX7_positionOf, cX7_positionOf, 6, (some .int), (7, 1), 1, (0, 0)), (yX11_place, cX11_place, 3, (some .int), (11, 1), 2, (0, 0)), (yX7_coordinate, cX7_coordinate, 5, (some .int), (7, 1), 2, (0, 0)), (yX11_site, cX11_site, 2, (some .int), (11, 1), 1, (0, 0)), (yX7_ownPlace, cX7_ownPlace, 1, (some .int), (7, 1), 0, (0, 0)), (yX11_stays, cX11_stays, 2, (some .int), (11, 1), 1, (0, 0)), (yX11_reflection, cX11_reflection, 7, (some .int), (11, 1), 5, (0, 0)), (yX8_isAbsent, cX8_isAbsent, 5, (some .boolean), (8, 0), 4, (0, 0)), (yX8_phase, cX8_phase, 5, (some .int), (8, 0), 4, (0, 0)), (yX8_leads, cX8_leads, 7, (some .boolean), (8, 0), 6, (0, 0)), (yX8_countLeading, cX8_countLeading, 7, (some .int), (8, 0), 5, (0, 0)), (yX8_countAlike, cX8_countAlike, 5, (some .int), (8, 0), 4, (0, 0)), (yX8_countWithFriedel, cX8_countWithFriedel, 5, (some .int), (8, 0), 4, (0, 0))]
def ax_tab4 : List ax_T := [(yX8_turningPhase, cX8_turningPhase, 5, (some .int), (8, 0), 4, (0, 0)), (yX11_absent, cX11_absent, 4, (some .int), (11, 1), 2, (0, 0)), (yX8_countAbsent, cX8_countAbsent, 5, (some .int), (8, 0), 2, (0, 0)), (yX11_out, cX11_out, 2, (some .int), (11, 1), 1, (0, 0)), (yX12_init, cX12_init, 2, none, (12, 2), 0, (33, 39850)), (yX12_thrown, cX12_thrown, 1, (some .int), (12, 1), 0, (0, 0)), (yX12_feed, cX12_feed, 6, (some .int), (12, 1), 5, (0, 0)), (yX12_feedOne, cX12_feedOne, 3, none, (12, 1), 1, (0, 0)), (yX12_read, cX12_read, 5, (some .int), (12, 1), 3, (0, 0)), (yX12_isIn, cX12_isIn, 4, (some .boolean), (12, 1), 3, (0, 0)), (yX12_readSymbol, cX12_readSymbol, 5, none, (12, 1), 0, (0, 0)), (yX12_skip, cX12_skip, 1, none, (12, 1), 0, (0, 0)), (yX12_byteAt, cX12_byteAt, 2, (some .int), (12, 1), 1, (0, 0)), (yX12_wrong, cX12_wrong, 3, none, (12, 1), 2, (0, 0)), (yX12_centre, cX12_centre, 2, none, (12, 1), 1, (0, 0)), (yX12_move, cX12_move, 5, none, (12, 1), 3, (0, 0)), (yX12_generator, cX12_generator, 2, none, (12, 1), 0, (0, 0)), (yX12_round, cX12_round, 4, (some .int), (12, 1), 2, (0, 0)), (yX12_bad, cX12_bad, 1, (some .boolean), (12, 1), 0, (0, 0)), (yX12_isRotation, cX12_isRotation, 2, (some .boolean), (12, 1), 1, (0, 0)), (yX12_readRotation, cX12_readRotation, 7, none, (12, 1), 0, (0, 0)), (yX12_usual, cX12_usual, 2, (some .int), (12, 1), 1, (0, 0)), (yX12_set, cX12_set, 10, none, (12, 1), 9, (0, 0)), (yX12_turnAlong, cX12_turnAlong, 6, none, (12, 1), 1, (0, 0)), (yX12_readMoves, cX12_readMoves, 8, none, (12, 1), 2, (0, 0)), (yX12_readShift, cX12_readShift, 5, none, (12, 1), 0, (0, 0)), (yX12_isDigit, cX12_isDigit, 2, (some .boolean), (12, 1), 1, (0, 0)), (yX12_readTriples, cX12_readTriples, 3, none, (12, 1), 0, (0, 0)), (yX12_nextToken, cX12_nextToken, 5, none, (12, 1), 0, (0, 0)), (yX12_isTerm, cX12_isTerm, 1, (some .boolean), (12, 1), 0, (0, 0)), (yX12_readTriple, cX12_readTriple, 3, none, (12, 1), 0, (0, 0)), (yX12_readSum, cX12_readSum, 8, none, (12, 1), 1, (0, 0)), (yX12_determinant, cX12_determinant, 3, (some .int), (12, 1), 2, (0, 0)), (yX12_growMatrices, cX12_growMatrices, 4, none, (12, 1), 0, (0, 0)), (yX12_identity, cX12_identity, 2, none, (12, 1), 0, (0, 0)), (yX12_after, cX12_after, 7, none, (12, 1), 4, (0, 0)), (yX12_hasGot, cX12_hasGot, 5, (some .boolean), (12, 1), 1, (0, 0)), (yX12_putGot, cX12_putGot, 2, none, (12, 1), 0, (0, 0)), (yX12_growOperators, cX12_growOperators, 4, (some .boolean), (12, 1), 0, (0, 0)), (yX12_order, cX12_order, 3, none, (12, 1), 0, (0, 0))]
def ax_tab5 : List ax_T := [(yX12_isAhead, cX12_isAhead, 4, (some .boolean), (12, 1), 2, (0, 0)), (yX12_exchange, cX12_exchange, 5, none, (12, 1), 2, (0, 0)), (yX12_keep, cX12_keep, 3, none, (12, 1), 1, (0, 0)), (yX12_fault, cX12_fault, 2, (some .int), (12, 1), 1, (0, 0)), (yX12_product, cX12_product, 4, (some .int), (12, 1), 3, (0, 0)), (yX12_isOperator, cX12_isOperator, 3, (some .boolean), (12, 1), 2, (0, 0)), (yX12_isGroup, cX12_isGroup, 2, (some .boolean), (12, 1), 1, (0, 0)), (yX12_productOf, cX12_productOf, 4, (some .int), (12, 1), 3, (0, 0)), (yX12_placeOf, cX12_placeOf, 3, (some .int), (12, 1), 2, (0, 0)), (yX12_numberOf, cX12_numberOf, 7, (some .int), (12, 1), 1, (0, 0)), (yX12_operator, cX12_operator, 6, (some .int), (12, 1), 3, (0, 0)), (yX12_typeAt, cX12_typeAt, 5, (some .int), (12, 1), 1, (0, 0)), (yX12_turnsAt, cX12_turnsAt, 4, (some .int), (12, 1), 1, (0, 0)), (yX12_isPlain, cX12_isPlain, 2, (some .boolean), (12, 1), 0, (0, 0)), (yX12_orderAt, cX12_orderAt, 4, (some .int), (12, 1), 1, (0, 0)), (yX12_axisAt, cX12_axisAt, 8, none, (12, 1), 1, (0, 0)), (yX12_divisor, cX12_divisor, 6, (some .int), (12, 1), 2, (0, 0)), (yX12_senseAt, cX12_senseAt, 6, (some .int), (12, 1), 1, (0, 0)), (yX12_pitchAt, cX12_pitchAt, 5, none, (12, 1), 1, (0, 0)), (yX12_inverseOf, cX12_inverseOf, 5, (some .int), (12, 1), 2, (0, 0)), (yX12_identityOf, cX12_identityOf, 3, (some .int), (12, 1), 1, (0, 0)), (yX12_exchangedWith, cX12_exchangedWith, 5, (some .int), (12, 1), 2, (0, 0)), (yX12_areExchanged, cX12_areExchanged, 4, (some .boolean), (12, 1), 3, (0, 0)), (yX12_group, cX12_group, 6, (some .int), (12, 1), 2, (0, 0)), (yX12_isFirstMatrix, cX12_isFirstMatrix, 5, (some .boolean), (12, 1), 2, (0, 0)), (yX12_classOfGroup, cX12_classOfGroup, 3, (some .int), (12, 1), 1, (0, 0)), (yX12_noTypes, cX12_noTypes, 2, none, (12, 1), 0, (0, 0)), (yX12_countType, cX12_countType, 3, none, (12, 1), 1, (0, 0)), (yX12_classOf, cX12_classOf, 4, (some .int), (12, 1), 0, (0, 0)), (yX12_systemOf, cX12_systemOf, 2, (some .int), (12, 1), 1, (0, 0)), (yX12_classesOf, cX12_classesOf, 6, (some .int), (12, 1), 1, (0, 0)), (yX12_find, cX12_find, 4, (some .int), (12, 1), 3, (0, 0)), (yX12_numberIn, cX12_numberIn, 5, (some .int), (12, 1), 3, (0, 0)), (yX12_compare, cX12_compare, 3, (some .int), (12, 1), 2, (0, 0)), (yX12_hasAll, cX12_hasAll, 4, (some .boolean), (12, 1), 2, (0, 0)), (yX12_common, cX12_common, 4, (some .int), (12, 1), 3, (0, 0)), (yX12_commonTo, cX12_commonTo, 5, (some .int), (12, 1), 3, (0, 0)), (yX12_cosets, cX12_cosets, 4, (some .int), (12, 1), 2, (0, 0)), (yX12_missing, cX12_missing, 3, (some .int), (12, 1), 2, (0, 0)), (yX12_coset, cX12_coset, 8, (some .int), (12, 1), 3, (0, 0))]
def ax_tab6 : List ax_T := [(yX12_mixed, cX12_mixed, 5, (some .int), (12, 1), 4, (0, 0)), (yX12_normal, cX12_normal, 6, (some .int), (12, 1), 2, (0, 0)), (yX12_part, cX12_part, 9, (some .int), (12, 1), 4, (0, 0)), (yX12_isType, cX12_isType, 2, (some .boolean), (12, 1), 1, (0, 0)), (yX12_basis, cX12_basis, 3, (some .boolean), (12, 1), 2, (0, 0)), (yX12_turn, cX12_turn, 8, (some .int), (12, 1), 3, (0, 0)), (yX12_turnBasis, cX12_turnBasis, 8, none, (12, 1), 1, (0, 0)), (yX12_between, cX12_between, 6, none, (12, 1), 3, (0, 0)), (yX12_times, cX12_times, 9, (some .long), (12, 1), 5, (0, 0)), (yX12_roundLong, cX12_roundLong, 5, (some .long), (12, 1), 1, (0, 0)), (yX12_metric, cX12_metric, 17, (some .int), (12, 1), 7, (0, 0)), (yX12_isMetric, cX12_isMetric, 2, (some .boolean), (12, 1), 1, (0, 0)), (yX12_mean, cX12_mean, 2, (some .long), (12, 1), 1, (0, 0)), (yX12_orbit, cX12_orbit, 13, (some .int), (12, 1), 5, (0, 0)), (yX12_putPlace, cX12_putPlace, 3, none, (12, 1), 0, (0, 0)), (yX12_compareTo, cX12_compareTo, 4, (some .int), (12, 1), 2, (0, 0)), (yX12_place, cX12_place, 3, (some .int), (12, 1), 2, (0, 0)), (yX12_site, cX12_site, 2, (some .int), (12, 1), 1, (0, 0)), (yX12_stays, cX12_stays, 2, (some .int), (12, 1), 1, (0, 0)), (yX12_reflection, cX12_reflection, 10, (some .int), (12, 1), 5, (0, 0)), (yX12_isReflection, cX12_isReflection, 2, (some .boolean), (12, 1), 1, (0, 0)), (yX12_isAbsent, cX12_isAbsent, 6, (some .boolean), (12, 1), 4, (0, 0)), (yX12_lead, cX12_lead, 8, none, (12, 1), 4, (0, 0)), (yX12_isLed, cX12_isLed, 5, (some .boolean), (12, 1), 4, (0, 0)), (yX12_phase, cX12_phase, 7, (some .int), (12, 1), 5, (0, 0)), (yX12_putAlike, cX12_putAlike, 5, none, (12, 1), 3, (0, 0)), (yX12_absent, cX12_absent, 7, (some .int), (12, 1), 2, (0, 0)), (yX12_text, cX12_text, 8, (some .int), (12, 1), 2, (0, 0)), (yX12_add, cX12_add, 2, none, (12, 1), 1, (0, 0)), (yX12_addNumber, cX12_addNumber, 2, none, (12, 1), 1, (0, 0)), (yX12_out, cX12_out, 2, (some .int), (12, 1), 1, (0, 0))]
def ax_tab : List ax_T := ax_tab0 ++ ax_tab1 ++ ax_tab2 ++ ax_tab3 ++ ax_tab4 ++ ax_tab5 ++ ax_tab6
def ax_tpos : List (Nat × (Nat × Nat)) := [(135, 157, 0), (136, 167, 0), (137, 208, 0), (138, 245, 0), (139, 263, 0), (140, 281, 0), (141, 318, 0), (142, 348, 0), (143, 376, 0), (144, 415, 0), (135, 518, 519), (135, 522, 523), (135, 526, 0), (141, 529, 530), (143, 533, 534), (143, 541, 0), (143, 545, 1), (143, 549, 2), (143, 553, 3), (143, 557, 4), (147, 562, 0), (141, 568, 569), (141, 575, 576), (143, 582, 5), (143, 586, 6), (143, 590, 7), (143, 593, 0), (143, 597, 8), (143, 601, 9), (143, 604, 0), (143, 607, 0), (143, 611, 10), (143, 615, 11), (143, 619, 12), (143, 623, 13), (141, 628, 629), (147, 632, 0), (147, 636, 0), (147, 639, 0), (147, 642, 0), (142, 645, 646), (142, 651, 14), (142, 655, 15), (142, 659, 16), (142, 662, 0), (142, 665, 0), (142, 670, 17), (142, 674, 18), (142, 678, 19), (142, 682, 20), (142, 686, 21), (142, 690, 22), (147, 693, 0), (147, 696, 0), (142, 702, 23), (136, 705, 706), (136, 710, 24), (136, 715, 25), (136, 720, 26), (136, 724, 27), (147, 727, 0), (147, 730, 0), (136, 736, 28), (147, 739, 0), (136, 744, 29), (147, 747, 0), (135, 750, 0), (136, 754, 30), (136, 758, 31), (136, 762, 32), (144, 765, 766), (136, 769, 770), (147, 774, 0), (147, 778, 0), (144, 782, 33), (144, 787, 788), (135, 792, 793), (135, 796, 797), (135, 801, 34), (144, 804, 805), (144, 808, 809), (144, 812, 813), (135, 817, 35), (135, 821, 36), (135, 825, 37), (147, 828, 0), (135, 832, 38), (147, 835, 0), (135, 838, 839), (144, 842, 843), (147, 846, 0), (147, 858, 0), (135, 863, 0), (144, 870, 871), (144, 875, 876), (144, 880, 881), (144, 885, 886), (144, 890, 39), (144, 896, 897), (144, 900, 901), (135, 905, 40), (137, 908, 909), (137, 914, 41), (137, 920, 42), (137, 926, 43), (137, 932, 44), (137, 935, 936), (135, 939, 940), (144, 944, 945), (144, 948, 949), (135, 954, 45), (135, 957, 958), (144, 961, 962), (135, 965, 966), (144, 969, 970), (135, 973, 974), (144, 977, 978), (135, 982, 983), (136, 986, 987), (144, 990, 991), (135, 996, 997), (135, 1000, 0), (135, 1003, 1004), (144, 1007, 1008), (144, 1012, 46), (135, 1017, 1018), (144, 1021, 1022), (144, 1026, 47), (135, 1030, 1031), (136, 1035, 1036), (136, 1039, 0), (135, 1043, 1044), (138, 1047, 1048), (135, 1052, 1053), (138, 1056, 1057), (136, 1062, 1063), (138, 1066, 1067), (135, 1071, 1072), (139, 1075, 1076), (139, 1084, 1085), (139, 1089, 48), (135, 1092, 1093), (135, 1096, 1097), (140, 1101, 1102), (140, 1110, 49), (140, 1117, 50), (140, 1123, 51), (140, 1127, 52), (135, 1133, 1134), (140, 1137, 1138), (135, 1142, 1143), (140, 1146, 1147), (135, 1150, 1151), (135, 1154, 1155), (153, 1158, 0), (153, 1162, 0), (153, 1167, 0), (153, 1171, 0), (153, 1174, 0), (153, 1178, 0), (153, 1182, 0), (135, 1186, 1187), (153, 1190, 0), (135, 1197, 1198), (145, 1269, 0), (145, 1486, 1487), (145, 1490, 1491), (145, 1495, 54), (145, 1498, 1499), (145, 1503, 55), (145, 1507, 56), (145, 1511, 57), (145, 1515, 58), (145, 1519, 59), (145, 1523, 60), (145, 1527, 61), (145, 1531, 62), (145, 1535, 63), (145, 1539, 64), (145, 1543, 65), (145, 1547, 66), (145, 1551, 67), (145, 1555, 68), (145, 1559, 69), (145, 1563, 70), (145, 1567, 71), (145, 1571, 72), (145, 1575, 73), (145, 1579, 74), (145, 1583, 75), (145, 1587, 76), (145, 1591, 77), (145, 1595, 78), (145, 1599, 79), (145, 1603, 80), (145, 1607, 81), (145, 1611, 82), (145, 1615, 83), (145, 1619, 84), (145, 1623, 85), (145, 1627, 86), (145, 1631, 87), (145, 1635, 88), (145, 1638, 1639), (145, 1642, 1643), (145, 1647, 89), (145, 1651, 90), (145, 1655, 91), (145, 1659, 92), (145, 1663, 93), (145, 1666, 1667), (145, 1672, 94), (145, 1676, 95), (145, 1680, 96), (145, 1684, 97), (145, 1688, 98), (145, 1692, 99), (145, 1696, 100), (145, 1700, 101), (145, 1704, 102), (145, 1708, 103), (145, 1712, 104), (145, 1716, 105), (145, 1719, 1720), (145, 1724, 106), (145, 1728, 107), (145, 1732, 108), (145, 1736, 109), (145, 1740, 110), (145, 1745, 111), (145, 1749, 112), (145, 1752, 1753), (145, 1757, 113), (145, 1760, 1761), (145, 1765, 114), (145, 1768, 1769), (145, 1773, 115), (145, 1776, 1777), (145, 1781, 116), (145, 1784, 1785), (145, 1789, 117), (145, 1792, 1793), (145, 1796, 1797), (145, 1801, 118), (145, 1804, 1805), (145, 1808, 1809), (145, 1813, 119), (145, 1817, 120), (145, 1821, 121), (145, 1825, 122), (145, 1831, 1832), (145, 1836, 123), (145, 1839, 1840), (145, 1843, 1844), (145, 1848, 124), (145, 1852, 125), (145, 1855, 1856), (145, 1859, 1860), (145, 1863, 1864), (145, 1867, 1868), (145, 1872, 126), (145, 1876, 127), (145, 1880, 128), (145, 1884, 129), (145, 1888, 130), (145, 1892, 131), (145, 1895, 1896), (145, 1899, 1900), (145, 1904, 132), (145, 1908, 133), (145, 1911, 1912)]
/-- of class o, at an entry of its pool: (entry, (class, field, place of the word)) -/
def ax_ft (o : Nat) : List (Nat × (Nat × (Nat × Nat))) := match o with
  | 0 => []
  | 1 => [(7, 0, 0, 248), (13, 0, 1, 250), (16, 0, 2, 252)]
  | 2 => [(9, 1, 0, 170), (15, 1, 1, 172), (18, 1, 2, 174), (21, 1, 3, 176), (24, 1, 4, 177), (27, 1, 5, 178), (37, 1, 6, 179), (30, 1, 7, 180), (34, 1, 8, 183), (151, 0, 0, 249), (146, 0, 1, 251), (79, 2, 0, 322), (84, 2, 1, 324), (74, 2, 2, 328), (130, 3, 0, 423), (136, 3, 1, 426), (135, 3, 2, 431), (129, 3, 5, 438), (116, 3, 6, 442), (123, 3, 7, 444)]
  | 3 => [(9, 2, 0, 321), (15, 2, 1, 323), (22, 2, 2, 325), (25, 2, 3, 329), (18, 2, 4, 332)]
  | 4 => [(42, 1, 0, 171), (55, 1, 1, 173), (75, 1, 2, 175), (27, 1, 7, 181), (34, 1, 8, 184), (9, 3, 0, 418), (15, 3, 1, 424), (18, 3, 2, 427), (21, 3, 3, 432), (24, 3, 4, 433), (33, 3, 5, 434), (37, 3, 6, 439), (68, 3, 7, 443), (71, 3, 8, 445)]
  | 5 => [(9, 4, 0, 266), (15, 4, 1, 268), (19, 4, 2, 269), (38, 3, 0, 421), (32, 3, 5, 435)]
  | 6 => [(7, 5, 0, 211), (13, 5, 1, 213), (16, 5, 2, 215), (19, 5, 3, 216), (28, 5, 4, 217), (32, 5, 5, 219), (65, 5, 6, 221), (75, 5, 7, 223)]
  | 7 => [(9, 6, 0, 284), (15, 6, 1, 285), (19, 6, 2, 287), (22, 6, 3, 288), (26, 6, 4, 290), (86, 6, 5, 292), (89, 6, 6, 294), (35, 6, 7, 296), (55, 3, 0, 420), (69, 3, 1, 425), (58, 3, 2, 428)]
  | 8 => [(9, 3, 0, 419), (47, 3, 2, 429), (44, 3, 5, 436), (30, 3, 6, 440)]
  | 9 => [(104, 2, 2, 327), (64, 2, 3, 330), (21, 7, 0, 379), (24, 7, 1, 380), (9, 7, 2, 381), (15, 7, 3, 382), (18, 7, 4, 383), (41, 7, 5, 384), (44, 7, 6, 385), (47, 7, 7, 386), (50, 7, 8, 387), (34, 7, 9, 388), (38, 7, 10, 389)]
  | 10 => [(18, 8, 0, 351), (21, 8, 1, 352), (9, 8, 2, 353), (15, 8, 3, 354), (82, 8, 4, 355), (31, 8, 5, 356), (35, 8, 6, 357)]
  | 11 => [(119, 1, 7, 182), (343, 5, 0, 212), (346, 5, 1, 214), (349, 5, 4, 218), (352, 5, 5, 220), (355, 5, 6, 222), (357, 5, 7, 224), (279, 4, 0, 267), (311, 6, 1, 286), (290, 6, 3, 289), (296, 6, 4, 291), (299, 6, 5, 293), (302, 6, 6, 295), (308, 6, 7, 297), (129, 2, 2, 326), (112, 2, 3, 331), (126, 2, 4, 333), (149, 3, 0, 422), (156, 3, 2, 430), (179, 3, 5, 437), (180, 3, 6, 441), (63, 9, 0, 465), (9, 9, 1, 466), (13, 9, 2, 467), (16, 9, 3, 468), (21, 9, 4, 469), (66, 9, 5, 470), (75, 9, 6, 471), (82, 9, 7, 472), (28, 9, 8, 473), (35, 9, 9, 474), (42, 9, 10, 475), (49, 9, 11, 476), (56, 9, 12, 477), (87, 9, 13, 478), (139, 9, 14, 479), (95, 9, 15, 480), (99, 9, 16, 481)]
  | 12 => [(7, 10, 0, 1304), (13, 10, 1, 1305), (188, 10, 2, 1306), (195, 10, 3, 1307), (16, 10, 4, 1308), (518, 10, 5, 1309), (19, 10, 6, 1310), (23, 10, 7, 1311), (211, 10, 8, 1312), (214, 10, 9, 1313), (26, 10, 10, 1314), (202, 10, 11, 1315), (30, 10, 12, 1316), (33, 10, 13, 1317), (36, 10, 14, 1318), (39, 10, 15, 1319), (220, 10, 16, 1320), (42, 10, 17, 1321), (45, 10, 18, 1322), (48, 10, 19, 1323), (52, 10, 20, 1324), (55, 10, 21, 1325), (58, 10, 22, 1326), (61, 10, 23, 1327), (183, 10, 24, 1328), (240, 10, 25, 1329), (233, 10, 26, 1330), (243, 10, 27, 1331), (250, 10, 28, 1332), (283, 10, 29, 1333), (295, 10, 30, 1334), (298, 10, 31, 1335), (292, 10, 32, 1336), (128, 10, 34, 1337), (132, 10, 35, 1338), (135, 10, 36, 1339), (138, 10, 37, 1340), (141, 10, 38, 1341), (144, 10, 39, 1342), (147, 10, 40, 1343), (150, 10, 41, 1344), (153, 10, 42, 1345), (156, 10, 43, 1346), (159, 10, 44, 1347), (162, 10, 45, 1348), (165, 10, 46, 1349), (168, 10, 47, 1350), (171, 10, 48, 1351), (174, 10, 49, 1352), (465, 10, 50, 1353), (468, 10, 51, 1354), (474, 10, 52, 1355), (477, 10, 53, 1356), (483, 10, 54, 1357), (480, 10, 55, 1358), (490, 10, 56, 1359), (177, 10, 57, 1360), (180, 10, 58, 1361), (506, 10, 59, 1362)]
  | 13 => []
  | _ => []
def ax_ml (o : Nat) : List (Nat × (Nat × Nat)) := match o with
  | 0 => [(15, 20, 634), (21, 38, 638), (32, 53, 695), (25, 61, 729), (36, 52, 776), (40, 73, 777)]
  | 1 => [(31, 52, 1059), (35, 53, 1060), (25, 20, 1069)]
  | 2 => [(52, 56, 708), (58, 57, 713), (62, 58, 718), (66, 59, 722), (80, 60, 726), (87, 37, 732), (91, 36, 733), (95, 62, 734), (46, 63, 738), (99, 39, 741), (102, 64, 742), (105, 65, 746), (70, 67, 752), (109, 68, 756), (113, 69, 760), (119, 119, 989), (126, 109, 993), (131, 75, 994), (139, 130, 1038), (143, 96, 1041), (154, 136, 1065)]
  | 3 => [(34, 36, 631), (40, 37, 635), (44, 39, 641)]
  | 4 => [(38, 71, 768), (49, 72, 773), (58, 74, 780), (78, 36, 784), (65, 75, 786), (86, 63, 790), (115, 90, 845), (119, 91, 857), (123, 73, 873), (109, 79, 878), (112, 95, 879), (90, 81, 883), (103, 96, 884), (96, 97, 888), (82, 60, 892), (99, 37, 893), (106, 39, 894), (93, 109, 947), (126, 114, 980), (130, 124, 1010), (134, 80, 1014), (138, 112, 1015), (141, 127, 1024), (145, 108, 1028)]
  | 5 => [(41, 140, 1087)]
  | 6 => [(22, 72, 911), (35, 102, 912), (53, 85, 916), (57, 38, 917), (39, 103, 918), (61, 20, 922), (47, 104, 924), (68, 53, 928), (72, 87, 929), (50, 105, 930)]
  | 7 => [(41, 144, 1108), (45, 79, 1113), (51, 81, 1114), (61, 145, 1115), (99, 38, 1119), (103, 85, 1120), (65, 146, 1121), (92, 147, 1125), (72, 90, 1129), (78, 73, 1130), (82, 91, 1131)]
  | 8 => [(34, 119, 1160), (38, 155, 1161), (21, 85, 1164), (50, 156, 1166), (15, 61, 1169), (54, 157, 1176), (58, 158, 1180), (62, 154, 1184)]
  | 9 => [(54, 15, 539), (57, 16, 543), (83, 17, 547), (79, 18, 551), (86, 19, 555), (69, 20, 561), (97, 21, 567), (90, 22, 574), (61, 23, 580), (107, 24, 584), (142, 25, 588), (110, 26, 592), (114, 27, 595), (117, 28, 599), (127, 29, 603), (130, 30, 606), (133, 31, 609), (120, 32, 613), (136, 33, 617), (123, 34, 621), (75, 35, 627)]
  | 10 => [(38, 41, 649), (46, 42, 653), (98, 43, 657), (56, 44, 661), (59, 45, 664), (50, 22, 667), (62, 46, 668), (65, 47, 672), (86, 48, 676), (89, 49, 680), (95, 50, 684), (92, 51, 688), (68, 52, 692), (74, 20, 698), (78, 21, 699), (42, 54, 700)]
  | 11 => [(72, 7, 347), (81, 8, 375), (91, 12, 525), (102, 13, 528), (105, 14, 532), (109, 40, 644), (115, 55, 704), (122, 70, 764), (132, 78, 799), (175, 79, 803), (136, 80, 807), (142, 81, 811), (146, 82, 815), (152, 83, 819), (360, 84, 823), (159, 85, 827), (165, 86, 830), (363, 87, 834), (183, 89, 841), (186, 92, 862), (192, 75, 868), (196, 93, 869), (199, 94, 874), (202, 98, 895), (205, 99, 899), (209, 100, 903), (220, 101, 907), (340, 106, 934), (214, 108, 943), (217, 95, 951), (224, 110, 952), (227, 112, 960), (230, 114, 968), (234, 116, 976), (238, 118, 985), (242, 121, 999), (246, 123, 1006), (250, 126, 1020), (254, 90, 1033), (258, 129, 1034), (262, 132, 1046), (266, 134, 1055), (269, 135, 1061), (273, 138, 1074), (276, 139, 1083), (283, 66, 1099), (286, 143, 1100), (293, 149, 1136), (305, 151, 1145), (314, 154, 1157), (320, 157, 1170), (324, 158, 1173), (328, 159, 1177), (331, 160, 1181), (334, 162, 1189)]
  | 12 => [(191, 167, 1493), (198, 169, 1501), (205, 170, 1505), (286, 171, 1509), (236, 172, 1513), (262, 173, 1517), (289, 174, 1521), (310, 175, 1525), (276, 176, 1529), (279, 177, 1533), (256, 178, 1537), (301, 179, 1541), (304, 180, 1545), (314, 181, 1549), (317, 182, 1553), (321, 183, 1557), (324, 184, 1561), (307, 185, 1565), (246, 186, 1569), (208, 187, 1573), (253, 188, 1577), (259, 189, 1581), (266, 190, 1585), (269, 191, 1589), (272, 192, 1593), (217, 193, 1597), (327, 194, 1601), (330, 195, 1605), (334, 196, 1609), (337, 197, 1613), (223, 198, 1617), (227, 199, 1621), (340, 200, 1625), (344, 201, 1629), (230, 202, 1633), (356, 205, 1645), (347, 206, 1649), (359, 207, 1653), (350, 208, 1657), (353, 209, 1661), (372, 211, 1670), (378, 212, 1674), (366, 213, 1678), (385, 214, 1682), (375, 215, 1686), (369, 216, 1690), (388, 217, 1694), (391, 218, 1698), (394, 219, 1702), (363, 220, 1706), (397, 221, 1710), (381, 222, 1714), (405, 224, 1722), (415, 225, 1726), (402, 226, 1730), (408, 227, 1734), (411, 228, 1738), (418, 229, 1743), (421, 230, 1747), (424, 232, 1755), (427, 234, 1763), (430, 236, 1771), (433, 238, 1779), (436, 240, 1787), (440, 243, 1799), (443, 246, 1811), (446, 247, 1815), (450, 248, 1819), (454, 249, 1823), (462, 251, 1834), (471, 254, 1846), (486, 255, 1850), (509, 260, 1870), (512, 261, 1874), (494, 262, 1878), (498, 263, 1882), (502, 264, 1886), (515, 265, 1890), (521, 268, 1902), (524, 269, 1906)]
  | 13 => [(15, 0, 156), (19, 10, 517), (24, 11, 521), (29, 76, 791), (33, 77, 795), (48, 88, 837), (52, 107, 938), (57, 111, 956), (61, 113, 964), (65, 115, 972), (69, 117, 981), (73, 120, 995), (77, 122, 1002), (81, 125, 1016), (85, 128, 1029), (90, 131, 1042), (95, 133, 1051), (99, 137, 1070), (104, 141, 1091), (109, 142, 1095), (113, 148, 1132), (117, 150, 1141), (121, 152, 1149), (125, 153, 1153), (129, 161, 1185), (7, 163, 1196), (18, 164, 1268), (44, 165, 1485), (23, 166, 1489), (28, 168, 1497), (32, 203, 1637), (60, 204, 1641), (56, 210, 1665), (51, 223, 1718), (64, 231, 1751), (68, 233, 1759), (72, 235, 1767), (76, 237, 1775), (80, 239, 1783), (84, 241, 1791), (89, 242, 1795), (94, 244, 1803), (98, 245, 1807), (103, 250, 1830), (108, 252, 1838), (112, 253, 1842), (116, 256, 1854), (120, 257, 1858), (124, 258, 1862), (128, 259, 1866), (132, 266, 1894), (37, 267, 1898), (43, 270, 1910)]
  | _ => []
/-- Math.min and Math.max: (class, entry, which, place of the link) -/
def ax_mm : List (Nat × (Nat × (Nat × Nat))) := [(9, 28, 0, 536), (10, 25, 0, 648), (7, 29, 1, 1104)]
def ax_oi : List (Nat × (Nat × Nat)) := [(11, 1, 159), (2, 3, 169), (6, 1, 210), (1, 1, 247), (5, 3, 265), (7, 3, 283), (3, 3, 320), (10, 3, 350), (9, 3, 378), (4, 3, 417), (12, 1, 1271)]
def ax_nl : List (Nat × (Nat × Nat)) := [(11, 27, 1), (11, 34, 2), (11, 41, 3), (11, 48, 4), (11, 55, 5), (11, 62, 6), (11, 86, 9), (0, 28, 66), (1, 19, 66), (5, 22, 66)]
def ax_nest : List Cond := [.methodLinkNest RX11 27 yX2_init "SymmetryHouse", .methodLinkNest RX11 34 yX6_init "SymmetryHouse", .methodLinkNest RX11 41 yX1_init "SymmetryHouse", .methodLinkNest RX11 48 yX5_init "SymmetryHouse", .methodLinkNest RX11 55 yX7_init "SymmetryHouse", .methodLinkNest RX11 62 yX3_init "SymmetryHouse", .methodLinkNest RX11 86 yX4_init "SymmetryHouse", .methodLinkNest RX0 28 yX11_within "SymmetryHouse", .methodLinkNest RX1 19 yX11_within "SymmetryHouse", .methodLinkNest RX5 22 yX11_within "SymmetryHouse"]
def ax_cn : List (Nat × (Nat × (Nat × (Nat × (Nat × Nat))))) := [(13, 8, 9, 154, 155, 135), (11, 19, 3, 162, 413, 144), (11, 25, 1, 164, 165, 136), (11, 32, 5, 205, 206, 137), (11, 39, 0, 242, 243, 138), (11, 46, 4, 260, 261, 139), (11, 53, 6, 278, 279, 140), (11, 60, 2, 315, 316, 141), (11, 70, 8, 345, 346, 142), (11, 79, 7, 373, 374, 143), (13, 16, 10, 1266, 1267, 145)]
def ax_ic : List (Nat × (Nat × (Int32 × Nat))) := [(11, 213, -100000, 942), (12, 384, -100000, 1669)]
def ax_lc : List (Nat × (Nat × (Int64 × Nat))) := [(0, 43, 1000000000, 848), (0, 45, 100000000, 849), (0, 47, 10000000, 850), (0, 49, 1000000, 851), (0, 51, 100000, 852), (0, 53, 10000, 853), (0, 55, 1000, 854), (0, 57, 100, 855), (0, 59, 10, 856), (7, 97, 24000, 1112), (7, 95, 576000000, 1140), (12, 64, 10000, 1272), (12, 66, 110000, 1273), (12, 68, 11000, 1274), (12, 70, 1010000, 1275), (12, 72, 1111000, 1276), (12, 74, 13000, 1277), (12, 76, 2011000, 1278), (12, 78, 3113000, 1279), (12, 80, 11020, 1280), (12, 82, 200011000, 1281), (12, 84, 201111020, 1282), (12, 86, 15020, 1283), (12, 88, 4011020, 1284), (12, 90, 202013000, 1285), (12, 92, 205115020, 1286), (12, 94, 10200, 1287), (12, 96, 20110200, 1288), (12, 98, 13200, 1289), (12, 100, 3010200, 1290), (12, 102, 23113200, 1291), (12, 104, 11202, 1292), (12, 106, 2001010200, 1293), (12, 108, 2021111202, 1294), (12, 110, 17202, 1295), (12, 112, 6011202, 1296), (12, 114, 2004013200, 1297), (12, 116, 2027117202, 1298), (12, 118, 13800, 1299), (12, 120, 83113800, 1300), (12, 122, 19860, 1301), (12, 124, 606013800, 1302), (12, 126, 689119860, 1303), (12, 400, 10, 1742), (12, 186, 24, 1827), (12, 458, -999, 1828), (12, 460, 999, 1829)]
def ax_tyOf (ci : Nat) : Nat → FieldType := match ci with
  | 0 => tyX1
  | 1 => tyX2
  | 2 => tyX3
  | 3 => tyX4
  | 4 => tyX5
  | 5 => tyX6
  | 6 => tyX7
  | 7 => tyX9
  | 8 => tyX10
  | 9 => tyX11
  | _ => tyX12
def ax_W : List Cond := lw_tbl.filter goodWord
theorem ax_good : GoodIn lw_tbl ax_W := fun w h => ⟨(List.mem_filter.mp h).1, good_of_word (List.mem_filter.mp h).2⟩
theorem ax_in {w : Cond} (k : Nat) (h : lw_tbl[k]? = some w) (hg : goodWord w = true) : w ∈ ax_W := List.mem_filter.mpr ⟨List.mem_of_getElem? h, hg⟩
def ax_tcode (t : ax_T) : Cond := .code t.1 t.2.1 t.2.2.1 t.2.2.2.1
set_option maxRecDepth 100000 in
theorem ax_codes : ax_tab.map ax_tcode = ([158, 168, 209, 246, 264, 282, 319, 349, 377, 416, 520, 524, 527, 531, 535, 542, 546, 550, 554, 558, 563, 570, 577, 583, 587, 591, 594, 598, 602, 605, 608, 612, 616, 620, 624, 630, 633, 637, 640, 643, 647, 652, 656, 660, 663, 666, 671, 675, 679, 683, 687, 691, 694, 697, 703, 707, 711, 716, 721, 725, 728, 731, 737, 740, 745, 748, 751, 755, 759, 763, 767, 771, 775, 779, 783, 789, 794, 798, 802, 806, 810, 814, 818, 822, 826, 829, 833, 836, 840, 844, 847, 859, 864, 872, 877, 882, 887, 891, 898, 902, 906, 910, 915, 921, 927, 933, 937, 941, 946, 950, 955, 959, 963, 967, 971, 975, 979, 984, 988, 992, 998, 1001, 1005, 1009, 1013, 1019, 1023, 1027, 1032, 1037, 1040, 1045, 1049, 1054, 1058, 1064, 1068, 1073, 1077, 1086, 1090, 1094, 1098, 1103, 1111, 1118, 1124, 1128, 1135, 1139, 1144, 1148, 1152, 1156, 1159, 1163, 1168, 1172, 1175, 1179, 1183, 1188, 1191, 1199, 1270, 1488, 1492, 1496, 1500, 1504, 1508, 1512, 1516, 1520, 1524, 1528, 1532, 1536, 1540, 1544, 1548, 1552, 1556, 1560, 1564, 1568, 1572, 1576, 1580, 1584, 1588, 1592, 1596, 1600, 1604, 1608, 1612, 1616, 1620, 1624, 1628, 1632, 1636, 1640, 1644, 1648, 1652, 1656, 1660, 1664, 1668, 1673, 1677, 1681, 1685, 1689, 1693, 1697, 1701, 1705, 1709, 1713, 1717, 1721, 1725, 1729, 1733, 1737, 1741, 1746, 1750, 1754, 1758, 1762, 1766, 1770, 1774, 1778, 1782, 1786, 1790, 1794, 1798, 1802, 1806, 1810, 1814, 1818, 1822, 1826, 1833, 1837, 1841, 1845, 1849, 1853, 1857, 1861, 1865, 1869, 1873, 1877, 1881, 1885, 1889, 1893, 1897, 1901, 1905, 1909, 1913] : List Nat).filterMap (fun i => lw_tbl[i]?) := rfl
set_option maxRecDepth 100000 in
theorem ax_oicode : lw_tbl[161]? = some (.code objectInit ⟨#[0xb1]⟩ 1 none) := rfl
theorem ax_oiinst : lw_tbl[160]? = some (.instanceMethod objectInit) := by decide +kernel
theorem ax_arr_int : lw_tbl[204]? = some (.arrayClass .int) := by decide +kernel
theorem ax_arr_byte : lw_tbl[1265]? = some (.arrayClass .byte) := by decide +kernel
theorem ax_arr_boolean : lw_tbl[1484]? = some (.arrayClass .boolean) := by decide +kernel
theorem ax_arr_long : lw_tbl[277]? = some (.arrayClass .long) := by decide +kernel
theorem ax_lay0 : u_ws RX1 TX1 3 = ([253, 255, 257] : List Nat).filterMap (fun i => lw_tbl[i]?) := by decide +kernel
theorem ax_lay1 : u_ws RX2 TX2 9 = ([185, 187, 189, 191, 193, 195, 197, 199, 201] : List Nat).filterMap (fun i => lw_tbl[i]?) := by decide +kernel
theorem ax_lay2 : u_ws RX3 TX3 5 = ([334, 336, 338, 340, 342] : List Nat).filterMap (fun i => lw_tbl[i]?) := by decide +kernel
theorem ax_lay3 : u_ws RX4 TX4 9 = ([446, 448, 450, 452, 454, 456, 458, 460, 462] : List Nat).filterMap (fun i => lw_tbl[i]?) := by decide +kernel
theorem ax_lay4 : u_ws RX5 TX5 3 = ([270, 272, 274] : List Nat).filterMap (fun i => lw_tbl[i]?) := by decide +kernel
theorem ax_lay5 : u_ws RX6 TX6 8 = ([225, 227, 229, 231, 233, 235, 237, 239] : List Nat).filterMap (fun i => lw_tbl[i]?) := by decide +kernel
theorem ax_lay6 : u_ws RX7 TX7 8 = ([298, 300, 302, 304, 306, 308, 310, 312] : List Nat).filterMap (fun i => lw_tbl[i]?) := by decide +kernel
theorem ax_lay7 : u_ws RX9 TX9 11 = ([390, 392, 394, 396, 398, 400, 402, 404, 406, 408, 410] : List Nat).filterMap (fun i => lw_tbl[i]?) := by decide +kernel
theorem ax_lay8 : u_ws RX10 TX10 7 = ([358, 360, 362, 364, 366, 368, 370] : List Nat).filterMap (fun i => lw_tbl[i]?) := by decide +kernel
theorem ax_lay9 : u_ws RX11 TX11 17 = ([482, 484, 486, 488, 490, 492, 494, 496, 498, 500, 502, 504, 506, 508, 510, 512, 514] : List Nat).filterMap (fun i => lw_tbl[i]?) := by decide +kernel
theorem ax_lay10 : u_ws RX12 TX12 60 = ([1363, 1365, 1367, 1369, 1371, 1373, 1375, 1377, 1379, 1381, 1383, 1385, 1387, 1389, 1391, 1393, 1395, 1397, 1399, 1401, 1403, 1405, 1407, 1409, 1411, 1413, 1415, 1417, 1419, 1421, 1423, 1425, 1427, 1429, 1431, 1433, 1435, 1437, 1439, 1441, 1443, 1445, 1447, 1449, 1451, 1453, 1455, 1457, 1459, 1461, 1463, 1465, 1467, 1469, 1471, 1473, 1475, 1477, 1479, 1481] : List Nat).filterMap (fun i => lw_tbl[i]?) := by decide +kernel
def ax_npos : List Nat := [166, 207, 244, 262, 280, 317, 414, 749, 1050, 1078]
theorem ax_nestin : ax_nest = ax_npos.filterMap (fun i => lw_tbl[i]?) := by decide +kernel
set_option maxRecDepth 100000 in
theorem ax_mmin_code : lw_tbl[538]? = some (.code Lib.Math.min.name Lib.Math.min.code 2 (some .int)) := rfl
theorem ax_mmin_stat : lw_tbl[537]? = some (.static Lib.Math.min.name) := by decide +kernel
set_option maxRecDepth 100000 in
theorem ax_mmax_code : lw_tbl[1106]? = some (.code Lib.Math.max.name Lib.Math.max.code 2 (some .int)) := rfl
theorem ax_mmax_stat : lw_tbl[1105]? = some (.static Lib.Math.max.name) := by decide +kernel
theorem ax_m_init : lw_tbl[146]? = some (.initialized "java/lang/Math") := by decide +kernel
theorem ax_aoin : lw_tbl[163]? = some (.arrayOver (.object RX4)) := by decide +kernel
/-- methods whose ends are put together where they answer alike -/
def ax_mgl : List Nat := [78]
end AXT
end
section
/-! ABSTRACT RUNS: one instruction, one method -/
section AXQ
def ax_cat (a : ax_V) : Nat := match a with
  | .inr (.inl _) => 2
  | _ => 1
def ax_put1 (i : Nat) (a : ax_V) (lv : ax_L) : ax_L := (i, (a, none)) :: lv.filter (fun q => !(q.1 == i) && !(q.1 + 1 == i && ax_cat q.2.1 == 2))
def ax_put2 (i : Nat) (a : ax_V) (lv : ax_L) : ax_L := (i, (a, none)) :: lv.filter (fun q => !(q.1 == i) && (!(q.1 == i + 1) && !(q.1 + 1 == i && ax_cat q.2.1 == 2)))
/-- origins in locals are forgotten (a local is written) -/
def ax_nolo (o : ax_O) : ax_O := match o with
  | some (.inl _) => none
  | o => o
def ax_nol (st : ax_K) : ax_K := st.map (fun q => (q.1, ax_nolo q.2))
/-- origins in fields are forgotten (a field is written, a method is called) -/
def ax_nofo (o : ax_O) : ax_O := match o with
  | some (.inr (.inl _)) => none
  | o => o
def ax_nof (st : ax_K) : ax_K := st.map (fun q => (q.1, ax_nofo q.2))
def ax_bnd (iv : ax_I) (a : ax_V) : ax_V := match a with
  | .inl n => .inl ((max iv.1 n.1.1, min iv.2 n.1.2), n.2)
  | a => a
def ax_lvup (i : Nat) (iv : ax_I) : ax_L → ax_L
  | [] => []
  | q :: r => if q.1 = i then (q.1, (ax_bnd iv q.2.1, q.2.2)) :: r else q :: ax_lvup i iv r
def ax_upd {α : Type} (l : List α) (k : Nat) (f : α → α) : List α := match l[k]? with
  | some a => l.set k (f a)
  | none => l
def ax_fup (k : Nat) (iv : ax_I) (c : ax_C) : ax_C := match c with
  | .inl (ci, fs) => .inl (ci, ax_upd fs k (ax_bnd iv))
  | c => c
/-- what is now known of a value goes back to where it was read -/
def ax_ref (o : ax_O) (iv : ax_I) (w : ax_L × (List ax_C × List ax_V)) : ax_L × (List ax_C × List ax_V) := match o with
  | none => w
  | some (.inl i) => match ax_get i w.1 with
    | some (_, some j) => (ax_lvup i iv w.1, w.2.1, ax_upd w.2.2 j (ax_bnd iv))
    | _ => (ax_lvup i iv w.1, w.2.1, w.2.2)
  | some (.inr (.inl (q, k))) => (w.1, ax_upd w.2.1 q (ax_fup k iv), w.2.2)
  | some (.inr (.inr j)) => (w.1, w.2.1, ax_upd w.2.2 j (ax_bnd iv))

/-- the bounds behind a comparison: 0 eq, 1 ne, 2 lt, 3 ge, 4 gt, 5 le; none: it can't be -/
def ax_ne1 (a b : ax_I) : ax_I := if b.1 = b.2 then (if a.1 = b.1 then (a.1 + 1, a.2) else if a.2 = b.1 then (a.1, a.2 - 1) else a) else a
def ax_rel2 (k : Nat) (a b : ax_I) : ax_I × ax_I := match k with
  | 0 => ((max a.1 b.1, min a.2 b.2), (max a.1 b.1, min a.2 b.2))
  | 1 => (ax_ne1 a b, ax_ne1 b a)
  | 2 => ((a.1, min a.2 (b.2 - 1)), (max b.1 (a.1 + 1), b.2))
  | 3 => ((max a.1 b.1, a.2), (b.1, min b.2 a.2))
  | 4 => ((max a.1 (b.1 + 1), a.2), (b.1, min b.2 (a.2 - 1)))
  | _ => ((a.1, min a.2 b.2), (max b.1 a.1, b.2))
def ax_rel (k : Nat) (a b : ax_I) : Option (ax_I × ax_I) := if (ax_rel2 k a b).1.1 ≤ (ax_rel2 k a b).1.2 ∧ (ax_rel2 k a b).2.1 ≤ (ax_rel2 k a b).2.2 then some (ax_rel2 k a b) else none
def ax_br (k : Nat) (a b : ax_I) (oa ob : ax_O) (pc : Nat) (lv : ax_L) (st : ax_K) (hp : List ax_C) (pr : List ax_V) (cn : Nat × Nat) : List ax_S := match ax_rel k a b with
  | none => []
  | some iv => [(pc, (ax_ref ob iv.2 (ax_ref oa iv.1 (lv, hp, pr))).1, st, (ax_ref ob iv.2 (ax_ref oa iv.1 (lv, hp, pr))).2.1, (ax_ref ob iv.2 (ax_ref oa iv.1 (lv, hp, pr))).2.2, cn)]
def ax_tgt (pc : Nat) (off : Int) : Option Nat := if 0 ≤ (pc : Int) + off then some ((pc : Int) + off).toNat else none
/-- a branch on x ? y, the condition k, its contrary k2 -/
def ax_if (k k2 : Nat) (a b : ax_I) (oa ob : ax_O) (off : Int) (len pc : Nat) (lv : ax_L) (st : ax_K) (hp : List ax_C) (pr : List ax_V) (cn : Nat × Nat) : Option (List ax_S) := match ax_tgt pc off with
  | none => none
  | some t => if len = 3 then some (ax_br k a b oa ob t lv st hp pr cn ++ ax_br k2 a b oa ob (pc + 3) lv st hp pr cn) else none
def ax_if1 (k k2 : Nat) (off : Int) (len pc : Nat) (lv : ax_L) (st : ax_K) (hp : List ax_C) (pr : List ax_V) (cn : Nat × Nat) : Option (List ax_S) := match st with
  | (.inl a, oa) :: r => ax_if k k2 a.1 (0, 0) oa none off len pc lv r hp pr cn
  | _ => none
def ax_if2 (k k2 : Nat) (off : Int) (len pc : Nat) (lv : ax_L) (st : ax_K) (hp : List ax_C) (pr : List ax_V) (cn : Nat × Nat) : Option (List ax_S) := match st with
  | (.inl b, ob) :: (.inl a, oa) :: r => ax_if k k2 a.1 b.1 oa ob off len pc lv r hp pr cn
  | _ => none
def ax_ld (kd : Nat) (i len0 len pc : Nat) (lv : ax_L) (st : ax_K) (hp : List ax_C) (pr : List ax_V) (cn : Nat × Nat) : Option (List ax_S) := match ax_get i lv with
  | some (.inl a, _) => if kd = 0 ∧ len = len0 then some [(pc + len0, lv, (.inl a, some (.inl i)) :: st, hp, pr, cn)] else none
  | some (.inr (.inl a), _) => if kd = 1 ∧ len = len0 then some [(pc + len0, lv, (.inr (.inl a), none) :: st, hp, pr, cn)] else none
  | some (.inr (.inr a), _) => if kd = 2 ∧ len = len0 then some [(pc + len0, lv, (.inr (.inr a), none) :: st, hp, pr, cn)] else none
  | none => none
def ax_st (kd nL : Nat) (i len0 len pc : Nat) (lv : ax_L) (st : ax_K) (hp : List ax_C) (pr : List ax_V) (cn : Nat × Nat) : Option (List ax_S) := match st with
  | (.inl a, _) :: r => if kd = 0 ∧ len = len0 ∧ i < nL then some [(pc + len0, ax_put1 i (.inl a) lv, ax_nol r, hp, pr, cn)] else none
  | (.inr (.inl a), _) :: r => if kd = 1 ∧ len = len0 ∧ i + 1 < nL then some [(pc + len0, ax_put2 i (.inr (.inl a)) lv, ax_nol r, hp, pr, cn)] else none
  | (.inr (.inr a), _) :: r => if kd = 2 ∧ len = len0 ∧ i < nL then some [(pc + len0, ax_put1 i (.inr (.inr a)) lv, ax_nol r, hp, pr, cn)] else none
  | [] => none
def ax_ii (f : ax_N → ax_N → Option ax_N) (len pc : Nat) (lv : ax_L) (st : ax_K) (hp : List ax_C) (pr : List ax_V) (cn : Nat × Nat) : Option (List ax_S) := match st with
  | (.inl b, _) :: (.inl a, _) :: r => match f a b with
    | some z => if len = 1 then some [(pc + 1, lv, (.inl z, none) :: r, hp, pr, cn)] else none
    | none => none
  | _ => none
def ax_ll (f : ax_I → ax_I → Option ax_I) (len pc : Nat) (lv : ax_L) (st : ax_K) (hp : List ax_C) (pr : List ax_V) (cn : Nat × Nat) : Option (List ax_S) := match st with
  | (.inr (.inl b), _) :: (.inr (.inl a), _) :: r => match f a b with
    | some z => if len = 1 then some [(pc + 1, lv, (.inr (.inl z), none) :: r, hp, pr, cn)] else none
    | none => none
  | _ => none
def ax_push (v : ax_V) (len0 len pc : Nat) (lv : ax_L) (st : ax_K) (hp : List ax_C) (pr : List ax_V) (cn : Nat × Nat) : Option (List ax_S) := if len = len0 then some [(pc + len0, lv, (v, none) :: st, hp, pr, cn)] else none
def ax_lcmp (a b : ax_I) : ax_N := if a.2 < b.1 then ((-1, -1), none) else if b.2 < a.1 then ((1, 1), none) else if a.1 = a.2 ∧ b.1 = b.2 ∧ a.1 = b.1 then ((0, 0), none) else ((-1, 1), none)
def ax_hull (a b : ax_I) : ax_I := (min a.1 b.1, max a.2 b.2)
def ax_ldiv (_ b : ax_I) : Option ax_I := if 0 < b.1 ∨ b.2 < 0 then some ax_topL else none
/-- a cell of numbers at place k (k + 1 as a reference): its type, length, bounds -/
def ax_nums (hp : List ax_C) (k : Nat) : Option (FieldType × (Nat × ax_I)) := match k with
  | 0 => none
  | k + 1 => match hp[k]? with
    | some (.inr ((ty, n), .inl iv)) => some (ty, n, iv)
    | _ => none
def ax_ain (a : ax_N) (n : Nat) : Bool := decide (0 ≤ a.1.1) && decide (a.1.2 < n)
def ax_xld (ts : List FieldType) (len pc : Nat) (lv : ax_L) (st : ax_K) (hp : List ax_C) (pr : List ax_V) (cn : Nat × Nat) : Option (List ax_S) := match st with
  | (.inl a, _) :: (.inr (.inr (some k)), _) :: r => match ax_nums hp k with
    | some (ty, n, iv) => if ax_ain a n = true ∧ ty ∈ ts ∧ len = 1 then some [(pc + 1, lv, (.inl (iv, none), none) :: r, hp, pr, cn)] else none
    | none => none
  | _ => none
/-- an int of the script, named by the block's first place (the named number 0) -/
def ax_sld (L : Nat) (len pc : Nat) (lv : ax_L) (st : ax_K) (hp : List ax_C) (pr : List ax_V) (cn : Nat × Nat) : Option (List ax_S) := match st with
  | (.inl a, _) :: (.inr (.inr (some 0)), _) :: r => match a.2 with
    | some (0, .ofNat j) => match pr[j]? with
      | some (.inl v) => if ax_ain a (L - 1) = true ∧ len = 1 then some [(pc + 1, lv, (.inl v, some (.inr (.inr j))) :: r, hp, pr, cn)] else none
      | _ => none
    | _ => none
  | _ => none
def ax_iald (L : Nat) (len pc : Nat) (lv : ax_L) (st : ax_K) (hp : List ax_C) (pr : List ax_V) (cn : Nat × Nat) : Option (List ax_S) := match st with
  | _ :: (.inr (.inr (some 0)), _) :: _ => ax_sld L len pc lv st hp pr cn
  | _ => ax_xld [.int] len pc lv st hp pr cn
def ax_lald (len pc : Nat) (lv : ax_L) (st : ax_K) (hp : List ax_C) (pr : List ax_V) (cn : Nat × Nat) : Option (List ax_S) := match st with
  | (.inl a, _) :: (.inr (.inr (some (k + 1))), _) :: r => match hp[k]? with
    | some (.inr ((.long, n), .inr (.inl iv))) => if ax_ain a n = true ∧ len = 1 then some [(pc + 1, lv, (.inr (.inl iv), none) :: r, hp, pr, cn)] else none
    | _ => none
  | _ => none
/-- every reference that the array holds from place j on, f of them -/
def ax_alds (rs : List (Option Nat)) (oa : ax_O) (pc : Nat) (lv : ax_L) (r : ax_K) (hp : List ax_C) (pr : List ax_V) (cn : Nat × Nat) : Nat → Nat → Option (List ax_S)
  | 0, _ => some []
  | f + 1, j => match rs[j]?, ax_alds rs oa pc lv r hp pr cn f (j + 1) with
    | some x, some l => some ((pc, (ax_ref oa ((j : Int), (j : Int)) (lv, hp, pr)).1, (.inr (.inr x), none) :: r, (ax_ref oa ((j : Int), (j : Int)) (lv, hp, pr)).2.1, (ax_ref oa ((j : Int), (j : Int)) (lv, hp, pr)).2.2, cn) :: l)
    | _, _ => none
def ax_aald (len pc : Nat) (lv : ax_L) (st : ax_K) (hp : List ax_C) (pr : List ax_V) (cn : Nat × Nat) : Option (List ax_S) := match st with
  | (.inl a, oa) :: (.inr (.inr (some (k + 1))), _) :: r => match hp[k]? with
    | some (.inr ((.object _, n), .inr (.inr rs))) => if ax_ain a n = true ∧ len = 1 then ax_alds rs oa (pc + 1) lv r hp pr cn (a.1.2 - a.1.1 + 1).toNat a.1.1.toNat else none
    | _ => none
  | _ => none
def ax_nar (ty : FieldType) (v : ax_I) : ax_I := match ty with
  | .byte => if -128 ≤ v.1 ∧ v.2 ≤ 127 then v else (-128, 127)
  | .boolean => if 0 ≤ v.1 ∧ v.2 ≤ 1 then v else (0, 1)
  | _ => v
def ax_xst (ts : List FieldType) (len pc : Nat) (lv : ax_L) (st : ax_K) (hp : List ax_C) (pr : List ax_V) (cn : Nat × Nat) : Option (List ax_S) := match st with
  | (.inl v, _) :: (.inl a, _) :: (.inr (.inr (some k)), _) :: r => match ax_nums hp k with
    | some (ty, n, iv) => if ax_ain a n = true ∧ ty ∈ ts ∧ len = 1 then some [(pc + 1, lv, ax_nof r, hp.set (k - 1) (.inr ((ty, n), .inl (ax_hull iv (ax_nar ty v.1)))), pr, cn)] else none
    | none => none
  | _ => none
def ax_last (len pc : Nat) (lv : ax_L) (st : ax_K) (hp : List ax_C) (pr : List ax_V) (cn : Nat × Nat) : Option (List ax_S) := match st with
  | (.inr (.inl v), _) :: (.inl a, _) :: (.inr (.inr (some (k + 1))), _) :: r => match hp[k]? with
    | some (.inr ((.long, n), .inr (.inl iv))) => if ax_ain a n = true ∧ len = 1 then some [(pc + 1, lv, ax_nof r, hp.set k (.inr ((.long, n), .inr (.inl (ax_hull iv v)))), pr, cn)] else none
    | _ => none
  | _ => none
def ax_aast (len pc : Nat) (lv : ax_L) (st : ax_K) (hp : List ax_C) (pr : List ax_V) (cn : Nat × Nat) : Option (List ax_S) := match st with
  | (.inr (.inr (some (v + 1))), _) :: (.inl a, _) :: (.inr (.inr (some (k + 1))), _) :: r => match hp[k]?, hp[v]? with
    | some (.inr ((.object C, n), .inr (.inr rs))), some (.inl (ci, _)) => if ax_ain a n = true ∧ a.1.1 = a.1.2 ∧ (vwCl[ci]?).map (fun q => q.1) = some C ∧ len = 1 then some [(pc + 1, lv, ax_nof r, hp.set k (.inr ((.object C, n), .inr (.inr (rs.set a.1.1.toNat (some (v + 1)))))), pr, cn)] else none
    | _, _ => none
  | _ => none
def ax_alen (L : Nat) (len pc : Nat) (lv : ax_L) (st : ax_K) (hp : List ax_C) (pr : List ax_V) (cn : Nat × Nat) : Option (List ax_S) := match st with
  | (.inr (.inr (some 0)), _) :: r => if len = 1 ∧ 0 < L ∧ L < 2147483648 then some [(pc + 1, lv, (.inl ((((L - 1 : Nat) : Int), ((L - 1 : Nat) : Int)), none), none) :: r, hp, pr, cn)] else none
  | (.inr (.inr (some (k + 1))), _) :: r => match hp[k]? with
    | some (.inr ((_, n), _)) => if len = 1 ∧ n < 2147483648 then some [(pc + 1, lv, (.inl (((n : Int), (n : Int)), none), none) :: r, hp, pr, cn)] else none
    | _ => none
  | _ => none
def ax_fld (o i : Nat) : Option (Nat × (Nat × Nat)) := ax_get i (ax_ft o)
def ax_gf (own i : Nat) (len pc : Nat) (lv : ax_L) (st : ax_K) (hp : List ax_C) (pr : List ax_V) (cn : Nat × Nat) : Option (List ax_S) := match st with
  | (.inr (.inr (some (q + 1))), _) :: r => match ax_fld own i, hp[q]? with
    | some (ci, k, _), some (.inl (cj, fs)) => match fs[k]? with
      | some v => if ci = cj ∧ len = 3 then some [(pc + 3, lv, (v, some (.inr (.inl (q, k)))) :: r, hp, pr, cn)] else none
      | none => none
    | _, _ => none
  | _ => none
def ax_fits (ty : FieldType) (v : ax_V) : Bool := match ty, v with
  | .int, .inl _ => true
  | .boolean, .inl a => decide (0 ≤ a.1.1) && decide (a.1.2 ≤ 1)
  | .long, .inr (.inl _) => true
  | .object _, .inr (.inr _) => true
  | .array _, .inr (.inr _) => true
  | _, _ => false
/-- the field's class, and whether it is final: then only its own class's constructor writes it -/
def ax_wr (own ci k : Nat) (ini : Bool) : Bool := match vwCl[ci]? with
  | some (_, T, _) => if (T k).2.2.2 = true then ini && decide ((T k).1 = ax_nm own) else true
  | none => false
def ax_pf (own : Nat) (ini : Bool) (i : Nat) (len pc : Nat) (lv : ax_L) (st : ax_K) (hp : List ax_C) (pr : List ax_V) (cn : Nat × Nat) : Option (List ax_S) := match st with
  | (v, _) :: (.inr (.inr (some (q + 1))), _) :: r => match ax_fld own i, hp[q]? with
    | some (ci, k, _), some (.inl (cj, fs)) => if ci = cj ∧ k < fs.length ∧ ax_fits (ax_tyOf ci k) v = true ∧ ax_wr own ci k ini = true ∧ len = 3 then some [(pc + 3, lv, ax_nof r, hp.set q (.inl (cj, fs.set k v)), pr, cn)] else none
    | _, _ => none
  | _ => none
def ax_dv (ty : FieldType) : ax_V := match ty with
  | .long => .inr (.inl (0, 0))
  | .object _ => .inr (.inr none)
  | .array _ => .inr (.inr none)
  | _ => .inl ((0, 0), none)
def ax_dok (ty : FieldType) : Bool := match ty with
  | .float => false
  | .double => false
  | _ => true
def ax_dfl (ci N : Nat) : List ax_V := (List.range N).map (fun j => ax_dv (ax_tyOf ci j))
def ax_cnf (o i : Nat) : Option (Nat × (Nat × (Nat × (Nat × (Nat × Nat))))) := ax_cn.find? (fun e => e.1 == o && e.2.1 == i)
def ax_new (own i mc ms : Nat) (len pc : Nat) (lv : ax_L) (st : ax_K) (hp : List ax_C) (pr : List ax_V) (cn : Nat × Nat) : Option (List ax_S) := match ax_cnf own i with
  | some (_, _, ci, _) => match vwCl[ci]? with
    | some (_, _, N) => if (List.range N).all (fun j => ax_dok (ax_tyOf ci j)) = true ∧ cn.1 + 1 ≤ mc ∧ cn.2 + N ≤ ms ∧ len = 3 then some [(pc + 3, lv, (.inr (.inr (some (hp.length + 1))), none) :: st, hp ++ [.inl (ci, ax_dfl ci N)], pr, (cn.1 + 1, cn.2 + N))] else none
    | none => none
  | none => none
def ax_newa (ty : FieldType) (b0 : ax_I ⊕ (ax_I ⊕ List (Option Nat))) (mc ms : Nat) (len pc : Nat) (lv : ax_L) (st : ax_K) (hp : List ax_C) (pr : List ax_V) (cn : Nat × Nat) : Option (List ax_S) := match st with
  | (.inl ((.ofNat n, m), _), _) :: r => if m = .ofNat n ∧ n ≤ 1000000 ∧ cn.1 + 1 ≤ mc ∧ cn.2 + n ≤ ms ∧ len = 2 then some [(pc + 2, lv, (.inr (.inr (some (hp.length + 1))), none) :: r, hp ++ [.inr ((ty, n), b0)], pr, (cn.1 + 1, cn.2 + n))] else none
  | _ => none
def ax_newq (own i mc ms : Nat) (len pc : Nat) (lv : ax_L) (st : ax_K) (hp : List ax_C) (pr : List ax_V) (cn : Nat × Nat) : Option (List ax_S) := match st with
  | (.inl ((.ofNat n, m), _), _) :: r => match ax_cnf own i with
    | some (_, _, ci, _) => if ci = 3 ∧ m = .ofNat n ∧ n ≤ 1000000 ∧ cn.1 + 1 ≤ mc ∧ cn.2 + n ≤ ms ∧ len = 3 then some [(pc + 3, lv, (.inr (.inr (some (hp.length + 1))), none) :: r, hp ++ [.inr ((.object RX4, n), .inr (.inr (List.replicate n none)))], pr, (cn.1 + 1, cn.2 + n))] else none
    | none => none
  | _ => none
/-- the cases of a switch from j on, f of them -/
def ax_sws (offs : List Int) (lo : Int) (a : ax_I) (oa : ax_O) (pc : Nat) (lv : ax_L) (r : ax_K) (hp : List ax_C) (pr : List ax_V) (cn : Nat × Nat) : Nat → Nat → Option (List ax_S)
  | 0, _ => some []
  | f + 1, j => match offs[j]?, ax_sws offs lo a oa pc lv r hp pr cn f (j + 1) with
    | some off, some l => match ax_tgt pc off with
      | some t => some (ax_br 0 a (lo + j, lo + j) oa none t lv r hp pr cn ++ l)
      | none => none
    | _, _ => none
def ax_sw (dflt lo hi : Int) (offs : Array Int) (pc : Nat) (lv : ax_L) (st : ax_K) (hp : List ax_C) (pr : List ax_V) (cn : Nat × Nat) : Option (List ax_S) := match st with
  | (.inl a, oa) :: r => match ax_sws offs.toList lo a.1 oa pc lv r hp pr cn (hi - lo + 1).toNat 0, ax_tgt pc dflt with
    | some l, some t => some (l ++ (ax_br 2 a.1 (lo, lo) oa none t lv r hp pr cn ++ ax_br 4 a.1 (hi, hi) oa none t lv r hp pr cn))
    | _, _ => none
  | _ => none
/-- arguments and what the callee found out of them go back to where they were read -/
def ax_back : List ((ax_V × ax_O) × ax_V) → ax_L × (List ax_C × List ax_V) → ax_L × (List ax_C × List ax_V)
  | [], w => w
  | ((_, o), .inl n) :: r, w => ax_back r (ax_ref (ax_nofo o) n.1 w)
  | _ :: r, w => ax_back r w
def ax_res (pc : Nat) (lv : ax_L) (as rest : ax_K) (pr : List ax_V) (cn : Nat × Nat) (o : ax_R) : ax_S :=
  (pc, (ax_back (as.zip o.2.1) (lv, o.2.2, pr)).1, (match o.1 with | some v => (v, none) :: ax_nof rest | none => ax_nof rest), (ax_back (as.zip o.2.1) (lv, o.2.2, pr)).2.1, (ax_back (as.zip o.2.1) (lv, o.2.2, pr)).2.2, cn)
abbrev ax_F : Type := Nat → List ax_V → List ax_C → Option (List ax_R)
def ax_words (st : ax_K) : Nat := (st.map (fun q => ax_cat q.1)).sum
/-- the call of method mi with its arguments as (in order), the rest of the stack below them -/
def ax_do (call : ax_F) (mi mc ms : Nat) (t : ax_T) (as rest : ax_K) (len pc : Nat) (lv : ax_L) (hp : List ax_C) (pr : List ax_V) (cn : Nat × Nat) : Option (List ax_S) :=
  if ax_words rest ≤ 8 ∧ t.2.2.1 ≤ 21 ∧ cn.1 + t.2.2.2.2.2.2.1 ≤ mc ∧ cn.2 + t.2.2.2.2.2.2.2 ≤ ms ∧ len = 3 then
    match call mi (as.map (fun q => q.1)) hp with
    | some outs => some (outs.map (ax_res (pc + 3) lv as rest pr (cn.1 + t.2.2.2.2.2.2.1, cn.2 + t.2.2.2.2.2.2.2)))
    | none => none
  else none
/-- kinds: 0 static, 1 of an object, 2 a constructor -/
def ax_inv (call : ax_F) (kd mi mc ms : Nat) (len pc : Nat) (lv : ax_L) (st : ax_K) (hp : List ax_C) (pr : List ax_V) (cn : Nat × Nat) : Option (List ax_S) := match ax_tab[mi]? with
  | none => none
  | some t => if t.2.2.2.2.1.2 = kd then (match kd with
    | 0 => if t.2.2.2.2.2.1 ≤ st.length then ax_do call mi mc ms t (st.take t.2.2.2.2.2.1).reverse (st.drop t.2.2.2.2.2.1) len pc lv hp pr cn else none
    | _ => match st.drop t.2.2.2.2.2.1 with
      | (.inr (.inr (some (q + 1))), o) :: rest => match hp[q]? with
        | some (.inl (ci, _)) => if (vwCl[ci]?).map (fun z => z.1) = some t.1.cls then ax_do call mi mc ms t ((.inr (.inr (some (q + 1))), o) :: (st.take t.2.2.2.2.2.1).reverse) rest len pc lv hp pr cn else none
        | _ => none
      | _ => none) else none
def ax_lnk (o i : Nat) : Option (Nat × Nat) := ax_get i (ax_ml o)
def ax_nlk (o i : Nat) : Option (Nat × (Nat × Nat)) := ax_nl.find? (fun e => e.1 == o && e.2.1 == i)
def ax_oif (o i : Nat) : Option (Nat × (Nat × Nat)) := ax_oi.find? (fun e => e.1 == o && e.2.1 == i)
def ax_invk (call : ax_F) (own kd i mc ms : Nat) (len pc : Nat) (lv : ax_L) (st : ax_K) (hp : List ax_C) (pr : List ax_V) (cn : Nat × Nat) : Option (List ax_S) := match ax_lnk own i with
  | some (mi, _) => ax_inv call kd mi mc ms len pc lv st hp pr cn
  | none => match ax_nlk own i with
    | some (_, _, mi) => ax_inv call kd mi mc ms len pc lv st hp pr cn
    | none => none
def ax_spec (call : ax_F) (own i mc ms : Nat) (len pc : Nat) (lv : ax_L) (st : ax_K) (hp : List ax_C) (pr : List ax_V) (cn : Nat × Nat) : Option (List ax_S) := match ax_oif own i with
  | some _ => match st with
    | (.inr (.inr (some _)), _) :: r => if ax_words r ≤ 8 ∧ len = 3 then some [(pc + 3, lv, r, hp, pr, cn)] else none
    | _ => none
  | none => ax_invk call own 2 i mc ms len pc lv st hp pr cn
end AXQ
section AXR
def ax_icf (o i : Nat) : Option (Nat × (Nat × (Int32 × Nat))) := ax_ic.find? (fun e => e.1 == o && e.2.1 == i)
def ax_lcf (o i : Nat) : Option (Nat × (Nat × (Int64 × Nat))) := ax_lc.find? (fun e => e.1 == o && e.2.1 == i)
def ax_ldc (own i : Nat) (len pc : Nat) (lv : ax_L) (st : ax_K) (hp : List ax_C) (pr : List ax_V) (cn : Nat × Nat) : Option (List ax_S) := match ax_icf own i with
  | some e => ax_push (ax_c32 e.2.2.1) 2 len pc lv st hp pr cn
  | none => none
def ax_ldcw (own i : Nat) (len pc : Nat) (lv : ax_L) (st : ax_K) (hp : List ax_C) (pr : List ax_V) (cn : Nat × Nat) : Option (List ax_S) := match ax_icf own i with
  | some e => ax_push (ax_c32 e.2.2.1) 3 len pc lv st hp pr cn
  | none => none
def ax_ldc2 (own i : Nat) (len pc : Nat) (lv : ax_L) (st : ax_K) (hp : List ax_C) (pr : List ax_V) (cn : Nat × Nat) : Option (List ax_S) := match ax_lcf own i with
  | some e => ax_push (.inr (.inl (e.2.2.1.toInt, e.2.2.1.toInt))) 3 len pc lv st hp pr cn
  | none => none
def ax_iinc (nL i : Nat) (v : Int) (len pc : Nat) (lv : ax_L) (st : ax_K) (hp : List ax_C) (pr : List ax_V) (cn : Nat × Nat) : Option (List ax_S) := match ax_get i lv with
  | some (.inl a, _) => if len = 3 ∧ i < nL then some [(pc + 3, ax_put1 i (.inl (ax_add a (((Int32.ofInt v).toInt, (Int32.ofInt v).toInt), none))) lv, ax_nol st, hp, pr, cn)] else none
  | _ => none
def ax_ineg (len pc : Nat) (lv : ax_L) (st : ax_K) (hp : List ax_C) (pr : List ax_V) (cn : Nat × Nat) : Option (List ax_S) := match st with
  | (.inl a, _) :: r => if len = 1 then some [(pc + 1, lv, (.inl (ax_neg a), none) :: r, hp, pr, cn)] else none
  | _ => none
def ax_i2l (len pc : Nat) (lv : ax_L) (st : ax_K) (hp : List ax_C) (pr : List ax_V) (cn : Nat × Nat) : Option (List ax_S) := match st with
  | (.inl a, _) :: r => if len = 1 then some [(pc + 1, lv, (.inr (.inl a.1), none) :: r, hp, pr, cn)] else none
  | _ => none
def ax_l2i (len pc : Nat) (lv : ax_L) (st : ax_K) (hp : List ax_C) (pr : List ax_V) (cn : Nat × Nat) : Option (List ax_S) := match st with
  | (.inr (.inl a), _) :: r => if len = 1 then some [(pc + 1, lv, (.inl (ax_fitN a.1 a.2 none), none) :: r, hp, pr, cn)] else none
  | _ => none
def ax_i2b (len pc : Nat) (lv : ax_L) (st : ax_K) (hp : List ax_C) (pr : List ax_V) (cn : Nat × Nat) : Option (List ax_S) := match st with
  | (.inl _, _) :: r => if len = 1 then some [(pc + 1, lv, (.inl ((-128, 127), none), none) :: r, hp, pr, cn)] else none
  | _ => none
def ax_lcp (len pc : Nat) (lv : ax_L) (st : ax_K) (hp : List ax_C) (pr : List ax_V) (cn : Nat × Nat) : Option (List ax_S) := match st with
  | (.inr (.inl b), _) :: (.inr (.inl a), _) :: r => if len = 1 then some [(pc + 1, lv, (.inl (ax_lcmp a b), none) :: r, hp, pr, cn)] else none
  | _ => none
def ax_dup (len pc : Nat) (lv : ax_L) (st : ax_K) (hp : List ax_C) (pr : List ax_V) (cn : Nat × Nat) : Option (List ax_S) := match st with
  | a :: r => if len = 1 ∧ ax_cat a.1 = 1 then some [(pc + 1, lv, a :: a :: r, hp, pr, cn)] else none
  | _ => none
def ax_dup2 (len pc : Nat) (lv : ax_L) (st : ax_K) (hp : List ax_C) (pr : List ax_V) (cn : Nat × Nat) : Option (List ax_S) := match st with
  | a :: b :: r => if len = 1 ∧ ax_cat a.1 = 1 ∧ ax_cat b.1 = 1 then some [(pc + 1, lv, a :: b :: a :: b :: r, hp, pr, cn)] else none
  | _ => none
def ax_pop (len pc : Nat) (lv : ax_L) (st : ax_K) (hp : List ax_C) (pr : List ax_V) (cn : Nat × Nat) : Option (List ax_S) := match st with
  | a :: r => if len = 1 ∧ ax_cat a.1 = 1 then some [(pc + 1, lv, r, hp, pr, cn)] else none
  | _ => none
def ax_goto (off : Int) (len pc : Nat) (lv : ax_L) (st : ax_K) (hp : List ax_C) (pr : List ax_V) (cn : Nat × Nat) : Option (List ax_S) := match ax_tgt pc off with
  | some t => if len = 3 then some [(t, lv, st, hp, pr, cn)] else none
  | none => none
def ax_nul (z : Bool) (off : Int) (len pc : Nat) (lv : ax_L) (st : ax_K) (hp : List ax_C) (pr : List ax_V) (cn : Nat × Nat) : Option (List ax_S) := match ax_tgt pc off, st with
  | some t, (.inr (.inr none), _) :: r => if len = 3 then some [(if z = true then t else pc + 3, lv, r, hp, pr, cn)] else none
  | some t, (.inr (.inr (some _)), _) :: r => if len = 3 then some [(if z = true then pc + 3 else t, lv, r, hp, pr, cn)] else none
  | _, _ => none
def ax_mmf (o i : Nat) : Option (Nat × (Nat × (Nat × Nat))) := ax_mm.find? (fun e => e.1 == o && e.2.1 == i)
def ax_mmx (k : Nat) (a b : ax_I) : ax_I := if k = 0 then (min a.1 b.1, min a.2 b.2) else (max a.1 b.1, max a.2 b.2)
def ax_mmo (k len pc : Nat) (lv : ax_L) (st : ax_K) (hp : List ax_C) (pr : List ax_V) (cn : Nat × Nat) (mc ms : Nat) : Option (List ax_S) := match st with
  | (.inl b, _) :: (.inl a, _) :: r => if len = 3 ∧ ax_words r ≤ 8 ∧ cn.1 ≤ mc ∧ cn.2 ≤ ms then some [(pc + 3, lv, (.inl (ax_mmx k a.1 b.1, none), none) :: r, hp, pr, cn)] else none
  | _ => none
def ax_stat (call : ax_F) (own i mc ms : Nat) (len pc : Nat) (lv : ax_L) (st : ax_K) (hp : List ax_C) (pr : List ax_V) (cn : Nat × Nat) : Option (List ax_S) := match ax_mmf own i with
  | some e => ax_mmo e.2.2.1 len pc lv st hp pr cn mc ms
  | none => ax_invk call own 0 i mc ms len pc lv st hp pr cn
end AXR
end
section
/-! ABSTRACT RUNS: an instruction by its kind, a run, a method -/
section AXU
def ax_dV : DecidableEq ax_V := inferInstance
def ax_dLV : DecidableEq (List ax_V) := @instDecidableEqList _ ax_dV
def ax_d4 : DecidableEq (Nat × List ax_V) := @instDecidableEqProd _ _ inferInstance ax_dLV
def ax_d5 : DecidableEq (ax_I ⊕ (ax_I ⊕ List (Option Nat))) := inferInstance
def ax_d6 : DecidableEq ((FieldType × Nat) × (ax_I ⊕ (ax_I ⊕ List (Option Nat)))) := @instDecidableEqProd _ _ inferInstance ax_d5
def ax_dC : DecidableEq ax_C := @instDecidableEqSum _ _ ax_d4 ax_d6
def ax_dLC : DecidableEq (List ax_C) := @instDecidableEqList _ ax_dC
def ax_sameR (o q : ax_R) : Bool := @decide (o.1.toList = q.1.toList) (ax_dLV _ _) && @decide (o.2.2 = q.2.2) (ax_dLC _ _)
/-- ends that answer alike, with the same cells, are one -/
def ax_mg (mi : Nat) (as : List ax_V) (outs : List ax_R) : List ax_R := if ax_mgl.contains mi = true then (match outs with
  | o :: r => if r.all (fun q => ax_sameR o q) = true then [(o.1, as, o.2.2)] else outs
  | [] => []) else outs
def ax_op (own : Nat) (ini : Bool) (nL L mc ms : Nat) (call : ax_F) (i : Instr) (len pc : Nat) (lv : ax_L) (st : ax_K) (hp : List ax_C) (pr : List ax_V) (cn : Nat × Nat) : Option (List ax_S) := match i with
  | .iconst v => ax_push (ax_c32 (Int32.ofInt v)) 1 len pc lv st hp pr cn
  | .bipush v => ax_push (ax_c32 (Int8.ofInt v).toInt32) 2 len pc lv st hp pr cn
  | .sipush v => ax_push (ax_c32 (Int16.ofInt v).toInt32) 3 len pc lv st hp pr cn
  | .lconst v => ax_push (.inr (.inl ((Int64.ofNat v).toInt, (Int64.ofNat v).toInt))) 1 len pc lv st hp pr cn
  | .aconst_null => ax_push (.inr (.inr none)) 1 len pc lv st hp pr cn
  | .ldc j => ax_ldc own j len pc lv st hp pr cn
  | .ldc_w j => ax_ldcw own j len pc lv st hp pr cn
  | .ldc2_w j => ax_ldc2 own j len pc lv st hp pr cn
  | .iload_n j => ax_ld 0 j 1 len pc lv st hp pr cn
  | .iload j => ax_ld 0 j 2 len pc lv st hp pr cn
  | .lload_n j => ax_ld 1 j 1 len pc lv st hp pr cn
  | .lload j => ax_ld 1 j 2 len pc lv st hp pr cn
  | .aload_n j => ax_ld 2 j 1 len pc lv st hp pr cn
  | .aload j => ax_ld 2 j 2 len pc lv st hp pr cn
  | .istore_n j => ax_st 0 nL j 1 len pc lv st hp pr cn
  | .istore j => ax_st 0 nL j 2 len pc lv st hp pr cn
  | .lstore_n j => ax_st 1 nL j 1 len pc lv st hp pr cn
  | .lstore j => ax_st 1 nL j 2 len pc lv st hp pr cn
  | .astore_n j => ax_st 2 nL j 1 len pc lv st hp pr cn
  | .astore j => ax_st 2 nL j 2 len pc lv st hp pr cn
  | .iinc j v => ax_iinc nL j v len pc lv st hp pr cn
  | .iadd => ax_ii (fun a b => some (ax_add a b)) len pc lv st hp pr cn
  | .isub => ax_ii (fun a b => some (ax_sub a b)) len pc lv st hp pr cn
  | .imul => ax_ii (fun a b => some (ax_mul a b)) len pc lv st hp pr cn
  | .idiv => ax_ii ax_div len pc lv st hp pr cn
  | .irem => ax_ii ax_rem len pc lv st hp pr cn
  | .iand => ax_ii (fun a b => some (ax_and a b)) len pc lv st hp pr cn
  | .ior => ax_ii (fun _ _ => some ax_topN) len pc lv st hp pr cn
  | .ixor => ax_ii (fun _ _ => some ax_topN) len pc lv st hp pr cn
  | .ishl => ax_ii (fun _ _ => some ax_topN) len pc lv st hp pr cn
  | .ishr => ax_ii (fun _ _ => some ax_topN) len pc lv st hp pr cn
  | .iushr => ax_ii (fun _ _ => some ax_topN) len pc lv st hp pr cn
  | .ineg => ax_ineg len pc lv st hp pr cn
  | .i2l => ax_i2l len pc lv st hp pr cn
  | .l2i => ax_l2i len pc lv st hp pr cn
  | .i2b => ax_i2b len pc lv st hp pr cn
  | .ladd => ax_ll (fun _ _ => some ax_topL) len pc lv st hp pr cn
  | .lsub => ax_ll (fun _ _ => some ax_topL) len pc lv st hp pr cn
  | .lmul => ax_ll (fun _ _ => some ax_topL) len pc lv st hp pr cn
  | .ldiv => ax_ll ax_ldiv len pc lv st hp pr cn
  | .lrem => ax_ll ax_ldiv len pc lv st hp pr cn
  | .lcmp => ax_lcp len pc lv st hp pr cn
  | .dup => ax_dup len pc lv st hp pr cn
  | .dup2 => ax_dup2 len pc lv st hp pr cn
  | .pop => ax_pop len pc lv st hp pr cn
  | .ifCond .eq off => ax_if1 0 1 off len pc lv st hp pr cn
  | .ifCond .ne off => ax_if1 1 0 off len pc lv st hp pr cn
  | .ifCond .lt off => ax_if1 2 3 off len pc lv st hp pr cn
  | .ifCond .ge off => ax_if1 3 2 off len pc lv st hp pr cn
  | .ifCond .gt off => ax_if1 4 5 off len pc lv st hp pr cn
  | .ifCond .le off => ax_if1 5 4 off len pc lv st hp pr cn
  | .if_icmp .eq off => ax_if2 0 1 off len pc lv st hp pr cn
  | .if_icmp .ne off => ax_if2 1 0 off len pc lv st hp pr cn
  | .if_icmp .lt off => ax_if2 2 3 off len pc lv st hp pr cn
  | .if_icmp .ge off => ax_if2 3 2 off len pc lv st hp pr cn
  | .if_icmp .gt off => ax_if2 4 5 off len pc lv st hp pr cn
  | .if_icmp .le off => ax_if2 5 4 off len pc lv st hp pr cn
  | .goto off => ax_goto off len pc lv st hp pr cn
  | .ifnull off => ax_nul true off len pc lv st hp pr cn
  | .ifnonnull off => ax_nul false off len pc lv st hp pr cn
  | .tableswitch d lo hi offs => if -2147483648 ≤ lo ∧ lo ≤ 2147483647 ∧ -2147483648 ≤ hi ∧ hi ≤ 2147483647 then ax_sw d lo hi offs pc lv st hp pr cn else none
  | .getfield j => ax_gf own j len pc lv st hp pr cn
  | .putfield j => ax_pf own ini j len pc lv st hp pr cn
  | .iaload => ax_iald L len pc lv st hp pr cn
  | .baload => ax_xld [.byte, .boolean] len pc lv st hp pr cn
  | .laload => ax_lald len pc lv st hp pr cn
  | .aaload => ax_aald len pc lv st hp pr cn
  | .iastore => ax_xst [.int] len pc lv st hp pr cn
  | .bastore => ax_xst [.byte, .boolean] len pc lv st hp pr cn
  | .lastore => ax_last len pc lv st hp pr cn
  | .aastore => ax_aast len pc lv st hp pr cn
  | .arraylength => ax_alen L len pc lv st hp pr cn
  | .newarray .int => ax_newa .int (.inl (0, 0)) mc ms len pc lv st hp pr cn
  | .newarray .byte => ax_newa .byte (.inl (0, 0)) mc ms len pc lv st hp pr cn
  | .newarray .boolean => ax_newa .boolean (.inl (0, 0)) mc ms len pc lv st hp pr cn
  | .newarray .long => ax_newa .long (.inr (.inl (0, 0))) mc ms len pc lv st hp pr cn
  | .anewarray j => ax_newq own j mc ms len pc lv st hp pr cn
  | .new j => ax_new own j mc ms len pc lv st hp pr cn
  | .invokevirtual j => ax_invk call own 1 j mc ms len pc lv st hp pr cn
  | .invokestatic j => ax_stat call own j mc ms len pc lv st hp pr cn
  | .invokespecial j => ax_spec call own j mc ms len pc lv st hp pr cn
  | _ => none
def ax_stp (own : Nat) (ini : Bool) (nL L mc ms : Nat) (cc : ByteArray) (call : ax_F) (S : ax_S) : Option (List ax_S) := match decode cc S.1 with
  | .ok (i, len) => ax_op own ini nL L mc ms call i len S.1 S.2.1 S.2.2.1 S.2.2.2.1 S.2.2.2.2.1 S.2.2.2.2.2
  | .error _ => none
def ax_run (stp : ax_S → Option (List ax_S)) (fin : Nat → Bool) : Nat → List ax_S → List ax_S → Option (List ax_S)
  | 0, _, _ => none
  | _ + 1, [], acc => some acc
  | f + 1, S :: r, acc => if fin S.1 = true then ax_run stp fin f r (S :: acc) else match stp S with
    | none => none
    | some l => ax_run stp fin f (l ++ r) acc
def ax_fin (cc : ByteArray) (pc : Nat) : Bool := match decode cc pc with
  | .ok (.ireturn, 1) => true
  | .ok (.lreturn, 1) => true
  | .ok (.areturn, 1) => true
  | .ok (.return_, 1) => true
  | _ => false
/-- the places of a world of n cells, as references -/
def ax_pl (n : Nat) : List ax_V := (List.range n).map (fun k => .inr (.inr (some (k + 1))))
/-- what a method gives back, where a run of it ended: its answer, what is known of its arguments (na), the cells; those that were there (nh) keep their places -/
def ax_out (cc : ByteArray) (ret : Option FieldType) (na nh mc ms : Nat) (S : ax_S) : Option ax_R := if S.2.2.2.2.2.1 ≤ mc ∧ S.2.2.2.2.2.2 ≤ ms ∧ S.2.2.2.2.1.drop na = ax_pl nh then (match decode cc S.1, ret, S.2.2.1 with
  | .ok (.return_, 1), none, [] => some (none, S.2.2.2.2.1.take na, S.2.2.2.1)
  | .ok (.ireturn, 1), some .int, [(.inl a, _)] => some (some (.inl a), S.2.2.2.2.1.take na, S.2.2.2.1)
  | .ok (.ireturn, 1), some .boolean, [(.inl a, _)] => if 0 ≤ a.1.1 ∧ a.1.2 ≤ 1 then some (some (.inl a), S.2.2.2.2.1.take na, S.2.2.2.1) else none
  | .ok (.lreturn, 1), some .long, [(.inr (.inl a), _)] => some (some (.inr (.inl a)), S.2.2.2.2.1.take na, S.2.2.2.1)
  | .ok (.areturn, 1), some (.object _), [(.inr (.inr a), _)] => some (some (.inr (.inr a)), S.2.2.2.2.1.take na, S.2.2.2.1)
  | _, _, _ => none) else none
def ax_mapO {α β : Type} (f : α → Option β) : List α → Option (List β)
  | [] => some []
  | a :: r => match f a, ax_mapO f r with
    | some b, some l => some (b :: l)
    | _, _ => none
def ax_ent : Nat → Nat → List ax_V → ax_L
  | _, _, [] => []
  | i, j, a :: r => (i, (a, some j)) :: ax_ent (if ax_cat a = 2 then i + 2 else i + 1) (j + 1) r
def ax_slots (as : List ax_V) : Nat := (as.map ax_cat).sum
def ax_meth : Nat → ax_F
  | 0, _, _, _ => none
  | d + 1, mi, as, hp => match ax_tab[mi]? with
    | none => none
    | some t => if ax_slots as ≤ t.2.2.1 then
        match ax_run (ax_stp t.2.2.2.2.1.1 (decide (t.2.2.2.2.1.2 = 2)) t.2.2.1 0 t.2.2.2.2.2.2.1 t.2.2.2.2.2.2.2 t.2.1 (ax_meth d)) (ax_fin t.2.1) 4000 [(0, ax_ent 0 0 as, [], hp, as ++ ax_pl hp.length, (0, 0))] [] with
        | some l => match ax_mapO (ax_out t.2.1 t.2.2.2.1 as.length hp.length t.2.2.2.2.2.2.1 t.2.2.2.2.2.2.2) l with
          | some outs => some (ax_mg mi as outs)
          | none => none
        | none => none
      else none
end AXU
end
section
/-! ABSTRACT RUNS: what an abstract state says of a real one -/
section AXM
def ax_ok (γ : Nat → Int) (R : List Nat) (a : ax_V) (v : Value) : Prop := match a, v with
  | .inl a, .int x => ax_nok γ a x.toInt
  | .inr (.inl a), .long x => a.1 ≤ x.toInt ∧ x.toInt ≤ a.2
  | .inr (.inr none), .null => True
  | .inr (.inr (some k)), .ref q => R[k]? = some q
  | _, _ => False
theorem ax_ok_i {γ : Nat → Int} {R : List Nat} {a : ax_N} {v : Value} (h : ax_ok γ R (.inl a) v) : ∃ x, v = .int x ∧ ax_nok γ a x.toInt := by
  cases v with
  | int x => exact ⟨x, rfl, h⟩
  | _ => exact False.elim h
theorem ax_ok_l {γ : Nat → Int} {R : List Nat} {a : ax_I} {v : Value} (h : ax_ok γ R (.inr (.inl a)) v) : ∃ x, v = .long x ∧ a.1 ≤ x.toInt ∧ x.toInt ≤ a.2 := by
  cases v with
  | long x => exact ⟨x, rfl, h⟩
  | _ => exact False.elim h
theorem ax_ok_n {γ : Nat → Int} {R : List Nat} {v : Value} (h : ax_ok γ R (.inr (.inr none)) v) : v = .null := by
  cases v with
  | null => rfl
  | _ => exact False.elim h
theorem ax_ok_r {γ : Nat → Int} {R : List Nat} {k : Nat} {v : Value} (h : ax_ok γ R (.inr (.inr (some k))) v) : ∃ q, v = .ref q ∧ R[k]? = some q := by
  cases v with
  | ref q => exact ⟨q, rfl, h⟩
  | _ => exact False.elim h
theorem ax_ok_cat {γ : Nat → Int} {R : List Nat} {a : ax_V} {v : Value} (h : ax_ok γ R a v) : ax_cat a = v.category := by
  rcases a with a | a | (_ | a)
  · obtain ⟨x, rfl, -⟩ := ax_ok_i h; rfl
  · obtain ⟨x, rfl, -⟩ := ax_ok_l h; rfl
  · cases ax_ok_n h; rfl
  · obtain ⟨x, rfl, -⟩ := ax_ok_r h; rfl
/-- more places: what was said stays -/
theorem ax_ok_more {γ : Nat → Int} {R R' : List Nat} (hR : ∀ (k q : Nat), R[k]? = some q → R'[k]? = some q) {a : ax_V} {v : Value} (h : ax_ok γ R a v) : ax_ok γ R' a v := by
  rcases a with a | a | (_ | a)
  · obtain ⟨x, rfl, h1⟩ := ax_ok_i h; exact h1
  · obtain ⟨x, rfl, h1⟩ := ax_ok_l h; exact h1
  · cases ax_ok_n h; exact trivial
  · obtain ⟨x, rfl, h1⟩ := ax_ok_r h; exact hR _ _ h1
def ax_rok (R : List Nat) (r x : Option Nat) : Prop := match r, x with
  | none, none => True
  | some k, some a => R[k]? = some a
  | _, _ => False
theorem ax_rok_more {R R' : List Nat} (hR : ∀ (k q : Nat), R[k]? = some q → R'[k]? = some q) {r x : Option Nat} (h : ax_rok R r x) : ax_rok R' r x := by
  cases r <;> cases x <;> first | trivial | exact False.elim h | exact hR _ _ h
theorem ax_rok_v {γ : Nat → Int} {R : List Nat} {r x : Option Nat} (h : ax_rok R r x) : ax_ok γ R (.inr (.inr r)) (va_rf x) := by
  cases r <;> cases x <;> first | trivial | exact False.elim h | exact h
def ax_cok (γ : Nat → Int) (R : List Nat) (tys : List (ClassId × FieldType)) (c : ax_C) (w : va_E) : Prop := match c, w with
  | .inl (ci, fs), .inr (cj, vs) => ci = cj ∧ ax_all2 (ax_ok γ R) fs vs
  | .inr ((ty, n), .inl iv), .inl (cA, n', .inl f) => n = n' ∧ (∃ t0 : Nat, tys[t0]? = some (cA, ty)) ∧ ∀ j, j < n → iv.1 ≤ (f j).toInt ∧ (f j).toInt ≤ iv.2
  | .inr ((ty, n), .inr (.inl iv)), .inl (cA, n', .inr (.inl f)) => n = n' ∧ (∃ t0 : Nat, tys[t0]? = some (cA, ty)) ∧ ∀ j, j < n → iv.1 ≤ (f j).toInt ∧ (f j).toInt ≤ iv.2
  | .inr ((ty, n), .inr (.inr rs)), .inl (cA, n', .inr (.inr (.inr (.inr f)))) => n = n' ∧ (∃ t0 : Nat, tys[t0]? = some (cA, ty)) ∧ ∀ j, j < n → ∃ r, rs[j]? = some r ∧ ax_rok R r (f j)
  | _, _ => False
theorem ax_cok_o {γ : Nat → Int} {R : List Nat} {tys : List (ClassId × FieldType)} {ci : Nat} {fs : List ax_V} {w : va_E} (h : ax_cok γ R tys (.inl (ci, fs)) w) : ∃ vs, w = .inr (ci, vs) ∧ ax_all2 (ax_ok γ R) fs vs := by
  rcases w with ⟨cA, n', f⟩ | ⟨cj, vs⟩
  · exact False.elim h
  · obtain ⟨rfl, h2⟩ := h
    exact ⟨vs, rfl, h2⟩
theorem ax_cok_n {γ : Nat → Int} {R : List Nat} {tys : List (ClassId × FieldType)} {ty : FieldType} {n : Nat} {iv : ax_I} {w : va_E} (h : ax_cok γ R tys (.inr ((ty, n), .inl iv)) w) : ∃ (cA : ClassId) (f : Nat → Int32), w = .inl (cA, n, .inl f) ∧ (∃ t0 : Nat, tys[t0]? = some (cA, ty)) ∧ ∀ j, j < n → iv.1 ≤ (f j).toInt ∧ (f j).toInt ≤ iv.2 := by
  rcases w with ⟨cA, n', f | f | f | f | f⟩ | ⟨cj, vs⟩
  · obtain ⟨rfl, h2, h3⟩ := h
    exact ⟨cA, f, rfl, h2, h3⟩
  all_goals exact False.elim h
theorem ax_cok_l {γ : Nat → Int} {R : List Nat} {tys : List (ClassId × FieldType)} {ty : FieldType} {n : Nat} {iv : ax_I} {w : va_E} (h : ax_cok γ R tys (.inr ((ty, n), .inr (.inl iv))) w) : ∃ (cA : ClassId) (f : Nat → Int64), w = .inl (cA, n, .inr (.inl f)) ∧ (∃ t0 : Nat, tys[t0]? = some (cA, ty)) ∧ ∀ j, j < n → iv.1 ≤ (f j).toInt ∧ (f j).toInt ≤ iv.2 := by
  rcases w with ⟨cA, n', f | f | f | f | f⟩ | ⟨cj, vs⟩
  · exact False.elim h
  · obtain ⟨rfl, h2, h3⟩ := h
    exact ⟨cA, f, rfl, h2, h3⟩
  all_goals exact False.elim h
theorem ax_cok_q {γ : Nat → Int} {R : List Nat} {tys : List (ClassId × FieldType)} {ty : FieldType} {n : Nat} {rs : List (Option Nat)} {w : va_E} (h : ax_cok γ R tys (.inr ((ty, n), .inr (.inr rs))) w) : ∃ (cA : ClassId) (f : Nat → Option Nat), w = .inl (cA, n, .inr (.inr (.inr (.inr f)))) ∧ (∃ t0 : Nat, tys[t0]? = some (cA, ty)) ∧ ∀ j, j < n → ∃ r, rs[j]? = some r ∧ ax_rok R r (f j) := by
  rcases w with ⟨cA, n', f | f | f | f | f⟩ | ⟨cj, vs⟩
  · exact False.elim h
  · exact False.elim h
  · exact False.elim h
  · exact False.elim h
  · obtain ⟨rfl, h2, h3⟩ := h
    exact ⟨cA, f, rfl, h2, h3⟩
  · exact False.elim h
theorem ax_cok_more {γ : Nat → Int} {R R' : List Nat} {tys tys' : List (ClassId × FieldType)} (hR : ∀ (k q : Nat), R[k]? = some q → R'[k]? = some q) (ht : ∀ (k : Nat) (q : ClassId × FieldType), tys[k]? = some q → tys'[k]? = some q) {c : ax_C} {w : va_E} (h : ax_cok γ R tys c w) : ax_cok γ R' tys' c w := by
  rcases c with ⟨ci, fs⟩ | ⟨⟨ty, n⟩, iv | iv | rs⟩
  · obtain ⟨vs, rfl, h1⟩ := ax_cok_o h
    exact ⟨rfl, ax_all2_mono (fun _ _ => ax_ok_more hR) h1⟩
  · obtain ⟨cA, f, rfl, ⟨t0, h1⟩, h2⟩ := ax_cok_n h
    exact ⟨rfl, ⟨t0, ht _ _ h1⟩, h2⟩
  · obtain ⟨cA, f, rfl, ⟨t0, h1⟩, h2⟩ := ax_cok_l h
    exact ⟨rfl, ⟨t0, ht _ _ h1⟩, h2⟩
  · obtain ⟨cA, f, rfl, ⟨t0, h1⟩, h2⟩ := ax_cok_q h
    refine ⟨rfl, ⟨t0, ht _ _ h1⟩, fun j hj => ?_⟩
    obtain ⟨r, h3, h4⟩ := h2 j hj
    exact ⟨r, h3, ax_rok_more hR h4⟩
def ax_RR (b : Nat) (ws : va_W) : List Nat := b :: ws.map (fun q => q.1)
def ax_org (pv : List Value) (cv : List (Nat × Value)) (ws : va_W) (o : ax_O) (v : Value) : Prop := match o with
  | none => True
  | some (.inl i) => ax_get i cv = some v
  | some (.inr (.inl (q, k))) => ∃ (a ci : Nat) (fs : List Value), ws[q]? = some (a, .inr (ci, fs)) ∧ fs[k]? = some v
  | some (.inr (.inr j)) => pv[j]? = some v
def ax_lok (γ : Nat → Int) (R : List Nat) (pv : List Value) (q : ax_V × Option Nat) (v : Value) : Prop := ax_ok γ R q.1 v ∧ ∀ j, q.2 = some j → pv[j]? = some v
def ax_sok (γ : Nat → Int) (R : List Nat) (pv : List Value) (cv : List (Nat × Value)) (ws : va_W) (q : ax_V × ax_O) (v : Value) : Prop := ax_ok γ R q.1 v ∧ ax_org pv cv ws q.2 v
def ax_lvs (γ : Nat → Int) (R : List Nat) (pv : List Value) (lv : ax_L) (cv : List (Nat × Value)) : Prop := ax_all2 (fun q r => q.1 = r.1 ∧ ax_lok γ R pv q.2 r.2) lv cv
def ax_hps (γ : Nat → Int) (R : List Nat) (tys : List (ClassId × FieldType)) (hp : List ax_C) (ws : va_W) : Prop := ax_all2 (fun c w => ax_cok γ R tys c w.2) hp ws
def ax_M (γ : Nat → Int) (b : Nat) (pv : List Value) (lv : ax_L) (st : ax_K) (hp : List ax_C) (pr : List ax_V) (cv : List (Nat × Value)) (cs : List Value) (ws : va_W) (tys : List (ClassId × FieldType)) : Prop :=
  ax_all2 (ax_ok γ (ax_RR b ws)) pr pv ∧ ax_lvs γ (ax_RR b ws) pv lv cv ∧ ax_all2 (ax_sok γ (ax_RR b ws) pv cv ws) st cs ∧ ax_hps γ (ax_RR b ws) tys hp ws
theorem ax_popk {α β : Type} {P : α → β → Prop} {q : α} {st : List α} {cs : List β} (h : ax_all2 P (q :: st) cs) : ∃ v cr, cs = v :: cr ∧ P q v ∧ ax_all2 P st cr := by
  cases cs with
  | nil => exact False.elim h
  | cons v cr => exact ⟨v, cr, rfl, h.1, h.2⟩
theorem ax_bnd_ok {γ : Nat → Int} {R : List Nat} {iv : ax_I} {a : ax_V} {x : Int32} (h : ax_ok γ R a (.int x)) (hx : iv.1 ≤ x.toInt ∧ x.toInt ≤ iv.2) : ax_ok γ R (ax_bnd iv a) (.int x) := by
  rcases a with a | a | (_ | a)
  · obtain ⟨⟨h1, h2⟩, h3⟩ := (show ax_nok γ a x.toInt from h)
    exact ⟨⟨by show max iv.1 a.1.1 ≤ _; omega, by show _ ≤ min iv.2 a.1.2; omega⟩, h3⟩
  all_goals exact False.elim h
theorem ax_lvup_ok {γ : Nat → Int} {R : List Nat} {pv : List Value} {iv : ax_I} {x : Int32} {i : Nat} (hx : iv.1 ≤ x.toInt ∧ x.toInt ≤ iv.2) : ∀ {lv : ax_L} {cv : List (Nat × Value)}, ax_lvs γ R pv lv cv → ax_get i cv = some (.int x) → ax_lvs γ R pv (ax_lvup i iv lv) cv
  | [], [], _, _ => trivial
  | q :: lv, r :: cv, h, e => by
    unfold ax_lvup
    unfold ax_get at e
    split
    · rename_i hq
      rw [if_pos (by rw [← h.1.1]; exact hq)] at e
      have e2 : r.2 = .int x := by simpa using e
      refine ⟨⟨h.1.1, ?_, h.1.2.2⟩, h.2⟩
      have h2 := h.1.2.1
      rw [e2] at h2 ⊢
      exact ax_bnd_ok h2 hx
    · rename_i hq
      rw [if_neg (by rw [← h.1.1]; exact hq)] at e
      exact ⟨h.1, ax_lvup_ok hx h.2 e⟩
  | [], _ :: _, h, _ => False.elim h
  | _ :: _, [], h, _ => False.elim h
theorem ax_upd_ok {α β : Type} {P : α → β → Prop} {l : List α} {k : List β} {j : Nat} {v : β} {f : α → α} (h : ax_all2 P l k) (e : k[j]? = some v) (hf : ∀ a, P a v → P (f a) v) : ax_all2 P (ax_upd l j f) k := by
  unfold ax_upd
  split
  · rename_i a ha
    obtain ⟨v2, h1, h2⟩ := ax_all2_get h ha
    rw [e] at h1
    cases h1
    exact ax_all2_setL h e (hf a h2)
  · exact h
theorem ax_ref_ok {γ : Nat → Int} {b : Nat} {pv : List Value} {o : ax_O} {iv : ax_I} {x : Int32} {lv : ax_L} {st : ax_K} {hp : List ax_C} {pr : List ax_V} {cv : List (Nat × Value)} {cs : List Value} {ws : va_W} {tys : List (ClassId × FieldType)}
    (ho : ax_org pv cv ws o (.int x)) (hx : iv.1 ≤ x.toInt ∧ x.toInt ≤ iv.2) (h : ax_M γ b pv lv st hp pr cv cs ws tys) : ax_M γ b pv (ax_ref o iv (lv, hp, pr)).1 st (ax_ref o iv (lv, hp, pr)).2.1 (ax_ref o iv (lv, hp, pr)).2.2 cv cs ws tys := by
  obtain ⟨h1, h2, h3, h4⟩ := h
  rcases o with _ | i | ⟨q, k⟩ | j
  · exact ⟨h1, h2, h3, h4⟩
  · have ho : ax_get i cv = some (.int x) := ho
    have g : ∀ (a : ax_V) (j : Nat), ax_get i lv = some (a, some j) → pv[j]? = some (.int x) := by
      intro a j e
      obtain ⟨v, e1, e2⟩ := ax_get_ok (P := fun q v => ax_lok γ (ax_RR b ws) pv q v) h2 e
      rw [ho] at e1
      cases e1
      exact e2.2 j rfl
    unfold ax_ref
    dsimp only
    split
    · rename_i a j e
      exact ⟨ax_upd_ok h1 (g a j e) (fun a h => ax_bnd_ok h hx), ax_lvup_ok hx h2 ho, h3, h4⟩
    · exact ⟨h1, ax_lvup_ok hx h2 ho, h3, h4⟩
  · obtain ⟨a, ci, fs, e1, e2⟩ := ho
    refine ⟨h1, h2, h3, ?_⟩
    refine ax_upd_ok h4 e1 ?_
    intro c hc
    rcases c with ⟨cj, as⟩ | c
    · obtain ⟨vs, e3, e4⟩ := ax_cok_o hc
      cases e3
      exact ⟨rfl, ax_upd_ok e4 e2 (fun a h => ax_bnd_ok h hx)⟩
    · exact hc
  · exact ⟨ax_upd_ok h1 ho (fun a h => ax_bnd_ok h hx), h2, h3, h4⟩
def ax_p (k : Nat) (x y : Int) : Prop := match k with
  | 0 => x = y
  | 1 => ¬ x = y
  | 2 => x < y
  | 3 => y ≤ x
  | 4 => y < x
  | _ => x ≤ y
theorem ax_rel_ok {k : Nat} {a b : ax_I} {x y : Int} (ha : a.1 ≤ x ∧ x ≤ a.2) (hb : b.1 ≤ y ∧ y ≤ b.2) (h : ax_p k x y) : ∃ iv, ax_rel k a b = some iv ∧ (iv.1.1 ≤ x ∧ x ≤ iv.1.2) ∧ iv.2.1 ≤ y ∧ y ≤ iv.2.2 := by
  have key : ((ax_rel2 k a b).1.1 ≤ x ∧ x ≤ (ax_rel2 k a b).1.2) ∧ (ax_rel2 k a b).2.1 ≤ y ∧ y ≤ (ax_rel2 k a b).2.2 := by
    match k, h with
    | 0, h => simp only [ax_p] at h; simp only [ax_rel2]; omega
    | 1, h =>
      simp only [ax_p] at h
      simp only [ax_rel2, ax_ne1]
      refine ⟨?_, ?_⟩
      · split
        · split
          · dsimp only; omega
          · split
            · dsimp only; omega
            · exact ha
        · exact ha
      · split
        · split
          · dsimp only; omega
          · split
            · dsimp only; omega
            · exact hb
        · exact hb
    | 2, h => simp only [ax_p] at h; simp only [ax_rel2]; omega
    | 3, h => simp only [ax_p] at h; simp only [ax_rel2]; omega
    | 4, h => simp only [ax_p] at h; simp only [ax_rel2]; omega
    | n + 5, h => simp only [ax_p] at h; simp only [ax_rel2]; omega
  refine ⟨ax_rel2 k a b, ?_, key⟩
  unfold ax_rel
  rw [if_pos ⟨by omega, by omega⟩]
end AXM
end
section
/-! ABSTRACT RUNS: each instruction is sound, first part -/
section AXS1
variable {p : Program} {l : Launch} {e : Env} {R : Room} {s : State} {m : MethodId} {args : Array Value} {below : List Frame} {meth : Method} {c : Code} {Q : State → Prop} {D : va_G} {A : Nat → Prop} {b : Nat} {γ : Nat → Int} {pv : List Value} {own : Nat} {ini : Bool} {nL L mc ms d : Nat} {cc : ByteArray} {xs : Nat → Int32} {call : ax_F}
/-- what holds of a method that runs: the machine, its class, the words, its room; and of the script, where it is at hand (L: its length and one more) -/
def ax_X (p : Program) (R : Room) (s : State) (m : MethodId) (args : Array Value) (meth : Method) (c : Code) (A : Nat → Prop) (b : Nat) (γ : Nat → Int) (pv : List Value) (own : Nat) (ini : Bool) (nL L mc ms d : Nat) (cc : ByteArray) (xs : Nat → Int32) : Prop :=
  (p.tables.exec = Jvm.exec ∧ c.code = cc ∧ c.maxLocals = nL ∧ s.vm.findClass (ax_nm own) = some m.cls ∧ ∀ w ∈ ax_W, w.before args s = true) ∧
  (ini = true → meth.name = "<init>") ∧ (∀ w ∈ ax_nest, va_Nw w s) ∧ va_AO RX4 s ∧ (∀ q, s.heap.size ≤ q → A q) ∧
  (mc ≤ R.cells ∧ ms ≤ R.slots ∧ d + 1 ≤ R.frames ∧ 40 * d + 40 ≤ R.locals) ∧
  (0 < L → va_X b (L - 1) xs s s.heap ∧ b < s.heap.size ∧ ¬ A b ∧ ∀ (j : Nat) (v : Value), pv[j]? = some v → v = .int (xs (γ 0 + j).toNat))
/-- from every real state that the abstract one speaks of, the machine comes to Q -/
def ax_G (p : Program) (l : Launch) (e : Env) (R : Room) (s : State) (m : MethodId) (args : Array Value) (below : List Frame) (meth : Method) (c : Code) (Q : State → Prop) (D : va_G) (A : Nat → Prop) (b : Nat) (γ : Nat → Int) (pv : List Value) (nL : Nat) (S : ax_S) : Prop :=
  ∀ (cv : List (Nat × Value)) (cs : List Value) (ws : va_W) (tys : List (ClassId × FieldType)) (ls : Array Slot) (H : Heap) (locs : List Loc),
    ax_M γ b pv S.2.1 S.2.2.1 S.2.2.2.1 S.2.2.2.2.1 cv cs ws tys → lv_has ls nL cv → va_K D vwCl tys s → va_P D vwCl ws H → va_D A ws → va_S A s.heap H locs →
    W p l e R s m args below meth c H locs S.2.2.2.2.2.1 S.2.2.2.2.2.2 Q (F0 m S.1 ls cs)
theorem ax_push_ok {v : ax_V} {val : Value} {len0 len pc : Nat} {lv : ax_L} {st : ax_K} {hp : List ax_C} {pr : List ax_V} {cn : Nat × Nat} {out : List ax_S} (hv : ∀ R, ax_ok γ R v val)
    (row : len = len0 → ∀ {H : Heap} {locs : List Loc} {ls : Array Slot} {rest : List Value}, W p l e R s m args below meth c H locs cn.1 cn.2 Q (F0 m (pc + len0) ls (val :: rest)) → W p l e R s m args below meth c H locs cn.1 cn.2 Q (F0 m pc ls rest))
    (h : ax_push v len0 len pc lv st hp pr cn = some out) (hG : ∀ S ∈ out, ax_G p l e R s m args below meth c Q D A b γ pv nL S) : ax_G p l e R s m args below meth c Q D A b γ pv nL (pc, lv, st, hp, pr, cn) := by
  unfold ax_push at h
  split at h
  · rename_i hl
    cases h
    intro cv cs ws tys ls H locs M hls hK hP hD hS
    refine row hl ?_
    exact hG _ (List.mem_singleton.mpr rfl) cv (val :: cs) ws tys ls H locs ⟨M.1, M.2.1, ⟨⟨hv _, trivial⟩, M.2.2.1⟩, M.2.2.2⟩ hls hK hP hD hS
  · cases h
theorem ax_nol_ok {γ : Nat → Int} {R : List Nat} {pv : List Value} {cv cv' : List (Nat × Value)} {ws : va_W} {st : ax_K} {cs : List Value} (h : ax_all2 (ax_sok γ R pv cv ws) st cs) : ax_all2 (ax_sok γ R pv cv' ws) (ax_nol st) cs := by
  refine ax_all2_mapL _ (fun q v hq => ⟨hq.1, ?_⟩) h
  have h2 := hq.2
  rcases q with ⟨a, _ | i | ⟨q, k⟩ | j⟩
  · trivial
  · trivial
  · exact h2
  · exact h2
theorem ax_put1_ok {γ : Nat → Int} {R : List Nat} {pv : List Value} {lv : ax_L} {cv : List (Nat × Value)} {i : Nat} {a : ax_V} {v : Value} (h : ax_lvs γ R pv lv cv) (hv : ax_ok γ R a v) :
    ax_lvs γ R pv (ax_put1 i a lv) ((i, v) :: cv.filter (fun q => !(q.1 == i) && !(q.1 + 1 == i && q.2.category == 2))) := by
  refine ⟨⟨rfl, hv, fun j h => by cases h⟩, ax_all2_filter (fun q r hq => ?_) h⟩
  rw [hq.1, ax_ok_cat hq.2.1]
theorem ax_put2_ok {γ : Nat → Int} {R : List Nat} {pv : List Value} {lv : ax_L} {cv : List (Nat × Value)} {i : Nat} {a : ax_V} {v : Value} (h : ax_lvs γ R pv lv cv) (hv : ax_ok γ R a v) :
    ax_lvs γ R pv (ax_put2 i a lv) ((i, v) :: cv.filter (fun q => !(q.1 == i) && (!(q.1 == i + 1) && !(q.1 + 1 == i && q.2.category == 2)))) := by
  refine ⟨⟨rfl, hv, fun j h => by cases h⟩, ax_all2_filter (fun q r hq => ?_) h⟩
  rw [hq.1, ax_ok_cat hq.2.1]
theorem ax_ld_ok {kd i len0 len pc : Nat} {lv : ax_L} {st : ax_K} {hp : List ax_C} {pr : List ax_V} {cn : Nat × Nat} {out : List ax_S}
    (ri : kd = 0 → len = len0 → ∀ {H : Heap} {locs : List Loc} {ls : Array Slot} {rest : List Value} {x : Int32}, ls[i]? = some (.val (.int x)) → W p l e R s m args below meth c H locs cn.1 cn.2 Q (F0 m (pc + len0) ls (.int x :: rest)) → W p l e R s m args below meth c H locs cn.1 cn.2 Q (F0 m pc ls rest))
    (rl : kd = 1 → len = len0 → ∀ {H : Heap} {locs : List Loc} {ls : Array Slot} {rest : List Value} {x : Int64}, ls[i]? = some (.val (.long x)) → W p l e R s m args below meth c H locs cn.1 cn.2 Q (F0 m (pc + len0) ls (.long x :: rest)) → W p l e R s m args below meth c H locs cn.1 cn.2 Q (F0 m pc ls rest))
    (rr : kd = 2 → len = len0 → ∀ {H : Heap} {locs : List Loc} {ls : Array Slot} {rest : List Value} {x : Nat}, ls[i]? = some (.val (.ref x)) → W p l e R s m args below meth c H locs cn.1 cn.2 Q (F0 m (pc + len0) ls (.ref x :: rest)) → W p l e R s m args below meth c H locs cn.1 cn.2 Q (F0 m pc ls rest))
    (rn : kd = 2 → len = len0 → ∀ {H : Heap} {locs : List Loc} {ls : Array Slot} {rest : List Value}, ls[i]? = some (.val .null) → W p l e R s m args below meth c H locs cn.1 cn.2 Q (F0 m (pc + len0) ls (.null :: rest)) → W p l e R s m args below meth c H locs cn.1 cn.2 Q (F0 m pc ls rest))
    (h : ax_ld kd i len0 len pc lv st hp pr cn = some out) (hG : ∀ S ∈ out, ax_G p l e R s m args below meth c Q D A b γ pv nL S) : ax_G p l e R s m args below meth c Q D A b γ pv nL (pc, lv, st, hp, pr, cn) := by
  unfold ax_ld at h
  split at h
  · rename_i a tg hg
    split at h
    · rename_i hl
      cases h
      intro cv cs ws tys ls H locs M hls hK hP hD hS
      obtain ⟨v, e1, e2⟩ := ax_get_ok (P := fun q v => ax_lok γ (ax_RR b ws) pv q v) M.2.1 hg
      obtain ⟨x, rfl, e3⟩ := ax_ok_i e2.1
      refine ri hl.1 hl.2 (hls.2.2 _ (ax_get_mem e1)) ?_
      exact hG _ (List.mem_singleton.mpr rfl) cv _ ws tys ls H locs ⟨M.1, M.2.1, ⟨⟨e3, e1⟩, M.2.2.1⟩, M.2.2.2⟩ hls hK hP hD hS
    · cases h
  · rename_i a tg hg
    split at h
    · rename_i hl
      cases h
      intro cv cs ws tys ls H locs M hls hK hP hD hS
      obtain ⟨v, e1, e2⟩ := ax_get_ok (P := fun q v => ax_lok γ (ax_RR b ws) pv q v) M.2.1 hg
      obtain ⟨x, rfl, e3⟩ := ax_ok_l e2.1
      refine rl hl.1 hl.2 (hls.2.2 _ (ax_get_mem e1)) ?_
      exact hG _ (List.mem_singleton.mpr rfl) cv _ ws tys ls H locs ⟨M.1, M.2.1, ⟨⟨e3, trivial⟩, M.2.2.1⟩, M.2.2.2⟩ hls hK hP hD hS
    · cases h
  · rename_i a tg hg
    split at h
    · rename_i hl
      cases h
      intro cv cs ws tys ls H locs M hls hK hP hD hS
      obtain ⟨v, e1, e2⟩ := ax_get_ok (P := fun q v => ax_lok γ (ax_RR b ws) pv q v) M.2.1 hg
      have e3 := e2.1
      rcases a with _ | a
      · cases ax_ok_n e3
        refine rn hl.1 hl.2 (hls.2.2 _ (ax_get_mem e1)) ?_
        exact hG _ (List.mem_singleton.mpr rfl) cv _ ws tys ls H locs ⟨M.1, M.2.1, ⟨⟨trivial, trivial⟩, M.2.2.1⟩, M.2.2.2⟩ hls hK hP hD hS
      · obtain ⟨x, rfl, e4⟩ := ax_ok_r e3
        refine rr hl.1 hl.2 (hls.2.2 _ (ax_get_mem e1)) ?_
        exact hG _ (List.mem_singleton.mpr rfl) cv _ ws tys ls H locs ⟨M.1, M.2.1, ⟨⟨e4, trivial⟩, M.2.2.1⟩, M.2.2.2⟩ hls hK hP hD hS
    · cases h
  · cases h
theorem ax_st_ok {kd i len0 len pc : Nat} {lv : ax_L} {st : ax_K} {hp : List ax_C} {pr : List ax_V} {cn : Nat × Nat} {out : List ax_S}
    (r1 : ∀ {v : Value}, v.category = 1 → (kd = 0 → ∃ x, v = .int x) → (kd = 1 → False) → (kd = 2 → v = .null ∨ ∃ x, v = .ref x) → len = len0 → i < nL → ∀ {H : Heap} {locs : List Loc} {ls : Array Slot} {rest : List Value} {cv : List (Nat × Value)}, lv_has ls nL cv → (∀ ls' : Array Slot, lv_has ls' nL ((i, v) :: cv.filter (fun q => !(q.1 == i) && !(q.1 + 1 == i && q.2.category == 2))) → W p l e R s m args below meth c H locs cn.1 cn.2 Q (F0 m (pc + len0) ls' rest)) → W p l e R s m args below meth c H locs cn.1 cn.2 Q (F0 m pc ls (v :: rest)))
    (r2 : kd = 1 → ∀ {x : Int64}, len = len0 → i + 1 < nL → ∀ {H : Heap} {locs : List Loc} {ls : Array Slot} {rest : List Value} {cv : List (Nat × Value)}, lv_has ls nL cv → (∀ ls' : Array Slot, lv_has ls' nL ((i, .long x) :: cv.filter (fun q => !(q.1 == i) && (!(q.1 == i + 1) && !(q.1 + 1 == i && q.2.category == 2)))) → W p l e R s m args below meth c H locs cn.1 cn.2 Q (F0 m (pc + len0) ls' rest)) → W p l e R s m args below meth c H locs cn.1 cn.2 Q (F0 m pc ls (.long x :: rest)))
    (h : ax_st kd nL i len0 len pc lv st hp pr cn = some out) (hG : ∀ S ∈ out, ax_G p l e R s m args below meth c Q D A b γ pv nL S) : ax_G p l e R s m args below meth c Q D A b γ pv nL (pc, lv, st, hp, pr, cn) := by
  unfold ax_st at h
  split at h
  · split at h
    · rename_i hl
      cases h
      intro cv cs ws tys ls H locs M hls hK hP hD hS
      obtain ⟨v, cr, rfl, e1, e2⟩ := ax_popk M.2.2.1
      obtain ⟨x, rfl, e3⟩ := ax_ok_i e1.1
      refine r1 rfl (fun _ => ⟨x, rfl⟩) (fun h => by omega) (fun h => by omega) hl.2.1 hl.2.2 hls (fun ls' hls' => ?_)
      exact hG _ (List.mem_singleton.mpr rfl) _ cr ws tys ls' H locs ⟨M.1, ax_put1_ok M.2.1 e1.1, ax_nol_ok e2, M.2.2.2⟩ hls' hK hP hD hS
    · cases h
  · split at h
    · rename_i hl
      cases h
      intro cv cs ws tys ls H locs M hls hK hP hD hS
      obtain ⟨v, cr, rfl, e1, e2⟩ := ax_popk M.2.2.1
      obtain ⟨x, rfl, e3⟩ := ax_ok_l e1.1
      refine r2 hl.1 hl.2.1 hl.2.2 hls (fun ls' hls' => ?_)
      exact hG _ (List.mem_singleton.mpr rfl) _ cr ws tys ls' H locs ⟨M.1, ax_put2_ok M.2.1 e1.1, ax_nol_ok e2, M.2.2.2⟩ hls' hK hP hD hS
    · cases h
  · rename_i a o r
    split at h
    · rename_i hl
      cases h
      intro cv cs ws tys ls H locs M hls hK hP hD hS
      obtain ⟨v, cr, rfl, e1, e2⟩ := ax_popk M.2.2.1
      have e3 : v.category = 1 ∧ (v = .null ∨ ∃ x, v = .ref x) := by
        rcases a with _ | a
        · cases ax_ok_n e1.1; exact ⟨rfl, Or.inl rfl⟩
        · obtain ⟨x, rfl, -⟩ := ax_ok_r e1.1; exact ⟨rfl, Or.inr ⟨x, rfl⟩⟩
      refine r1 e3.1 (fun h => by omega) (fun h => by omega) (fun _ => e3.2) hl.2.1 hl.2.2 hls (fun ls' hls' => ?_)
      exact hG _ (List.mem_singleton.mpr rfl) _ cr ws tys ls' H locs ⟨M.1, ax_put1_ok M.2.1 e1.1, ax_nol_ok e2, M.2.2.2⟩ hls' hK hP hD hS
    · cases h
  · cases h
theorem ax_ii_ok {f : ax_N → ax_N → Option ax_N} {g : Int32 → Int32 → Int32} {len pc : Nat} {lv : ax_L} {st : ax_K} {hp : List ax_C} {pr : List ax_V} {cn : Nat × Nat} {out : List ax_S} (hf : ∀ (a b z : ax_N) (x y : Int32), f a b = some z → ax_nok γ a x.toInt → ax_nok γ b y.toInt → ax_nok γ z (g x y).toInt)
    (row : len = 1 → ∀ {H : Heap} {locs : List Loc} {ls : Array Slot} {rest : List Value} {x y : Int32}, (∃ a b z, f a b = some z ∧ ax_nok γ b y.toInt) → W p l e R s m args below meth c H locs cn.1 cn.2 Q (F0 m (pc + 1) ls (.int (g x y) :: rest)) → W p l e R s m args below meth c H locs cn.1 cn.2 Q (F0 m pc ls (.int y :: .int x :: rest)))
    (h : ax_ii f len pc lv st hp pr cn = some out) (hG : ∀ S ∈ out, ax_G p l e R s m args below meth c Q D A b γ pv nL S) : ax_G p l e R s m args below meth c Q D A b γ pv nL (pc, lv, st, hp, pr, cn) := by
  unfold ax_ii at h
  split at h
  · split at h
    · rename_i z hz
      split at h
      · rename_i hl
        cases h
        intro cv cs ws tys ls H locs M hls hK hP hD hS
        obtain ⟨v1, cr, rfl, e1, e2⟩ := ax_popk M.2.2.1
        obtain ⟨v2, cr, rfl, e3, e4⟩ := ax_popk e2
        obtain ⟨y, rfl, e5⟩ := ax_ok_i e1.1
        obtain ⟨x, rfl, e6⟩ := ax_ok_i e3.1
        refine row hl ⟨_, _, z, hz, e5⟩ ?_
        exact hG _ (List.mem_singleton.mpr rfl) cv _ ws tys ls H locs ⟨M.1, M.2.1, ⟨⟨hf _ _ z x y hz e6 e5, trivial⟩, e4⟩, M.2.2.2⟩ hls hK hP hD hS
      · cases h
    · cases h
  · cases h
theorem ax_ll_ok {f : ax_I → ax_I → Option ax_I} {g : Int64 → Int64 → Int64} {len pc : Nat} {lv : ax_L} {st : ax_K} {hp : List ax_C} {pr : List ax_V} {cn : Nat × Nat} {out : List ax_S} (hf : ∀ (a b z : ax_I) (x y : Int64), f a b = some z → (a.1 ≤ x.toInt ∧ x.toInt ≤ a.2) → (b.1 ≤ y.toInt ∧ y.toInt ≤ b.2) → (z.1 ≤ (g x y).toInt ∧ (g x y).toInt ≤ z.2))
    (row : len = 1 → ∀ {H : Heap} {locs : List Loc} {ls : Array Slot} {rest : List Value} {x y : Int64}, (∃ a b z, f a b = some z ∧ (b.1 ≤ y.toInt ∧ y.toInt ≤ b.2)) → W p l e R s m args below meth c H locs cn.1 cn.2 Q (F0 m (pc + 1) ls (.long (g x y) :: rest)) → W p l e R s m args below meth c H locs cn.1 cn.2 Q (F0 m pc ls (.long y :: .long x :: rest)))
    (h : ax_ll f len pc lv st hp pr cn = some out) (hG : ∀ S ∈ out, ax_G p l e R s m args below meth c Q D A b γ pv nL S) : ax_G p l e R s m args below meth c Q D A b γ pv nL (pc, lv, st, hp, pr, cn) := by
  unfold ax_ll at h
  split at h
  · split at h
    · rename_i z hz
      split at h
      · rename_i hl
        cases h
        intro cv cs ws tys ls H locs M hls hK hP hD hS
        obtain ⟨v1, cr, rfl, e1, e2⟩ := ax_popk M.2.2.1
        obtain ⟨v2, cr, rfl, e3, e4⟩ := ax_popk e2
        obtain ⟨y, rfl, e5⟩ := ax_ok_l e1.1
        obtain ⟨x, rfl, e6⟩ := ax_ok_l e3.1
        refine row hl ⟨_, _, z, hz, e5⟩ ?_
        exact hG _ (List.mem_singleton.mpr rfl) cv _ ws tys ls H locs ⟨M.1, M.2.1, ⟨⟨hf _ _ z x y hz e6 e5, trivial⟩, e4⟩, M.2.2.2⟩ hls hK hP hD hS
      · cases h
    · cases h
  · cases h
theorem ax_iinc_ok (X : ax_X p R s m args meth c A b γ pv own ini nL L mc ms d cc xs) {i len pc : Nat} {v : Int} {lv : ax_L} {st : ax_K} {hp : List ax_C} {pr : List ax_V} {cn : Nat × Nat} {out : List ax_S} (hd : decode cc pc = .ok (.iinc i v, len)) (h : ax_iinc nL i v len pc lv st hp pr cn = some out) (hG : ∀ S ∈ out, ax_G p l e R s m args below meth c Q D A b γ pv nL S) : ax_G p l e R s m args below meth c Q D A b γ pv nL (pc, lv, st, hp, pr, cn) := by
  obtain ⟨⟨hx, hb, -⟩, -⟩ := X
  unfold ax_iinc at h
  split at h
  · rename_i a tg hg
    split at h
    · rename_i hl
      obtain ⟨rfl, hn⟩ := hl
      cases h
      intro cv cs ws tys ls H locs M hls hK hP hD hS
      obtain ⟨w, e1, e2⟩ := ax_get_ok (P := fun q v => ax_lok γ (ax_RR b ws) pv q v) M.2.1 hg
      obtain ⟨x, rfl, e3⟩ := ax_ok_i e2.1
      obtain ⟨k, hk⟩ := List.getElem?_of_mem (ax_get_mem e1)
      refine lv_iinc hx hb hd hls hk rfl hn rfl (fun ls' hls' => ?_)
      exact hG _ (List.mem_singleton.mpr rfl) _ cs ws tys ls' H locs ⟨M.1, ax_put1_ok M.2.1 (show ax_ok γ (ax_RR b ws) (.inl _) (.int _) from ax_add_ok e3 (ax_c_ok γ _)), ax_nol_ok M.2.2.1, M.2.2.2⟩ hls' hK hP hD hS
    · cases h
  · cases h
end AXS1
end
section
section AXP2
theorem ax_dvq {x y : Int} (hy : 1 ≤ y) : (0 ≤ x → x.tdiv y = x / y ∧ 0 ≤ x / y ∧ x / y * y ≤ x ∧ x - x / y * y ≤ y - 1 ∧ x / y ≤ x) ∧ (x < 0 → x.tdiv y = -((-x) / y)) := by
  refine ⟨fun hx => ?_, fun hx => ?_⟩
  · have h1 : x.tdiv y = x / y := Int.tdiv_eq_ediv_of_nonneg hx
    have h2 : 0 ≤ x / y := Int.ediv_nonneg hx (by omega)
    have h3 := Int.emod_nonneg x (show y ≠ 0 by omega)
    have h4 := Int.emod_lt_of_pos x (show 0 < y by omega)
    have h5 := Int.emod_def x y
    rw [Int.mul_comm] at h5
    have h6 : x / y * 1 ≤ x / y * y := Int.mul_le_mul_of_nonneg_left hy h2
    exact ⟨h1, h2, by omega, by omega, by omega⟩
  · have h1 : (-(-x)).tdiv y = -((-x).tdiv y) := Int.neg_tdiv ..
    rw [Int.neg_neg] at h1
    rw [h1, Int.tdiv_eq_ediv_of_nonneg (by omega)]
theorem ax_div_ok {γ : Nat → Int} {a b z : ax_N} {x y : Int32} (h : ax_div a b = some z) (ha : ax_nok γ a x.toInt) (hb : ax_nok γ b y.toInt) : ax_nok γ z (x / y).toInt := by
  obtain ⟨⟨a1, a2⟩, -⟩ := ha
  obtain ⟨⟨b1, b2⟩, -⟩ := hb
  unfold ax_div at h
  split at h
  · rename_i hb1
    have hd := ax_dvq (x := x.toInt) (y := y.toInt) (by omega)
    split at h
    · rename_i ha1
      cases h
      obtain ⟨h1, h2, h3, h4, h5⟩ := hd.1 (by omega)
      refine ax_fitN_ok (z := x.toInt.tdiv y.toInt) (Int32.toInt_div x y) ?_ (fun _ _ h => by cases h)
      rw [h1]
      refine ⟨h2, ?_⟩
      rw [Int.le_ediv_iff_mul_le (by omega)]
      have h6 : x.toInt / y.toInt * b.1.1 ≤ x.toInt / y.toInt * y.toInt := Int.mul_le_mul_of_nonneg_left b1 h2
      omega
    · cases h
      refine ax_fitN_ok (z := x.toInt.tdiv y.toInt) (Int32.toInt_div x y) ?_ (fun _ _ h => by cases h)
      by_cases hx : 0 ≤ x.toInt
      · obtain ⟨h1, h2, h3, h4, h5⟩ := hd.1 hx
        rw [h1]
        omega
      · have h1 := hd.2 (by omega)
        obtain ⟨-, h2, h3, h4, h5⟩ := (ax_dvq (x := -x.toInt) (y := y.toInt) (by omega)).1 (by omega)
        rw [h1]
        omega
  · split at h
    · cases h
      exact ax_topN_ok γ _
    · cases h
theorem ax_div_ne {γ : Nat → Int} {a b z : ax_N} {y : Int32} (h : ax_div a b = some z) (hb : ax_nok γ b y.toInt) : ¬ y = 0 := by
  intro hy
  subst hy
  have h0 : (0 : Int32).toInt = 0 := by decide
  obtain ⟨⟨b1, b2⟩, -⟩ := hb
  unfold ax_div at h
  split at h
  · omega
  · split at h
    · omega
    · cases h
theorem ax_rem_ne {γ : Nat → Int} {a b z : ax_N} {y : Int32} (h : ax_rem a b = some z) (hb : ax_nok γ b y.toInt) : ¬ y = 0 := by
  intro hy
  subst hy
  have h0 : (0 : Int32).toInt = 0 := by decide
  obtain ⟨⟨b1, b2⟩, -⟩ := hb
  unfold ax_rem at h
  split at h
  · omega
  · split at h
    · omega
    · cases h
theorem ax_rem_int {x y : Int32} (hy : 1 ≤ y.toInt) : (x - x / y * y).toInt = x.toInt - x.toInt.tdiv y.toInt * y.toInt ∧ (0 ≤ x.toInt → 0 ≤ x.toInt - x.toInt.tdiv y.toInt * y.toInt ∧ x.toInt - x.toInt.tdiv y.toInt * y.toInt ≤ x.toInt) ∧ -(y.toInt - 1) ≤ x.toInt - x.toInt.tdiv y.toInt * y.toInt ∧ x.toInt - x.toInt.tdiv y.toInt * y.toInt ≤ y.toInt - 1 := by
  have hx := ax_lt x
  have hyl := ax_lt y
  have hd := ax_dvq (x := x.toInt) (y := y.toInt) hy
  have key : (-2147483648 ≤ x.toInt.tdiv y.toInt ∧ x.toInt.tdiv y.toInt ≤ 2147483647) ∧ (-2147483648 ≤ x.toInt.tdiv y.toInt * y.toInt ∧ x.toInt.tdiv y.toInt * y.toInt ≤ 2147483647) ∧ (0 ≤ x.toInt → 0 ≤ x.toInt - x.toInt.tdiv y.toInt * y.toInt ∧ x.toInt - x.toInt.tdiv y.toInt * y.toInt ≤ x.toInt) ∧ -(y.toInt - 1) ≤ x.toInt - x.toInt.tdiv y.toInt * y.toInt ∧ x.toInt - x.toInt.tdiv y.toInt * y.toInt ≤ y.toInt - 1 := by
    by_cases h : 0 ≤ x.toInt
    · obtain ⟨h1, h2, h3, h4, h5⟩ := hd.1 h
      have h6 : 0 ≤ x.toInt / y.toInt * y.toInt := Int.mul_nonneg h2 (by omega)
      rw [h1]
      omega
    · have h1 := hd.2 (by omega)
      obtain ⟨-, h2, h3, h4, h5⟩ := (ax_dvq (x := -x.toInt) (y := y.toInt) hy).1 (by omega)
      have h6 : 0 ≤ -x.toInt / y.toInt * y.toInt := Int.mul_nonneg h2 (by omega)
      rw [h1, Int.neg_mul]
      omega
  obtain ⟨k1, k2, k3, k4, k5⟩ := key
  refine ⟨?_, k3, k4, k5⟩
  rw [Int32.toInt_sub, Int32.toInt_mul, Int32.toInt_div, ax_bmod k1.1 k1.2, ax_bmod k2.1 k2.2, ax_bmod (by omega) (by omega)]
theorem ax_rem_ok {γ : Nat → Int} {a b z : ax_N} {x y : Int32} (h : ax_rem a b = some z) (ha : ax_nok γ a x.toInt) (hb : ax_nok γ b y.toInt) : ax_nok γ z (x - x / y * y).toInt := by
  obtain ⟨⟨a1, a2⟩, -⟩ := ha
  obtain ⟨⟨b1, b2⟩, -⟩ := hb
  unfold ax_rem at h
  split at h
  · rename_i hb1
    obtain ⟨h1, h2, h3, h4⟩ := ax_rem_int (x := x) (y := y) (by omega)
    have hbm : (x - x / y * y).toInt = (x.toInt - x.toInt.tdiv y.toInt * y.toInt).bmod (2 ^ 32) := by
      rw [ax_bmod (by have := ax_lt y; omega) (by have := ax_lt y; omega)]
      exact h1
    split at h
    · split at h
      · rename_i hcc
        cases h
        have e1 : x.toInt = a.1.1 := by omega
        have e2 : y.toInt = b.1.1 := by omega
        have e3 := ((ax_dvq (x := x.toInt) (y := y.toInt) (by omega)).1 (by omega)).1
        have e4 := Int.emod_def x.toInt y.toInt
        rw [Int.mul_comm] at e4
        refine ⟨?_, fun _ _ h => by cases h⟩
        dsimp only
        rw [← e1, ← e2, h1, e3, ← e4]
        exact ⟨Int.le_refl _, Int.le_refl _⟩
      · cases h
        refine ax_fitN_ok (z := x.toInt - x.toInt.tdiv y.toInt * y.toInt) hbm ?_ (fun _ _ h => by cases h)
        have := h2 (by omega)
        omega
    · cases h
      refine ax_fitN_ok (z := x.toInt - x.toInt.tdiv y.toInt * y.toInt) hbm ?_ (fun _ _ h => by cases h)
      omega
  · split at h
    · cases h
      exact ax_topN_ok γ _
    · cases h
theorem ax_andn {x y : Int32} (hy : 0 ≤ y.toInt) : 0 ≤ (x &&& y).toInt ∧ (x &&& y).toInt ≤ y.toInt := by
  have e1 : ∀ z : Int32, z.toInt = z.toBitVec.toInt := fun _ => rfl
  have e2 : (x &&& y).toBitVec = x.toBitVec &&& y.toBitVec := rfl
  rw [e1] at hy ⊢
  rw [e1, e2]
  rw [BitVec.toInt_eq_toNat_cond] at hy ⊢
  rw [BitVec.toInt_eq_toNat_cond]
  have h3 : (x.toBitVec &&& y.toBitVec).toNat ≤ y.toBitVec.toNat := by
    rw [BitVec.toNat_and]
    exact Nat.and_le_right
  have h4 := y.toBitVec.isLt
  clear e1 e2
  generalize (x.toBitVec &&& y.toBitVec).toNat = u at *
  generalize y.toBitVec.toNat = w at *
  split at hy <;> split <;> omega
theorem ax_and_ok {γ : Nat → Int} {a b : ax_N} {x y : Int32} (ha : ax_nok γ a x.toInt) (hb : ax_nok γ b y.toInt) : ax_nok γ (ax_and a b) (x &&& y).toInt := by
  obtain ⟨⟨a1, a2⟩, -⟩ := ha
  obtain ⟨⟨b1, b2⟩, -⟩ := hb
  unfold ax_and
  split
  · have := ax_andn (x := x) (y := y) (by omega)
    exact ⟨⟨this.1, by show _ ≤ b.1.2; omega⟩, fun _ _ h => by cases h⟩
  · split
    · have := ax_andn (x := y) (y := x) (by omega)
      rw [show x &&& y = y &&& x from Int32.and_comm ..]
      exact ⟨⟨this.1, by show _ ≤ a.1.2; omega⟩, fun _ _ h => by cases h⟩
    · exact ax_topN_ok γ _
end AXP2
end
section
/-! ABSTRACT RUNS: each instruction is sound, second part -/
section AXS2
variable {p : Program} {l : Launch} {e : Env} {R : Room} {s : State} {m : MethodId} {args : Array Value} {below : List Frame} {meth : Method} {c : Code} {Q : State → Prop} {D : va_G} {A : Nat → Prop} {b : Nat} {γ : Nat → Int} {pv : List Value} {own : Nat} {ini : Bool} {nL L mc ms d : Nat} {cc : ByteArray} {xs : Nat → Int32} {call : ax_F}
theorem ax_ineg_ok (X : ax_X p R s m args meth c A b γ pv own ini nL L mc ms d cc xs) {len pc : Nat} {lv : ax_L} {st : ax_K} {hp : List ax_C} {pr : List ax_V} {cn : Nat × Nat} {out : List ax_S} (hd : decode cc pc = .ok (.ineg, len)) (h : ax_ineg len pc lv st hp pr cn = some out) (hG : ∀ S ∈ out, ax_G p l e R s m args below meth c Q D A b γ pv nL S) : ax_G p l e R s m args below meth c Q D A b γ pv nL (pc, lv, st, hp, pr, cn) := by
  obtain ⟨⟨hx, hb, -⟩, -⟩ := X
  unfold ax_ineg at h
  split at h
  · split at h
    · rename_i hl
      subst hl
      cases h
      intro cv cs ws tys ls H locs M hls hK hP hD hS
      obtain ⟨v1, cr, rfl, e1, e2⟩ := ax_popk M.2.2.1
      obtain ⟨y, rfl, e5⟩ := ax_ok_i e1.1
      refine lv_ineg hx hb hd ?_
      exact hG _ (List.mem_singleton.mpr rfl) cv _ ws tys ls H locs ⟨M.1, M.2.1, ⟨⟨ax_neg_ok e5, trivial⟩, e2⟩, M.2.2.2⟩ hls hK hP hD hS
    · cases h
  · cases h
theorem ax_i2l_ok (X : ax_X p R s m args meth c A b γ pv own ini nL L mc ms d cc xs) {len pc : Nat} {lv : ax_L} {st : ax_K} {hp : List ax_C} {pr : List ax_V} {cn : Nat × Nat} {out : List ax_S} (hd : decode cc pc = .ok (.i2l, len)) (h : ax_i2l len pc lv st hp pr cn = some out) (hG : ∀ S ∈ out, ax_G p l e R s m args below meth c Q D A b γ pv nL S) : ax_G p l e R s m args below meth c Q D A b γ pv nL (pc, lv, st, hp, pr, cn) := by
  obtain ⟨⟨hx, hb, -⟩, -⟩ := X
  unfold ax_i2l at h
  split at h
  · split at h
    · rename_i hl
      subst hl
      cases h
      intro cv cs ws tys ls H locs M hls hK hP hD hS
      obtain ⟨v1, cr, rfl, e1, e2⟩ := ax_popk M.2.2.1
      obtain ⟨y, rfl, e5⟩ := ax_ok_i e1.1
      refine t_i2l hx hb hd rfl ?_
      refine hG _ (List.mem_singleton.mpr rfl) cv _ ws tys ls H locs ⟨M.1, M.2.1, ⟨⟨?_, trivial⟩, e2⟩, M.2.2.2⟩ hls hK hP hD hS
      show _ ≤ y.toInt64.toInt ∧ y.toInt64.toInt ≤ _
      rw [Int32.toInt_toInt64]
      exact e5.1
    · cases h
  · cases h
theorem ax_l2i_ok (X : ax_X p R s m args meth c A b γ pv own ini nL L mc ms d cc xs) {len pc : Nat} {lv : ax_L} {st : ax_K} {hp : List ax_C} {pr : List ax_V} {cn : Nat × Nat} {out : List ax_S} (hd : decode cc pc = .ok (.l2i, len)) (h : ax_l2i len pc lv st hp pr cn = some out) (hG : ∀ S ∈ out, ax_G p l e R s m args below meth c Q D A b γ pv nL S) : ax_G p l e R s m args below meth c Q D A b γ pv nL (pc, lv, st, hp, pr, cn) := by
  obtain ⟨⟨hx, hb, -⟩, -⟩ := X
  unfold ax_l2i at h
  split at h
  · split at h
    · rename_i hl
      subst hl
      cases h
      intro cv cs ws tys ls H locs M hls hK hP hD hS
      obtain ⟨v1, cr, rfl, e1, e2⟩ := ax_popk M.2.2.1
      obtain ⟨y, rfl, e5⟩ := ax_ok_l e1.1
      refine t_l2i hx hb hd rfl ?_
      refine hG _ (List.mem_singleton.mpr rfl) cv _ ws tys ls H locs ⟨M.1, M.2.1, ⟨⟨?_, trivial⟩, e2⟩, M.2.2.2⟩ hls hK hP hD hS
      exact ax_fitN_ok (z := y.toInt) (Int64.toInt_toInt32 y) e5 (fun _ _ h => by cases h)
    · cases h
  · cases h
theorem ax_i2b_ok (X : ax_X p R s m args meth c A b γ pv own ini nL L mc ms d cc xs) {len pc : Nat} {lv : ax_L} {st : ax_K} {hp : List ax_C} {pr : List ax_V} {cn : Nat × Nat} {out : List ax_S} (hd : decode cc pc = .ok (.i2b, len)) (h : ax_i2b len pc lv st hp pr cn = some out) (hG : ∀ S ∈ out, ax_G p l e R s m args below meth c Q D A b γ pv nL S) : ax_G p l e R s m args below meth c Q D A b γ pv nL (pc, lv, st, hp, pr, cn) := by
  obtain ⟨⟨hx, hb, -⟩, -⟩ := X
  unfold ax_i2b at h
  split at h
  · split at h
    · rename_i hl
      subst hl
      cases h
      intro cv cs ws tys ls H locs M hls hK hP hD hS
      obtain ⟨v1, cr, rfl, e1, e2⟩ := ax_popk M.2.2.1
      obtain ⟨y, rfl, e5⟩ := ax_ok_i e1.1
      refine lv_i2b hx hb hd rfl ?_
      refine hG _ (List.mem_singleton.mpr rfl) cv _ ws tys ls H locs ⟨M.1, M.2.1, ⟨⟨⟨?_, fun _ _ h => by cases h⟩, trivial⟩, e2⟩, M.2.2.2⟩ hls hK hP hD hS
      show -128 ≤ y.toInt8.toInt32.toInt ∧ y.toInt8.toInt32.toInt ≤ 127
      rw [Int8.toInt_toInt32]
      have h1 := y.toInt8.le_toInt
      have h2 := y.toInt8.toInt_lt
      omega
    · cases h
  · cases h
theorem ax_lcmp_ok {γ : Nat → Int} {a b : ax_I} {x y : Int64} (ha : a.1 ≤ x.toInt ∧ x.toInt ≤ a.2) (hb : b.1 ≤ y.toInt ∧ y.toInt ≤ b.2) : ax_nok γ (ax_lcmp a b) (lg_cmp x y).toInt := by
  have h1 : (1 : Int32).toInt = 1 := by decide
  have h0 : (0 : Int32).toInt = 0 := by decide
  have hm : (-1 : Int32).toInt = -1 := by decide
  have hlt : x > y ↔ y.toInt < x.toInt := Int64.lt_iff_toInt_lt
  have heq : x = y ↔ x.toInt = y.toInt := Int64.toInt_inj.symm
  unfold ax_lcmp lg_cmp
  simp only [hlt, heq]
  refine ⟨?_, fun _ _ h => ?_⟩
  · split
    · rw [if_neg (by omega), if_neg (by omega), hm]; exact ⟨by decide, by decide⟩
    · split
      · rw [if_pos (by omega), h1]; exact ⟨by decide, by decide⟩
      · split
        · rw [if_neg (by omega), if_pos (by omega), h0]; exact ⟨by decide, by decide⟩
        · split
          · rw [h1]; exact ⟨by decide, by decide⟩
          · split
            · rw [h0]; exact ⟨by decide, by decide⟩
            · rw [hm]; exact ⟨by decide, by decide⟩
  · split at h
    · cases h
    · split at h
      · cases h
      · split at h <;> cases h
theorem ax_lcp_ok (X : ax_X p R s m args meth c A b γ pv own ini nL L mc ms d cc xs) {len pc : Nat} {lv : ax_L} {st : ax_K} {hp : List ax_C} {pr : List ax_V} {cn : Nat × Nat} {out : List ax_S} (hd : decode cc pc = .ok (.lcmp, len)) (h : ax_lcp len pc lv st hp pr cn = some out) (hG : ∀ S ∈ out, ax_G p l e R s m args below meth c Q D A b γ pv nL S) : ax_G p l e R s m args below meth c Q D A b γ pv nL (pc, lv, st, hp, pr, cn) := by
  obtain ⟨⟨hx, hb, -⟩, -⟩ := X
  unfold ax_lcp at h
  split at h
  · split at h
    · rename_i hl
      subst hl
      cases h
      intro cv cs ws tys ls H locs M hls hK hP hD hS
      obtain ⟨v1, cr, rfl, e1, e2⟩ := ax_popk M.2.2.1
      obtain ⟨v2, cr, rfl, e3, e4⟩ := ax_popk e2
      obtain ⟨y, rfl, e5⟩ := ax_ok_l e1.1
      obtain ⟨x, rfl, e6⟩ := ax_ok_l e3.1
      refine W.lcmp hx hb hd ?_
      exact hG _ (List.mem_singleton.mpr rfl) cv _ ws tys ls H locs ⟨M.1, M.2.1, ⟨⟨ax_lcmp_ok e6 e5, trivial⟩, e4⟩, M.2.2.2⟩ hls hK hP hD hS
    · cases h
  · cases h
theorem ax_dup_ok (X : ax_X p R s m args meth c A b γ pv own ini nL L mc ms d cc xs) {len pc : Nat} {lv : ax_L} {st : ax_K} {hp : List ax_C} {pr : List ax_V} {cn : Nat × Nat} {out : List ax_S} (hd : decode cc pc = .ok (.dup, len)) (h : ax_dup len pc lv st hp pr cn = some out) (hG : ∀ S ∈ out, ax_G p l e R s m args below meth c Q D A b γ pv nL S) : ax_G p l e R s m args below meth c Q D A b γ pv nL (pc, lv, st, hp, pr, cn) := by
  obtain ⟨⟨hx, hb, -⟩, -⟩ := X
  unfold ax_dup at h
  split at h
  · split at h
    · rename_i hl
      obtain ⟨rfl, hc⟩ := hl
      cases h
      intro cv cs ws tys ls H locs M hls hK hP hD hS
      obtain ⟨v1, cr, rfl, e1, e2⟩ := ax_popk M.2.2.1
      refine lv_dup hx hb hd (by rw [← ax_ok_cat e1.1]; exact hc) ?_
      exact hG _ (List.mem_singleton.mpr rfl) cv _ ws tys ls H locs ⟨M.1, M.2.1, ⟨e1, e1, e2⟩, M.2.2.2⟩ hls hK hP hD hS
    · cases h
  · cases h
theorem ax_dup2_ok (X : ax_X p R s m args meth c A b γ pv own ini nL L mc ms d cc xs) {len pc : Nat} {lv : ax_L} {st : ax_K} {hp : List ax_C} {pr : List ax_V} {cn : Nat × Nat} {out : List ax_S} (hd : decode cc pc = .ok (.dup2, len)) (h : ax_dup2 len pc lv st hp pr cn = some out) (hG : ∀ S ∈ out, ax_G p l e R s m args below meth c Q D A b γ pv nL S) : ax_G p l e R s m args below meth c Q D A b γ pv nL (pc, lv, st, hp, pr, cn) := by
  obtain ⟨⟨hx, hb, -⟩, -⟩ := X
  unfold ax_dup2 at h
  split at h
  · split at h
    · rename_i hl
      obtain ⟨rfl, hc, hc2⟩ := hl
      cases h
      intro cv cs ws tys ls H locs M hls hK hP hD hS
      obtain ⟨v1, cr, rfl, e1, e2⟩ := ax_popk M.2.2.1
      obtain ⟨v2, cr, rfl, e3, e4⟩ := ax_popk e2
      refine lv_dup2_11 hx hb hd (by rw [← ax_ok_cat e1.1]; exact hc) (by rw [← ax_ok_cat e3.1]; exact hc2) ?_
      exact hG _ (List.mem_singleton.mpr rfl) cv _ ws tys ls H locs ⟨M.1, M.2.1, ⟨e1, e3, e1, e3, e4⟩, M.2.2.2⟩ hls hK hP hD hS
    · cases h
  · cases h
theorem ax_pop_ok (X : ax_X p R s m args meth c A b γ pv own ini nL L mc ms d cc xs) {len pc : Nat} {lv : ax_L} {st : ax_K} {hp : List ax_C} {pr : List ax_V} {cn : Nat × Nat} {out : List ax_S} (hd : decode cc pc = .ok (.pop, len)) (h : ax_pop len pc lv st hp pr cn = some out) (hG : ∀ S ∈ out, ax_G p l e R s m args below meth c Q D A b γ pv nL S) : ax_G p l e R s m args below meth c Q D A b γ pv nL (pc, lv, st, hp, pr, cn) := by
  obtain ⟨⟨hx, hb, -⟩, -⟩ := X
  unfold ax_pop at h
  split at h
  · split at h
    · rename_i hl
      obtain ⟨rfl, hc⟩ := hl
      cases h
      intro cv cs ws tys ls H locs M hls hK hP hD hS
      obtain ⟨v1, cr, rfl, e1, e2⟩ := ax_popk M.2.2.1
      refine lv_pop hx hb hd (by rw [← ax_ok_cat e1.1]; exact hc) ?_
      exact hG _ (List.mem_singleton.mpr rfl) cv _ ws tys ls H locs ⟨M.1, M.2.1, e2, M.2.2.2⟩ hls hK hP hD hS
    · cases h
  · cases h
theorem ax_tgt_ok {pc t : Nat} {off : Int} (h : ax_tgt pc off = some t) : (pc : Int) + off = (t : Int) := by
  unfold ax_tgt at h
  split at h
  · cases h
    omega
  · cases h
theorem ax_goto_ok (X : ax_X p R s m args meth c A b γ pv own ini nL L mc ms d cc xs) {len pc : Nat} {off : Int} {lv : ax_L} {st : ax_K} {hp : List ax_C} {pr : List ax_V} {cn : Nat × Nat} {out : List ax_S} (hd : decode cc pc = .ok (.goto off, len)) (h : ax_goto off len pc lv st hp pr cn = some out) (hG : ∀ S ∈ out, ax_G p l e R s m args below meth c Q D A b γ pv nL S) : ax_G p l e R s m args below meth c Q D A b γ pv nL (pc, lv, st, hp, pr, cn) := by
  obtain ⟨⟨hx, hb, -⟩, -⟩ := X
  unfold ax_goto at h
  split at h
  · rename_i t ht
    split at h
    · rename_i hl
      subst hl
      cases h
      intro cv cs ws tys ls H locs M hls hK hP hD hS
      refine lv_goto hx hb hd (ax_tgt_ok ht) ?_
      exact hG _ (List.mem_singleton.mpr rfl) cv _ ws tys ls H locs M hls hK hP hD hS
    · cases h
  · cases h
theorem ax_ifnull_ok (X : ax_X p R s m args meth c A b γ pv own ini nL L mc ms d cc xs) {len pc : Nat} {off : Int} {lv : ax_L} {st : ax_K} {hp : List ax_C} {pr : List ax_V} {cn : Nat × Nat} {out : List ax_S} (hd : decode cc pc = .ok (.ifnull off, len)) (h : ax_nul true off len pc lv st hp pr cn = some out) (hG : ∀ S ∈ out, ax_G p l e R s m args below meth c Q D A b γ pv nL S) : ax_G p l e R s m args below meth c Q D A b γ pv nL (pc, lv, st, hp, pr, cn) := by
  obtain ⟨⟨hx, hb, -⟩, -⟩ := X
  unfold ax_nul at h
  split at h
  · rename_i t o r ht
    split at h
    · rename_i hl
      subst hl
      cases h
      intro cv cs ws tys ls H locs M hls hK hP hD hS
      obtain ⟨v1, cr, rfl, e1, e2⟩ := ax_popk M.2.2.1
      cases ax_ok_n e1.1
      refine lv_ifnullN hx hb hd (ax_tgt_ok ht) ?_
      exact hG _ (List.mem_singleton.mpr rfl) cv _ ws tys ls H locs ⟨M.1, M.2.1, e2, M.2.2.2⟩ hls hK hP hD hS
    · cases h
  · rename_i t k o r ht
    split at h
    · rename_i hl
      subst hl
      cases h
      intro cv cs ws tys ls H locs M hls hK hP hD hS
      obtain ⟨v1, cr, rfl, e1, e2⟩ := ax_popk M.2.2.1
      obtain ⟨q, rfl, -⟩ := ax_ok_r e1.1
      refine lv_ifnull hx hb hd ?_
      exact hG _ (List.mem_singleton.mpr rfl) cv _ ws tys ls H locs ⟨M.1, M.2.1, e2, M.2.2.2⟩ hls hK hP hD hS
    · cases h
  · cases h
theorem ax_ifnonnull_ok (X : ax_X p R s m args meth c A b γ pv own ini nL L mc ms d cc xs) {len pc : Nat} {off : Int} {lv : ax_L} {st : ax_K} {hp : List ax_C} {pr : List ax_V} {cn : Nat × Nat} {out : List ax_S} (hd : decode cc pc = .ok (.ifnonnull off, len)) (h : ax_nul false off len pc lv st hp pr cn = some out) (hG : ∀ S ∈ out, ax_G p l e R s m args below meth c Q D A b γ pv nL S) : ax_G p l e R s m args below meth c Q D A b γ pv nL (pc, lv, st, hp, pr, cn) := by
  obtain ⟨⟨hx, hb, -⟩, -⟩ := X
  unfold ax_nul at h
  split at h
  · rename_i t o r ht
    split at h
    · rename_i hl
      subst hl
      cases h
      intro cv cs ws tys ls H locs M hls hK hP hD hS
      obtain ⟨v1, cr, rfl, e1, e2⟩ := ax_popk M.2.2.1
      cases ax_ok_n e1.1
      refine lv_ifnonnullN hx hb hd ?_
      exact hG _ (List.mem_singleton.mpr rfl) cv _ ws tys ls H locs ⟨M.1, M.2.1, e2, M.2.2.2⟩ hls hK hP hD hS
    · cases h
  · rename_i t k o r ht
    split at h
    · rename_i hl
      subst hl
      cases h
      intro cv cs ws tys ls H locs M hls hK hP hD hS
      obtain ⟨v1, cr, rfl, e1, e2⟩ := ax_popk M.2.2.1
      obtain ⟨q, rfl, -⟩ := ax_ok_r e1.1
      refine lv_ifnonnull hx hb hd (ax_tgt_ok ht) ?_
      exact hG _ (List.mem_singleton.mpr rfl) cv _ ws tys ls H locs ⟨M.1, M.2.1, e2, M.2.2.2⟩ hls hK hP hD hS
    · cases h
  · cases h
/-- one side of a branch -/
theorem ax_br_ok {k pc : Nat} {ia ib : ax_I} {oa ob : ax_O} {x y : Int32} {lv : ax_L} {st : ax_K} {hp : List ax_C} {pr : List ax_V} {cn : Nat × Nat} {cv : List (Nat × Value)} {cs : List Value} {ws : va_W} {tys : List (ClassId × FieldType)} {ls : Array Slot} {H : Heap} {locs : List Loc}
    (ha : ia.1 ≤ x.toInt ∧ x.toInt ≤ ia.2) (hb : ib.1 ≤ y.toInt ∧ y.toInt ≤ ib.2) (hoa : ax_org pv cv ws oa (.int x)) (hob : ax_org pv cv ws ob (.int y)) (hp0 : ax_p k x.toInt y.toInt)
    (hG : ∀ S ∈ ax_br k ia ib oa ob pc lv st hp pr cn, ax_G p l e R s m args below meth c Q D A b γ pv nL S) (M : ax_M γ b pv lv st hp pr cv cs ws tys) (hls : lv_has ls nL cv) (hK : va_K D vwCl tys s) (hP : va_P D vwCl ws H) (hD : va_D A ws) (hS : va_S A s.heap H locs) :
    W p l e R s m args below meth c H locs cn.1 cn.2 Q (F0 m pc ls cs) := by
  obtain ⟨iv, e1, e2, e3⟩ := ax_rel_ok ha hb hp0
  unfold ax_br at hG
  rw [e1] at hG
  have M1 := ax_ref_ok (iv := iv.1) hoa e2 M
  have M2 := ax_ref_ok (iv := iv.2) hob e3 M1
  exact hG _ (List.mem_singleton.mpr rfl) cv cs ws tys ls H locs M2 hls hK hP hD hS
theorem ax_if2_ok {k k2 len pc : Nat} {off : Int} {P : Int32 → Int32 → Prop} {lv : ax_L} {st : ax_K} {hp : List ax_C} {pr : List ax_V} {cn : Nat × Nat} {out : List ax_S}
    (row : ∀ {H : Heap} {locs : List Loc} {ls : Array Slot} {rest : List Value} {x y : Int32} {tgt : Nat}, len = 3 → (pc : Int) + off = (tgt : Int) → (P x y → W p l e R s m args below meth c H locs cn.1 cn.2 Q (F0 m tgt ls rest)) → (¬ P x y → W p l e R s m args below meth c H locs cn.1 cn.2 Q (F0 m (pc + 3) ls rest)) → W p l e R s m args below meth c H locs cn.1 cn.2 Q (F0 m pc ls (.int y :: .int x :: rest)))
    (h1 : ∀ x y, P x y → ax_p k x.toInt y.toInt) (h2 : ∀ x y, ¬ P x y → ax_p k2 x.toInt y.toInt)
    (h : ax_if2 k k2 off len pc lv st hp pr cn = some out) (hG : ∀ S ∈ out, ax_G p l e R s m args below meth c Q D A b γ pv nL S) : ax_G p l e R s m args below meth c Q D A b γ pv nL (pc, lv, st, hp, pr, cn) := by
  unfold ax_if2 at h
  split at h
  · unfold ax_if at h
    split at h
    · cases h
    · rename_i t ht
      split at h
      · rename_i hl
        cases h
        intro cv cs ws tys ls H locs M hls hK hP hD hS
        obtain ⟨v1, cr, rfl, e1, e2⟩ := ax_popk M.2.2.1
        obtain ⟨v2, cr, rfl, e3, e4⟩ := ax_popk e2
        obtain ⟨y, rfl, e5⟩ := ax_ok_i e1.1
        obtain ⟨x, rfl, e6⟩ := ax_ok_i e3.1
        refine row hl (ax_tgt_ok ht) (fun c1 => ?_) (fun c1 => ?_)
        · exact ax_br_ok e6.1 e5.1 e3.2 e1.2 (h1 x y c1) (fun S hS => hG S (List.mem_append_left _ hS)) ⟨M.1, M.2.1, e4, M.2.2.2⟩ hls hK hP hD hS
        · exact ax_br_ok e6.1 e5.1 e3.2 e1.2 (h2 x y c1) (fun S hS => hG S (List.mem_append_right _ hS)) ⟨M.1, M.2.1, e4, M.2.2.2⟩ hls hK hP hD hS
      · cases h
  · cases h
theorem ax_if1_ok {k k2 len pc : Nat} {off : Int} {P : Int32 → Prop} {lv : ax_L} {st : ax_K} {hp : List ax_C} {pr : List ax_V} {cn : Nat × Nat} {out : List ax_S}
    (row : ∀ {H : Heap} {locs : List Loc} {ls : Array Slot} {rest : List Value} {x : Int32} {tgt : Nat}, len = 3 → (pc : Int) + off = (tgt : Int) → (P x → W p l e R s m args below meth c H locs cn.1 cn.2 Q (F0 m tgt ls rest)) → (¬ P x → W p l e R s m args below meth c H locs cn.1 cn.2 Q (F0 m (pc + 3) ls rest)) → W p l e R s m args below meth c H locs cn.1 cn.2 Q (F0 m pc ls (.int x :: rest)))
    (h1 : ∀ x, P x → ax_p k x.toInt (0 : Int32).toInt) (h2 : ∀ x, ¬ P x → ax_p k2 x.toInt (0 : Int32).toInt)
    (h : ax_if1 k k2 off len pc lv st hp pr cn = some out) (hG : ∀ S ∈ out, ax_G p l e R s m args below meth c Q D A b γ pv nL S) : ax_G p l e R s m args below meth c Q D A b γ pv nL (pc, lv, st, hp, pr, cn) := by
  unfold ax_if1 at h
  split at h
  · unfold ax_if at h
    split at h
    · cases h
    · rename_i t ht
      split at h
      · rename_i hl
        cases h
        intro cv cs ws tys ls H locs M hls hK hP hD hS
        obtain ⟨v2, cr, rfl, e3, e4⟩ := ax_popk M.2.2.1
        obtain ⟨x, rfl, e6⟩ := ax_ok_i e3.1
        refine row hl (ax_tgt_ok ht) (fun c1 => ?_) (fun c1 => ?_)
        · exact ax_br_ok (y := 0) (ob := none) (ib := (0, 0)) e6.1 ⟨by decide, by decide⟩ e3.2 trivial (h1 x c1) (fun S hS => hG S (List.mem_append_left _ hS)) ⟨M.1, M.2.1, e4, M.2.2.2⟩ hls hK hP hD hS
        · exact ax_br_ok (y := 0) (ob := none) (ib := (0, 0)) e6.1 ⟨by decide, by decide⟩ e3.2 trivial (h2 x c1) (fun S hS => hG S (List.mem_append_right _ hS)) ⟨M.1, M.2.1, e4, M.2.2.2⟩ hls hK hP hD hS
      · cases h
  · cases h
theorem ax_sws_ok {offs : List Int} {lo : Int} {ia : ax_I} {oa : ax_O} {pc : Nat} {lv : ax_L} {r : ax_K} {hp : List ax_C} {pr : List ax_V} {cn : Nat × Nat} : ∀ {f j : Nat} {out : List ax_S}, ax_sws offs lo ia oa pc lv r hp pr cn f j = some out → ∀ i : Nat, j ≤ i → i < j + f → ∃ off t, offs[i]? = some off ∧ ax_tgt pc off = some t ∧ ∀ S ∈ ax_br 0 ia (lo + i, lo + i) oa none t lv r hp pr cn, S ∈ out
  | 0, j, out, _, i, h1, h2 => by omega
  | f + 1, j, out, h, i, h1, h2 => by
    unfold ax_sws at h
    split at h
    · rename_i off l ho hs
      split at h
      · rename_i t ht
        cases h
        by_cases hi : i = j
        · subst hi
          exact ⟨off, t, ho, ht, fun S hS => List.mem_append_left _ hS⟩
        · obtain ⟨o2, t2, k1, k2, k3⟩ := ax_sws_ok hs i (by omega) (by omega)
          exact ⟨o2, t2, k1, k2, fun S hS => List.mem_append_right _ (k3 S hS)⟩
      · cases h
    · cases h
theorem ax_sw_ok (X : ax_X p R s m args meth c A b γ pv own ini nL L mc ms d cc xs) {dflt lo hi : Int} {offs : Array Int} {len pc : Nat} {lv : ax_L} {st : ax_K} {hp : List ax_C} {pr : List ax_V} {cn : Nat × Nat} {out : List ax_S} (hd : decode cc pc = .ok (.tableswitch dflt lo hi offs, len)) (hlo : -2147483648 ≤ lo ∧ lo ≤ 2147483647 ∧ -2147483648 ≤ hi ∧ hi ≤ 2147483647) (h : ax_sw dflt lo hi offs pc lv st hp pr cn = some out) (hG : ∀ S ∈ out, ax_G p l e R s m args below meth c Q D A b γ pv nL S) : ax_G p l e R s m args below meth c Q D A b γ pv nL (pc, lv, st, hp, pr, cn) := by
  obtain ⟨⟨hx, hb, -⟩, -⟩ := X
  have e0 : ∀ z : Int, -2147483648 ≤ z → z ≤ 2147483647 → (Int32.ofInt z).toInt = z := by
    intro z h1 h2
    rw [Int32.toInt_ofInt, show Int32.size = 2 ^ 32 from rfl, ax_bmod h1 h2]
  unfold ax_sw at h
  split at h
  · split at h
    · rename_i l t hs ht
      cases h
      intro cv cs ws tys ls H locs M hls hK hP hD hS
      obtain ⟨v1, cr, rfl, e1, e2⟩ := ax_popk M.2.2.1
      obtain ⟨x, rfl, e5⟩ := ax_ok_i e1.1
      by_cases c1 : x.toInt < lo
      · refine lv_tableOut hx hb hd (Or.inl c1) (ax_tgt_ok ht) ?_
        exact ax_br_ok (y := Int32.ofInt lo) (ob := none) (ib := (lo, lo)) e5.1 (by rw [e0 lo hlo.1 hlo.2.1]; exact ⟨Int.le_refl _, Int.le_refl _⟩) e1.2 trivial (by rw [e0 lo hlo.1 hlo.2.1]; exact c1) (fun S hS => hG S (List.mem_append_right _ (List.mem_append_left _ hS))) ⟨M.1, M.2.1, e2, M.2.2.2⟩ hls hK hP hD hS
      · by_cases c2 : hi < x.toInt
        · refine lv_tableOut hx hb hd (Or.inr c2) (ax_tgt_ok ht) ?_
          exact ax_br_ok (y := Int32.ofInt hi) (ob := none) (ib := (hi, hi)) e5.1 (by rw [e0 hi hlo.2.2.1 hlo.2.2.2]; exact ⟨Int.le_refl _, Int.le_refl _⟩) e1.2 trivial (by rw [e0 hi hlo.2.2.1 hlo.2.2.2]; exact c2) (fun S hS => hG S (List.mem_append_right _ (List.mem_append_right _ hS))) ⟨M.1, M.2.1, e2, M.2.2.2⟩ hls hK hP hD hS
        · obtain ⟨off, t2, k1, k2, k3⟩ := ax_sws_ok hs (x.toInt - lo).toNat (Nat.zero_le _) (by omega)
          refine lv_tableIn hx hb hd c1 c2 (by rw [← Array.getElem?_toList]; exact k1) (ax_tgt_ok k2) ?_
          have e3 : lo + ((x.toInt - lo).toNat : Int) = x.toInt := by omega
          rw [e3] at k3
          exact ax_br_ok (y := x) (ob := none) (ib := (x.toInt, x.toInt)) e5.1 ⟨Int.le_refl _, Int.le_refl _⟩ e1.2 trivial (k := 0) rfl (fun S hS => hG S (List.mem_append_left _ (k3 S hS))) ⟨M.1, M.2.1, e2, M.2.2.2⟩ hls hK hP hD hS
    · cases h
  · cases h
end AXS2
end
section
/-! ABSTRACT RUNS: fields and arrays -/
section AXS3
theorem ax_layin {ws : List Cond} {ps : List Nat} (h : ws = ps.filterMap (fun i => lw_tbl[i]?)) (hg : ws.all goodWord = true) : ∀ w ∈ ws, w ∈ ax_W := by
  intro w hw
  have h1 := List.all_eq_true.mp hg w hw
  rw [h] at hw
  obtain ⟨i, -, hi⟩ := List.mem_filterMap.mp hw
  exact ax_in i hi h1
def ax_clok (ci : Nat) (q : vw_C) : Prop := (∀ w ∈ u_ws q.1 q.2.1 q.2.2, w ∈ ax_W) ∧ (∀ k, k < q.2.2 → parseFieldDescriptor (q.2.1 k).2.2.1 = some (ax_tyOf ci k)) ∧ ∀ a, a < q.2.2 → ∀ b, b < q.2.2 → a ≠ b → (q.2.1 a).2.1 ≠ (q.2.1 b).2.1
theorem ax_cl : ∀ (ci : Nat) (q : vw_C), vwCl[ci]? = some q → ax_clok ci q
  | 0, q, h => by cases h; exact ⟨ax_layin ax_lay0 (by decide +kernel), tyX1_ok, nmX1⟩
  | 1, q, h => by cases h; exact ⟨ax_layin ax_lay1 (by decide +kernel), tyX2_ok, nmX2⟩
  | 2, q, h => by cases h; exact ⟨ax_layin ax_lay2 (by decide +kernel), tyX3_ok, nmX3⟩
  | 3, q, h => by cases h; exact ⟨ax_layin ax_lay3 (by decide +kernel), tyX4_ok, nmX4⟩
  | 4, q, h => by cases h; exact ⟨ax_layin ax_lay4 (by decide +kernel), tyX5_ok, nmX5⟩
  | 5, q, h => by cases h; exact ⟨ax_layin ax_lay5 (by decide +kernel), tyX6_ok, nmX6⟩
  | 6, q, h => by cases h; exact ⟨ax_layin ax_lay6 (by decide +kernel), tyX7_ok, nmX7⟩
  | 7, q, h => by cases h; exact ⟨ax_layin ax_lay7 (by decide +kernel), tyX9_ok, nmX9⟩
  | 8, q, h => by cases h; exact ⟨ax_layin ax_lay8 (by decide +kernel), tyX10_ok, nmX10⟩
  | 9, q, h => by cases h; exact ⟨ax_layin ax_lay9 (by decide +kernel), tyX11_ok, nmX11⟩
  | 10, q, h => by cases h; exact ⟨ax_layin ax_lay10 (by decide +kernel), tyX12_ok, nmX12⟩
  | n + 11, q, h => by cases h
def ax_fchk (o : Nat) : Bool := (ax_ft o).all (fun e => match vwCl[e.2.1]? with
  | some q => decide (e.2.2.1 < q.2.2) && (decide (lw_tbl[e.2.2.2]? = some (.fieldLink (ax_nm o) e.1 (q.2.1 e.2.2.1).1 (q.2.1 e.2.2.1).2.1 (q.2.1 e.2.2.1).2.2.1)) && goodWord (.fieldLink (ax_nm o) e.1 (q.2.1 e.2.2.1).1 (q.2.1 e.2.2.1).2.1 (q.2.1 e.2.2.1).2.2.1))
  | none => false)
set_option maxRecDepth 100000 in
theorem ax_fchk_ok : (List.range 14).all ax_fchk = true := by decide +kernel
theorem ax_fld_ok {o i ci k q : Nat} (h : ax_fld o i = some (ci, k, q)) : ∃ z : vw_C, vwCl[ci]? = some z ∧ k < z.2.2 ∧ Cond.fieldLink (ax_nm o) i (z.2.1 k).1 (z.2.1 k).2.1 (z.2.1 k).2.2.1 ∈ ax_W := by
  have hm := ax_get_mem h
  have ho : o < 14 := by
    rcases Nat.lt_or_ge o 14 with h1 | h1
    · exact h1
    · obtain ⟨n, rfl⟩ : ∃ n, o = n + 14 := ⟨o - 14, by omega⟩
      cases hm
  have h1 := List.all_eq_true.mp (List.all_eq_true.mp ax_fchk_ok o (List.mem_range.mpr ho)) _ hm
  dsimp only at h1
  split at h1
  · rename_i z hz
    simp only [Bool.and_eq_true, decide_eq_true_eq] at h1
    exact ⟨z, hz, h1.1, ax_in q h1.2.1 h1.2.2⟩
  · cases h1
theorem ax_at {b : Nat} {ws : va_W} {q a : Nat} {w : Nat × va_E} (h : (ax_RR b ws)[q + 1]? = some a) (hw : ws[q]? = some w) : w = (a, w.2) := by
  have h1 : (ws.map (fun q => q.1))[q]? = some a := by simpa [ax_RR] using h
  rw [List.getElem?_map, hw] at h1
  cases h1
  rfl
theorem ax_RR_set {b q a : Nat} {ws : va_W} {x e : va_E} (h : ws[q]? = some (a, x)) : ax_RR b (ws.set q (a, e)) = ax_RR b ws := by
  unfold ax_RR
  congr 1
  rw [List.map_set]
  apply List.ext_getElem?
  intro j
  by_cases hj : q = j
  · subst hj
    rw [List.getElem?_set_self', List.getElem?_map, h]
    rfl
  · rw [List.getElem?_set_ne hj]
theorem ax_nof_ok {γ : Nat → Int} {R : List Nat} {pv : List Value} {cv : List (Nat × Value)} {ws ws' : va_W} {st : ax_K} {cs : List Value} (h : ax_all2 (ax_sok γ R pv cv ws) st cs) : ax_all2 (ax_sok γ R pv cv ws') (ax_nof st) cs := by
  refine ax_all2_mapL _ (fun q v hq => ⟨hq.1, ?_⟩) h
  have h2 := hq.2
  rcases q with ⟨a, _ | i | ⟨q, k⟩ | j⟩
  · trivial
  · exact h2
  · trivial
  · exact h2
/-- a cell is written: the world behind it -/
theorem ax_M_set {γ : Nat → Int} {b : Nat} {pv : List Value} {lv : ax_L} {st : ax_K} {hp : List ax_C} {pr : List ax_V} {cv : List (Nat × Value)} {cs : List Value} {ws : va_W} {tys : List (ClassId × FieldType)} {q a : Nat} {x y : va_E} {c : ax_C}
    (h1 : ax_all2 (ax_ok γ (ax_RR b ws)) pr pv) (h2 : ax_lvs γ (ax_RR b ws) pv lv cv) (h3 : ax_all2 (ax_sok γ (ax_RR b ws) pv cv ws) st cs) (h4 : ax_hps γ (ax_RR b ws) tys hp ws) (hw : ws[q]? = some (a, x)) (hc : ax_cok γ (ax_RR b ws) tys c y) :
    ax_M γ b pv lv (ax_nof st) (hp.set q c) pr cv cs (ws.set q (a, y)) tys := by
  unfold ax_M
  rw [ax_RR_set hw]
  exact ⟨h1, h2, ax_nof_ok h3, ax_all2_set h4 hc⟩
theorem ax_fits_ok {γ : Nat → Int} {R : List Nat} {ty : FieldType} {a : ax_V} {v : Value} (h : ax_fits ty a = true) (hv : ax_ok γ R a v) : narrow ty v = v ∧ fits ty v = true := by
  unfold ax_fits at h
  split at h
  · obtain ⟨x, rfl, -⟩ := ax_ok_i hv
    exact ⟨rfl, rfl⟩
  · obtain ⟨x, rfl, e1⟩ := ax_ok_i hv
    simp only [Bool.and_eq_true, decide_eq_true_eq] at h
    have e2 := e1.1
    have h0 : (0 : Int32).toInt = 0 := by decide
    have h1 : (1 : Int32).toInt = 1 := by decide
    have e3 : x = 0 ∨ x = 1 := by
      rcases (show x.toInt = 0 ∨ x.toInt = 1 by omega) with z | z
      · exact Or.inl (Int32.toInt_inj.mp (by rw [z, h0]))
      · exact Or.inr (Int32.toInt_inj.mp (by rw [z, h1]))
    rcases e3 with rfl | rfl <;> exact ⟨by decide, by decide⟩
  · obtain ⟨x, rfl, -⟩ := ax_ok_l hv
    exact ⟨rfl, rfl⟩
  · rename_i n r
    rcases r with _ | r
    · cases ax_ok_n hv; exact ⟨rfl, rfl⟩
    · obtain ⟨x, rfl, -⟩ := ax_ok_r hv; exact ⟨rfl, rfl⟩
  · rename_i n r
    rcases r with _ | r
    · cases ax_ok_n hv; exact ⟨rfl, rfl⟩
    · obtain ⟨x, rfl, -⟩ := ax_ok_r hv; exact ⟨rfl, rfl⟩
  · cases h
variable {p : Program} {l : Launch} {e : Env} {R : Room} {s : State} {m : MethodId} {args : Array Value} {below : List Frame} {meth : Method} {c : Code} {Q : State → Prop} {D : va_G} {A : Nat → Prop} {b : Nat} {γ : Nat → Int} {pv : List Value} {own : Nat} {ini : Bool} {nL L mc ms d : Nat} {cc : ByteArray} {xs : Nat → Int32} {call : ax_F}
theorem ax_gf_ok (X : ax_X p R s m args meth c A b γ pv own ini nL L mc ms d cc xs) {i len pc : Nat} {lv : ax_L} {st : ax_K} {hp : List ax_C} {pr : List ax_V} {cn : Nat × Nat} {out : List ax_S} (hd : decode cc pc = .ok (.getfield i, len)) (h : ax_gf own i len pc lv st hp pr cn = some out) (hG : ∀ S ∈ out, ax_G p l e R s m args below meth c Q D A b γ pv nL S) : ax_G p l e R s m args below meth c Q D A b γ pv nL (pc, lv, st, hp, pr, cn) := by
  obtain ⟨⟨hx, hb, hml, hown, hts⟩, -⟩ := X
  unfold ax_gf at h
  split at h
  · split at h
    · rename_i q o r x x2 ci k q0 cj fs hf hq
      split at h
      · rename_i v hv
        split at h
        · rename_i hl
          obtain ⟨rfl, rfl⟩ := hl
          cases h
          intro cv cs ws tys ls H locs M hls hK hP hD hS
          obtain ⟨v1, cr, rfl, e1, e2⟩ := ax_popk M.2.2.1
          obtain ⟨a, rfl, e3⟩ := ax_ok_r e1.1
          obtain ⟨w, e4, e5⟩ := ax_all2_get M.2.2.2 hq
          have e6 := ax_at e3 e4
          obtain ⟨vs, e7, e8⟩ := ax_cok_o e5
          rw [e7] at e6
          subst e6
          obtain ⟨u, e9, e10⟩ := ax_all2_get e8 hv
          obtain ⟨z, f1, f2, f3⟩ := ax_fld_ok hf
          refine va_get (C := z.1) (T := z.2.1) (N := z.2.2) (ref := (z.2.1 k).1) hx hb hts (ax_cl ci z f1).1 hown hK hP q e4 f1 k f2 (hts _ f3) (fun _ h9 => h9) e9 hd ?_
          exact hG _ (List.mem_singleton.mpr rfl) cv _ ws tys ls H locs ⟨M.1, M.2.1, ⟨⟨e10, ⟨a, ci, vs, e4, e9⟩⟩, e2⟩, M.2.2.2⟩ hls hK hP hD hS
        · cases h
      · cases h
    · cases h
  · cases h
theorem ax_pf_ok (X : ax_X p R s m args meth c A b γ pv own ini nL L mc ms d cc xs) {i len pc : Nat} {lv : ax_L} {st : ax_K} {hp : List ax_C} {pr : List ax_V} {cn : Nat × Nat} {out : List ax_S} (hd : decode cc pc = .ok (.putfield i, len)) (h : ax_pf own ini i len pc lv st hp pr cn = some out) (hG : ∀ S ∈ out, ax_G p l e R s m args below meth c Q D A b γ pv nL S) : ax_G p l e R s m args below meth c Q D A b γ pv nL (pc, lv, st, hp, pr, cn) := by
  obtain ⟨⟨hx, hb, hml, hown, hts⟩, hini, -⟩ := X
  unfold ax_pf at h
  split at h
  · split at h
    · rename_i v ov q o r x x2 ci k q0 cj fs hf hq
      split at h
      · rename_i hl
        obtain ⟨rfl, hkl, hfit, hwr, rfl⟩ := hl
        cases h
        intro cv cs ws tys ls H locs M hls hK hP hD hS
        obtain ⟨v1, cr, rfl, d1, d2⟩ := ax_popk M.2.2.1
        obtain ⟨v2, cr, rfl, e1, e2⟩ := ax_popk d2
        obtain ⟨a, rfl, e3⟩ := ax_ok_r e1.1
        obtain ⟨w, e4, e5⟩ := ax_all2_get M.2.2.2 hq
        have e6 := ax_at e3 e4
        obtain ⟨vs, e7, e8⟩ := ax_cok_o e5
        rw [e7] at e6
        subst e6
        obtain ⟨z, f1, f2, f3⟩ := ax_fld_ok hf
        obtain ⟨g1, g2, g3⟩ := ax_cl ci z f1
        obtain ⟨n1, n2⟩ := ax_fits_ok hfit d1.1
        have hlen := ax_all2_len e8
        unfold ax_wr at hwr
        rw [f1] at hwr
        dsimp only at hwr
        split at hwr
        · rename_i hfin
          simp only [Bool.and_eq_true, decide_eq_true_eq] at hwr
          refine va_putF (C := z.1) (T := z.2.1) (N := z.2.2) (ref := (z.2.1 k).1) hx hb hts g1 (ax_tyOf ci) g2 g3 hown hK hP hD hS q e4 f1 k f2 (hts _ f3) (fun _ h9 => h9) hfin (hini hwr.1) hwr.2 (g2 k f2) n1 n2 (by rw [← hlen]; exact hkl) hd (fun H1 locs1 hP1 hD1 hS1 => ?_)
          exact hG _ (List.mem_singleton.mpr rfl) cv _ _ tys ls H1 locs1 (ax_M_set (y := .inr (ci, vs.set k v1)) M.1 M.2.1 e2 M.2.2.2 e4 ⟨rfl, ax_all2_set e8 d1.1⟩) hls hK hP1 hD1 hS1
        · rename_i hfin
          refine va_put (C := z.1) (T := z.2.1) (N := z.2.2) (ref := (z.2.1 k).1) hx hb hts g1 (ax_tyOf ci) g2 g3 hown hK hP hD hS q e4 f1 k f2 (hts _ f3) (fun _ h9 => h9) (by simpa using hfin) (g2 k f2) n1 n2 (by rw [← hlen]; exact hkl) hd (fun H1 locs1 hP1 hD1 hS1 => ?_)
          exact hG _ (List.mem_singleton.mpr rfl) cv _ _ tys ls H1 locs1 (ax_M_set (y := .inr (ci, vs.set k v1)) M.1 M.2.1 e2 M.2.2.2 e4 ⟨rfl, ax_all2_set e8 d1.1⟩) hls hK hP1 hD1 hS1
      · cases h
    · cases h
  · cases h
theorem ax_ain_ok {a : ax_N} {n : Nat} {x : Int32} (h : ax_ain a n = true) (hx : ax_nok γ a x.toInt) : vp_in x n ∧ x.toNatClampNeg < n ∧ (x.toNatClampNeg : Int) = x.toInt := by
  unfold ax_ain at h
  simp only [Bool.and_eq_true, decide_eq_true_eq] at h
  have h1 := hx.1
  have h2 : x.toNatClampNeg = x.toInt.toNat := rfl
  exact ⟨vp_in_iff.mpr ⟨by omega, by omega⟩, by omega, by omega⟩
theorem ax_nums_ok {hp : List ax_C} {k : Nat} {ty : FieldType} {n : Nat} {iv : ax_I} (h : ax_nums hp k = some (ty, n, iv)) : ∃ q, k = q + 1 ∧ hp[q]? = some (.inr ((ty, n), .inl iv)) := by
  unfold ax_nums at h
  split at h
  · cases h
  · rename_i q
    split at h
    · rename_i hq
      cases h
      exact ⟨q, rfl, hq⟩
    · cases h
theorem ax_xld_ok {ts : List FieldType} {len pc : Nat} {lv : ax_L} {st : ax_K} {hp : List ax_C} {pr : List ax_V} {cn : Nat × Nat} {out : List ax_S}
    (row : ∀ ty ∈ ts, len = 1 → ∀ {H : Heap} {locs : List Loc} {ls : Array Slot} {rest : List Value} {ws : va_W} {tys : List (ClassId × FieldType)} {q t0 a n : Nat} {cA : ClassId} {f : Nat → Int32} {x : Int32}, va_K D vwCl tys s → va_P D vwCl ws H → ws[q]? = some (a, .inl (cA, n, .inl f)) → tys[t0]? = some (cA, ty) → vp_in x n → W p l e R s m args below meth c H locs cn.1 cn.2 Q (F0 m (pc + 1) ls (.int (f x.toNatClampNeg) :: rest)) → W p l e R s m args below meth c H locs cn.1 cn.2 Q (F0 m pc ls (.int x :: .ref a :: rest)))
    (h : ax_xld ts len pc lv st hp pr cn = some out) (hG : ∀ S ∈ out, ax_G p l e R s m args below meth c Q D A b γ pv nL S) : ax_G p l e R s m args below meth c Q D A b γ pv nL (pc, lv, st, hp, pr, cn) := by
  unfold ax_xld at h
  split at h
  · split at h
    · rename_i ty n iv hn
      split at h
      · rename_i hl
        obtain ⟨ha, hty, hlen⟩ := hl
        cases h
        intro cv cs ws tys ls H locs M hls hK hP hD hS
        obtain ⟨v1, cr, rfl, d1, d2⟩ := ax_popk M.2.2.1
        obtain ⟨v2, cr, rfl, e1, e2⟩ := ax_popk d2
        obtain ⟨x, rfl, d3⟩ := ax_ok_i d1.1
        obtain ⟨a, rfl, e3⟩ := ax_ok_r e1.1
        obtain ⟨q, rfl, hq⟩ := ax_nums_ok hn
        obtain ⟨w, e4, e5⟩ := ax_all2_get M.2.2.2 hq
        have e6 := ax_at e3 e4
        obtain ⟨cA, f, e7, ⟨t0, e8⟩, e9⟩ := ax_cok_n e5
        rw [e7] at e6
        subst e6
        obtain ⟨k1, k2, k3⟩ := ax_ain_ok ha d3
        refine row ty hty hlen hK hP e4 e8 k1 ?_
        exact hG _ (List.mem_singleton.mpr rfl) cv _ ws tys ls H locs ⟨M.1, M.2.1, ⟨⟨⟨e9 _ k2, fun _ _ h => by cases h⟩, trivial⟩, e2⟩, M.2.2.2⟩ hls hK hP hD hS
      · cases h
    · cases h
  · cases h
theorem ax_sld_ok (X : ax_X p R s m args meth c A b γ pv own ini nL L mc ms d cc xs) {len pc : Nat} {lv : ax_L} {st : ax_K} {hp : List ax_C} {pr : List ax_V} {cn : Nat × Nat} {out : List ax_S} (hd : decode cc pc = .ok (.iaload, len)) (h : ax_sld L len pc lv st hp pr cn = some out) (hG : ∀ S ∈ out, ax_G p l e R s m args below meth c Q D A b γ pv nL S) : ax_G p l e R s m args below meth c Q D A b γ pv nL (pc, lv, st, hp, pr, cn) := by
  obtain ⟨⟨hx, hb, hml, hown, hts⟩, -, -, -, -, -, hsc⟩ := X
  unfold ax_sld at h
  split at h
  · split at h
    · rename_i x1 j hs
      split at h
      · rename_i x2 v hv
        split at h
        · rename_i hl
          obtain ⟨ha, rfl⟩ := hl
          cases h
          intro cv cs ws tys ls H locs M hls hK hP hD hS
          obtain ⟨v1, cr, rfl, d1, d2⟩ := ax_popk M.2.2.1
          obtain ⟨v2, cr, rfl, e1, e2⟩ := ax_popk d2
          obtain ⟨x, rfl, d3⟩ := ax_ok_i d1.1
          obtain ⟨a, rfl, e3⟩ := ax_ok_r e1.1
          obtain ⟨k1, k2, k3⟩ := ax_ain_ok ha d3
          obtain ⟨s1, s2, s3, s4⟩ := hsc (by omega)
          have e4 : b = a := by simpa [ax_RR] using e3
          subst e4
          obtain ⟨vv2, f1, f2⟩ := ax_all2_get M.1 hv
          have f3 := s4 _ _ f1
          have f4 : x.toInt = γ 0 + (Int.ofNat j) := d3.2 _ _ hs
          have f5 : (γ 0 + (j : Int)).toNat = x.toNatClampNeg := by
            have : Int.ofNat j = (j : Int) := rfl
            omega
          rw [f5] at f3
          subst f3
          refine va_sld hx hb s1 s2 s3 hS k1 hd ?_
          exact hG _ (List.mem_singleton.mpr rfl) cv _ ws tys ls H locs ⟨M.1, M.2.1, ⟨⟨f2, f1⟩, e2⟩, M.2.2.2⟩ hls hK hP hD hS
        · cases h
      · cases h
    · cases h
  · cases h
theorem ax_iald_ok (X : ax_X p R s m args meth c A b γ pv own ini nL L mc ms d cc xs) {len pc : Nat} {lv : ax_L} {st : ax_K} {hp : List ax_C} {pr : List ax_V} {cn : Nat × Nat} {out : List ax_S} (hd : decode cc pc = .ok (.iaload, len)) (h : ax_iald L len pc lv st hp pr cn = some out) (hG : ∀ S ∈ out, ax_G p l e R s m args below meth c Q D A b γ pv nL S) : ax_G p l e R s m args below meth c Q D A b γ pv nL (pc, lv, st, hp, pr, cn) := by
  unfold ax_iald at h
  split at h
  · exact ax_sld_ok X hd h hG
  · obtain ⟨⟨hx, hb, hml, hown, hts⟩, -⟩ := X
    refine ax_xld_ok (fun ty hty hlen => ?_) h hG
    cases List.mem_singleton.mp hty
    subst hlen
    intro H locs ls rest ws tys q t0 a n cA f x hK hP h1 h2 h3 kk
    exact va_iald hx hb hK hP q t0 h1 h2 h3 hd kk
theorem ax_bald_ok (X : ax_X p R s m args meth c A b γ pv own ini nL L mc ms d cc xs) {len pc : Nat} {lv : ax_L} {st : ax_K} {hp : List ax_C} {pr : List ax_V} {cn : Nat × Nat} {out : List ax_S} (hd : decode cc pc = .ok (.baload, len)) (h : ax_xld [.byte, .boolean] len pc lv st hp pr cn = some out) (hG : ∀ S ∈ out, ax_G p l e R s m args below meth c Q D A b γ pv nL S) : ax_G p l e R s m args below meth c Q D A b γ pv nL (pc, lv, st, hp, pr, cn) := by
  obtain ⟨⟨hx, hb, hml, hown, hts⟩, -⟩ := X
  refine ax_xld_ok (fun ty hty hlen => ?_) h hG
  subst hlen
  intro H locs ls rest ws tys q t0 a n cA f x hK hP h1 h2 h3 kk
  rcases List.mem_cons.mp hty with rfl | hty
  · exact va_bald hx hb hK hP q t0 h1 h2 h3 hd kk
  · cases List.mem_singleton.mp hty
    exact va_zald hx hb hK hP q t0 h1 h2 h3 hd kk
theorem ax_lald_ok (X : ax_X p R s m args meth c A b γ pv own ini nL L mc ms d cc xs) {len pc : Nat} {lv : ax_L} {st : ax_K} {hp : List ax_C} {pr : List ax_V} {cn : Nat × Nat} {out : List ax_S} (hd : decode cc pc = .ok (.laload, len)) (h : ax_lald len pc lv st hp pr cn = some out) (hG : ∀ S ∈ out, ax_G p l e R s m args below meth c Q D A b γ pv nL S) : ax_G p l e R s m args below meth c Q D A b γ pv nL (pc, lv, st, hp, pr, cn) := by
  obtain ⟨⟨hx, hb, hml, hown, hts⟩, -⟩ := X
  unfold ax_lald at h
  split at h
  · split at h
    · rename_i ai o1 q o2 r x n iv hq
      split at h
      · rename_i hl
        obtain ⟨ha, rfl⟩ := hl
        cases h
        intro cv cs ws tys ls H locs M hls hK hP hD hS
        obtain ⟨v1, cr, rfl, d1, d2⟩ := ax_popk M.2.2.1
        obtain ⟨v2, cr, rfl, e1, e2⟩ := ax_popk d2
        obtain ⟨x, rfl, d3⟩ := ax_ok_i d1.1
        obtain ⟨a, rfl, e3⟩ := ax_ok_r e1.1
        obtain ⟨w, e4, e5⟩ := ax_all2_get M.2.2.2 hq
        have e6 := ax_at e3 e4
        obtain ⟨cA, f, e7, ⟨t0, e8⟩, e9⟩ := ax_cok_l e5
        rw [e7] at e6
        subst e6
        obtain ⟨k1, k2, k3⟩ := ax_ain_ok ha d3
        refine va_lald hx hb hK hP q t0 e4 e8 k1 hd ?_
        exact hG _ (List.mem_singleton.mpr rfl) cv _ ws tys ls H locs ⟨M.1, M.2.1, ⟨⟨e9 _ k2, trivial⟩, e2⟩, M.2.2.2⟩ hls hK hP hD hS
      · cases h
    · cases h
  · cases h
theorem ax_alds_ok {rs : List (Option Nat)} {oa : ax_O} {pc : Nat} {lv : ax_L} {r : ax_K} {hp : List ax_C} {pr : List ax_V} {cn : Nat × Nat} : ∀ {f j : Nat} {out : List ax_S}, ax_alds rs oa pc lv r hp pr cn f j = some out → ∀ i : Nat, j ≤ i → i < j + f → ∃ x, rs[i]? = some x ∧ (pc, (ax_ref oa ((i : Int), (i : Int)) (lv, hp, pr)).1, (Sum.inr (Sum.inr x), none) :: r, (ax_ref oa ((i : Int), (i : Int)) (lv, hp, pr)).2.1, (ax_ref oa ((i : Int), (i : Int)) (lv, hp, pr)).2.2, cn) ∈ out
  | 0, j, out, _, i, h1, h2 => by omega
  | f + 1, j, out, h, i, h1, h2 => by
    unfold ax_alds at h
    split at h
    · rename_i x l hx hs
      cases h
      by_cases hi : i = j
      · subst hi
        exact ⟨x, hx, List.mem_cons_self⟩
      · obtain ⟨x2, k1, k2⟩ := ax_alds_ok hs i (by omega) (by omega)
        exact ⟨x2, k1, List.mem_cons_of_mem _ k2⟩
    · cases h
theorem ax_aald_ok (X : ax_X p R s m args meth c A b γ pv own ini nL L mc ms d cc xs) {len pc : Nat} {lv : ax_L} {st : ax_K} {hp : List ax_C} {pr : List ax_V} {cn : Nat × Nat} {out : List ax_S} (hd : decode cc pc = .ok (.aaload, len)) (h : ax_aald len pc lv st hp pr cn = some out) (hG : ∀ S ∈ out, ax_G p l e R s m args below meth c Q D A b γ pv nL S) : ax_G p l e R s m args below meth c Q D A b γ pv nL (pc, lv, st, hp, pr, cn) := by
  obtain ⟨⟨hx, hb, hml, hown, hts⟩, -⟩ := X
  unfold ax_aald at h
  split at h
  · split at h
    · rename_i ai o1 q o2 r x C n rs hq
      split at h
      · rename_i hl
        obtain ⟨ha, rfl⟩ := hl
        intro cv cs ws tys ls H locs M hls hK hP hD hS
        obtain ⟨v1, cr, rfl, d1, d2⟩ := ax_popk M.2.2.1
        obtain ⟨v2, cr, rfl, e1, e2⟩ := ax_popk d2
        obtain ⟨x, rfl, d3⟩ := ax_ok_i d1.1
        obtain ⟨a, rfl, e3⟩ := ax_ok_r e1.1
        obtain ⟨w, e4, e5⟩ := ax_all2_get M.2.2.2 hq
        have e6 := ax_at e3 e4
        obtain ⟨cA, f, e7, ⟨t0, e8⟩, e9⟩ := ax_cok_q e5
        rw [e7] at e6
        subst e6
        obtain ⟨k1, k2, k3⟩ := ax_ain_ok ha d3
        refine va_aldq hx hb hK hP q t0 e4 e8 k1 hd ?_
        have hbd := d3.1
        have ha2 := ha
        unfold ax_ain at ha2
        simp only [Bool.and_eq_true, decide_eq_true_eq] at ha2
        obtain ⟨y, g1, g2⟩ := ax_alds_ok h x.toNatClampNeg (by omega) (by omega)
        obtain ⟨y2, g3, g4⟩ := e9 _ k2
        rw [g1] at g3
        cases g3
        have M1 := ax_ref_ok (iv := ((x.toNatClampNeg : Int), (x.toNatClampNeg : Int))) d1.2 ⟨by rw [k3]; exact Int.le_refl _, by rw [k3]; exact Int.le_refl _⟩ (show ax_M γ b pv lv r hp pr cv cr ws tys from ⟨M.1, M.2.1, e2, M.2.2.2⟩)
        exact hG _ g2 cv _ ws tys ls H locs ⟨M1.1, M1.2.1, ⟨⟨ax_rok_v g4, trivial⟩, M1.2.2.1⟩, M1.2.2.2⟩ hls hK hP hD hS
      · cases h
    · cases h
  · cases h
theorem ax_alen_ok (X : ax_X p R s m args meth c A b γ pv own ini nL L mc ms d cc xs) {len pc : Nat} {lv : ax_L} {st : ax_K} {hp : List ax_C} {pr : List ax_V} {cn : Nat × Nat} {out : List ax_S} (hd : decode cc pc = .ok (.arraylength, len)) (h : ax_alen L len pc lv st hp pr cn = some out) (hG : ∀ S ∈ out, ax_G p l e R s m args below meth c Q D A b γ pv nL S) : ax_G p l e R s m args below meth c Q D A b γ pv nL (pc, lv, st, hp, pr, cn) := by
  obtain ⟨⟨hx, hb, hml, hown, hts⟩, -, -, -, -, -, hsc⟩ := X
  unfold ax_alen at h
  split at h
  · split at h
    · rename_i hl
      obtain ⟨rfl, hL, hL2⟩ := hl
      cases h
      intro cv cs ws tys ls H locs M hls hK hP hD hS
      obtain ⟨v2, cr, rfl, e1, e2⟩ := ax_popk M.2.2.1
      obtain ⟨a, rfl, e3⟩ := ax_ok_r e1.1
      obtain ⟨s1, s2, s3, s4⟩ := hsc hL
      have e4 : b = a := by simpa [ax_RR] using e3
      subst e4
      refine va_slen hx hb s1 s2 s3 hS hd ?_
      have e5 : (Int32.ofNat (L - 1)).toInt = ((L - 1 : Nat) : Int) := nI_toInt (by omega)
      exact hG _ (List.mem_singleton.mpr rfl) cv _ ws tys ls H locs ⟨M.1, M.2.1, ⟨⟨⟨by rw [e5]; exact ⟨Int.le_refl _, Int.le_refl _⟩, fun _ _ h => by cases h⟩, trivial⟩, e2⟩, M.2.2.2⟩ hls hK hP hD hS
    · cases h
  · split at h
    · rename_i q o r x ty n bd hq
      split at h
      · rename_i hl
        obtain ⟨rfl, hn⟩ := hl
        cases h
        intro cv cs ws tys ls H locs M hls hK hP hD hS
        obtain ⟨v2, cr, rfl, e1, e2⟩ := ax_popk M.2.2.1
        obtain ⟨a, rfl, e3⟩ := ax_ok_r e1.1
        obtain ⟨w, e4, e5⟩ := ax_all2_get M.2.2.2 hq
        have e6 := ax_at e3 e4
        have e7 : ∃ (cA : ClassId) (x : vp_A) (t0 : Nat), w.2 = .inl (cA, x) ∧ x.1 = n ∧ tys[t0]? = some (cA, ty) := by
          rcases bd with iv | iv | rs
          · obtain ⟨cA, f, e7, ⟨t0, e8⟩, e9⟩ := ax_cok_n e5
            exact ⟨cA, _, t0, e7, rfl, e8⟩
          · obtain ⟨cA, f, e7, ⟨t0, e8⟩, e9⟩ := ax_cok_l e5
            exact ⟨cA, _, t0, e7, rfl, e8⟩
          · obtain ⟨cA, f, e7, ⟨t0, e8⟩, e9⟩ := ax_cok_q e5
            exact ⟨cA, _, t0, e7, rfl, e8⟩
        obtain ⟨cA, y, t0, e7, e8, e9⟩ := e7
        rw [e7] at e6
        subst e6
        refine va_alen hx hb hK hP q t0 e4 e9 rfl hd ?_
        have e10 : (Int32.ofNat y.1).toInt = (n : Int) := by rw [e8]; exact nI_toInt (by omega)
        exact hG _ (List.mem_singleton.mpr rfl) cv _ ws tys ls H locs ⟨M.1, M.2.1, ⟨⟨⟨by rw [e10]; exact ⟨Int.le_refl _, Int.le_refl _⟩, fun _ _ h => by cases h⟩, trivial⟩, e2⟩, M.2.2.2⟩ hls hK hP hD hS
      · cases h
    · cases h
  · cases h
end AXS3
end
section
/-! ABSTRACT RUNS: array stores, new cells -/
section AXS4
def ax_gst (ty : FieldType) (y : Int32) : Int32 := match ty with
  | .byte => vp_nar .byte y
  | .boolean => vp_nar .boolean y
  | _ => y
theorem ax_nar_ok {ty : FieldType} {v : ax_I} {y : Int32} (h : v.1 ≤ y.toInt ∧ y.toInt ≤ v.2) : (ax_nar ty v).1 ≤ (ax_gst ty y).toInt ∧ (ax_gst ty y).toInt ≤ (ax_nar ty v).2 := by
  unfold ax_nar ax_gst
  split
  · rw [vp_nar_byte]
    have e1 : y.toInt8.toInt32.toInt = y.toInt8.toInt := Int8.toInt_toInt32 _
    rw [e1]
    split
    · rename_i hv
      have e2 : y.toInt8.toInt = y.toInt.bmod (2 ^ 8) := Int32.toInt_toInt8 _
      have e3 : ((2 ^ 8 : Nat) : Int) = 256 := by decide
      have e4 : y.toInt.bmod (2 ^ 8) = y.toInt := by
        unfold Int.bmod
        simp only [e3]
        split <;> omega
      rw [e2, e4]
      exact h
    · have h1 := y.toInt8.le_toInt
      have h2 := y.toInt8.toInt_lt
      refine ⟨?_, ?_⟩ <;> dsimp only <;> omega
  · have e1 : vp_nar .boolean y = y &&& 1 := rfl
    rw [e1]
    have h0 : (0 : Int32).toInt = 0 := by decide
    have h1 : (1 : Int32).toInt = 1 := by decide
    split
    · rename_i hv
      have e3 : y = 0 ∨ y = 1 := by
        rcases (show y.toInt = 0 ∨ y.toInt = 1 by omega) with z | z
        · exact Or.inl (Int32.toInt_inj.mp (by rw [z, h0]))
        · exact Or.inr (Int32.toInt_inj.mp (by rw [z, h1]))
      rcases e3 with rfl | rfl
      · exact h
      · exact h
    · have := ax_andn (x := y) (y := 1) (by rw [h1]; decide)
      rw [h1] at this
      exact this
  · rename_i n1 n2
    split
    · exact (n1 rfl).elim
    · exact (n2 rfl).elim
    · exact h
theorem ax_hull_ok {a b : ax_I} {x : Int} (h : (a.1 ≤ x ∧ x ≤ a.2) ∨ (b.1 ≤ x ∧ x ≤ b.2)) : (ax_hull a b).1 ≤ x ∧ x ≤ (ax_hull a b).2 := by
  unfold ax_hull
  dsimp only
  omega
variable {p : Program} {l : Launch} {e : Env} {R : Room} {s : State} {m : MethodId} {args : Array Value} {below : List Frame} {meth : Method} {c : Code} {Q : State → Prop} {D : va_G} {A : Nat → Prop} {b : Nat} {γ : Nat → Int} {pv : List Value} {own : Nat} {ini : Bool} {nL L mc ms d : Nat} {cc : ByteArray} {xs : Nat → Int32} {call : ax_F}
theorem ax_xst_ok {ts : List FieldType} {len pc : Nat} {lv : ax_L} {st : ax_K} {hp : List ax_C} {pr : List ax_V} {cn : Nat × Nat} {out : List ax_S}
    (row : ∀ ty ∈ ts, len = 1 → ∀ {H : Heap} {locs : List Loc} {ls : Array Slot} {rest : List Value} {ws : va_W} {tys : List (ClassId × FieldType)} {q t0 a n : Nat} {cA : ClassId} {f : Nat → Int32} {x y : Int32}, va_K D vwCl tys s → va_P D vwCl ws H → va_D A ws → va_S A s.heap H locs → ws[q]? = some (a, .inl (cA, n, .inl f)) → tys[t0]? = some (cA, ty) → vp_in x n → (∀ (H1 : Heap) (locs1 : List Loc), va_P D vwCl (ws.set q (a, .inl (cA, n, .inl (upd f x.toNatClampNeg (ax_gst ty y))))) H1 → va_D A (ws.set q (a, .inl (cA, n, .inl (upd f x.toNatClampNeg (ax_gst ty y))))) → va_S A s.heap H1 locs1 → W p l e R s m args below meth c H1 locs1 cn.1 cn.2 Q (F0 m (pc + 1) ls rest)) → W p l e R s m args below meth c H locs cn.1 cn.2 Q (F0 m pc ls (.int y :: .int x :: .ref a :: rest)))
    (h : ax_xst ts len pc lv st hp pr cn = some out) (hG : ∀ S ∈ out, ax_G p l e R s m args below meth c Q D A b γ pv nL S) : ax_G p l e R s m args below meth c Q D A b γ pv nL (pc, lv, st, hp, pr, cn) := by
  unfold ax_xst at h
  split at h
  · split at h
    · rename_i ty n iv hn
      split at h
      · rename_i hl
        obtain ⟨ha, hty, hlen⟩ := hl
        cases h
        intro cv cs ws tys ls H locs M hls hK hP hD hS
        obtain ⟨v0, cr, rfl, c1, c2⟩ := ax_popk M.2.2.1
        obtain ⟨v1, cr, rfl, d1, d2⟩ := ax_popk c2
        obtain ⟨v2, cr, rfl, e1, e2⟩ := ax_popk d2
        obtain ⟨y, rfl, c3⟩ := ax_ok_i c1.1
        obtain ⟨x, rfl, d3⟩ := ax_ok_i d1.1
        obtain ⟨a, rfl, e3⟩ := ax_ok_r e1.1
        obtain ⟨q, rfl, hq⟩ := ax_nums_ok hn
        obtain ⟨w, e4, e5⟩ := ax_all2_get M.2.2.2 hq
        have e6 := ax_at e3 e4
        obtain ⟨cA, f, e7, ⟨t0, e8⟩, e9⟩ := ax_cok_n e5
        rw [e7] at e6
        subst e6
        obtain ⟨k1, k2, k3⟩ := ax_ain_ok ha d3
        refine row ty hty hlen hK hP hD hS e4 e8 k1 (fun H1 locs1 hP1 hD1 hS1 => ?_)
        refine hG _ (List.mem_singleton.mpr rfl) cv _ _ tys ls H1 locs1 (ax_M_set (y := .inl (cA, n, .inl (upd f x.toNatClampNeg (ax_gst ty y)))) M.1 M.2.1 e2 M.2.2.2 e4 ⟨rfl, ⟨t0, e8⟩, fun j hj => ?_⟩) hls hK hP1 hD1 hS1
        unfold upd
        split
        · exact ax_hull_ok (Or.inr (ax_nar_ok c3.1))
        · exact ax_hull_ok (Or.inl (e9 j hj))
      · cases h
    · cases h
  · cases h
theorem ax_iast_ok (X : ax_X p R s m args meth c A b γ pv own ini nL L mc ms d cc xs) {len pc : Nat} {lv : ax_L} {st : ax_K} {hp : List ax_C} {pr : List ax_V} {cn : Nat × Nat} {out : List ax_S} (hd : decode cc pc = .ok (.iastore, len)) (h : ax_xst [.int] len pc lv st hp pr cn = some out) (hG : ∀ S ∈ out, ax_G p l e R s m args below meth c Q D A b γ pv nL S) : ax_G p l e R s m args below meth c Q D A b γ pv nL (pc, lv, st, hp, pr, cn) := by
  obtain ⟨⟨hx, hb, hml, hown, hts⟩, -⟩ := X
  refine ax_xst_ok (fun ty hty hlen => ?_) h hG
  cases List.mem_singleton.mp hty
  subst hlen
  intro H locs ls rest ws tys q t0 a n cA f x y hK hP hD hS h1 h2 h3 kk
  exact va_iast hx hb hK hP hD hS q t0 h1 h2 h3 hd kk
theorem ax_bast_ok (X : ax_X p R s m args meth c A b γ pv own ini nL L mc ms d cc xs) {len pc : Nat} {lv : ax_L} {st : ax_K} {hp : List ax_C} {pr : List ax_V} {cn : Nat × Nat} {out : List ax_S} (hd : decode cc pc = .ok (.bastore, len)) (h : ax_xst [.byte, .boolean] len pc lv st hp pr cn = some out) (hG : ∀ S ∈ out, ax_G p l e R s m args below meth c Q D A b γ pv nL S) : ax_G p l e R s m args below meth c Q D A b γ pv nL (pc, lv, st, hp, pr, cn) := by
  obtain ⟨⟨hx, hb, hml, hown, hts⟩, -⟩ := X
  refine ax_xst_ok (fun ty hty hlen => ?_) h hG
  subst hlen
  intro H locs ls rest ws tys q t0 a n cA f x y hK hP hD hS h1 h2 h3 kk
  rcases List.mem_cons.mp hty with rfl | hty
  · exact va_bast hx hb hK hP hD hS q t0 h1 h2 h3 hd kk
  · cases List.mem_singleton.mp hty
    exact va_zast hx hb hK hP hD hS q t0 h1 h2 h3 hd kk
theorem ax_last_ok (X : ax_X p R s m args meth c A b γ pv own ini nL L mc ms d cc xs) {len pc : Nat} {lv : ax_L} {st : ax_K} {hp : List ax_C} {pr : List ax_V} {cn : Nat × Nat} {out : List ax_S} (hd : decode cc pc = .ok (.lastore, len)) (h : ax_last len pc lv st hp pr cn = some out) (hG : ∀ S ∈ out, ax_G p l e R s m args below meth c Q D A b γ pv nL S) : ax_G p l e R s m args below meth c Q D A b γ pv nL (pc, lv, st, hp, pr, cn) := by
  obtain ⟨⟨hx, hb, hml, hown, hts⟩, -⟩ := X
  unfold ax_last at h
  split at h
  · split at h
    · rename_i vv o0 ai o1 q o2 r x n iv hq
      split at h
      · rename_i hl
        obtain ⟨ha, rfl⟩ := hl
        cases h
        intro cv cs ws tys ls H locs M hls hK hP hD hS
        obtain ⟨v0, cr, rfl, c1, c2⟩ := ax_popk M.2.2.1
        obtain ⟨v1, cr, rfl, d1, d2⟩ := ax_popk c2
        obtain ⟨v2, cr, rfl, e1, e2⟩ := ax_popk d2
        obtain ⟨y, rfl, c3⟩ := ax_ok_l c1.1
        obtain ⟨x, rfl, d3⟩ := ax_ok_i d1.1
        obtain ⟨a, rfl, e3⟩ := ax_ok_r e1.1
        obtain ⟨w, e4, e5⟩ := ax_all2_get M.2.2.2 hq
        have e6 := ax_at e3 e4
        obtain ⟨cA, f, e7, ⟨t0, e8⟩, e9⟩ := ax_cok_l e5
        rw [e7] at e6
        subst e6
        obtain ⟨k1, k2, k3⟩ := ax_ain_ok ha d3
        refine va_last hx hb hK hP hD hS q t0 e4 e8 k1 hd (fun H1 locs1 hP1 hD1 hS1 => ?_)
        refine hG _ (List.mem_singleton.mpr rfl) cv _ _ tys ls H1 locs1 (ax_M_set (y := .inl (cA, n, .inr (.inl (vp_updL f x.toNatClampNeg y)))) M.1 M.2.1 e2 M.2.2.2 e4 ⟨rfl, ⟨t0, e8⟩, fun j hj => ?_⟩) hls hK hP1 hD1 hS1
        unfold vp_updL
        split
        · exact ax_hull_ok (Or.inr c3)
        · exact ax_hull_ok (Or.inl (e9 j hj))
      · cases h
    · cases h
  · cases h
theorem ax_aast_ok (X : ax_X p R s m args meth c A b γ pv own ini nL L mc ms d cc xs) {len pc : Nat} {lv : ax_L} {st : ax_K} {hp : List ax_C} {pr : List ax_V} {cn : Nat × Nat} {out : List ax_S} (hd : decode cc pc = .ok (.aastore, len)) (h : ax_aast len pc lv st hp pr cn = some out) (hG : ∀ S ∈ out, ax_G p l e R s m args below meth c Q D A b γ pv nL S) : ax_G p l e R s m args below meth c Q D A b γ pv nL (pc, lv, st, hp, pr, cn) := by
  obtain ⟨⟨hx, hb, hml, hown, hts⟩, -⟩ := X
  unfold ax_aast at h
  split at h
  · split at h
    · rename_i vv o0 ai o1 q o2 r x1 x2 C n rs ci afs hq hv
      split at h
      · rename_i hl
        obtain ⟨ha, hlo, hC, rfl⟩ := hl
        cases h
        intro cv cs ws tys ls H locs M hls hK hP hD hS
        obtain ⟨v0, cr, rfl, c1, c2⟩ := ax_popk M.2.2.1
        obtain ⟨v1, cr, rfl, d1, d2⟩ := ax_popk c2
        obtain ⟨v2, cr, rfl, e1, e2⟩ := ax_popk d2
        obtain ⟨ra, rfl, c3⟩ := ax_ok_r c1.1
        obtain ⟨x, rfl, d3⟩ := ax_ok_i d1.1
        obtain ⟨a, rfl, e3⟩ := ax_ok_r e1.1
        obtain ⟨w, e4, e5⟩ := ax_all2_get M.2.2.2 hq
        have e6 := ax_at e3 e4
        obtain ⟨cA, f, e7, ⟨t0, e8⟩, e9⟩ := ax_cok_q e5
        rw [e7] at e6
        subst e6
        obtain ⟨w2, f4, f5⟩ := ax_all2_get M.2.2.2 hv
        have f6 := ax_at c3 f4
        obtain ⟨vs, f7, f8⟩ := ax_cok_o f5
        rw [f7] at f6
        subst f6
        obtain ⟨k1, k2, k3⟩ := ax_ain_ok ha d3
        obtain ⟨z, g1, g2⟩ := Option.map_eq_some_iff.mp hC
        subst g2
        refine va_astq hx hb hK hP hD hS q t0 vv ci e4 e8 f4 g1 k1 hd (fun H1 locs1 hP1 hD1 hS1 => ?_)
        refine hG _ (List.mem_singleton.mpr rfl) cv _ _ tys ls H1 locs1 (ax_M_set (y := .inl (cA, n, .inr (.inr (.inr (.inr (va_up f x.toNatClampNeg (some ra))))))) M.1 M.2.1 e2 M.2.2.2 e4 ⟨rfl, ⟨t0, e8⟩, fun j hj => ?_⟩) hls hK hP1 hD1 hS1
        have hx1 := d3.1
        have hx2 : x.toNatClampNeg = ai.1.1.toNat := by omega
        obtain ⟨y, g3, g4⟩ := e9 j hj
        unfold va_up
        rw [hx2]
        split
        · rename_i hj2
          subst hj2
          refine ⟨some (vv + 1), ?_, c3⟩
          rw [List.getElem?_set_self', g3]
          rfl
        · rename_i hj2
          exact ⟨y, by rw [List.getElem?_set_ne (fun h => hj2 h.symm)]; exact g3, g4⟩
      · cases h
    · cases h
  · cases h
theorem ax_more1 {α : Type} {l : List α} {x : α} : ∀ (k : Nat) (q : α), l[k]? = some q → (l ++ [x])[k]? = some q := by
  intro k q h
  have h1 : k < l.length := (List.getElem?_eq_some_iff.mp h).1
  rw [List.getElem?_append_left h1]
  exact h
/-- a cell is made -/
theorem ax_M_push {γ : Nat → Int} {b : Nat} {pv : List Value} {lv : ax_L} {st : ax_K} {hp : List ax_C} {pr : List ax_V} {cv : List (Nat × Value)} {cs : List Value} {ws : va_W} {tys tys' : List (ClassId × FieldType)} {w : Nat × va_E} {c : ax_C}
    (M : ax_M γ b pv lv st hp pr cv cs ws tys) (ht : ∀ (k : Nat) (q : ClassId × FieldType), tys[k]? = some q → tys'[k]? = some q) (hc : ax_cok γ (ax_RR b (ws ++ [w])) tys' c w.2) :
    ax_M γ b pv lv ((.inr (.inr (some (hp.length + 1))), none) :: st) (hp ++ [c]) pr cv (.ref w.1 :: cs) (ws ++ [w]) tys' := by
  have hR : ∀ (k q : Nat), (ax_RR b ws)[k]? = some q → (ax_RR b (ws ++ [w]))[k]? = some q := by
    intro k q h
    have e : ax_RR b (ws ++ [w]) = ax_RR b ws ++ [w.1] := by simp [ax_RR]
    rw [e]
    exact ax_more1 k q h
  obtain ⟨h1, h2, h3, h4⟩ := M
  have hlen := ax_all2_len h4
  refine ⟨ax_all2_mono (fun _ _ => ax_ok_more hR) h1, ax_all2_mono (fun q r h => ⟨h.1, ax_ok_more hR h.2.1, h.2.2⟩) h2, ⟨⟨?_, trivial⟩, ax_all2_mono (fun q v h => ⟨ax_ok_more hR h.1, ?_⟩) h3⟩, ax_all2_app (ax_all2_mono (fun _ _ => ax_cok_more hR ht) h4) ⟨hc, trivial⟩⟩
  · show (ax_RR b (ws ++ [w]))[hp.length + 1]? = some w.1
    rw [hlen]
    simp [ax_RR]
  · have h9 := h.2
    rcases q with ⟨a, _ | i | ⟨q, k⟩ | j⟩
    · trivial
    · exact h9
    · obtain ⟨a2, ci, fs, z1, z2⟩ := h9
      exact ⟨a2, ci, fs, ax_more1 _ _ z1, z2⟩
    · exact h9
theorem ax_newa_ok (X : ax_X p R s m args meth c A b γ pv own ini nL L mc ms d cc xs) {ty : FieldType} {atype : ArrayType} {b0 : ax_I ⊕ (ax_I ⊕ List (Option Nat))} {len pc : Nat} {lv : ax_L} {st : ax_K} {hp : List ax_C} {pr : List ax_V} {cn : Nat × Nat} {out : List ax_S} (hd : decode cc pc = .ok (.newarray atype, len)) (hty : newarray.typeOf atype = ty) (hin : Cond.arrayClass ty ∈ ax_W)
    (hcb : componentBytes ty ≤ 8) (g : Nat → vp_A) (hg1 : ∀ n, (g n).1 = n) (hg2 : ∀ n cA, vp_cell cA (g n) = arrV cA n (fun _ => defaultValue ty))
    (hg3 : ∀ (n : Nat) (cA : ClassId) (R : List Nat) (tys : List (ClassId × FieldType)) (t0 : Nat), tys[t0]? = some (cA, ty) → ax_cok γ R tys (.inr ((ty, n), b0)) (.inl (cA, g n)))
    (h : ax_newa ty b0 mc ms len pc lv st hp pr cn = some out) (hG : ∀ S ∈ out, ax_G p l e R s m args below meth c Q D A b γ pv nL S) : ax_G p l e R s m args below meth c Q D A b γ pv nL (pc, lv, st, hp, pr, cn) := by
  obtain ⟨⟨hx, hb, hml, hown, hts⟩, -, -, -, hA, ⟨hmc, hms, -⟩, -⟩ := X
  unfold ax_newa at h
  split at h
  · rename_i n m2 sy o r
    split at h
    · rename_i hl
      obtain ⟨hm, hn, hc1, hc2, rfl⟩ := hl
      cases h
      intro cv cs ws tys ls H locs M hls hK hP hD hS
      obtain ⟨v2, cr, rfl, e1, e2⟩ := ax_popk M.2.2.1
      obtain ⟨x, rfl, e3⟩ := ax_ok_i e1.1
      have e4 : x.toInt = (n : Int) := by
        have h1 := e3.1
        subst hm
        have h2 : Int.ofNat n = (n : Int) := rfl
        dsimp only at h1
        omega
      have e5 : ¬ x < 0 := by
        rw [Int32.lt_iff_toInt_lt, e4, show (0 : Int32).toInt = 0 by decide]
        omega
      have e6 : x.toNatClampNeg = n := by
        have : x.toNatClampNeg = x.toInt.toNat := rfl
        omega
      refine va_newa hx hb (by rw [hty]; exact hts _ hin) hty hK hP hD hS hA (hg2 n) e5 e6 (Nat.le_trans (Nat.mul_le_mul hn hcb) (by decide)) (Nat.le_trans hc1 hmc) (Nat.le_trans hc2 hms) hd (fun q cA H1 hK1 hP1 hD1 hS1 => ?_)
      exact hG _ (List.mem_singleton.mpr rfl) cv _ _ _ ls H1 locs (ax_M_push (w := (q, .inl (cA, g n))) ⟨M.1, M.2.1, e2, M.2.2.2⟩ ax_more1 (hg3 n cA _ _ tys.length (by simp))) hls hK1 hP1 hD1 hS1
    · cases h
  · cases h
def ax_cchk (e : Nat × (Nat × (Nat × (Nat × (Nat × Nat))))) : Bool := match vwCl[e.2.2.1]? with
  | some q => (decide (lw_tbl[e.2.2.2.1]? = some (.classLink (ax_nm e.1) e.2.1 q.1)) && goodWord (.classLink (ax_nm e.1) e.2.1 q.1)) && ((decide (lw_tbl[e.2.2.2.2.1]? = some (.instantiable q.1 q.2.2)) && goodWord (.instantiable q.1 q.2.2)) && (decide (lw_tbl[e.2.2.2.2.2]? = some (.initialized q.1)) && goodWord (.initialized q.1)))
  | none => false
set_option maxRecDepth 100000 in
theorem ax_cchk_ok : ax_cn.all ax_cchk = true := by decide +kernel
theorem ax_cnf_ok {o i o2 i2 ci : Nat} {pp : Nat × (Nat × Nat)} (h : ax_cnf o i = some (o2, i2, ci, pp)) : ∃ z : vw_C, vwCl[ci]? = some z ∧ Cond.classLink (ax_nm o) i z.1 ∈ ax_W ∧ Cond.instantiable z.1 z.2.2 ∈ ax_W ∧ Cond.initialized z.1 ∈ ax_W := by
  unfold ax_cnf at h
  have hm := List.mem_of_find?_eq_some h
  have hp := List.find?_some h
  simp only [Bool.and_eq_true, beq_iff_eq] at hp
  obtain ⟨rfl, rfl⟩ := hp
  have h1 := List.all_eq_true.mp ax_cchk_ok _ hm
  unfold ax_cchk at h1
  dsimp only at h1
  split at h1
  · rename_i z hz
    simp only [Bool.and_eq_true, decide_eq_true_eq] at h1
    exact ⟨z, hz, ax_in _ h1.1.1 h1.1.2, ax_in _ h1.2.1.1 h1.2.1.2, ax_in _ h1.2.2.1 h1.2.2.2⟩
  · cases h1
theorem ax_dv_ok {γ : Nat → Int} {R : List Nat} {ty : FieldType} (h : ax_dok ty = true) : ax_ok γ R (ax_dv ty) (defaultValue ty) := by
  have h0 : (0 : Int32).toInt = 0 := by decide
  have h1 : (0 : Int64).toInt = 0 := by decide
  cases ty with
  | float => cases h
  | double => cases h
  | long => show (0 : Int) ≤ (0 : Int64).toInt ∧ (0 : Int64).toInt ≤ 0; rw [h1]; exact ⟨Int.le_refl _, Int.le_refl _⟩
  | object n => exact trivial
  | array t => exact trivial
  | _ => exact ⟨⟨by show (0 : Int) ≤ (0 : Int32).toInt; rw [h0]; exact Int.le_refl _, by show (0 : Int32).toInt ≤ 0; rw [h0]; exact Int.le_refl _⟩, fun _ _ h => by cases h⟩
theorem ax_all2_map2 {α β δ : Type} {P : β → δ → Prop} {f : α → β} {g : α → δ} : ∀ {l : List α}, (∀ a ∈ l, P (f a) (g a)) → ax_all2 P (l.map f) (l.map g)
  | [], _ => trivial
  | a :: l, h => ⟨h a List.mem_cons_self, ax_all2_map2 (fun x hx => h x (List.mem_cons_of_mem _ hx))⟩
theorem ax_new_ok (X : ax_X p R s m args meth c A b γ pv own ini nL L mc ms d cc xs) {i len pc : Nat} {lv : ax_L} {st : ax_K} {hp : List ax_C} {pr : List ax_V} {cn : Nat × Nat} {out : List ax_S} (hd : decode cc pc = .ok (.new i, len)) (h : ax_new own i mc ms len pc lv st hp pr cn = some out) (hG : ∀ S ∈ out, ax_G p l e R s m args below meth c Q D A b γ pv nL S) : ax_G p l e R s m args below meth c Q D A b γ pv nL (pc, lv, st, hp, pr, cn) := by
  obtain ⟨⟨hx, hb, hml, hown, hts⟩, -, -, -, hA, ⟨hmc, hms, -⟩, -⟩ := X
  unfold ax_new at h
  split at h
  · rename_i o2 i2 ci pp hc
    split at h
    · rename_i C0 T0 N hz
      split at h
      · rename_i hl
        obtain ⟨hdo, hc1, hc2, rfl⟩ := hl
        cases h
        intro cv cs ws tys ls H locs M hls hK hP hD hS
        obtain ⟨z, z1, z2, z3, z4⟩ := ax_cnf_ok hc
        rw [hz] at z1
        cases z1
        obtain ⟨g1, g2, g3⟩ := ax_cl ci _ hz
        refine va_new (C := C0) (T := T0) (N := N) (ci := ci) (fs := (List.range N).map (fun j => defaultValue (ax_tyOf ci j))) hx hb hts g1 (ax_tyOf ci) g2 hown (hts _ z2) (hts _ z3) (hts _ z4) hK hP hD hS hA hz (fun j hj => ?_) (Nat.le_trans hc1 hmc) (Nat.le_trans hc2 hms) hd (fun q H1 hP1 hD1 hS1 => ?_)
        · unfold vp_V
          rw [List.getD_eq_getElem?_getD, List.getElem?_map, List.getElem?_range hj]
          rfl
        · refine hG _ (List.mem_singleton.mpr rfl) cv _ _ _ ls H1 locs (ax_M_push (w := (q, .inr (ci, (List.range N).map (fun j => defaultValue (ax_tyOf ci j))))) M (fun _ _ h => h) ⟨rfl, ax_all2_map2 (fun j hj => ax_dv_ok (List.all_eq_true.mp hdo j hj))⟩) hls hK hP1 hD1 hS1
      · cases h
    · cases h
  · cases h
theorem ax_newq_ok (X : ax_X p R s m args meth c A b γ pv own ini nL L mc ms d cc xs) {i len pc : Nat} {lv : ax_L} {st : ax_K} {hp : List ax_C} {pr : List ax_V} {cn : Nat × Nat} {out : List ax_S} (hd : decode cc pc = .ok (.anewarray i, len)) (h : ax_newq own i mc ms len pc lv st hp pr cn = some out) (hG : ∀ S ∈ out, ax_G p l e R s m args below meth c Q D A b γ pv nL S) : ax_G p l e R s m args below meth c Q D A b γ pv nL (pc, lv, st, hp, pr, cn) := by
  obtain ⟨⟨hx, hb, hml, hown, hts⟩, -, -, hao, hA, ⟨hmc, hms, -⟩, -⟩ := X
  unfold ax_newq at h
  split at h
  · rename_i n m2 sy o r
    split at h
    · rename_i o2 i2 ci pp hc
      split at h
      · rename_i hl
        obtain ⟨rfl, hm, hn, hc1, hc2, rfl⟩ := hl
        cases h
        intro cv cs ws tys ls H locs M hls hK hP hD hS
        obtain ⟨v2, cr, rfl, e1, e2⟩ := ax_popk M.2.2.1
        obtain ⟨x, rfl, e3⟩ := ax_ok_i e1.1
        have e4 : x.toInt = (n : Int) := by
          have h1 := e3.1
          subst hm
          have h2 : Int.ofNat n = (n : Int) := rfl
          dsimp only at h1
          omega
        have e5 : ¬ x < 0 := by
          rw [Int32.lt_iff_toInt_lt, e4, show (0 : Int32).toInt = 0 by decide]
          omega
        have e6 : x.toNatClampNeg = n := by
          have : x.toNatClampNeg = x.toInt.toNat := rfl
          omega
        obtain ⟨z, z1, z2, -⟩ := ax_cnf_ok hc
        cases z1
        refine va_newq hx hb hown (hts _ z2) hao hK hP hD hS hA e5 e6 (Nat.le_trans (Nat.mul_le_mul_right 4 hn) (by decide)) (Nat.le_trans hc1 hmc) (Nat.le_trans hc2 hms) hd (fun q cA H1 hK1 hP1 hD1 hS1 => ?_)
        exact hG _ (List.mem_singleton.mpr rfl) cv _ _ _ ls H1 locs (ax_M_push (w := (q, .inl (cA, n, .inr (.inr (.inr (.inr (fun _ => none))))))) ⟨M.1, M.2.1, e2, M.2.2.2⟩ ax_more1 ⟨rfl, ⟨tys.length, by simp⟩, fun j hj => ⟨none, by rw [List.getElem?_replicate, if_pos hj], trivial⟩⟩) hls hK1 hP1 hD1 hS1
      · cases h
    · cases h
  · cases h
end AXS4
end
section
/-! ABSTRACT RUNS: calls -/
section AXC
def ax_Pc (D : va_G) (vs : List Value) (ws : va_W) (tys : List (ClassId × FieldType)) (sz : Nat) : Array Value → State → Prop := fun a U =>
  a = vs.toArray ∧ U.heap.size = sz ∧ va_P D vwCl ws U.heap ∧ va_K D vwCl tys U ∧ va_D (fun _ => True) ws ∧ (∀ w ∈ ax_nest, va_Nw w U) ∧ va_AO RX4 U
def ax_rv (γ : Nat → Int) (R : List Nat) (o : Option ax_V) (v : Option Value) : Prop := match o, v with
  | none, none => True
  | some a, some v => ax_ok γ R a v
  | _, _ => False
def ax_Qc (γ : Nat → Int) (b : Nat) (D : va_G) (outs : List ax_R) (vs : List Value) (ws : va_W) (sz : Nat) : Array Value → State → Outcome → State → Prop := fun _ st oc t =>
  (∃ o ∈ outs, ∃ (v : Option Value) (ws1 : va_W) (tys1 : List (ClassId × FieldType)), oc = .returned v ∧ ax_rv γ (ax_RR b ws1) o.1 v ∧ ax_all2 (ax_ok γ (ax_RR b ws1)) o.2.1 vs ∧ ax_hps γ (ax_RR b ws1) tys1 o.2.2 ws1 ∧ (∃ ext : List Nat, ws1.map (fun q => q.1) = ws.map (fun q => q.1) ++ ext) ∧
    va_P D vwCl ws1 t.heap ∧ va_K D vwCl tys1 t ∧ va_D (va_A ws sz) ws1) ∧ va_F (va_A ws sz) st t
/-- what is known of all methods that are run by 'call', with d frames -/
def ax_Con (l : Launch) (call : ax_F) (d : Nat) : Prop := ∀ (γ : Nat → Int) (b : Nat) (D : va_G) (mi : Nat) (t : ax_T) (as : List ax_V) (hp : List ax_C) (outs : List ax_R), ax_tab[mi]? = some t → call mi as hp = some outs →
  ∀ (vs : List Value) (ws : va_W) (tys : List (ClassId × FieldType)) (sz : Nat), ax_all2 (ax_ok γ (ax_RR b ws)) as vs → ax_hps γ (ax_RR b ws) tys hp ws →
  Met l t.1 (.code t.1 t.2.1 t.2.2.1 t.2.2.2.1 :: ax_W) { frames := d, cells := t.2.2.2.2.2.2.1, slots := t.2.2.2.2.2.2.2, locals := 40 * d } (ax_Pc D vs ws tys sz) (ax_Qc γ b D outs vs ws sz) t.2.2.2.2.2.2.1 t.2.2.2.2.2.2.2 (va_A ws sz)
theorem ax_nest_tab : ∀ w ∈ ax_nest, w.onTables = true := by decide +kernel
theorem ax_nest_warm {s U : State} (hW : s.WarmedH U.vm) (h : ∀ w ∈ ax_nest, va_Nw w s) : ∀ w ∈ ax_nest, va_Nw w U := by
  intro w hw
  have h1 := h w hw
  simp only [ax_nest, List.mem_cons, List.not_mem_nil, or_false] at hw
  rcases hw with rfl | rfl | rfl | rfl | rfl | rfl | rfl | rfl | rfl | rfl <;> exact va_Nw.warmM hW h1
theorem ax_blind {D : va_G} {vs : List Value} {ws : va_W} {tys : List (ClassId × FieldType)} {sz : Nat} : FrameBlind (ax_Pc D vs ws tys sz) := by
  intro a U g mk q
  obtain ⟨q0, q1, qP, qK, qD, qN, qA⟩ := q
  exact ⟨q0, q1, qP, va_K.moved (u := U) (U := U.calling g mk a) (Vm.Alike.refl U.vm) qK, qD, fun w hw => va_Nw.same (u := U) (U := U.calling g mk a) (ax_nest_tab w hw) rfl (qN w hw), va_AO.moved (u := U) (U := U.calling g mk a) (Vm.Alike.refl U.vm) qA⟩
theorem ax_all2_zip {α β δ : Type} {P : α → δ → Prop} {Q : β → δ → Prop} : ∀ {l : List α} {l2 : List β} {k : List δ}, ax_all2 P l k → ax_all2 Q l2 k → ax_all2 (fun z v => P z.1 v ∧ Q z.2 v) (l.zip l2) k
  | [], [], [], _, _ => trivial
  | a :: l, b :: l2, v :: k, h1, h2 => ⟨⟨h1.1, h2.1⟩, ax_all2_zip h1.2 h2.2⟩
  | [], _ :: _, [], _, h => h.elim
  | [], _, _ :: _, h, _ => h.elim
  | _ :: _, _, [], h, _ => h.elim
  | _ :: _, [], _ :: _, _, h => h.elim
theorem ax_back_ok {γ : Nat → Int} {b : Nat} {pv : List Value} {st : ax_K} {cv : List (Nat × Value)} {cs : List Value} {ws0 ws : va_W} {tys : List (ClassId × FieldType)} : ∀ {zs : List ((ax_V × ax_O) × ax_V)} {vs : List Value} {lv : ax_L} {hp : List ax_C} {pr : List ax_V},
    ax_all2 (fun z v => ax_org pv cv ws0 z.1.2 v ∧ ax_ok γ (ax_RR b ws) z.2 v) zs vs → ax_M γ b pv lv st hp pr cv cs ws tys →
    ax_M γ b pv (ax_back zs (lv, hp, pr)).1 st (ax_back zs (lv, hp, pr)).2.1 (ax_back zs (lv, hp, pr)).2.2 cv cs ws tys
  | [], _, _, _, _, _, M => M
  | ((a, o), .inl n) :: zs, [], _, _, _, h, _ => h.elim
  | ((a, o), .inl n) :: zs, v :: vs, lv, hp, pr, h, M => by
    obtain ⟨⟨h1, h2⟩, h3⟩ := h
    obtain ⟨x, rfl, h4⟩ := ax_ok_i h2
    unfold ax_back
    have h5 : ax_org pv cv ws (ax_nofo o) (.int x) := by
      rcases o with _ | i | ⟨q, k⟩ | j
      · trivial
      · exact h1
      · trivial
      · exact h1
    exact ax_back_ok (vs := vs) h3 (ax_ref_ok h5 h4.1 M)
  | ((a, o), .inr n) :: zs, [], _, _, _, h, _ => h.elim
  | ((a, o), .inr n) :: zs, v :: vs, lv, hp, pr, h, M => by
    unfold ax_back
    exact ax_back_ok (vs := vs) h.2 M
variable {p : Program} {l : Launch} {e : Env} {R : Room} {s : State} {m : MethodId} {args : Array Value} {below : List Frame} {meth : Method} {c : Code} {Q : State → Prop} {D : va_G} {A : Nat → Prop} {b : Nat} {γ : Nat → Int} {pv : List Value} {own : Nat} {ini : Bool} {nL L mc ms d : Nat} {cc : ByteArray} {xs : Nat → Int32} {call : ax_F}
theorem ax_after {mc' ms' pc : Nat} {lv : ax_L} {as rest : ax_K} {hp : List ax_C} {pr : List ax_V} {cn : Nat × Nat} {outs : List ax_R} {cv : List (Nat × Value)} {st0 cr vs : List Value} {ws : va_W} {tys : List (ClassId × FieldType)} {ls : Array Slot} {H : Heap} {locs : List Loc} {ar : Array Value} (hA : ∀ q, s.heap.size ≤ q → A q)
    (hr : va_Run p l e R s m args below meth c H locs cn.1 cn.2 mc' ms' (F0 m pc ls st0) cr (ax_Qc γ b D outs vs ws H.size ar) (va_A ws H.size))
    (M1 : ax_all2 (ax_ok γ (ax_RR b ws)) pr pv) (M2 : ax_lvs γ (ax_RR b ws) pv lv cv) (M3 : ax_all2 (ax_sok γ (ax_RR b ws) pv cv ws) rest cr) (M5 : ax_all2 (ax_sok γ (ax_RR b ws) pv cv ws) as vs)
    (hls : lv_has ls nL cv) (hD : va_D A ws) (hS : va_S A s.heap H locs)
    (hG : ∀ o ∈ outs, ax_G p l e R s m args below meth c Q D A b γ pv nL (ax_res (pc + 3) lv as rest pr (cn.1 + mc', cn.2 + ms') o)) : W p l e R s m args below meth c H locs cn.1 cn.2 Q (F0 m pc ls st0) := by
  intro T hT X
  obtain ⟨v, st₀, t, T', L, h0, X', hL, e1, e2, ⟨⟨o, ho, v', ws1, tys1, hv, q1, q2, q3, ⟨ext, q4⟩, q5, q6, q7⟩, hz, hk⟩, stp⟩ := hr T hT X
  cases hv
  rw [h0] at hz hk
  have hF : ∀ q, va_A ws H.size q → A q := by
    intro q hq
    rcases hq with ⟨k, e, hq⟩ | hq
    · exact hD.2 k _ hq
    · exact hA q (Nat.le_trans hS.1 hq)
  have hR : ∀ (k q : Nat), (ax_RR b ws)[k]? = some q → (ax_RR b ws1)[k]? = some q := by
    intro k q h
    have e3 : ax_RR b ws1 = ax_RR b ws ++ ext := by
      unfold ax_RR
      rw [q4]
      rfl
    rw [e3]
    have h1 : k < (ax_RR b ws).length := (List.getElem?_eq_some_iff.mp h).1
    rw [List.getElem?_append_left h1]
    exact h
  have N1 := ax_all2_mono (fun _ _ => ax_ok_more hR) M1
  have N2 : ax_lvs γ (ax_RR b ws1) pv lv cv := ax_all2_mono (fun q r h => ⟨h.1, ax_ok_more hR h.2.1, h.2.2⟩) M2
  have N3 : ax_all2 (ax_sok γ (ax_RR b ws1) pv cv ws1) (ax_nof rest) cr := ax_all2_mono (fun q v h => ⟨ax_ok_more hR h.1, h.2⟩) (ax_nof_ok (ws' := ws1) M3)
  have N5 : ax_all2 (fun z v => ax_org pv cv ws z.1.2 v ∧ ax_ok γ (ax_RR b ws1) z.2 v) (as.zip o.2.1) vs := ax_all2_mono (fun z v h => ⟨h.1.2, h.2⟩) (ax_all2_zip M5 q2)
  have Mst : ax_all2 (ax_sok γ (ax_RR b ws1) pv cv ws1) (match o.1 with | some v => (v, none) :: ax_nof rest | none => ax_nof rest) (v.toList ++ cr) := by
    rcases ho1 : o.1 with _ | a
    · rw [ho1] at q1
      cases v with
      | none => exact N3
      | some v => exact q1.elim
    · rw [ho1] at q1
      cases v with
      | none => exact q1.elim
      | some v => exact ⟨⟨q1, trivial⟩, N3⟩
  have M' := ax_back_ok (γ := γ) (b := b) (pv := pv) (tys := tys1) N5 (show ax_M γ b pv lv _ o.2.2 pr cv _ ws1 tys1 from ⟨N1, N2, Mst, q3⟩)
  have hS' : va_S A s.heap T'.heap (locs ++ L) := ⟨Nat.le_trans hS.1 (by rw [e1]; exact hz), fun q h1 h2 => by rw [e1, hk q (Nat.lt_of_lt_of_le h1 hS.1) (fun z => h2 (hF q z))]; exact hS.2.1 q h1 h2, fun q hq => by
      rcases List.mem_append.mp hq with h | h
      · exact hS.2.2 q h
      · exact hF _ (hL q h)⟩
  obtain ⟨t2, a1, b1⟩ := hG o ho cv (v.toList ++ cr) ws1 tys1 ls T'.heap (locs ++ L) M' hls (va_K.moved (show t.vm.Alike s.vm from by rw [← e2]; exact X'.warmed.alike.symm) q6) (by rw [e1]; exact q5) (q7.weaken (fun _ q _ h => hF q.1 h)) hS' T' rfl X'
  exact ⟨t2, stp t2 a1, b1⟩
theorem ax_cat_sum {γ : Nat → Int} {R : List Nat} {pv : List Value} {cv : List (Nat × Value)} {ws : va_W} : ∀ {st : ax_K} {cs : List Value}, ax_all2 (ax_sok γ R pv cv ws) st cs → ax_words st = (cs.map fun v => v.category).sum
  | [], [], _ => rfl
  | q :: st, v :: cs, h => by
    have h1 := ax_cat_sum h.2
    unfold ax_words at h1 ⊢
    simp only [List.map_cons, List.sum_cons]
    rw [h1, ax_ok_cat h.1.1]
  | [], _ :: _, h => h.elim
  | _ :: _, [], h => h.elim
theorem ax_pre {vs : List Value} {ws : va_W} {tys : List (ClassId × FieldType)} {H : Heap} (hn : ∀ w ∈ ax_nest, va_Nw w s) (hao : va_AO RX4 s) (hK : va_K D vwCl tys s) (hP : va_P D vwCl ws H) (hD : va_D A ws) : PreS s H (ax_Pc D vs ws tys H.size) vs :=
  ⟨ax_blind, fun U hU hW => ⟨rfl, by rw [hU], by rw [hU]; exact hP, va_K.moved hW.alike hK, hD.weaken (fun _ _ _ _ => trivial), ax_nest_warm hW hn, va_AO.moved hW.alike hao⟩⟩
/-- a row of the method table, checked -/
def ax_tchk (q : ax_T × (Nat × (Nat × Nat))) : Bool :=
  (decide (lw_tbl[q.2.1]? = some (.initialized q.1.1.cls)) && goodWord (.initialized q.1.1.cls)) &&
  ((match q.1.2.2.2.2.1.2 with
    | 0 => decide (lw_tbl[q.2.2.1]? = some (.static q.1.1)) && goodWord (.static q.1.1)
    | 1 => (decide (lw_tbl[q.2.2.1]? = some (.instanceMethod q.1.1)) && goodWord (.instanceMethod q.1.1)) && (decide (lw_tbl[q.2.2.2]? = some (.selects q.1.1.cls q.1.1 q.1.1)) && goodWord (.selects q.1.1.cls q.1.1 q.1.1))
    | _ => (decide (lw_tbl[q.2.2.1]? = some (.instanceMethod q.1.1)) && goodWord (.instanceMethod q.1.1)) && (decide (q.1.1.name = "<init>") && decide (q.1.2.2.2.1 = none))) &&
  ((decide (q.1.1.cls ≠ "java/lang/invoke/MethodHandle") && decide (q.1.1.cls ≠ "java/lang/invoke/VarHandle")) &&
  (decide ((parseMethodDescriptor q.1.1.desc).map (fun d => d.parameters.length) = some q.1.2.2.2.2.2.1) &&
  (decide (q.1.1.cls = ax_nm q.1.2.2.2.2.1.1) && (plainName q.1.1.cls && goodWord (ax_tcode q.1))))))
set_option maxRecDepth 100000 in
theorem ax_tchk_ok : (ax_tab.zip ax_tpos).all ax_tchk = true := by decide +kernel
set_option maxRecDepth 100000 in
theorem ax_tlen : ax_tpos.length = ax_tab.length := by decide +kernel
def ax_tfact (t : ax_T) : Prop := (Cond.initialized t.1.cls ∈ ax_W) ∧ (t.2.2.2.2.1.2 = 0 → Cond.static t.1 ∈ ax_W) ∧ (t.2.2.2.2.1.2 = 1 → Cond.instanceMethod t.1 ∈ ax_W ∧ Cond.selects t.1.cls t.1 t.1 ∈ ax_W) ∧ (t.2.2.2.2.1.2 = 2 → Cond.instanceMethod t.1 ∈ ax_W ∧ t.1.name = "<init>" ∧ t.2.2.2.1 = none) ∧
  (t.1.cls ≠ "java/lang/invoke/MethodHandle" ∧ t.1.cls ≠ "java/lang/invoke/VarHandle" ∧ (parseMethodDescriptor t.1.desc).map (fun d => d.parameters.length) = some t.2.2.2.2.2.1) ∧ t.1.cls = ax_nm t.2.2.2.2.1.1 ∧ plainName t.1.cls = true ∧ ax_tcode t ∈ ax_W
theorem ax_tab_ok {mi : Nat} {t : ax_T} (h : ax_tab[mi]? = some t) : ax_tfact t := by
  have h1 : mi < ax_tab.length := (List.getElem?_eq_some_iff.mp h).1
  obtain ⟨q, hq⟩ : ∃ q, ax_tpos[mi]? = some q := ⟨_, List.getElem?_eq_getElem (by rw [ax_tlen]; exact h1)⟩
  have h2 : (ax_tab.zip ax_tpos)[mi]? = some (t, q) := by
    rw [List.getElem?_zip_eq_some]
    exact ⟨h, hq⟩
  have h3 := List.all_eq_true.mp ax_tchk_ok _ (List.mem_of_getElem? h2)
  unfold ax_tchk at h3
  simp only [Bool.and_eq_true, decide_eq_true_eq] at h3
  obtain ⟨a1, a2, a3, a4, a5, a6, a7⟩ := h3
  have hc : ax_tcode t ∈ lw_tbl := by
    have h4 : ax_tcode t ∈ ax_tab.map ax_tcode := List.mem_map.mpr ⟨t, List.mem_of_getElem? h, rfl⟩
    rw [ax_codes] at h4
    obtain ⟨i, -, hi⟩ := List.mem_filterMap.mp h4
    exact List.mem_of_getElem? hi
  refine ⟨ax_in _ a1.1 a1.2, fun hk => ?_, fun hk => ?_, fun hk => ?_, ⟨a3.1, a3.2, a4⟩, a5, a6, List.mem_filter.mpr ⟨hc, a7⟩⟩
  · rw [hk] at a2
    simp only [Bool.and_eq_true, decide_eq_true_eq] at a2
    exact ax_in _ a2.1 a2.2
  · rw [hk] at a2
    simp only [Bool.and_eq_true, decide_eq_true_eq] at a2
    exact ⟨ax_in _ a2.1.1 a2.1.2, ax_in _ a2.2.1 a2.2.2⟩
  · rw [hk] at a2
    simp only [Bool.and_eq_true, decide_eq_true_eq] at a2
    exact ⟨ax_in _ a2.1.1 a2.1.2, a2.2⟩
theorem ax_goodIn {Ts : List Cond} {t : ax_T} (ht : ax_tfact t) (hT : Ts = ax_W) : GoodIn Ts (.code t.1 t.2.1 t.2.2.1 t.2.2.2.1 :: ax_W) := by
  subst hT
  intro w hw
  have h1 : w ∈ ax_W := by
    rcases List.mem_cons.mp hw with rfl | h
    · exact ht.2.2.2.2.2.2.2
    · exact h
  exact ⟨h1, good_of_word (List.mem_filter.mp h1).2⟩
def ax_mchk (o : Nat) : Bool := (ax_ml o).all (fun e => match ax_tab[e.2.1]? with
  | some t => decide (lw_tbl[e.2.2]? = some (.methodLink (ax_nm o) e.1 t.1)) && goodWord (.methodLink (ax_nm o) e.1 t.1)
  | none => false)
set_option maxRecDepth 100000 in
theorem ax_mchk_ok : (List.range 14).all ax_mchk = true := by decide +kernel
theorem ax_lnk_ok {o i mi q : Nat} {t : ax_T} (h : ax_lnk o i = some (mi, q)) (ht : ax_tab[mi]? = some t) : Cond.methodLink (ax_nm o) i t.1 ∈ ax_W := by
  have hm := ax_get_mem h
  have ho : o < 14 := by
    rcases Nat.lt_or_ge o 14 with h1 | h1
    · exact h1
    · obtain ⟨n, rfl⟩ : ∃ n, o = n + 14 := ⟨o - 14, by omega⟩
      cases hm
  have h1 := List.all_eq_true.mp (List.all_eq_true.mp ax_mchk_ok o (List.mem_range.mpr ho)) _ hm
  dsimp only at h1
  rw [ht] at h1
  simp only [Bool.and_eq_true, decide_eq_true_eq] at h1
  exact ax_in q h1.1 h1.2
def ax_nchk (e : Nat × (Nat × Nat)) : Bool := match ax_tab[e.2.2]? with
  | some t => decide (Cond.methodLinkNest (ax_nm e.1) e.2.1 t.1 "SymmetryHouse" ∈ ax_nest)
  | none => false
set_option maxRecDepth 100000 in
theorem ax_nchk_ok : ax_nl.all ax_nchk = true := by decide +kernel
theorem ax_nlk_ok {o i o2 i2 mi : Nat} {t : ax_T} (h : ax_nlk o i = some (o2, i2, mi)) (ht : ax_tab[mi]? = some t) : Cond.methodLinkNest (ax_nm o) i t.1 "SymmetryHouse" ∈ ax_nest := by
  unfold ax_nlk at h
  have hm := List.mem_of_find?_eq_some h
  have hp := List.find?_some h
  simp only [Bool.and_eq_true, beq_iff_eq] at hp
  obtain ⟨rfl, rfl⟩ := hp
  have h1 := List.all_eq_true.mp ax_nchk_ok _ hm
  unfold ax_nchk at h1
  dsimp only at h1
  rw [ht] at h1
  simpa using h1
end AXC
end
section
/-! ABSTRACT RUNS: calls are sound, an instruction is, a run is, a method is -/
section AXD
variable {p : Program} {l : Launch} {e : Env} {R : Room} {s : State} {m : MethodId} {args : Array Value} {below : List Frame} {meth : Method} {c : Code} {Q : State → Prop} {D : va_G} {A : Nat → Prop} {b : Nat} {γ : Nat → Int} {pv : List Value} {own : Nat} {ini : Bool} {nL L mc ms d : Nat} {cc : ByteArray} {xs : Nat → Int32} {call : ax_F}
abbrev ax_rm (t : ax_T) (d : Nat) : Room := { frames := d, cells := t.2.2.2.2.2.2.1, slots := t.2.2.2.2.2.2.2, locals := 40 * d }
abbrev ax_ws (t : ax_T) : List Cond := .code t.1 t.2.1 t.2.2.1 t.2.2.2.1 :: ax_W
theorem ax_do_ok (hA : ∀ q, s.heap.size ≤ q → A q) (hcon : ax_Con l call d) (hR : mc ≤ R.cells ∧ ms ≤ R.slots) {mi len pc : Nat} {t : ax_T} {as rest : ax_K} {lv : ax_L} {hp : List ax_C} {pr : List ax_V} {cn : Nat × Nat} {out : List ax_S} {cv : List (Nat × Value)} {st0 cr vs : List Value} {ws : va_W} {tys : List (ClassId × FieldType)} {ls : Array Slot} {H : Heap} {locs : List Loc}
    (ht : ax_tab[mi]? = some t) (h : ax_do call mi mc ms t as rest len pc lv hp pr cn = some out) (hG : ∀ S ∈ out, ax_G p l e R s m args below meth c Q D A b γ pv nL S)
    (run : ∀ outs, Met l t.1 (ax_ws t) (ax_rm t d) (ax_Pc D vs ws tys H.size) (ax_Qc γ b D outs vs ws H.size) t.2.2.2.2.2.2.1 t.2.2.2.2.2.2.2 (va_A ws H.size) → (cn.1 + t.2.2.2.2.2.2.1 ≤ R.cells ∧ cn.2 + t.2.2.2.2.2.2.2 ≤ R.slots) → (cr.map fun v => v.category).sum ≤ 8 → t.2.2.1 ≤ 21 → len = 3 →
      va_Run p l e R s m args below meth c H locs cn.1 cn.2 t.2.2.2.2.2.2.1 t.2.2.2.2.2.2.2 (F0 m pc ls st0) cr (ax_Qc γ b D outs vs ws H.size vs.toArray) (va_A ws H.size))
    (M1 : ax_all2 (ax_ok γ (ax_RR b ws)) pr pv) (M2 : ax_lvs γ (ax_RR b ws) pv lv cv) (M3 : ax_all2 (ax_sok γ (ax_RR b ws) pv cv ws) rest cr) (M4 : ax_hps γ (ax_RR b ws) tys hp ws) (M5 : ax_all2 (ax_sok γ (ax_RR b ws) pv cv ws) as vs)
    (hls : lv_has ls nL cv) (hD : va_D A ws) (hS : va_S A s.heap H locs) : W p l e R s m args below meth c H locs cn.1 cn.2 Q (F0 m pc ls st0) := by
  unfold ax_do at h
  split at h
  · rename_i hl
    obtain ⟨hw, hm, hc1, hc2, hlen⟩ := hl
    split at h
    · rename_i outs ho
      cases h
      have hM := hcon γ b D mi t _ hp outs ht ho vs ws tys H.size (ax_all2_mapL _ (fun q v h => h.1) M5) M4
      refine ax_after (hp := hp) (tys := tys) hA (run outs hM ⟨Nat.le_trans hc1 hR.1, Nat.le_trans hc2 hR.2⟩ (by rw [← ax_cat_sum M3]; exact hw) hm hlen) M1 M2 M3 M5 hls hD hS (fun o ho => hG _ (List.mem_map.mpr ⟨o, ho, rfl⟩))
    · cases h
  · cases h
theorem ax_inv_ok (X : ax_X p R s m args meth c A b γ pv own ini nL L mc ms d cc xs) (hcon : ax_Con l call d) {kd mi i len pc : Nat} {lv : ax_L} {st : ax_K} {hp : List ax_C} {pr : List ax_V} {cn : Nat × Nat} {out : List ax_S} (hlk : ∀ t, ax_tab[mi]? = some t → Cond.methodLink (ax_nm own) i t.1 ∈ ax_W ∨ Cond.methodLinkNest (ax_nm own) i t.1 "SymmetryHouse" ∈ ax_nest)
    (hd : decode cc pc = .ok (match kd with | 0 => .invokestatic i | 1 => .invokevirtual i | _ => .invokespecial i, len)) (hkd : kd ≤ 2)
    (h : ax_inv call kd mi mc ms len pc lv st hp pr cn = some out) (hG : ∀ S ∈ out, ax_G p l e R s m args below meth c Q D A b γ pv nL S) : ax_G p l e R s m args below meth c Q D A b γ pv nL (pc, lv, st, hp, pr, cn) := by
  obtain ⟨S, hini, hnest, hao, hA, ⟨hmc, hms, hfr, hlo⟩, -⟩ := X
  have hts := S.2.2.2.2
  unfold ax_inv at h
  split at h
  · cases h
  · rename_i t ht
    split at h
    · rename_i hk
      have hT := ax_tab_ok ht
      obtain ⟨f1, f2, f3, f4, f5, f6, f7, f8⟩ := hT
      have hgood := ax_goodIn (Ts := ax_W) (ax_tab_ok ht) rfl
      rcases Nat.eq_zero_or_pos kd with rfl | hkp
      · have h : (if t.2.2.2.2.2.1 ≤ st.length then ax_do call mi mc ms t (st.take t.2.2.2.2.2.1).reverse (st.drop t.2.2.2.2.2.1) len pc lv hp pr cn else none) = some out := h
        split at h
        · rename_i hlen
          intro cv cs ws tys ls H locs M hls hK hP hD hS
          have hcl : st.length = cs.length := ax_all2_len M.2.2.1
          refine ax_do_ok (vs := (cs.take t.2.2.2.2.2.1).reverse) (cr := cs.drop t.2.2.2.2.2.1) hA hcon ⟨hmc, hms⟩ ht h hG ?_ M.1 M.2.1 (ax_all2_drop _ M.2.2.1) M.2.2.2 (ax_all2_rev (ax_all2_take _ M.2.2.1)) hls hD hS
          intro outs hM hroom hwd hml hl3
          subst hl3
          have hst : cs = ((cs.take t.2.2.2.2.2.1).reverse).reverse ++ cs.drop t.2.2.2.2.2.1 := by rw [List.reverse_reverse, List.take_append_drop]
          have hn : ((cs.take t.2.2.2.2.2.1).reverse).length = t.2.2.2.2.2.1 := by rw [List.length_reverse, List.length_take]; omega
          rcases hlk t ht with hk9 | hk9
          · exact va_runS S hM ⟨callB_of _ hts hgood rfl rfl rfl (hts _ f1) (hts _ hk9) f5 ⟨hfr, by dsimp only; omega⟩, hts _ (f2 hk)⟩ (ax_pre hnest hao hK hP hD) rfl hn hls.1 hst (lv_room hwd) hd hroom
          · exact va_runSN S hM ⟨va_cnB _ hts hgood rfl rfl rfl (hnest _ hk9) (hts _ f1) f5 ⟨hfr, by dsimp only; omega⟩, hts _ (f2 hk), trivial⟩ (ax_pre hnest hao hK hP hD) rfl hn hls.1 hst (lv_room hwd) hd hroom
        · cases h
      · obtain ⟨k1, rfl⟩ : ∃ k1, kd = k1 + 1 := ⟨kd - 1, by omega⟩
        have h : (match st.drop t.2.2.2.2.2.1 with
          | (.inr (.inr (some (q + 1))), o) :: rest => match hp[q]? with
            | some (.inl (ci, _)) => if (vwCl[ci]?).map (fun z => z.1) = some t.1.cls then ax_do call mi mc ms t ((.inr (.inr (some (q + 1))), o) :: (st.take t.2.2.2.2.2.1).reverse) rest len pc lv hp pr cn else none
            | _ => none
          | _ => none) = some out := h
        split at h
        · rename_i q o rest hdr
          split at h
          · rename_i ci afs hq
            split at h
            · rename_i hC
              intro cv cs ws tys ls H locs M hls hK hP hD hS
              have M3 := M.2.2.1
              have hcl : st.length = cs.length := ax_all2_len M3
              have hdl := ax_all2_drop t.2.2.2.2.2.1 M3
              rw [hdr] at hdl
              obtain ⟨v, cr, hcr, e1, e2⟩ := ax_popk hdl
              obtain ⟨a, rfl, e3⟩ := ax_ok_r e1.1
              obtain ⟨w, e4, e5⟩ := ax_all2_get M.2.2.2 hq
              have e6 := ax_at e3 e4
              obtain ⟨vs0, e7, e8⟩ := ax_cok_o e5
              rw [e7] at e6
              subst e6
              obtain ⟨z, g1, g2⟩ := Option.map_eq_some_iff.mp hC
              have hn0 : t.2.2.2.2.2.1 ≤ cs.length := by
                rcases Nat.lt_or_ge cs.length t.2.2.2.2.2.1 with h1 | h1
                · rw [List.drop_eq_nil_of_le (Nat.le_of_lt h1)] at hcr
                  cases hcr
                · exact h1
              refine ax_do_ok (vs := .ref a :: (cs.take t.2.2.2.2.2.1).reverse) (cr := cr) hA hcon ⟨hmc, hms⟩ ht h hG ?_ M.1 M.2.1 e2 M.2.2.2 ⟨e1, ax_all2_rev (ax_all2_take _ M3)⟩ hls hD hS
              intro outs hM hroom hwd hml hl3
              subst hl3
              have hst : cs = ((cs.take t.2.2.2.2.2.1).reverse).reverse ++ .ref a :: cr := by rw [List.reverse_reverse, ← hcr, List.take_append_drop]
              have hn : ((cs.take t.2.2.2.2.2.1).reverse).length = t.2.2.2.2.2.1 := by rw [List.length_reverse, List.length_take]; omega
              have hrv := va_recv hK hP g1 e4
              rw [g2] at hrv
              rcases (show k1 = 0 ∨ k1 = 1 by omega) with rfl | rfl
              · rcases hlk t ht with hk9 | hk9
                · exact va_runV S hM ⟨callB_of _ hts hgood rfl rfl rfl (hts _ f1) (hts _ hk9) f5 ⟨hfr, by dsimp only; omega⟩, hts _ (f3 hk).1, hts _ (f3 hk).2⟩ ⟨ax_blind, hrv, (ax_pre hnest hao hK hP hD).2⟩ rfl hn hls.1 hst (lv_room hwd) hd hroom
                · exact va_runVN S hM ⟨va_cnB _ hts hgood rfl rfl rfl (hnest _ hk9) (hts _ f1) f5 ⟨hfr, by dsimp only; omega⟩, hts _ (f3 hk).1, hts _ (f3 hk).2⟩ ⟨ax_blind, hrv, (ax_pre hnest hao hK hP hD).2⟩ rfl hn hls.1 hst (lv_room hwd) hd hroom
              · obtain ⟨j1, j2, j3⟩ := f4 hk
                rcases hlk t ht with hk9 | hk9
                · exact va_runI S hM ⟨callB_of _ hts hgood (by rw [← j3]) rfl rfl (hts _ f1) (hts _ hk9) f5 ⟨hfr, by dsimp only; omega⟩, j2, hts _ j1⟩ (ax_pre hnest hao hK hP hD) rfl hn hls.1 hst (lv_room hwd) hd hroom
                · exact va_runIN S hM ⟨va_cnB _ hts hgood (by rw [← j3]) rfl rfl (hnest _ hk9) (hts _ f1) f5 ⟨hfr, by dsimp only; omega⟩, j2, hts _ j1⟩ (ax_pre hnest hao hK hP hD) rfl hn hls.1 hst (lv_room hwd) hd hroom
            · cases h
          · cases h
        · cases h
    · cases h
theorem ax_invk_ok (X : ax_X p R s m args meth c A b γ pv own ini nL L mc ms d cc xs) (hcon : ax_Con l call d) {kd i len pc : Nat} {lv : ax_L} {st : ax_K} {hp : List ax_C} {pr : List ax_V} {cn : Nat × Nat} {out : List ax_S}
    (hd : decode cc pc = .ok (match kd with | 0 => .invokestatic i | 1 => .invokevirtual i | _ => .invokespecial i, len)) (hkd : kd ≤ 2)
    (h : ax_invk call own kd i mc ms len pc lv st hp pr cn = some out) (hG : ∀ S ∈ out, ax_G p l e R s m args below meth c Q D A b γ pv nL S) : ax_G p l e R s m args below meth c Q D A b γ pv nL (pc, lv, st, hp, pr, cn) := by
  unfold ax_invk at h
  split at h
  · rename_i mi q hl
    exact ax_inv_ok X hcon (fun t ht => Or.inl (ax_lnk_ok hl ht)) hd hkd h hG
  · split at h
    · rename_i o2 i2 mi hl
      exact ax_inv_ok X hcon (fun t ht => Or.inr (ax_nlk_ok hl ht)) hd hkd h hG
    · cases h
def ax_ochk (e : Nat × (Nat × Nat)) : Bool := decide (lw_tbl[e.2.2]? = some (.methodLink (ax_nm e.1) e.2.1 objectInit)) && goodWord (.methodLink (ax_nm e.1) e.2.1 objectInit)
set_option maxRecDepth 100000 in
theorem ax_ochk_ok : ax_oi.all ax_ochk = true := by decide +kernel
theorem ax_oif_ok {o i : Nat} {e : Nat × (Nat × Nat)} (h : ax_oif o i = some e) : Cond.methodLink (ax_nm o) i objectInit ∈ ax_W := by
  unfold ax_oif at h
  have hm := List.mem_of_find?_eq_some h
  have hp := List.find?_some h
  simp only [Bool.and_eq_true, beq_iff_eq] at hp
  obtain ⟨rfl, rfl⟩ := hp
  have h1 := List.all_eq_true.mp ax_ochk_ok _ hm
  unfold ax_ochk at h1
  simp only [Bool.and_eq_true, decide_eq_true_eq] at h1
  exact ax_in _ h1.1 h1.2
theorem ax_spec_ok (X : ax_X p R s m args meth c A b γ pv own ini nL L mc ms d cc xs) (hcon : ax_Con l call d) {i len pc : Nat} {lv : ax_L} {st : ax_K} {hp : List ax_C} {pr : List ax_V} {cn : Nat × Nat} {out : List ax_S} (hd : decode cc pc = .ok (.invokespecial i, len)) (h : ax_spec call own i mc ms len pc lv st hp pr cn = some out) (hG : ∀ S ∈ out, ax_G p l e R s m args below meth c Q D A b γ pv nL S) : ax_G p l e R s m args below meth c Q D A b γ pv nL (pc, lv, st, hp, pr, cn) := by
  unfold ax_spec at h
  split at h
  · rename_i e0 ho
    obtain ⟨⟨hx, hb, hml, hown, hts⟩, -, -, -, -, ⟨-, -, hfr, hlo⟩, -⟩ := X
    split at h
    · split at h
      · rename_i hl
        obtain ⟨hw, rfl⟩ := hl
        cases h
        intro cv cs ws tys ls H locs M hls hK hP hD hS
        obtain ⟨v1, cr, rfl, e1, e2⟩ := ax_popk M.2.2.1
        obtain ⟨a, rfl, -⟩ := ax_ok_r e1.1
        have hw2 := lv_room (m := m) (pc := pc) (ls := ls) (rest := .ref a :: cr) (st := cr) (by rw [← ax_cat_sum e2]; exact hw)
        refine W.objInit (g := F0 m pc ls (.ref a :: cr)) hx hb hown (hts _ (ax_oif_ok ho)) (hts _ (ax_in _ ax_oiinst (by decide))) (hts _ (ax_in _ ax_oicode (by decide))) rfl (by rw [hml]; exact hls.1) rfl hd (by omega) (by omega) ?_
        refine W.eq (g2 := F0 m (pc + 3) ls cr) rfl ?_
        exact hG _ (List.mem_singleton.mpr rfl) cv _ ws tys ls H locs ⟨M.1, M.2.1, e2, M.2.2.2⟩ hls hK hP hD hS
      · cases h
    · cases h
  · exact ax_invk_ok (kd := 2) X hcon hd (Nat.le_refl 2) h hG
def ax_mmchk (e : Nat × (Nat × (Nat × Nat))) : Bool := match e.2.2.1 with
  | 0 => decide (lw_tbl[e.2.2.2]? = some (.methodLink (ax_nm e.1) e.2.1 Lib.Math.min.name)) && goodWord (.methodLink (ax_nm e.1) e.2.1 Lib.Math.min.name)
  | 1 => decide (lw_tbl[e.2.2.2]? = some (.methodLink (ax_nm e.1) e.2.1 Lib.Math.max.name)) && goodWord (.methodLink (ax_nm e.1) e.2.1 Lib.Math.max.name)
  | _ => false
set_option maxRecDepth 100000 in
theorem ax_mmchk_ok : ax_mm.all ax_mmchk = true := by decide +kernel
theorem ax_mmx_ok {k : Nat} {a b : ax_N} {x y : Int32} {γ : Nat → Int} (ha : ax_nok γ a x.toInt) (hb : ax_nok γ b y.toInt) : (k = 0 → ax_nok γ (ax_mmx k a.1 b.1, none) (if y < x then y else x).toInt) ∧ (k = 1 → ax_nok γ (ax_mmx k a.1 b.1, none) (if x < y then y else x).toInt) := by
  have h1 := ha.1
  have h2 := hb.1
  refine ⟨fun hk => ⟨?_, fun _ _ h => by cases h⟩, fun hk => ⟨?_, fun _ _ h => by cases h⟩⟩
  · subst hk
    have e : ax_mmx 0 a.1 b.1 = (min a.1.1 b.1.1, min a.1.2 b.1.2) := rfl
    rw [e]
    by_cases h : y < x
    · rw [if_pos h]; rw [Int32.lt_iff_toInt_lt] at h; dsimp only; omega
    · rw [if_neg h]; rw [Int32.lt_iff_toInt_lt] at h; dsimp only; omega
  · subst hk
    have e : ax_mmx 1 a.1 b.1 = (max a.1.1 b.1.1, max a.1.2 b.1.2) := rfl
    rw [e]
    by_cases h : x < y
    · rw [if_pos h]; rw [Int32.lt_iff_toInt_lt] at h; dsimp only; omega
    · rw [if_neg h]; rw [Int32.lt_iff_toInt_lt] at h; dsimp only; omega
theorem ax_stat_ok (X : ax_X p R s m args meth c A b γ pv own ini nL L mc ms d cc xs) (hcon : ax_Con l call d) {i len pc : Nat} {lv : ax_L} {st : ax_K} {hp : List ax_C} {pr : List ax_V} {cn : Nat × Nat} {out : List ax_S} (hd : decode cc pc = .ok (.invokestatic i, len)) (h : ax_stat call own i mc ms len pc lv st hp pr cn = some out) (hG : ∀ S ∈ out, ax_G p l e R s m args below meth c Q D A b γ pv nL S) : ax_G p l e R s m args below meth c Q D A b γ pv nL (pc, lv, st, hp, pr, cn) := by
  unfold ax_stat at h
  split at h
  · rename_i e0 he
    obtain ⟨⟨hx, hb, hml, hown, hts⟩, -, -, -, -, ⟨hmc, hms, hfr, hlo⟩, -⟩ := X
    unfold ax_mmf at he
    have hm := List.mem_of_find?_eq_some he
    have hp0 := List.find?_some he
    simp only [Bool.and_eq_true, beq_iff_eq] at hp0
    have h1 := List.all_eq_true.mp ax_mmchk_ok _ hm
    unfold ax_mmchk at h1
    rw [hp0.1, hp0.2] at h1
    unfold ax_mmo at h
    split at h
    · split at h
      · rename_i hl
        obtain ⟨rfl, hw, hc1, hc2⟩ := hl
        cases h
        intro cv cs ws tys ls H locs M hls hK hP hD hS
        obtain ⟨v1, cr, rfl, e1, e2⟩ := ax_popk M.2.2.1
        obtain ⟨v2, cr, rfl, e3, e4⟩ := ax_popk e2
        obtain ⟨y, rfl, e5⟩ := ax_ok_i e1.1
        obtain ⟨x, rfl, e6⟩ := ax_ok_i e3.1
        have hw2 : (cr.map fun v => v.category).sum + 13 ≤ R.locals := by rw [← ax_cat_sum e4]; omega
        have key := ax_mmx_ok (k := e0.2.2.1) e6 e5
        split at h1
        · rename_i hk
          simp only [Bool.and_eq_true, decide_eq_true_eq] at h1
          refine va_mmin hx hb (by rw [hml]; exact hls.1.symm) hown (hts _ (ax_in _ h1.1 h1.2)) (hts _ (ax_in _ ax_mmin_stat (by decide))) (hts _ (ax_in _ ax_m_init (by decide))) (hts _ (ax_in _ ax_mmin_code (by decide))) (by omega) hw2 (Nat.le_trans hc1 hmc) (Nat.le_trans hc2 hms) hd ?_
          exact hG _ (List.mem_singleton.mpr rfl) cv _ ws tys ls H locs ⟨M.1, M.2.1, ⟨⟨key.1 hk, trivial⟩, e4⟩, M.2.2.2⟩ hls hK hP hD hS
        · rename_i hk
          simp only [Bool.and_eq_true, decide_eq_true_eq] at h1
          refine va_mmax hx hb (by rw [hml]; exact hls.1.symm) hown (hts _ (ax_in _ h1.1 h1.2)) (hts _ (ax_in _ ax_mmax_stat (by decide))) (hts _ (ax_in _ ax_m_init (by decide))) (hts _ (ax_in _ ax_mmax_code (by decide))) (by omega) hw2 (Nat.le_trans hc1 hmc) (Nat.le_trans hc2 hms) hd ?_
          exact hG _ (List.mem_singleton.mpr rfl) cv _ ws tys ls H locs ⟨M.1, M.2.1, ⟨⟨key.2 hk, trivial⟩, e4⟩, M.2.2.2⟩ hls hK hP hD hS
        · cases h1
      · cases h
    · cases h
  · exact ax_invk_ok (kd := 0) X hcon hd (by decide) h hG
end AXD
end
section
/-! ABSTRACT RUNS: every instruction, every run, every method -/
section AXE
def ax_kchk (e : Nat × (Nat × (Int32 × Nat))) : Bool := decide (lw_tbl[e.2.2.2]? = some (.constant (ax_nm e.1) e.2.1 e.2.2.1)) && goodWord (.constant (ax_nm e.1) e.2.1 e.2.2.1)
theorem ax_kchk_ok : ax_ic.all ax_kchk = true := by decide +kernel
def ax_kchk2 (e : Nat × (Nat × (Int64 × Nat))) : Bool := decide (lw_tbl[e.2.2.2]? = some (.constantLong (ax_nm e.1) e.2.1 e.2.2.1)) && goodWord (.constantLong (ax_nm e.1) e.2.1 e.2.2.1)
set_option maxRecDepth 100000 in
theorem ax_kchk2_ok : ax_lc.all ax_kchk2 = true := by decide +kernel
variable {p : Program} {l : Launch} {e : Env} {R : Room} {s : State} {m : MethodId} {args : Array Value} {below : List Frame} {meth : Method} {c : Code} {Q : State → Prop} {D : va_G} {A : Nat → Prop} {b : Nat} {γ : Nat → Int} {pv : List Value} {own : Nat} {ini : Bool} {nL L mc ms d : Nat} {cc : ByteArray} {xs : Nat → Int32} {call : ax_F}
theorem ax_ldc_ok (X : ax_X p R s m args meth c A b γ pv own ini nL L mc ms d cc xs) {i len pc : Nat} {lv : ax_L} {st : ax_K} {hp : List ax_C} {pr : List ax_V} {cn : Nat × Nat} {out : List ax_S} (hd : decode cc pc = .ok (.ldc i, len)) (h : ax_ldc own i len pc lv st hp pr cn = some out) (hG : ∀ S ∈ out, ax_G p l e R s m args below meth c Q D A b γ pv nL S) : ax_G p l e R s m args below meth c Q D A b γ pv nL (pc, lv, st, hp, pr, cn) := by
  obtain ⟨⟨hx, hb, hml, hown, hts⟩, -⟩ := X
  unfold ax_ldc at h
  split at h
  · rename_i e0 he
    unfold ax_icf at he
    have hm := List.mem_of_find?_eq_some he
    have hp0 := List.find?_some he
    simp only [Bool.and_eq_true, beq_iff_eq] at hp0
    have h1 := List.all_eq_true.mp ax_kchk_ok _ hm
    unfold ax_kchk at h1
    rw [hp0.1, hp0.2] at h1
    simp only [Bool.and_eq_true, decide_eq_true_eq] at h1
    refine ax_push_ok (val := .int e0.2.2.1) ?_ ?_ h hG
    · exact fun R => ax_c_ok γ _
    · exact fun hl => by subst hl; intro H locs ls rest kk; exact lv_ldc hx hb hown (hts _ (ax_in _ h1.1 h1.2)) hd kk
  · cases h
theorem ax_ldcw_ok (X : ax_X p R s m args meth c A b γ pv own ini nL L mc ms d cc xs) {i len pc : Nat} {lv : ax_L} {st : ax_K} {hp : List ax_C} {pr : List ax_V} {cn : Nat × Nat} {out : List ax_S} (hd : decode cc pc = .ok (.ldc_w i, len)) (h : ax_ldcw own i len pc lv st hp pr cn = some out) (hG : ∀ S ∈ out, ax_G p l e R s m args below meth c Q D A b γ pv nL S) : ax_G p l e R s m args below meth c Q D A b γ pv nL (pc, lv, st, hp, pr, cn) := by
  obtain ⟨⟨hx, hb, hml, hown, hts⟩, -⟩ := X
  unfold ax_ldcw at h
  split at h
  · rename_i e0 he
    unfold ax_icf at he
    have hm := List.mem_of_find?_eq_some he
    have hp0 := List.find?_some he
    simp only [Bool.and_eq_true, beq_iff_eq] at hp0
    have h1 := List.all_eq_true.mp ax_kchk_ok _ hm
    unfold ax_kchk at h1
    rw [hp0.1, hp0.2] at h1
    simp only [Bool.and_eq_true, decide_eq_true_eq] at h1
    refine ax_push_ok (val := .int e0.2.2.1) ?_ ?_ h hG
    · exact fun R => ax_c_ok γ _
    · exact fun hl => by subst hl; intro H locs ls rest kk; exact lv_ldcw hx hb hown (hts _ (ax_in _ h1.1 h1.2)) hd kk
  · cases h
theorem ax_ldc2_ok (X : ax_X p R s m args meth c A b γ pv own ini nL L mc ms d cc xs) {i len pc : Nat} {lv : ax_L} {st : ax_K} {hp : List ax_C} {pr : List ax_V} {cn : Nat × Nat} {out : List ax_S} (hd : decode cc pc = .ok (.ldc2_w i, len)) (h : ax_ldc2 own i len pc lv st hp pr cn = some out) (hG : ∀ S ∈ out, ax_G p l e R s m args below meth c Q D A b γ pv nL S) : ax_G p l e R s m args below meth c Q D A b γ pv nL (pc, lv, st, hp, pr, cn) := by
  obtain ⟨⟨hx, hb, hml, hown, hts⟩, -⟩ := X
  unfold ax_ldc2 at h
  split at h
  · rename_i e0 he
    unfold ax_lcf at he
    have hm := List.mem_of_find?_eq_some he
    have hp0 := List.find?_some he
    simp only [Bool.and_eq_true, beq_iff_eq] at hp0
    have h1 := List.all_eq_true.mp ax_kchk2_ok _ hm
    unfold ax_kchk2 at h1
    rw [hp0.1, hp0.2] at h1
    simp only [Bool.and_eq_true, decide_eq_true_eq] at h1
    refine ax_push_ok (val := .long e0.2.2.1) ?_ ?_ h hG
    · exact fun R => ⟨Int.le_refl _, Int.le_refl _⟩
    · exact fun hl => by subst hl; intro H locs ls rest kk; exact lv_ldc2 hx hb hown (hts _ (ax_in _ h1.1 h1.2)) hd kk
  · cases h
theorem ax_ne0 {b : ax_I} {y : Int64} {a z : ax_I} (h : ax_ldiv a b = some z) (hb : b.1 ≤ y.toInt ∧ y.toInt ≤ b.2) : ¬ y = 0 := by
  intro hy
  subst hy
  have h0 : (0 : Int64).toInt = 0 := by decide
  unfold ax_ldiv at h
  split at h
  · omega
  · cases h
theorem ax_ldiv_top {a b z : ax_I} (h : ax_ldiv a b = some z) : z = ax_topL := by
  unfold ax_ldiv at h
  split at h <;> cases h
  rfl
theorem ax_op_ok (X : ax_X p R s m args meth c A b γ pv own ini nL L mc ms d cc xs) (hcon : ax_Con l call d) {i : Instr} {len pc : Nat} {lv : ax_L} {st : ax_K} {hp : List ax_C} {pr : List ax_V} {cn : Nat × Nat} {out : List ax_S} (hd : decode cc pc = .ok (i, len)) (h : ax_op own ini nL L mc ms call i len pc lv st hp pr cn = some out) (hG : ∀ S ∈ out, ax_G p l e R s m args below meth c Q D A b γ pv nL S) : ax_G p l e R s m args below meth c Q D A b γ pv nL (pc, lv, st, hp, pr, cn) := by
  have X0 := X
  obtain ⟨⟨hx, hb, hml, hown, hts⟩, -⟩ := X0
  cases i with
  | iconst v =>
    refine ax_push_ok (val := .int (Int32.ofInt v)) ?_ ?_ h hG
    · exact fun R => ax_c_ok γ _
    · exact fun hl => by subst hl; intro H locs ls rest kk; exact lv_iconst hx hb hd rfl kk
  | bipush v =>
    refine ax_push_ok (val := .int (Int8.ofInt v).toInt32) ?_ ?_ h hG
    · exact fun R => ax_c_ok γ _
    · exact fun hl => by subst hl; intro H locs ls rest kk; exact lv_bipush hx hb hd rfl kk
  | sipush v =>
    refine ax_push_ok (val := .int (Int16.ofInt v).toInt32) ?_ ?_ h hG
    · exact fun R => ax_c_ok γ _
    · exact fun hl => by subst hl; intro H locs ls rest kk; exact lv_sipush hx hb hd rfl kk
  | lconst v =>
    refine ax_push_ok (val := .long (Int64.ofNat v)) ?_ ?_ h hG
    · exact fun R => ⟨Int.le_refl _, Int.le_refl _⟩
    · exact fun hl => by subst hl; intro H locs ls rest kk; exact lv_lconst hx hb hd rfl kk
  | aconst_null =>
    refine ax_push_ok (val := .null) ?_ ?_ h hG
    · exact fun R => trivial
    · exact fun hl => by subst hl; intro H locs ls rest kk; exact lv_null hx hb hd kk
  | ldc j => exact ax_ldc_ok X hd h hG
  | ldc_w j => exact ax_ldcw_ok X hd h hG
  | ldc2_w j => exact ax_ldc2_ok X hd h hG
  | iload_n j => exact ax_ld_ok (fun _ hl => by subst hl; intro H locs ls rest x e kk; exact lv_iload_n hx hb hd rfl e kk) (fun h => by cases h) (fun h => by cases h) (fun h => by cases h) h hG
  | iload j => exact ax_ld_ok (fun _ hl => by subst hl; intro H locs ls rest x e kk; exact lv_iload hx hb hd e kk) (fun h => by cases h) (fun h => by cases h) (fun h => by cases h) h hG
  | lload_n j => exact ax_ld_ok (fun h => by cases h) (fun _ hl => by subst hl; intro H locs ls rest x e kk; exact lv_lload_n hx hb hd rfl e kk) (fun h => by cases h) (fun h => by cases h) h hG
  | lload j => exact ax_ld_ok (fun h => by cases h) (fun _ hl => by subst hl; intro H locs ls rest x e kk; exact lv_lload hx hb hd e kk) (fun h => by cases h) (fun h => by cases h) h hG
  | aload_n j => exact ax_ld_ok (fun h => by cases h) (fun h => by cases h) (fun _ hl => by subst hl; intro H locs ls rest x e kk; exact lv_aload_n hx hb hd rfl e kk) (fun _ hl => by subst hl; intro H locs ls rest e kk; exact lv_aload_nN hx hb hd rfl e kk) h hG
  | aload j => exact ax_ld_ok (fun h => by cases h) (fun h => by cases h) (fun _ hl => by subst hl; intro H locs ls rest x e kk; exact lv_aload hx hb hd e kk) (fun _ hl => by subst hl; intro H locs ls rest e kk; exact lv_aloadN hx hb hd e kk) h hG
  | istore_n j => exact ax_st_ok (fun {v} _ g1 _ _ hl hn => by obtain ⟨x, rfl⟩ := g1 rfl; subst hl; intro H locs ls rest cv hh kk; exact lv_istore_n hx hb hd rfl hh hn rfl kk) (fun h => by cases h) h hG
  | istore j => exact ax_st_ok (fun {v} _ g1 _ _ hl hn => by obtain ⟨x, rfl⟩ := g1 rfl; subst hl; intro H locs ls rest cv hh kk; exact lv_istore hx hb hd hh hn rfl kk) (fun h => by cases h) h hG
  | lstore_n j => exact ax_st_ok (fun {v} _ _ g2 _ hl hn => (g2 rfl).elim) (fun _ {x} hl hn => by subst hl; intro H locs ls rest cv hh kk; exact lv_lstore_n hx hb hd rfl hh hn rfl kk) h hG
  | lstore j => exact ax_st_ok (fun {v} _ _ g2 _ hl hn => (g2 rfl).elim) (fun _ {x} hl hn => by subst hl; intro H locs ls rest cv hh kk; exact lv_lstore hx hb hd hh hn rfl kk) h hG
  | astore_n j => exact ax_st_ok (fun {v} _ _ _ g3 hl hn => by
      subst hl
      intro H locs ls rest cv hh kk
      rcases g3 rfl with rfl | ⟨x, rfl⟩
      · exact lv_astore_nN hx hb hd rfl hh hn rfl kk
      · exact lv_astore_n hx hb hd rfl hh hn rfl kk) (fun h => by cases h) h hG
  | astore j => exact ax_st_ok (fun {v} _ _ _ g3 hl hn => by
      subst hl
      intro H locs ls rest cv hh kk
      rcases g3 rfl with rfl | ⟨x, rfl⟩
      · exact lv_astoreN hx hb hd hh hn rfl kk
      · exact lv_astore hx hb hd hh hn rfl kk) (fun h => by cases h) h hG
  | iinc j v => exact ax_iinc_ok X hd h hG
  | iadd =>
    refine ax_ii_ok (f := fun a b => some (ax_add a b)) (g := fun x y => x + y) ?_ ?_ h hG
    · exact fun a b z x y e ha hb => by cases e; exact ax_add_ok ha hb
    · exact fun hl => by subst hl; intro H locs ls rest x y _ kk; exact lv_iadd hx hb hd kk
  | isub =>
    refine ax_ii_ok (f := fun a b => some (ax_sub a b)) (g := fun x y => x - y) ?_ ?_ h hG
    · exact fun a b z x y e ha hb => by cases e; exact ax_sub_ok ha hb
    · exact fun hl => by subst hl; intro H locs ls rest x y _ kk; exact lv_isub hx hb hd kk
  | imul =>
    refine ax_ii_ok (f := fun a b => some (ax_mul a b)) (g := fun x y => x * y) ?_ ?_ h hG
    · exact fun a b z x y e ha hb => by cases e; exact ax_mul_ok ha hb
    · exact fun hl => by subst hl; intro H locs ls rest x y _ kk; exact lv_imul hx hb hd kk
  | idiv =>
    refine ax_ii_ok (f := ax_div) (g := fun x y => x / y) ?_ ?_ h hG
    · exact fun a b z x y e ha hb => ax_div_ok e ha hb
    · exact fun hl => by subst hl; intro H locs ls rest x y hz kk; obtain ⟨a, b2, z, e1, e2⟩ := hz; exact lv_idiv hx hb hd (ax_div_ne e1 e2) kk
  | irem =>
    refine ax_ii_ok (f := ax_rem) (g := fun x y => x - x / y * y) ?_ ?_ h hG
    · exact fun a b z x y e ha hb => ax_rem_ok e ha hb
    · exact fun hl => by subst hl; intro H locs ls rest x y hz kk; obtain ⟨a, b2, z, e1, e2⟩ := hz; exact lv_irem hx hb hd (ax_rem_ne e1 e2) kk
  | iand =>
    refine ax_ii_ok (f := fun a b => some (ax_and a b)) (g := fun x y => x &&& y) ?_ ?_ h hG
    · exact fun a b z x y e ha hb => by cases e; exact ax_and_ok ha hb
    · exact fun hl => by subst hl; intro H locs ls rest x y _ kk; exact lv_iand hx hb hd kk
  | ior =>
    refine ax_ii_ok (f := fun _ _ => some ax_topN) (g := fun x y => x ||| y) ?_ ?_ h hG
    · exact fun a b z x y e ha hb => by cases e; exact ax_topN_ok γ _
    · exact fun hl => by subst hl; intro H locs ls rest x y _ kk; exact lv_ior hx hb hd kk
  | ixor =>
    refine ax_ii_ok (f := fun _ _ => some ax_topN) (g := fun x y => x ^^^ y) ?_ ?_ h hG
    · exact fun a b z x y e ha hb => by cases e; exact ax_topN_ok γ _
    · exact fun hl => by subst hl; intro H locs ls rest x y _ kk; exact lv_ixor hx hb hd kk
  | ishl =>
    refine ax_ii_ok (f := fun _ _ => some ax_topN) (g := fun x y => x <<< (y &&& 31)) ?_ ?_ h hG
    · exact fun a b z x y e ha hb => by cases e; exact ax_topN_ok γ _
    · exact fun hl => by subst hl; intro H locs ls rest x y _ kk; exact lv_ishl hx hb hd kk
  | ishr =>
    refine ax_ii_ok (f := fun _ _ => some ax_topN) (g := fun x y => x >>> (y &&& 31)) ?_ ?_ h hG
    · exact fun a b z x y e ha hb => by cases e; exact ax_topN_ok γ _
    · exact fun hl => by subst hl; intro H locs ls rest x y _ kk; exact lv_ishr hx hb hd kk
  | iushr =>
    refine ax_ii_ok (f := fun _ _ => some ax_topN) (g := fun x y => (x.toUInt32 >>> (y.toUInt32 &&& Int32.toUInt32 31)).toInt32) ?_ ?_ h hG
    · exact fun a b z x y e ha hb => by cases e; exact ax_topN_ok γ _
    · exact fun hl => by subst hl; intro H locs ls rest x y _ kk; exact lv_iushr hx hb hd rfl kk
  | ineg => exact ax_ineg_ok X hd h hG
  | i2l => exact ax_i2l_ok X hd h hG
  | l2i => exact ax_l2i_ok X hd h hG
  | i2b => exact ax_i2b_ok X hd h hG
  | ladd =>
    refine ax_ll_ok (f := fun _ _ => some ax_topL) (g := fun x y => x + y) ?_ ?_ h hG
    · exact fun a b z x y e ha hb => by cases e; exact ax_ltL _
    · exact fun hl => by subst hl; intro H locs ls rest x y _ kk; exact lv_ladd hx hb hd kk
  | lsub =>
    refine ax_ll_ok (f := fun _ _ => some ax_topL) (g := fun x y => x - y) ?_ ?_ h hG
    · exact fun a b z x y e ha hb => by cases e; exact ax_ltL _
    · exact fun hl => by subst hl; intro H locs ls rest x y _ kk; exact lv_lsub hx hb hd kk
  | lmul =>
    refine ax_ll_ok (f := fun _ _ => some ax_topL) (g := fun x y => x * y) ?_ ?_ h hG
    · exact fun a b z x y e ha hb => by cases e; exact ax_ltL _
    · exact fun hl => by subst hl; intro H locs ls rest x y _ kk; exact lv_lmul hx hb hd kk
  | ldiv =>
    refine ax_ll_ok (f := ax_ldiv) (g := fun x y => x / y) ?_ ?_ h hG
    · exact fun a b z x y e ha hb => by cases ax_ldiv_top e; exact ax_ltL _
    · exact fun hl => by subst hl; intro H locs ls rest x y hz kk; obtain ⟨a, b2, z, e1, e2⟩ := hz; exact lv_ldiv hx hb hd (ax_ne0 e1 e2) kk
  | lrem =>
    refine ax_ll_ok (f := ax_ldiv) (g := fun x y => x - x / y * y) ?_ ?_ h hG
    · exact fun a b z x y e ha hb => by cases ax_ldiv_top e; exact ax_ltL _
    · exact fun hl => by subst hl; intro H locs ls rest x y hz kk; obtain ⟨a, b2, z, e1, e2⟩ := hz; exact lv_lrem hx hb hd (ax_ne0 e1 e2) kk
  | lcmp => exact ax_lcp_ok X hd h hG
  | dup => exact ax_dup_ok X hd h hG
  | dup2 => exact ax_dup2_ok X hd h hG
  | pop => exact ax_pop_ok X hd h hG
  | ifCond k off =>
    have z0 : (0 : Int32).toInt = 0 := by decide
    cases k with
    | eq => exact ax_if1_ok (k := 0) (k2 := 1) (P := fun x => x = 0) (fun hl ht kt kf => by subst hl; exact lv_if_eq hx hb hd ht kt kf) (fun x e => by subst e; rfl) (fun x e => fun e2 => e (Int32.toInt_inj.mp e2)) h hG
    | ne => exact ax_if1_ok (k := 1) (k2 := 0) (P := fun x => ¬ x = 0) (fun hl ht kt kf => by subst hl; exact lv_if_ne hx hb hd ht kt (fun e9 => kf (fun h9 => h9 e9))) (fun x e => fun e2 => e (Int32.toInt_inj.mp e2)) (fun x e => by have e := Classical.byContradiction e; subst e; rfl) h hG
    | lt => exact ax_if1_ok (k := 2) (k2 := 3) (P := fun x => x < 0) (fun hl ht kt kf => by subst hl; exact lv_if_lt hx hb hd ht kt kf) (fun x e => Int32.lt_iff_toInt_lt.mp e) (fun x e => by rw [Int32.lt_iff_toInt_lt] at e; show (0 : Int32).toInt ≤ x.toInt; omega) h hG
    | ge => exact ax_if1_ok (k := 3) (k2 := 2) (P := fun x => 0 ≤ x) (fun hl ht kt kf => by subst hl; exact lv_if_ge hx hb hd ht kt kf) (fun x e => Int32.le_iff_toInt_le.mp e) (fun x e => by rw [Int32.le_iff_toInt_le] at e; show x.toInt < (0 : Int32).toInt; omega) h hG
    | gt => exact ax_if1_ok (k := 4) (k2 := 5) (P := fun x => 0 < x) (fun hl ht kt kf => by subst hl; exact lv_if_gt hx hb hd ht kt kf) (fun x e => Int32.lt_iff_toInt_lt.mp e) (fun x e => by rw [Int32.lt_iff_toInt_lt] at e; show x.toInt ≤ (0 : Int32).toInt; omega) h hG
    | le => exact ax_if1_ok (k := 5) (k2 := 4) (P := fun x => x ≤ 0) (fun hl ht kt kf => by subst hl; exact lv_if_le hx hb hd ht kt kf) (fun x e => Int32.le_iff_toInt_le.mp e) (fun x e => by rw [Int32.le_iff_toInt_le] at e; show (0 : Int32).toInt < x.toInt; omega) h hG
  | if_icmp k off =>
    cases k with
    | eq => exact ax_if2_ok (k := 0) (k2 := 1) (P := fun x y => x = y) (fun hl ht kt kf => by subst hl; exact lv_icmp_eq hx hb hd ht kt kf) (fun x y e => by subst e; rfl) (fun x y e => fun e2 => e (Int32.toInt_inj.mp e2)) h hG
    | ne => exact ax_if2_ok (k := 1) (k2 := 0) (P := fun x y => ¬ x = y) (fun hl ht kt kf => by subst hl; exact lv_icmp_ne hx hb hd ht kt (fun e9 => kf (fun h9 => h9 e9))) (fun x y e => fun e2 => e (Int32.toInt_inj.mp e2)) (fun x y e => by have e := Classical.byContradiction e; subst e; rfl) h hG
    | lt => exact ax_if2_ok (k := 2) (k2 := 3) (P := fun x y => x < y) (fun hl ht kt kf => by subst hl; exact lv_icmp_lt hx hb hd ht kt kf) (fun x y e => Int32.lt_iff_toInt_lt.mp e) (fun x y e => by rw [Int32.lt_iff_toInt_lt] at e; show y.toInt ≤ x.toInt; omega) h hG
    | ge => exact ax_if2_ok (k := 3) (k2 := 2) (P := fun x y => y ≤ x) (fun hl ht kt kf => by subst hl; exact lv_icmp_ge hx hb hd ht kt kf) (fun x y e => Int32.le_iff_toInt_le.mp e) (fun x y e => by rw [Int32.le_iff_toInt_le] at e; show x.toInt < y.toInt; omega) h hG
    | gt => exact ax_if2_ok (k := 4) (k2 := 5) (P := fun x y => y < x) (fun hl ht kt kf => by subst hl; exact lv_icmp_gt hx hb hd ht kt kf) (fun x y e => Int32.lt_iff_toInt_lt.mp e) (fun x y e => by rw [Int32.lt_iff_toInt_lt] at e; show x.toInt ≤ y.toInt; omega) h hG
    | le => exact ax_if2_ok (k := 5) (k2 := 4) (P := fun x y => x ≤ y) (fun hl ht kt kf => by subst hl; exact lv_icmp_le hx hb hd ht kt kf) (fun x y e => Int32.le_iff_toInt_le.mp e) (fun x y e => by rw [Int32.le_iff_toInt_le] at e; show y.toInt < x.toInt; omega) h hG
  | goto off => exact ax_goto_ok X hd h hG
  | ifnull off => exact ax_ifnull_ok X hd h hG
  | ifnonnull off => exact ax_ifnonnull_ok X hd h hG
  | tableswitch dd lo hi offs =>
    have h : (if -2147483648 ≤ lo ∧ lo ≤ 2147483647 ∧ -2147483648 ≤ hi ∧ hi ≤ 2147483647 then ax_sw dd lo hi offs pc lv st hp pr cn else none) = some out := h
    split at h
    · rename_i hl
      exact ax_sw_ok X hd hl h hG
    · cases h
  | getfield j => exact ax_gf_ok X hd h hG
  | putfield j => exact ax_pf_ok X hd h hG
  | iaload => exact ax_iald_ok X hd h hG
  | baload => exact ax_bald_ok X hd h hG
  | laload => exact ax_lald_ok X hd h hG
  | aaload => exact ax_aald_ok X hd h hG
  | iastore => exact ax_iast_ok X hd h hG
  | bastore => exact ax_bast_ok X hd h hG
  | lastore => exact ax_last_ok X hd h hG
  | aastore => exact ax_aast_ok X hd h hG
  | arraylength => exact ax_alen_ok X hd h hG
  | newarray t =>
    have z0 : (0 : Int32).toInt = 0 := by decide
    have z1 : (0 : Int64).toInt = 0 := by decide
    cases t with
    | int => exact ax_newa_ok (b0 := .inl (0, 0)) X hd rfl (ax_in _ ax_arr_int (by decide)) (by decide) (fun n => (n, .inl (fun _ => 0))) (fun _ => rfl) (fun _ _ => rfl) (fun n cA R tys t0 e => ⟨rfl, ⟨t0, e⟩, fun j _ => by rw [z0]; exact ⟨Int.le_refl _, Int.le_refl _⟩⟩) h hG
    | byte => exact ax_newa_ok (b0 := .inl (0, 0)) X hd rfl (ax_in _ ax_arr_byte (by decide)) (by decide) (fun n => (n, .inl (fun _ => 0))) (fun _ => rfl) (fun _ _ => rfl) (fun n cA R tys t0 e => ⟨rfl, ⟨t0, e⟩, fun j _ => by rw [z0]; exact ⟨Int.le_refl _, Int.le_refl _⟩⟩) h hG
    | boolean => exact ax_newa_ok (b0 := .inl (0, 0)) X hd rfl (ax_in _ ax_arr_boolean (by decide)) (by decide) (fun n => (n, .inl (fun _ => 0))) (fun _ => rfl) (fun _ _ => rfl) (fun n cA R tys t0 e => ⟨rfl, ⟨t0, e⟩, fun j _ => by rw [z0]; exact ⟨Int.le_refl _, Int.le_refl _⟩⟩) h hG
    | long => exact ax_newa_ok (b0 := .inr (.inl (0, 0))) X hd rfl (ax_in _ ax_arr_long (by decide)) (by decide) (fun n => (n, .inr (.inl (fun _ => 0)))) (fun _ => rfl) (fun _ _ => rfl) (fun n cA R tys t0 e => ⟨rfl, ⟨t0, e⟩, fun j _ => by rw [z1]; exact ⟨Int.le_refl _, Int.le_refl _⟩⟩) h hG
    | _ => cases h
  | anewarray j => exact ax_newq_ok X hd h hG
  | new j => exact ax_new_ok X hd h hG
  | invokevirtual j => exact ax_invk_ok (kd := 1) X hcon hd (by decide) h hG
  | invokestatic j => exact ax_stat_ok X hcon hd h hG
  | invokespecial j => exact ax_spec_ok X hcon hd h hG
  | _ => cases h
theorem ax_stp_ok (X : ax_X p R s m args meth c A b γ pv own ini nL L mc ms d cc xs) (hcon : ax_Con l call d) {S : ax_S} {out : List ax_S} (h : ax_stp own ini nL L mc ms cc call S = some out) (hG : ∀ S ∈ out, ax_G p l e R s m args below meth c Q D A b γ pv nL S) : ax_G p l e R s m args below meth c Q D A b γ pv nL S := by
  unfold ax_stp at h
  split at h
  · rename_i i len hd
    exact ax_op_ok X hcon hd h hG
  · cases h
theorem ax_run_ok (X : ax_X p R s m args meth c A b γ pv own ini nL L mc ms d cc xs) (hcon : ax_Con l call d) {fin : Nat → Bool} : ∀ (f : Nat) (work acc out : List ax_S), ax_run (ax_stp own ini nL L mc ms cc call) fin f work acc = some out → (∀ S ∈ out, ax_G p l e R s m args below meth c Q D A b γ pv nL S) → (∀ S ∈ work, ax_G p l e R s m args below meth c Q D A b γ pv nL S) ∧ ∀ S ∈ acc, S ∈ out
  | 0, _, _, _, h, _ => by cases h
  | f + 1, [], acc, out, h, _ => by
    unfold ax_run at h
    cases h
    exact ⟨fun _ h9 => absurd h9 List.not_mem_nil, fun _ h9 => h9⟩
  | f + 1, S :: r, acc, out, h, hG => by
    unfold ax_run at h
    split at h
    · obtain ⟨h1, h2⟩ := ax_run_ok X hcon f r (S :: acc) out h hG
      exact ⟨List.forall_mem_cons.mpr ⟨hG S (h2 S List.mem_cons_self), h1⟩, fun S2 h3 => h2 S2 (List.mem_cons_of_mem _ h3)⟩
    · split at h
      · cases h
      · rename_i l2 hs
        obtain ⟨h1, h2⟩ := ax_run_ok X hcon f (l2 ++ r) acc out h hG
        refine ⟨List.forall_mem_cons.mpr ⟨ax_stp_ok X hcon hs (fun S2 h3 => h1 S2 (List.mem_append_left _ h3)), fun S2 h3 => h1 S2 (List.mem_append_right _ h3)⟩, h2⟩
/-- every state that a run ends in was told to end there -/
theorem ax_run_fin {stp : ax_S → Option (List ax_S)} {fin : Nat → Bool} : ∀ (f : Nat) (work acc out : List ax_S), ax_run stp fin f work acc = some out → (∀ S ∈ acc, fin S.1 = true) → ∀ S ∈ out, fin S.1 = true
  | 0, _, _, _, h, _ => by cases h
  | f + 1, [], acc, out, h, ha => by
    unfold ax_run at h
    cases h
    exact ha
  | f + 1, S :: r, acc, out, h, ha => by
    unfold ax_run at h
    split at h
    · rename_i hf
      exact ax_run_fin f r (S :: acc) out h (List.forall_mem_cons.mpr ⟨hf, ha⟩)
    · split at h
      · cases h
      · exact ax_run_fin f _ acc out h ha
end AXE
end
section
/-! ABSTRACT RUNS: what a method's abstract run says, its contract says -/
section AXH
theorem ax_mapO_ok {α β : Type} {f : α → Option β} : ∀ {l : List α} {k : List β}, ax_mapO f l = some k → ∀ a ∈ l, ∃ o ∈ k, f a = some o
  | [], _, _, a, ha => by cases ha
  | x :: l, k, h, a, ha => by
    unfold ax_mapO at h
    split at h
    · rename_i y r h1 h2
      cases h
      rcases List.mem_cons.mp ha with rfl | ha
      · exact ⟨y, List.mem_cons_self, h1⟩
      · obtain ⟨o, h3, h4⟩ := ax_mapO_ok h2 a ha
        exact ⟨o, List.mem_cons_of_mem _ h3, h4⟩
    · cases h
theorem ax_slots_ok {γ : Nat → Int} {R : List Nat} : ∀ {as : List ax_V} {vs : List Value}, ax_all2 (ax_ok γ R) as vs → (lg_sl vs).length = ax_slots as
  | [], [], _ => rfl
  | a :: as, v :: vs, h => by
    have h1 := ax_slots_ok h.2
    have h2 := ax_ok_cat h.1
    unfold ax_slots at h1 ⊢
    unfold lg_sl at h1 ⊢
    rw [List.flatMap_cons, List.length_append, h1, List.map_cons, List.sum_cons, h2]
    rcases lv_cat v with h3 | h3 <;> simp [h3]
  | [], _ :: _, h => h.elim
  | _ :: _, [], h => h.elim
theorem ax_ent_ok {γ : Nat → Int} {R : List Nat} : ∀ {as : List ax_V} {vs post : List Value} (pre : List Value) (i : Nat), ax_all2 (ax_ok γ R) as vs → ax_lvs γ R (pre ++ (vs ++ post)) (ax_ent i pre.length as) (lv_args i vs)
  | [], [], _, _, _, _ => trivial
  | a :: as, v :: vs, post, pre, i, h => by
    have h2 := ax_ok_cat h.1
    have h3 := ax_ent_ok (post := post) (pre ++ [v]) (if v.category = 2 then i + 2 else i + 1) h.2
    rw [List.append_assoc, List.length_append] at h3
    unfold ax_ent lv_args
    rw [h2]
    refine ⟨⟨rfl, h.1, fun j hj => ?_⟩, h3⟩
    cases hj
    simp
  | [], _ :: _, _, _, _, h => h.elim
  | _ :: _, [], _, _, _, h => h.elim
theorem ax_pref {α : Type} : ∀ {l l1 : List α}, (∀ (k : Nat) (q : α), l[k]? = some q → l1[k]? = some q) → ∃ ext, l1 = l ++ ext
  | [], l1, _ => ⟨l1, rfl⟩
  | a :: l, [], h => by
    have := h 0 a rfl
    cases this
  | a :: l, b :: l1, h => by
    have h0 := h 0 a rfl
    cases h0
    obtain ⟨ext, e⟩ := ax_pref (l := l) (l1 := l1) (fun k q hk => by simpa using h (k + 1) q (by simpa using hk))
    exact ⟨ext, by rw [e]; rfl⟩
theorem ax_pl_get {n k : Nat} (h : k < n) : (ax_pl n)[k]? = some (.inr (.inr (some (k + 1)))) := by
  unfold ax_pl
  rw [List.getElem?_map, List.getElem?_range h]
  rfl
theorem ax_pl_ok {γ : Nat → Int} {b : Nat} : ∀ (ws : va_W), ax_all2 (ax_ok γ (ax_RR b ws)) (ax_pl ws.length) (ws.map (fun q => Value.ref q.1)) := by
  intro ws
  have key : ∀ (n : Nat) (l : va_W) (off : Nat), l.length = n → (∀ (k : Nat) (q : Nat × va_E), l[k]? = some q → ws[off + k]? = some q) → ax_all2 (ax_ok γ (ax_RR b ws)) ((List.range' off n).map (fun k => (.inr (.inr (some (k + 1))) : ax_V))) (l.map (fun q => Value.ref q.1)) := by
    intro n
    induction n with
    | zero => intro l off h1 h2; cases l with
      | nil => trivial
      | cons a l => cases h1
    | succ n ih => intro l off h1 h2; cases l with
      | nil => cases h1
      | cons a l =>
        refine ⟨?_, ih l (off + 1) (by simpa using h1) (fun k q hk => by have := h2 (k + 1) q (by simpa using hk); rw [show off + 1 + k = off + (k + 1) by omega]; exact this)⟩
        show (ax_RR b ws)[off + 1]? = some a.1
        have h3 := h2 0 a rfl
        unfold ax_RR
        rw [List.getElem?_cons_succ, List.getElem?_map, show off = off + 0 by omega, h3]
        rfl
  have h := key ws.length ws 0 rfl (fun k q hk => by rw [Nat.zero_add]; exact hk)
  unfold ax_pl
  rw [List.range_eq_range']
  exact h
/-- the cells that were there keep their places -/
theorem ax_ext {γ : Nat → Int} {b : Nat} {ws ws1 : va_W} (h : ax_all2 (ax_ok γ (ax_RR b ws1)) (ax_pl ws.length) (ws.map (fun q => Value.ref q.1))) : ∃ ext : List Nat, ws1.map (fun q => q.1) = ws.map (fun q => q.1) ++ ext := by
  refine ax_pref (fun k q hk => ?_)
  have h1 : k < ws.length := by
    have := (List.getElem?_eq_some_iff.mp hk).1
    simpa using this
  obtain ⟨v, h2, h3⟩ := ax_all2_get h (ax_pl_get h1)
  rw [List.getElem?_map] at hk h2
  obtain ⟨w, h4, h5⟩ := Option.map_eq_some_iff.mp hk
  rw [h4] at h2
  cases h2
  subst h5
  have h6 : (ax_RR b ws1)[k + 1]? = some w.1 := h3
  unfold ax_RR at h6
  rwa [List.getElem?_cons_succ] at h6
theorem ax_mg_ok {mi : Nat} {as : List ax_V} {outs : List ax_R} {o : ax_R} (h : o ∈ outs) : ∃ o2 ∈ ax_mg mi as outs, o2.1 = o.1 ∧ o2.2.2 = o.2.2 ∧ (o2.2.1 = o.2.1 ∨ o2.2.1 = as) := by
  unfold ax_mg
  split
  · split
    · rename_i o1 r
      split
      · rename_i hr
        refine ⟨(o1.1, as, o1.2.2), List.mem_singleton.mpr rfl, ?_⟩
        rcases List.mem_cons.mp h with rfl | h
        · exact ⟨rfl, rfl, Or.inr rfl⟩
        · have h1 := List.all_eq_true.mp hr o h
          unfold ax_sameR at h1
          simp only [Bool.and_eq_true, decide_eq_true_eq] at h1
          have e1 : o1.1 = o.1 := by
            have e := h1.1
            rcases o1 with ⟨_ | a, x⟩ <;> rcases o with ⟨_ | b, y⟩
            · rfl
            · cases e
            · cases e
            · simp at e; subst e; rfl
          exact ⟨e1, h1.2, Or.inr rfl⟩
      · exact ⟨o, h, rfl, rfl, Or.inl rfl⟩
    · cases h
  · exact ⟨o, h, rfl, rfl, Or.inl rfl⟩
theorem ax_con (l : Launch) : ∀ d, ax_Con l (ax_meth d) d
  | 0 => by
    intro γ b D mi t as hp outs ht h
    cases h
  | d + 1 => by
    intro γ b D mi t as hp outs ht h vs ws tys sz hvs hhp
    unfold ax_meth at h
    rw [ht] at h
    dsimp only at h
    split at h
    · rename_i hsl
      split at h
      · rename_i ends hrun
        split at h
        case h_2 => cases h
        rename_i outs0 hmap
        cases h
        obtain ⟨f1, f2, f3, f4, f5, f6, f7, f8⟩ := ax_tab_ok ht
        have hlen : hp.length = ws.length := ax_all2_len hhp
        have hlen2 : as.length = vs.length := ax_all2_len hvs
        refine Met.ofW (cc := t.2.1) (maxL := t.2.2.1) (ret := t.2.2.2.1) f7 rfl ?_
        intro p e s m args below meth c s₁ B hml hv
        obtain ⟨rfl, hsz, hP, hK, hD0, hN, hAO⟩ := hv
        have hx := B.exec
        have hb := B.bytes
        have hr := B.returns
        have hts0 := atoms_spec (ws := .code t.1 t.2.1 t.2.2.1 t.2.2.2.1 :: ax_W) B.pre
        have hown : s.vm.findClass (ax_nm t.2.2.2.2.1.1) = some m.cls := by
          rw [← f6]
          exact findClass_of_methodNamed B.named
        have hlocks := B.notSynchronized
        have hnm : meth.name = t.1.name := (name_of_methodNamed B.named B.method).1
        subst hsz
        have hD := hD0.self (sz := s.heap.size)
        have hA : ∀ q : Nat, s.heap.size ≤ q → va_A ws s.heap.size q := fun q h => Or.inr h
        have hS : va_S (va_A ws s.heap.size) s.heap s.heap [] := va_S.rf
        have hl := lv_entry vs (n := t.2.2.1) (by rw [ax_slots_ok hvs]; exact hsl)
        rw [lg_entry_eq]
        have X : ax_X p (headSpec (.code t.1 t.2.1 t.2.2.1 t.2.2.2.1 :: ax_W) { frames := d + 1, cells := t.2.2.2.2.2.2.1, slots := t.2.2.2.2.2.2.2, locals := 40 * (d + 1) }).room s m vs.toArray meth c (va_A ws s.heap.size) b γ (vs ++ (ws.map (fun q => Value.ref q.1) ++ [])) t.2.2.2.2.1.1 (decide (t.2.2.2.2.1.2 = 2)) t.2.2.1 0 t.2.2.2.2.2.2.1 t.2.2.2.2.2.2.2 d t.2.1 (fun _ => 0) :=
          ⟨⟨hx, hb, hml, hown, fun w hw => hts0 w (List.mem_cons_of_mem _ hw)⟩, fun hi => by rw [hnm]; exact (f4 (by simpa using hi)).2.1, hN, hAO, hA, ⟨Nat.le_refl _, Nat.le_refl _, Nat.le_refl _, by show 40 * d + 40 ≤ 40 * (d + 1); omega⟩, fun h => absurd h (by omega)⟩
        have key := (ax_run_ok (e := e) (below := below) (D := D) (Q := MQ below (ax_Qc γ b D (ax_mg mi as outs0) vs ws s.heap.size) vs.toArray s t.2.2.2.2.2.2.1 t.2.2.2.2.2.2.2 (va_A ws s.heap.size)) X (ax_con l d) _ _ _ _ hrun ?_).1 _ List.mem_cons_self
        · refine key (lv_args 0 vs) [] ws tys _ s.heap [] ⟨?_, ?_, trivial, hhp⟩ hl hK hP hD hS
          · rw [List.append_nil, hlen]
            exact ax_all2_app hvs (ax_pl_ok ws)
          · exact ax_ent_ok (post := ws.map (fun q => Value.ref q.1) ++ []) [] 0 hvs
        · intro S hSm
          obtain ⟨o, ho0, hout⟩ := ax_mapO_ok hmap S hSm
          obtain ⟨o2, ho, g1, g2, g3⟩ := ax_mg_ok (mi := mi) (as := as) ho0
          obtain ⟨pc, lv, st, hq, pr, cn⟩ := S
          unfold ax_out at hout
          split at hout
          · rename_i hc
            obtain ⟨hc1, hc2, hc3⟩ := hc
            intro cv cs ws1 tys1 ls H locs M hls hK1 hP1 hD1 hS1
            refine W.widen hc1 hc2 ?_
            have M1 : ax_all2 (ax_ok γ (ax_RR b ws1)) pr (vs ++ (ws.map (fun q => Value.ref q.1) ++ [])) := M.1
            have m1 := ax_all2_take as.length M1
            have m2 := ax_all2_drop as.length M1
            dsimp only at hc3
            rw [hlen2, List.take_left'  rfl] at m1
            rw [hc3, hlen, hlen2, List.drop_left' rfl, List.append_nil] at m2
            have hext := ax_ext m2
            rw [← hlen2] at m1
            have fin : ∀ (v : Option Value) (tt : State), tt.heap = H → s.WarmedH tt.vm → ax_rv γ (ax_RR b ws1) o.1 v → o.2 = (pr.take as.length, hq) → ax_Qc γ b D (ax_mg mi as outs0) vs ws s.heap.size vs.toArray s (.returned v) tt := by
              intro v tt htt hW hrv ho2
              refine ⟨⟨o2, ho, v, ws1, tys1, rfl, by rw [g1]; exact hrv, ?_, ?_, hext, by rw [htt]; exact hP1, va_K.moved hW.alike hK1, hD1⟩, hS1.F htt⟩
              · rcases g3 with g3 | g3
                · rw [g3, ho2]; exact m1
                · rw [g3]
                  obtain ⟨ext, hx9⟩ := hext
                  refine ax_all2_mono (fun _ _ => ax_ok_more (fun k q hk => ?_)) hvs
                  have e3 : ax_RR b ws1 = ax_RR b ws ++ ext := by
                    unfold ax_RR
                    rw [hx9]
                    rfl
                  rw [e3, List.getElem?_append_left (List.getElem?_eq_some_iff.mp hk).1]
                  exact hk
              · rw [g2, ho2]; exact M.2.2.2
            have M3 := M.2.2.1
            dsimp only at hout M3 ⊢
            split at hout
            · rename_i hd hret
              cases hout
              cases cs with
              | cons => exact M3.elim
              | nil =>
              exact W.vret hx hb (by rw [hr]; exact hret) (fun tt h1 h2 => fin none tt h1 h2 trivial rfl) hS1.2.2 hd
            · rename_i hd hret
              cases hout
              obtain ⟨v1, cr, rfl, e1, e2⟩ := ax_popk M3
              obtain ⟨x, rfl, e3⟩ := ax_ok_i e1.1
              cases cr with
              | cons => exact e2.elim
              | nil =>
              exact W.zret (ty := .int) hx hb (by rw [hr]; exact hret) rfl (fun tt h1 h2 => fin _ tt h1 h2 e3 rfl) hS1.2.2 hd
            · rename_i hd hret
              split at hout
              · rename_i hbd
                cases hout
                obtain ⟨v1, cr, rfl, e1, e2⟩ := ax_popk M3
                obtain ⟨x, rfl, e3⟩ := ax_ok_i e1.1
                cases cr with
                | cons => exact e2.elim
                | nil =>
                have e4 := (ax_fits_ok (γ := γ) (R := ax_RR b ws1) (ty := .boolean) (a := .inl _) (v := .int x) (by unfold ax_fits; simp only [Bool.and_eq_true, decide_eq_true_eq]; exact hbd) e3).1
                exact W.zret (ty := .boolean) hx hb (by rw [hr]; exact hret) e4 (fun tt h1 h2 => fin _ tt h1 h2 e3 rfl) hS1.2.2 hd
              · cases hout
            · rename_i hd hret
              cases hout
              obtain ⟨v1, cr, rfl, e1, e2⟩ := ax_popk M3
              obtain ⟨x, rfl, e3⟩ := ax_ok_l e1.1
              cases cr with
              | cons => exact e2.elim
              | nil =>
              exact W.lret hx hb (by rw [hr]; exact hret) (fun tt h1 h2 => fin _ tt h1 h2 e3 rfl) hS1.2.2 hd
            · rename_i cn0 ra oo hd hret
              cases hout
              obtain ⟨v1, cr, rfl, e1, e2⟩ := ax_popk M3
              have e3 : v1 = .null ∨ ∃ a, v1 = .ref a := by
                rcases ra with _ | ra
                · exact Or.inl (ax_ok_n e1.1)
                · obtain ⟨q, hq, -⟩ := ax_ok_r e1.1
                  exact Or.inr ⟨q, hq⟩
              cases cr with
              | cons => exact e2.elim
              | nil =>
              exact W.aret hx hb (by rw [hr]; exact hret) (Or.inl ⟨_, rfl⟩) e3 (fun tt h1 h2 => fin _ tt h1 h2 e1.1 rfl) hS1.2.2 hd
            · cases hout
          · cases hout
      · cases h
    · cases h
end AXH
end
section
/-! THE LAW, ABSTRACTLY: its state at the loop's head, written by gen_law.py -/
section AXLIT
def ax_hpH0 : List ax_C := [.inl (9, [.inr (.inr (some 30)), .inr (.inr (some 2)), .inr (.inr (some 3)), .inr (.inr (some 4)), .inr (.inr (some 5)), .inr (.inr (some 31)), .inr (.inr (some 34)), .inr (.inr (some 37)), .inr (.inr (some 6)), .inr (.inr (some 13)), .inr (.inr (some 18)), .inr (.inr (some 22)), .inr (.inr (some 26)), .inl ((0, 0), none), .inl ((0, 0), none), .inl ((0, 0), none), .inl ((0, 0), none)]), .inr ((.int, 5), .inl (0, 0)), .inr ((.int, 96), .inl (0, 0)), .inr ((.int, 192), .inl (0, 0)), .inr ((.object RX4, 6), .inr (.inr [some 41, some 47, some 53, some 59, some 65, some 71])), .inl (1, [.inr (.inr (some 7)), .inr (.inr (some 8)), .inr (.inr (some 9)), .inr (.inr (some 10)), .inr (.inr (some 11)), .inr (.inr (some 12)), .inl ((0, 0), none), .inl ((0, 0), none), .inl ((0, 0), none)]), .inr ((.int, 432), .inl (0, 0)), .inr ((.int, 48), .inl (0, 0)), .inr ((.int, 192), .inl (0, 0)), .inr ((.int, 576), .inl (0, 0)), .inr ((.int, 9), .inl (0, 0)), .inr ((.int, 9), .inl (0, 0)), .inl (5, [.inr (.inr (some 14)), .inr (.inr (some 15)), .inr (.inr (some 16)), .inr (.inr (some 17)), .inl ((0, 0), none), .inl ((0, 0), none), .inl ((0, 0), none), .inl ((0, 0), none)]), .inr ((.int, 3), .inl (0, 0)), .inr ((.int, 3), .inl (0, 0)), .inr ((.int, 9), .inl (0, 0)), .inr ((.int, 9), .inl (0, 0)), .inl (0, [.inr (.inr (some 19)), .inr (.inr (some 20)), .inr (.inr (some 21))]), .inr ((.int, 9), .inl (0, 1)), .inr ((.int, 9), .inl (0, 0))]
def ax_hpH1 : List ax_C := [.inr ((.int, 3), .inl (0, 0)), .inl (4, [.inr (.inr (some 23)), .inr (.inr (some 24)), .inr (.inr (some 25))]), .inr ((.long, 6), .inr (.inl (0, 0))), .inr ((.int, 6), .inl (0, 0)), .inr ((.long, 9), .inr (.inl (0, 0))), .inl (6, [.inr (.inr (some 27)), .inr (.inr (some 28)), .inr (.inr (some 29)), .inl ((0, 0), none), .inl ((0, 0), none), .inl ((0, 0), none), .inl ((0, 0), none), .inl ((0, 0), none)]), .inr ((.long, 192), .inr (.inl (0, 0))), .inr ((.int, 192), .inl (0, 0)), .inr ((.int, 3), .inl (0, 0)), .inr ((.int, 400), .inl (0, 0)), .inl (2, [.inr (.inr (some 32)), .inr (.inr (some 33)), .inl ((0, 0), none), .inl ((0, 0), none), .inl ((-1, -1), none)]), .inr ((.int, 108), .inl (0, 0)), .inr ((.int, 12), .inl (0, 0)), .inl (8, [.inr (.inr (some 30)), .inr (.inr (some 31)), .inr (.inr (some 35)), .inr (.inr (some 36)), .inl ((0, 0), none), .inl ((0, 0), none), .inl ((0, 0), none)]), .inr ((.int, 9), .inl (0, 0)), .inr ((.int, 3), .inl (0, 0)), .inl (7, [.inr (.inr (some 30)), .inr (.inr (some 31)), .inr (.inr (some 38)), .inr (.inr (some 39)), .inr (.inr (some 40)), .inl ((0, 0), none), .inl ((0, 0), none), .inl ((0, 0), none), .inl ((0, 0), none), .inl ((0, 0), none), .inl ((0, 0), none)]), .inr ((.int, 9), .inl (0, 0)), .inr ((.int, 3), .inl (0, 0)), .inr ((.int, 3), .inl (0, 0))]
def ax_hpH2 : List ax_C := [.inl (3, [.inr (.inr (some 42)), .inr (.inr (some 43)), .inr (.inr (some 44)), .inr (.inr (some 45)), .inr (.inr (some 46)), .inl ((0, 0), none), .inl ((0, 0), none), .inl ((0, 0), none), .inl ((0, 0), none)]), .inr ((.int, 432), .inl (0, 0)), .inr ((.int, 48), .inl (0, 0)), .inr ((.int, 192), .inl (0, 0)), .inr ((.int, 2304), .inl (0, 0)), .inr ((.int, 9), .inl (0, 0)), .inl (3, [.inr (.inr (some 48)), .inr (.inr (some 49)), .inr (.inr (some 50)), .inr (.inr (some 51)), .inr (.inr (some 52)), .inl ((0, 0), none), .inl ((0, 0), none), .inl ((0, 0), none), .inl ((0, 0), none)]), .inr ((.int, 432), .inl (0, 0)), .inr ((.int, 48), .inl (0, 0)), .inr ((.int, 192), .inl (0, 0)), .inr ((.int, 2304), .inl (0, 0)), .inr ((.int, 9), .inl (0, 0)), .inl (3, [.inr (.inr (some 54)), .inr (.inr (some 55)), .inr (.inr (some 56)), .inr (.inr (some 57)), .inr (.inr (some 58)), .inl ((0, 0), none), .inl ((0, 0), none), .inl ((0, 0), none), .inl ((0, 0), none)]), .inr ((.int, 432), .inl (0, 0)), .inr ((.int, 48), .inl (0, 0)), .inr ((.int, 192), .inl (0, 0)), .inr ((.int, 2304), .inl (0, 0)), .inr ((.int, 9), .inl (0, 0)), .inl (3, [.inr (.inr (some 60)), .inr (.inr (some 61)), .inr (.inr (some 62)), .inr (.inr (some 63)), .inr (.inr (some 64)), .inl ((0, 0), none), .inl ((0, 0), none), .inl ((0, 0), none), .inl ((0, 0), none)]), .inr ((.int, 432), .inl (0, 0))]
def ax_hpH3 : List ax_C := [.inr ((.int, 48), .inl (0, 0)), .inr ((.int, 192), .inl (0, 0)), .inr ((.int, 2304), .inl (0, 0)), .inr ((.int, 9), .inl (0, 0)), .inl (3, [.inr (.inr (some 66)), .inr (.inr (some 67)), .inr (.inr (some 68)), .inr (.inr (some 69)), .inr (.inr (some 70)), .inl ((0, 0), none), .inl ((0, 0), none), .inl ((0, 0), none), .inl ((0, 0), none)]), .inr ((.int, 432), .inl (0, 0)), .inr ((.int, 48), .inl (0, 0)), .inr ((.int, 192), .inl (0, 0)), .inr ((.int, 2304), .inl (0, 0)), .inr ((.int, 9), .inl (0, 0)), .inl (3, [.inr (.inr (some 72)), .inr (.inr (some 73)), .inr (.inr (some 74)), .inr (.inr (some 75)), .inr (.inr (some 76)), .inl ((0, 0), none), .inl ((0, 0), none), .inl ((0, 0), none), .inl ((0, 0), none)]), .inr ((.int, 432), .inl (0, 0)), .inr ((.int, 48), .inl (0, 0)), .inr ((.int, 192), .inl (0, 0)), .inr ((.int, 2304), .inl (0, 0)), .inr ((.int, 9), .inl (0, 0)), .inl (10, [.inr (.inr (some 78)), .inr (.inr (some 79)), .inl ((0, 0), none), .inl ((0, 0), none), .inr (.inr (some 80)), .inl ((0, 0), none), .inl ((-1, -1), none), .inl ((-1, -1), none), .inl ((0, 0), none), .inl ((0, 0), none), .inr (.inr (some 81)), .inl ((0, 0), none), .inr (.inr (some 82)), .inr (.inr (some 83)), .inr (.inr (some 84)), .inr (.inr (some 85)), .inl ((0, 0), none), .inr (.inr (some 86)), .inr (.inr (some 87)), .inr (.inr (some 88)), .inr (.inr (some 89)), .inr (.inr (some 90)), .inr (.inr (some 91)), .inr (.inr (some 92)), .inl ((0, 0), none), .inl ((0, 0), none), .inl ((0, 0), none), .inl ((0, 0), none), .inl ((0, 0), none), .inl ((0, 0), none), .inl ((0, 0), none), .inl ((0, 0), none), .inl ((0, 0), none), .inl ((0, 0), none), .inr (.inr (some 93)), .inr (.inr (some 94)), .inr (.inr (some 95)), .inr (.inr (some 96)), .inr (.inr (some 97)), .inr (.inr (some 98)), .inr (.inr (some 99)), .inr (.inr (some 100)), .inr (.inr (some 101)), .inr (.inr (some 102)), .inr (.inr (some 103)), .inr (.inr (some 104)), .inr (.inr (some 105)), .inr (.inr (some 106)), .inr (.inr (some 107)), .inr (.inr (some 108)), .inl ((0, 0), none), .inl ((0, 0), none), .inl ((0, 0), none), .inl ((0, 0), none), .inl ((0, 0), none), .inl ((0, 0), none), .inl ((0, 0), none), .inr (.inr (some 109)), .inr (.inr (some 110)), .inl ((0, 0), none)]), .inr ((.byte, 400), .inl (0, 0)), .inr ((.byte, 400), .inl (0, 0)), .inr ((.byte, 200), .inl (0, 0))]
def ax_hpH4 : List ax_C := [.inr ((.int, 240), .inl (0, 0)), .inr ((.int, 4644), .inl (0, 0)), .inr ((.int, 12), .inl (0, 0)), .inr ((.int, 12), .inl (0, 0)), .inr ((.int, 12), .inl (0, 0)), .inr ((.int, 27648), .inl (0, 0)), .inr ((.int, 6), .inl (0, 0)), .inr ((.boolean, 6), .inl (0, 0)), .inr ((.int, 3), .inl (0, 0)), .inr ((.int, 3), .inl (0, 0)), .inr ((.int, 3), .inl (0, 0)), .inr ((.int, 10), .inl (0, 0)), .inr ((.long, 32), .inr (.inl (0, 2027117202))), .inr ((.boolean, 384), .inl (0, 0)), .inr ((.boolean, 384), .inl (0, 0)), .inr ((.int, 384), .inl (0, 0)), .inr ((.int, 12), .inl (0, 1)), .inr ((.int, 12), .inl (0, 0)), .inr ((.long, 9), .inr (.inl (0, 0))), .inr ((.long, 9), .inr (.inl (0, 0)))]
def ax_hpH5 : List ax_C := [.inr ((.long, 3), .inr (.inl (0, 0))), .inr ((.long, 6), .inr (.inl (0, 0))), .inr ((.long, 9), .inr (.inl (0, 0))), .inr ((.long, 9), .inr (.inl (0, 0))), .inr ((.int, 1152), .inl (0, 0)), .inr ((.int, 384), .inl (0, 0)), .inr ((.int, 3), .inl (0, 0)), .inr ((.int, 3), .inl (0, 0)), .inr ((.int, 1152), .inl (0, 0)), .inr ((.int, 2304), .inl (0, 0)), .inr ((.long, 1), .inr (.inl (0, 0)))]
def ax_hpH : List ax_C := ax_hpH0 ++ (ax_hpH1 ++ (ax_hpH2 ++ (ax_hpH3 ++ (ax_hpH4 ++ (ax_hpH5)))))
def ax_lvH : ax_L := [(4, (.inl ((0, 0), none), none)), (3, (.inr (.inr (some 111)), none)), (2, (.inr (.inr (some 77)), none)), (1, (.inr (.inr (some 1)), none)), (0, (.inr (.inr (some 0)), none))]
def ax_lvB : ax_L := [(4, (.inl ((0, 0), some (0, 0)), none)), (3, (.inr (.inr (some 111)), none)), (2, (.inr (.inr (some 77)), none)), (1, (.inr (.inr (some 1)), none)), (0, (.inr (.inr (some 0)), none))]
def ax_prB : List ax_V := [.inl ((-2147483648, 2147483647), none), .inl ((-2147483648, 2147483647), none), .inl ((-2147483648, 2147483647), none), .inl ((-2147483648, 2147483647), none), .inl ((-2147483648, 2147483647), none), .inl ((-2147483648, 2147483647), none), .inl ((-2147483648, 2147483647), none), .inl ((-2147483648, 2147483647), none)]
abbrev ax_cnH : Nat × Nat := (111, 60511)
abbrev ax_S0 : ax_S := (0, [(0, (.inr (.inr (some 0)), none))], [], [], [], (0, 0))
abbrev ax_SH : ax_S := (23, ax_lvH, [], ax_hpH, [], ax_cnH)
abbrev ax_SB (t : Nat) : ax_S := (t, ax_lvB, [], ax_hpH, ax_prB, ax_cnH)
abbrev ax_SO : ax_S := (364, ax_lvB, [(.inr (.inr (some 111)), none), (.inl ((-2147483648, 2147483647), none), some (.inr (.inr 1))), (.inr (.inr (some 1)), none)], ax_hpH, ax_prB, ax_cnH)
abbrev ax_SP : ax_S := (367, ax_lvB, [(.inl ((1, 1), none), none)], ax_hpH, ax_prB, (112, 60517))
def ax_lstp (L : Nat) : ax_S → Option (List ax_S) := ax_stp 13 false 7 L 600002 7302232 code (ax_meth 9)
def ax_tl : List Nat := [156, 229, 294, 319, 356, 412, 449, 498, 547, 596, 633, 682, 719, 768, 805, 866, 903, 968, 1069, 1095, 1168, 1205, 1230, 1255, 1328, 1365]
def ax_lend (S : ax_S) : Bool := decide (S.1 = 1372) && (decide (S.2.2.2.2.2.1 ≤ 600002 ∧ S.2.2.2.2.2.2 ≤ 7302232) && (match S.2.2.1 with | [(.inl a, _)] => decide (a.1 = (1, 1)) | _ => false))
def ax_ends (r : Option (List ax_S)) : Bool := match r with | some l => l.all ax_lend | none => false
end AXLIT
end
section
/-! THE LAW, ABSTRACTLY: two states compared; its runs, decided by the kernel -/
section AXCHK
def ax_dO : DecidableEq ax_O := inferInstance
def ax_d1 : DecidableEq (ax_V × Option Nat) := @instDecidableEqProd _ _ ax_dV inferInstance
def ax_d2 : DecidableEq (Nat × (ax_V × Option Nat)) := @instDecidableEqProd _ _ inferInstance ax_d1
def ax_dL : DecidableEq ax_L := @instDecidableEqList _ ax_d2
def ax_d3 : DecidableEq (ax_V × ax_O) := @instDecidableEqProd _ _ ax_dV ax_dO
def ax_dK : DecidableEq ax_K := @instDecidableEqList _ ax_d3
def ax_dS1 : DecidableEq (List ax_V × (Nat × Nat)) := @instDecidableEqProd _ _ ax_dLV inferInstance
def ax_dS2 : DecidableEq (List ax_C × (List ax_V × (Nat × Nat))) := @instDecidableEqProd _ _ ax_dLC ax_dS1
def ax_dS3 : DecidableEq (ax_K × (List ax_C × (List ax_V × (Nat × Nat)))) := @instDecidableEqProd _ _ ax_dK ax_dS2
def ax_dS4 : DecidableEq (ax_L × (ax_K × (List ax_C × (List ax_V × (Nat × Nat))))) := @instDecidableEqProd _ _ ax_dL ax_dS3
def ax_is (r : Option (List ax_S)) (S : ax_S) : Bool := match r with
  | some [T] => decide (T.1 = S.1) && @decide (T.2 = S.2) (ax_dS4 T.2 S.2)
  | _ => false
theorem ax_is_ok {r : Option (List ax_S)} {S : ax_S} (h : ax_is r S = true) : r = some [S] := by
  unfold ax_is at h
  split at h
  · rename_i T
    simp only [Bool.and_eq_true, decide_eq_true_eq] at h
    have e1 : T.1 = S.1 := h.1
    have e2 : T.2 = S.2 := h.2
    rw [Prod.ext e1 e2]
  · cases h
def ax_swk (r : Option (List ax_S)) : Bool := match r with
  | some l => l.all (fun S => @decide (S.2 = (ax_SB 0).2) (ax_dS4 S.2 (ax_SB 0).2) && ax_tl.contains S.1)
  | none => false

set_option maxRecDepth 1000000 in
theorem ax_k_head : ax_is (ax_run (ax_lstp 0) (fun pc => pc == 23) 2000 [ax_S0] []) ax_SH = true := by decide +kernel
set_option maxRecDepth 1000000 in
theorem ax_k_short : (List.range 8).all (fun L => ax_ends (ax_run (ax_lstp (L + 1)) (fun pc => pc == 1372) 100 [ax_SH] [])) = true := by decide +kernel
set_option maxRecDepth 1000000 in
theorem ax_k_switch : ax_swk (ax_run (ax_lstp 9) (fun pc => ax_tl.contains pc) 200 [ax_SB 23] []) = true := by decide +kernel
set_option maxRecDepth 1000000 in
theorem ax_k_out : ax_is (ax_run (ax_lstp 9) (fun pc => pc == 364) 200 [ax_SB 356] []) ax_SO = true := by decide +kernel
set_option maxRecDepth 1000000 in
theorem ax_k_outend : ax_ends (ax_run (ax_lstp 9) (fun pc => pc == 1372) 5000 [ax_SP] []) = true := by decide +kernel
set_option maxRecDepth 1000000 in
theorem ax_k_156 : ax_ends (ax_run (ax_lstp 9) (fun pc => pc == 1372) 30000 [ax_SB 156] []) = true := by decide +kernel
set_option maxRecDepth 1000000 in
theorem ax_k_229 : ax_ends (ax_run (ax_lstp 9) (fun pc => pc == 1372) 30000 [ax_SB 229] []) = true := by decide +kernel
set_option maxRecDepth 1000000 in
theorem ax_k_294 : ax_ends (ax_run (ax_lstp 9) (fun pc => pc == 1372) 30000 [ax_SB 294] []) = true := by decide +kernel
set_option maxRecDepth 1000000 in
theorem ax_k_319 : ax_ends (ax_run (ax_lstp 9) (fun pc => pc == 1372) 30000 [ax_SB 319] []) = true := by decide +kernel
set_option maxRecDepth 1000000 in
theorem ax_k_412 : ax_ends (ax_run (ax_lstp 9) (fun pc => pc == 1372) 30000 [ax_SB 412] []) = true := by decide +kernel
set_option maxRecDepth 1000000 in
theorem ax_k_449 : ax_ends (ax_run (ax_lstp 9) (fun pc => pc == 1372) 30000 [ax_SB 449] []) = true := by decide +kernel
set_option maxRecDepth 1000000 in
theorem ax_k_498 : ax_ends (ax_run (ax_lstp 9) (fun pc => pc == 1372) 30000 [ax_SB 498] []) = true := by decide +kernel
set_option maxRecDepth 1000000 in
theorem ax_k_547 : ax_ends (ax_run (ax_lstp 9) (fun pc => pc == 1372) 30000 [ax_SB 547] []) = true := by decide +kernel
set_option maxRecDepth 1000000 in
theorem ax_k_596 : ax_ends (ax_run (ax_lstp 9) (fun pc => pc == 1372) 30000 [ax_SB 596] []) = true := by decide +kernel
set_option maxRecDepth 1000000 in
theorem ax_k_633 : ax_ends (ax_run (ax_lstp 9) (fun pc => pc == 1372) 30000 [ax_SB 633] []) = true := by decide +kernel
set_option maxRecDepth 1000000 in
theorem ax_k_682 : ax_ends (ax_run (ax_lstp 9) (fun pc => pc == 1372) 30000 [ax_SB 682] []) = true := by decide +kernel
set_option maxRecDepth 1000000 in
theorem ax_k_719 : ax_ends (ax_run (ax_lstp 9) (fun pc => pc == 1372) 30000 [ax_SB 719] []) = true := by decide +kernel
set_option maxRecDepth 1000000 in
theorem ax_k_768 : ax_ends (ax_run (ax_lstp 9) (fun pc => pc == 1372) 30000 [ax_SB 768] []) = true := by decide +kernel
set_option maxRecDepth 1000000 in
theorem ax_k_805 : ax_ends (ax_run (ax_lstp 9) (fun pc => pc == 1372) 30000 [ax_SB 805] []) = true := by decide +kernel
set_option maxRecDepth 1000000 in
theorem ax_k_866 : ax_ends (ax_run (ax_lstp 9) (fun pc => pc == 1372) 30000 [ax_SB 866] []) = true := by decide +kernel
set_option maxRecDepth 1000000 in
theorem ax_k_903 : ax_ends (ax_run (ax_lstp 9) (fun pc => pc == 1372) 30000 [ax_SB 903] []) = true := by decide +kernel
set_option maxRecDepth 1000000 in
theorem ax_k_968 : ax_ends (ax_run (ax_lstp 9) (fun pc => pc == 1372) 30000 [ax_SB 968] []) = true := by decide +kernel
set_option maxRecDepth 1000000 in
theorem ax_k_1069 : ax_ends (ax_run (ax_lstp 9) (fun pc => pc == 1372) 30000 [ax_SB 1069] []) = true := by decide +kernel
set_option maxRecDepth 1000000 in
theorem ax_k_1095 : ax_ends (ax_run (ax_lstp 9) (fun pc => pc == 1372) 30000 [ax_SB 1095] []) = true := by decide +kernel
set_option maxRecDepth 1000000 in
theorem ax_k_1168 : ax_ends (ax_run (ax_lstp 9) (fun pc => pc == 1372) 30000 [ax_SB 1168] []) = true := by decide +kernel
set_option maxRecDepth 1000000 in
theorem ax_k_1205 : ax_ends (ax_run (ax_lstp 9) (fun pc => pc == 1372) 30000 [ax_SB 1205] []) = true := by decide +kernel
set_option maxRecDepth 1000000 in
theorem ax_k_1230 : ax_ends (ax_run (ax_lstp 9) (fun pc => pc == 1372) 30000 [ax_SB 1230] []) = true := by decide +kernel
set_option maxRecDepth 1000000 in
theorem ax_k_1255 : ax_ends (ax_run (ax_lstp 9) (fun pc => pc == 1372) 30000 [ax_SB 1255] []) = true := by decide +kernel
set_option maxRecDepth 1000000 in
theorem ax_k_1328 : ax_ends (ax_run (ax_lstp 9) (fun pc => pc == 1372) 30000 [ax_SB 1328] []) = true := by decide +kernel
set_option maxRecDepth 1000000 in
theorem ax_k_1365 : ax_ends (ax_run (ax_lstp 9) (fun pc => pc == 1372) 30000 [ax_SB 1365] []) = true := by decide +kernel
end AXCHK
end
section
/-! ===== BEGIN exceptions that leave a method, and their catching by the caller (launches without stack traces) ===== -/
section VXA
/-! The laws vx_back, vx_callV, vx_callS, vx_callSW, vx_throw0, vx_throwS follow proofs of the library, with one case more: JvmDerived/Free/Laws.lean (Back.of_free), Shelf42/LK1.lean (callV, callS), Shelf/KitTraced.lean (throwNew0V, throwNewS). -/
/-- where a method has thrown q: the class by its name, the cell, what was written, the world -/
def vx_T (XC : String → State → State → Prop) (st : State) (q : Addr) (t : State) (mc ms : Nat) (free : Addr → Prop) : Prop :=
  ∃ (E : String) (ce : Cell) (L : List Loc), XC E st t ∧ t.heap[q]? = some ce ∧ ce.vm = .none ∧ st.vm.findClass E = some ce.cls ∧ st.WarmedH t.vm ∧ st.sameButNew ({ t with vm := st.vm } : State) L mc ms ∧ ∀ z ∈ L, free z.base
def vx_Q (Qc : Array Value → State → Outcome → State → Prop) (XC : String → State → State → Prop) (mc ms : Nat) (free : Addr → Prop) : Array Value → State → Outcome → State → Prop := fun a st o t =>
  (Qc a st o t ∧ ∃ L, FrameEnd st o t L mc ms ∧ ∀ q ∈ L, free q.base) ∨ ∃ q, o = .threw q ∧ vx_T XC st q t mc ms free
/-- a callee that returns or throws -/
def vx_Met (l : Launch) (y : MethodName) (ws : List Cond) (rm : Room) (Pc : Array Value → State → Prop) (Qc : Array Value → State → Outcome → State → Prop) (XC : String → State → State → Prop) (mc ms : Nat) (free : Addr → Prop) : Prop :=
  MetFree l y (headSpec ws rm) Pc (fun _ _ _ _ _ => True) (vx_Q Qc XC mc ms free)
def vx_Post (XC : String → State → State → Prop) (mc ms : Nat) (free : Addr → Prop) : Pt → Array Value → Addr → Pt → Prop := fun A a q B =>
  ∃ (g : JFrame) (mk : MethodId) (t : State) (L : List Loc) (E : String) (ce : Cell), B.U.heap = t.heap ∧ B.U.vm = t.vm ∧ XC E (A.U.calling g mk a) t ∧ t.heap[q]? = some ce ∧ ce.vm = .none ∧ A.U.vm.findClass E = some ce.cls ∧ B.locs = A.locs ++ L ∧ (∀ z ∈ L, free z.base) ∧ B.cells = A.cells + mc ∧ B.slots = A.slots + ms
def vx_Back (l : Launch) (R : Room) (p : Program) (e : Env) (below : List Frame) (s : State) (sargs : Array Value) (y : MethodName) (len W9 : Nat)
    (Pre : Pt → Array Value → Prop) (Post : Pt → Array Value → Option Value → Pt → Prop) (PostX : Pt → Array Value → Addr → Pt → Prop) : Prop :=
  ∀ (m : MethodId) (meth : Method) (c : Code) (A : Pt) (g : JFrame) (ig : Instr) (mk : MethodId) (a : Array Value),
    Stand p l e R s m sargs below meth c A.U A.locs A.cells A.slots → g.method = m → g.locals.size = c.maxLocals → decode c.code g.pc = .ok (ig, len) →
    2 * g.monitorRoom + (g.stack.map fun v => v.category).sum ≤ W9 → A.U.methodNamed? y = some mk → Pre A a →
    (∃ (v : Option Value) (B : Pt), Stand p l e R s m sargs below meth c B.U B.locs B.cells B.slots ∧ Post A a v B ∧
      Steps p.tables e below (doInvoke e (A.U.setTop g) [] mk a).1 (B.U.setTop { g with pc := g.pc + len, stack := v.toList ++ g.stack })) ∨
    (∃ (q : Addr) (B : Pt), Stand p l e R s m sargs below meth c B.U B.locs B.cells B.slots ∧ PostX A a q B ∧
      Steps p.tables e below (doInvoke e (A.U.setTop g) [] mk a).1 ((B.U.setTop g).pushFrame (.throwing q)))
section Payer
variable {l : Launch} {R : Room} {p : Program} {e : Env} {below : List Frame} {s : State} {sargs : Array Value} {y : MethodName} {len W9 : Nat}
theorem vx_back {ws : List Cond} {rm : Room} {Pc : Array Value → State → Prop} {Qc : Array Value → State → Outcome → State → Prop} {XC : String → State → State → Prop} {mc ms : Nat} {free : Addr → Prop} {bytes : ByteArray} {maxL : Nat} {ret : Option FieldType}
    (hM : vx_Met l y ws rm Pc Qc XC mc ms free) (hblind : FrameBlind Pc) (hrc : rm.cells = mc) (hrs : rm.slots = ms)
    (hframes : rm.frames + 1 ≤ R.frames) (hlocals : W9 + (maxL + 11) + rm.locals ≤ R.locals)
    (hws : ∀ w ∈ ws, ∀ a' U, s.WarmedH U.vm → w.before a' U = true) (hcode : Cond.code y bytes maxL ret ∈ ws) (hinit : ∀ a' U, s.WarmedH U.vm → (Cond.initialized y.cls).before a' U = true) :
    vx_Back l R p e below s sargs y len W9 (PreOf R mc ms Pc) (PostOf Qc mc ms free) (vx_Post XC mc ms free) := by
  intro m meth c A g ig mk a X hg hsize hdg hW hn hp
  have h1 : (headSpec ws rm).pre.before a A.U = true := atoms_intro fun w hw => hws w hw _ _ X.warmed
  have h2 : (Cond.code y bytes maxL ret).before a A.U = true := hws _ hcode _ _ X.warmed
  have h3 : (Cond.initialized y.cls).before a A.U = true := hinit _ _ X.warmed
  have h4 : A.cells + (headSpec ws rm).room.cells ≤ R.cells := by rw [show (headSpec ws rm).room.cells = mc from hrc]; exact hp.1
  have h5 : A.slots + (headSpec ws rm).room.slots ≤ R.slots := by rw [show (headSpec ws rm).room.slots = ms from hrs]; exact hp.2.1
  have hPc : Pc a (A.U.calling g mk a) := hblind _ _ _ _ hp.2.2
  obtain ⟨U, Ls, c0, s0⟩ := A
  dsimp only [Pt.U, Pt.locs, Pt.cells, Pt.slots] at h1 h2 h3 h4 h5 X hn hPc ⊢
  obtain ⟨methY, cY, hmY, hcY, -, hlY, -, -, -, -⟩ := Cond.code_spec hn h2
  obtain ⟨kY, hkY, -⟩ := className_of_methodNamed hn
  have hinitY : kY.init = .initialized := Cond.initialized_spec (findClass_of_methodNamed hn) hkY h3
  have h : At U g.method c below := by rw [hg]; exact X.here
  have hlocals9 : W9 + (maxL + 11) + (headSpec ws rm).room.locals ≤ R.locals := hlocals
  have happ : (headSpec ws rm).appliesLoose y e.platform (U.calling g mk a) = true :=
    Spec.appliesLoose_calling (g := g) h hdg hn hkY hinitY
      (X.room_calling (g := g) (R' := (headSpec ws rm).room) hsize hmY hcY hframes (by rw [hlY]; omega) h4 h5) h1
  obtain ⟨mid, hmid⟩ := h.above
  have hfr : (U.setTop g).frames = (.java g :: mid) ++ below := by rw [State.frames_setTop' g h.top, hmid]; rfl
  obtain ⟨o, s₂, hsteps, -, hend, hq⟩ := Steps.callFree hM p X.admits X.cas X.clock (acts := []) hfr happ hPc trivial
  have hq' : vx_Q Qc XC mc ms free a (U.calling g mk a) o s₂ := hq
  rw [State.frames_setTop' g h.top] at hend
  obtain ⟨g₀, hg0⟩ := Option.isSome_iff_exists.mp h.top
  obtain ⟨r, hr⟩ := State.topJava?_eq_some.mp hg0
  have hr' : (({ U with heap := s₂.heap, slotsUsed := s₂.slotsUsed } : State).setVm s₂.vm).frames = .java g₀ :: r := hr
  rcases hq' with ⟨hqc, L, hfe, hL⟩ | ⟨q, rfl, E, ce, L, hx, hce, hcv, hcl, hW₂, hsm, hL⟩
  · obtain ⟨⟨v, rfl⟩, hW₂, e2, q2, q3, q4, q5, q6⟩ := id hfe
    have e3 : s₂ = ({ (U.calling g mk a).setFrames s₂.frames with heap := s₂.heap, slotsUsed := s₂.slotsUsed } : State).setVm s₂.vm := by
      have : s₂ = ({ s₂ with vm := (U.calling g mk a).vm } : State).setVm s₂.vm := rfl
      rw [e2] at this
      exact this
    obtain ⟨c₂, i₂, len₂, hc₂, hd₂, hf₂⟩ := hend
    have hW' : U.WarmedH s₂.vm := hW₂
    have hcc : c₂ = c := by
      have h1 : s₂.code? g.method = U.code? g.method := by
        rw [State.code?_eq, State.code?_eq, hW'.alike.method?]
      exact Option.some.inj (hc₂.symm.trans (h1.trans h.code))
    subst hcc
    have hlen : len₂ = len := by rw [hdg] at hd₂; cases hd₂; rfl
    subst hlen
    have hs₂ : s₂ = (({ U with heap := s₂.heap, slotsUsed := s₂.slotsUsed } : State).setVm s₂.vm).setTop { g with pc := g.pc + len₂, stack := v.toList ++ g.stack } := by
      refine e3.trans ?_
      rw [hf₂, State.calling_eq h.top, State.setFrames_setFrames, State.setTop_of_frames _ hr', hr]
      rfl
    have hsame : U.sameButNew ({ U with heap := s₂.heap, slotsUsed := s₂.slotsUsed } : State) L mc ms := by
      refine ⟨?_, q2, q3, q4, q5, q6⟩
      obtain ⟨t, ht, -⟩ := State.frames_cons hr
      show ({ U with heap := s₂.heap, slotsUsed := s₂.slotsUsed } : State) = { U.setFrames U.frames with heap := s₂.heap, slotsUsed := s₂.slotsUsed }
      rw [State.setFrames_self ht]
    subst hg
    refine Or.inl ⟨v, ⟨(({ U with heap := s₂.heap, slotsUsed := s₂.slotsUsed } : State).setVm s₂.vm), Ls ++ L, c0 + mc, s0 + ms⟩,
      ⟨X.admits, X.cas, X.clock, X.frames, X.room, X.hears, X.method, X.code, (X.here.setHeapUsed s₂.heap s₂.slotsUsed).setVm hW'.alike, X.tail, State.WarmedH.trans X.warmed hW', X.limits, X.bytes, X.same.trans (hsame.setVm s.vm)⟩,
      ⟨g, mk, s₂, L, rfl, rfl, hqc, rfl, hL, rfl, rfl⟩, ?_⟩
    show Steps p.tables e below _ ((({ U with heap := s₂.heap, slotsUsed := s₂.slotsUsed } : State).setVm s₂.vm).setTop { g with pc := g.pc + len₂, stack := v.toList ++ g.stack })
    rw [← hs₂]
    exact hsteps
  · obtain ⟨e2, q2, q3, q4, q5, q6⟩ := id hsm
    have e3 : s₂ = ({ (U.calling g mk a).setFrames s₂.frames with heap := s₂.heap, slotsUsed := s₂.slotsUsed } : State).setVm s₂.vm := by
      have : s₂ = ({ s₂ with vm := (U.calling g mk a).vm } : State).setVm s₂.vm := rfl
      rw [e2] at this
      exact this
    have hf₂ : s₂.frames = .throwing q :: .java g :: U.frames.tail := hend
    have hW' : U.WarmedH s₂.vm := hW₂
    have hs₂ : s₂ = ((({ U with heap := s₂.heap, slotsUsed := s₂.slotsUsed } : State).setVm s₂.vm).setTop g).pushFrame (.throwing q) := by
      refine e3.trans ?_
      rw [hf₂, State.calling_eq h.top, State.setFrames_setFrames, State.pushFrame, State.frames_setTop _ hr', State.setTop_of_frames _ hr', State.setFrames_setFrames, hr]
      rfl
    have hsame : U.sameButNew ({ U with heap := s₂.heap, slotsUsed := s₂.slotsUsed } : State) L mc ms := by
      refine ⟨?_, q2, q3, q4, q5, q6⟩
      obtain ⟨t, ht, -⟩ := State.frames_cons hr
      show ({ U with heap := s₂.heap, slotsUsed := s₂.slotsUsed } : State) = { U.setFrames U.frames with heap := s₂.heap, slotsUsed := s₂.slotsUsed }
      rw [State.setFrames_self ht]
    subst hg
    refine Or.inr ⟨q, ⟨(({ U with heap := s₂.heap, slotsUsed := s₂.slotsUsed } : State).setVm s₂.vm), Ls ++ L, c0 + mc, s0 + ms⟩,
      ⟨X.admits, X.cas, X.clock, X.frames, X.room, X.hears, X.method, X.code, (X.here.setHeapUsed s₂.heap s₂.slotsUsed).setVm hW'.alike, X.tail, State.WarmedH.trans X.warmed hW', X.limits, X.bytes, X.same.trans (hsame.setVm s.vm)⟩,
      ⟨g, mk, s₂, L, E, ce, rfl, rfl, hx, hce, hcv, hcl, rfl, hL, rfl, rfl⟩, ?_⟩
    show Steps p.tables e below _ (((({ U with heap := s₂.heap, slotsUsed := s₂.slotsUsed } : State).setVm s₂.vm).setTop g).pushFrame (.throwing q))
    rw [← hs₂]
    exact hsteps
end Payer
section Calls
variable {p : Program} {l : Launch} {e : Env} {R : Room} {s : State} {m : MethodId} {args : Array Value} {below : List Frame} {meth : Method} {c : Code} {T : State} {locs : List Loc} {cells slots : Nat}
theorem vx_callV (X : Stand p l e R s m args below meth c T locs cells slots) (hexec : p.tables.exec = Jvm.exec) {own C : String} {index : Nat} {y : MethodName} {bytes : ByteArray} {maxL : Nat} {ret : Option FieldType}
    (hown : s.vm.findClass own = some m.cls) (hlink : (Cond.methodLink own index y).before args s = true) (hinst : (Cond.instanceMethod y).before args s = true) (hsel : (Cond.selects C y y).before args s = true)
    (hcode : (Cond.code y bytes maxL ret).before args s = true) (hy : y.cls ≠ "java/lang/invoke/MethodHandle" ∧ y.cls ≠ "java/lang/invoke/VarHandle")
    {W9 : Nat} {Pre : Pt → Array Value → Prop} {Post : Pt → Array Value → Option Value → Pt → Prop} {PostX : Pt → Array Value → Addr → Pt → Prop} (hK : vx_Back l R p e below s args y 3 W9 Pre Post PostX)
    {b : Addr} {cellB : Cell} (hcell : T.heap[b]? = some cellB) (hobj : cellB.vm.isStatics = false) (hcls : s.vm.findClass C = some cellB.cls)
    {g : JFrame} (hg : g.method = m) (hsize : g.locals.size = c.maxLocals) {argsL rest : List Value} (hlen : ∀ sig, parseMethodDescriptor y.desc = some sig → argsL.length = sig.parameters.length)
    (hstack : g.stack = argsL.reverse ++ .ref b :: rest) (hW : 2 * g.monitorRoom + (rest.map fun v => v.category).sum ≤ W9) (hdg : decode c.code g.pc = .ok (.invokevirtual index, 3))
    (hpre : ∀ vm₁, s.WarmedH vm₁ → Pre ⟨T.setVm vm₁, locs, cells, slots⟩ (Value.ref b :: argsL).toArray) :
    (∃ (v : Option Value) (vm₁ : Vm) (B : Pt), s.WarmedH vm₁ ∧ Stand p l e R s m args below meth c B.U B.locs B.cells B.slots ∧ Post ⟨T.setVm vm₁, locs, cells, slots⟩ (Value.ref b :: argsL).toArray v B ∧
      ∀ target, Steps p.tables e below (B.U.setTop { g with pc := g.pc + 3, stack := v.toList ++ rest }) target → Steps p.tables e below (T.setTop g) target) ∨
    (∃ (q : Addr) (vm₁ : Vm) (B : Pt), s.WarmedH vm₁ ∧ Stand p l e R s m args below meth c B.U B.locs B.cells B.slots ∧ PostX ⟨T.setVm vm₁, locs, cells, slots⟩ (Value.ref b :: argsL).toArray q B ∧
      Steps p.tables e below (T.setTop g) ((B.U.setTop { g with stack := rest }).pushFrame (.throwing q))) := by
  obtain ⟨mk, methM, hnamed, hmethM, hstM, habM⟩ := Cond.instanceMethod_spec hinst
  obtain ⟨methM', cM, hmethM', -, -, -, -, -, -, hsigM⟩ := Cond.code_spec hnamed hcode
  cases hmethM.symm.trans hmethM'
  obtain ⟨c2, r2, m2, q1, q2, q3, q4, kP, hkP, hkPi⟩ := Cond.selects_spec hsel
  cases hcls.symm.trans q1
  cases (State.methodFound?_of_named hnamed hy).symm.trans q2
  cases hnamed.symm.trans q3
  have hselP : selectMethod e.platform s.vm cellB.cls mk = .method mk := by rw [Launch.admits_selectMethod X.admits]; exact q4
  obtain ⟨vm₁, X₁, hstep₁⟩ := X.invokevirtual hexec hown hlink hnamed hmethM hstM hkP hkPi hy (a := b) (cell := cellB) hcell
    (fun z h => by rw [h] at hobj; cases hobj) hselP hmethM habM hkP hkPi (g := g) hg (argsL := argsL) (rest := rest) (hlen _ hsigM) hstack hdg
  rcases hK m meth c ⟨T.setVm vm₁, locs, cells, slots⟩ { g with stack := rest } (.invokevirtual index) mk (Value.ref b :: argsL).toArray X₁ hg hsize hdg hW (X₁.named hnamed) (hpre vm₁ X₁.warmed) with ⟨v, B, X', hpost, hsteps⟩ | ⟨q, B, X', hpost, hsteps⟩
  · exact Or.inl ⟨v, vm₁, B, X₁.warmed, X', hpost, fun target h => hstep₁ _ fun acts => by rw [doInvoke_state]; exact hsteps.trans h⟩
  · exact Or.inr ⟨q, vm₁, B, X₁.warmed, X', hpost, hstep₁ _ fun acts => by rw [doInvoke_state]; exact hsteps⟩
theorem vx_callS (X : Stand p l e R s m args below meth c T locs cells slots) (hexec : p.tables.exec = Jvm.exec) {own : String} {index : Nat} {y : MethodName} {bytes : ByteArray} {maxL : Nat} {ret : Option FieldType}
    (hown : s.vm.findClass own = some m.cls) (hlink : (Cond.methodLink own index y).before args s = true) (hstat : (Cond.static y).before args s = true) (hinit : (Cond.initialized y.cls).before args s = true)
    (hcode : (Cond.code y bytes maxL ret).before args s = true) (hy : y.cls ≠ "java/lang/invoke/MethodHandle" ∧ y.cls ≠ "java/lang/invoke/VarHandle")
    {W9 : Nat} {Pre : Pt → Array Value → Prop} {Post : Pt → Array Value → Option Value → Pt → Prop} {PostX : Pt → Array Value → Addr → Pt → Prop} (hK : vx_Back l R p e below s args y 3 W9 Pre Post PostX)
    {g : JFrame} (hg : g.method = m) (hsize : g.locals.size = c.maxLocals) {argsL rest : List Value} (hlen : ∀ sig, parseMethodDescriptor y.desc = some sig → argsL.length = sig.parameters.length)
    (hstack : g.stack = argsL.reverse ++ rest) (hW : 2 * g.monitorRoom + (rest.map fun v => v.category).sum ≤ W9) (hdg : decode c.code g.pc = .ok (.invokestatic index, 3))
    (hpre : ∀ vm₁, s.WarmedH vm₁ → Pre ⟨T.setVm vm₁, locs, cells, slots⟩ argsL.toArray) :
    (∃ (v : Option Value) (vm₁ : Vm) (B : Pt), s.WarmedH vm₁ ∧ Stand p l e R s m args below meth c B.U B.locs B.cells B.slots ∧ Post ⟨T.setVm vm₁, locs, cells, slots⟩ argsL.toArray v B ∧
      ∀ target, Steps p.tables e below (B.U.setTop { g with pc := g.pc + 3, stack := v.toList ++ rest }) target → Steps p.tables e below (T.setTop g) target) ∨
    (∃ (q : Addr) (vm₁ : Vm) (B : Pt), s.WarmedH vm₁ ∧ Stand p l e R s m args below meth c B.U B.locs B.cells B.slots ∧ PostX ⟨T.setVm vm₁, locs, cells, slots⟩ argsL.toArray q B ∧
      Steps p.tables e below (T.setTop g) ((B.U.setTop { g with stack := rest }).pushFrame (.throwing q))) := by
  obtain ⟨mk, hnamed⟩ := Cond.code_named hcode
  obtain ⟨methM, cM, hmethM, -, -, -, -, -, -, hsigM⟩ := Cond.code_spec hnamed hcode
  have hstatic : methM.isStatic = true := Cond.static_spec hnamed hmethM hstat
  obtain ⟨kP, hkP, -⟩ := className_of_methodNamed hnamed
  have hinitP : kP.init = .initialized := Cond.initialized_spec (findClass_of_methodNamed hnamed) hkP hinit
  obtain ⟨vm₁, X₁, hstep₁⟩ := X.invokestatic hexec hown hlink hnamed hmethM hstatic hkP hinitP hy (g := g) hg (argsL := argsL) (rest := rest) (hlen _ hsigM) hstack hdg
  rcases hK m meth c ⟨T.setVm vm₁, locs, cells, slots⟩ { g with stack := rest } (.invokestatic index) mk argsL.toArray X₁ hg hsize hdg hW (X₁.named hnamed) (hpre vm₁ X₁.warmed) with ⟨v, B, X', hpost, hsteps⟩ | ⟨q, B, X', hpost, hsteps⟩
  · exact Or.inl ⟨v, vm₁, B, X₁.warmed, X', hpost, fun target h => hstep₁ _ fun acts => by rw [doInvoke_state]; exact hsteps.trans h⟩
  · exact Or.inr ⟨q, vm₁, B, X₁.warmed, X', hpost, hstep₁ _ fun acts => by rw [doInvoke_state]; exact hsteps⟩
end Calls
theorem vx_cls {s : State} {T : State} {vm₁ : Vm} {E : String} {k : ClassId} (hW : s.WarmedH vm₁) (h : (T.setVm vm₁).vm.findClass E = some k) : s.vm.findClass E = some k := by
  have h1 : vm₁.findClass E = some k := h
  rw [hW.alike.findClass] at h1
  exact h1
/-- the method's frame g, with q thrown over it -/
def vx_W (p : Program) (l : Launch) (e : Env) (R : Room) (s : State) (m : MethodId) (args : Array Value) (below : List Frame) (meth : Method) (c : Code) (H : Heap) (locs : List Loc) (cells slots : Nat) (Q : State → Prop) (g : JFrame) (q : Addr) : Prop :=
  ∀ T : State, T.heap = H → Stand p l e R s m args below meth c T locs cells slots → ∃ t, Steps p.tables e below ((T.setTop g).pushFrame (.throwing q)) t ∧ Q t
def vx_Run (p : Program) (l : Launch) (e : Env) (R : Room) (s : State) (m : MethodId) (args : Array Value) (below : List Frame) (meth : Method) (c : Code) (H : Heap) (locs : List Loc) (cells slots mc ms : Nat) (g : JFrame) (rest : List Value) (Qa : State → Outcome → State → Prop) (XC : String → State → State → Prop) (free : Addr → Prop) : Prop :=
  ∀ T : State, T.heap = H → Stand p l e R s m args below meth c T locs cells slots →
    (∃ (v : Option Value) (st₀ t T' : State) (L : List Loc), st₀.heap = H ∧ Stand p l e R s m args below meth c T' (locs ++ L) (cells + mc) (slots + ms) ∧ (∀ q ∈ L, free q.base) ∧ T'.heap = t.heap ∧ T'.vm = t.vm ∧ Qa st₀ (.returned v) t ∧
      Goes p e below T g T' { g with pc := g.pc + 3, stack := v.toList ++ rest }) ∨
    (∃ (q : Addr) (st₀ t T' : State) (L : List Loc) (E : String) (ce : Cell), st₀.heap = H ∧ Stand p l e R s m args below meth c T' (locs ++ L) (cells + mc) (slots + ms) ∧ (∀ z ∈ L, free z.base) ∧ T'.heap = t.heap ∧ T'.vm = t.vm ∧ XC E st₀ t ∧ t.heap[q]? = some ce ∧ ce.vm = .none ∧ s.vm.findClass E = some ce.cls ∧
      Steps p.tables e below (T.setTop g) ((T'.setTop { g with stack := rest }).pushFrame (.throwing q)))
def vx_X {S : Type} (px : S → Prop) (B : String → S → State → Prop) (A : Nat → Prop) : String → State → State → Prop := fun E st t => ∃ u : S, px u ∧ B E u t ∧ va_F A st t
section Runs
variable {p : Program} {l : Launch} {e : Env} {R : Room} {s : State} {m : MethodId} {args : Array Value} {below : List Frame} {meth : Method} {c : Code} {H : Heap} {locs : List Loc} {cells slots : Nat}
variable {y : MethodName} {bytes cc : ByteArray} {maxL nL mc ms n index : Nat} {ret : Option FieldType} {ws : List Cond} {rm : Room} {Pc : Array Value → State → Prop} {Qc : Array Value → State → Outcome → State → Prop} {XC : String → State → State → Prop} {free : Addr → Prop} {Ts : List Cond} {own C : String} {b : Addr} {As rest : List Value} {g : JFrame}
theorem vx_callBack (cb : CallB R s args own index y bytes maxL ret ws rm mc ms n) (hM : vx_Met l y ws rm Pc Qc XC mc ms free) (hbl : FrameBlind Pc) : vx_Back l R p e below s args y 3 8 (PreOf R mc ms Pc) (PostOf Qc mc ms free) (vx_Post XC mc ms free) := by
  obtain ⟨hrc, hrs, hfr, hlo, hws, hcw, -, hini, -⟩ := cb
  exact vx_back (bytes := bytes) (maxL := maxL) (ret := ret) hM hbl hrc hrs hfr hlo hws hcw (fun a' U hW => word_at hW (Or.inl (by first | rfl | simp [Cond.onTables, Cond.keeps, Cond.steady])) hini)
theorem vx_runV (S : CallFix p m c cc nL s args Ts own) (hM : vx_Met l y ws rm Pc Qc XC mc ms free) (cw : CallW R s args own C index y bytes maxL ret ws rm mc ms n) (hp : PreV s H C b Pc As)
    (hg : g.method = m) (hn : As.length = n) (hsize : g.locals.size = nL) (hstack : g.stack = As.reverse ++ .ref b :: rest) (hW : 2 * g.monitorRoom + (rest.map fun v => v.category).sum ≤ 8) (hdg : decode cc g.pc = .ok (.invokevirtual index, 3)) (hf : cells + mc ≤ R.cells ∧ slots + ms ≤ R.slots) :
    vx_Run p l e R s m args below meth c H locs cells slots mc ms g rest (Qc (Value.ref b :: As).toArray) XC free := by
  have hK : vx_Back l R p e below s args y 3 8 (PreOf R mc ms Pc) (PostOf Qc mc ms free) (vx_Post XC mc ms free) := vx_callBack cw.1 hM hp.1
  obtain ⟨⟨-, -, -, -, -, -, hcode, -, hy, hlen, hl⟩, hin, hse⟩ := cw
  obtain ⟨hx, hb, hml, ho, -⟩ := S
  obtain ⟨-, ⟨cellB, hcB, hoB, hclB⟩, hPc⟩ := hp
  intro T hT X
  rcases vx_callV X hx (C := C) (bytes := bytes) (maxL := maxL) (ret := ret) ho hl hin hse hcode hy hK (by rw [hT]; exact hcB) hoB hclB hg (hsize.trans hml.symm) (argsL := As) (rest := rest) (fun sig h => hn.trans (hlen sig h)) hstack hW (by rw [hb]; exact hdg)
    (fun vm₁ hW₁ => ⟨hf.1, hf.2, hPc (T.setVm vm₁) hT hW₁⟩) with ⟨v, vm₁, ⟨U', l2, c2, s2⟩, hW₁, X', ⟨g', mk, t, L, e1, e2, hq, h1, hL, h2, h3⟩, st⟩ | ⟨q, vm₁, ⟨U', l2, c2, s2⟩, hW₁, X', ⟨g', mk, t, L, E, ce, e1, e2, hq, hce, hcv, hcl, h1, hL, h2, h3⟩, st⟩
  · dsimp only [Pt.U, Pt.locs, Pt.cells, Pt.slots] at X' e1 e2 h1 h2 h3 st
    subst h1; subst h2; subst h3
    exact Or.inl ⟨v, (T.setVm vm₁).calling g' mk (Value.ref b :: As).toArray, t, U', L, hT, X', hL, e1, e2, hq, st⟩
  · dsimp only [Pt.U, Pt.locs, Pt.cells, Pt.slots] at X' e1 e2 h1 h2 h3 st hcl
    subst h1; subst h2; subst h3
    exact Or.inr ⟨q, (T.setVm vm₁).calling g' mk (Value.ref b :: As).toArray, t, U', L, E, ce, hT, X', hL, e1, e2, hq, hce, hcv, vx_cls hW₁ hcl, st⟩
theorem vx_runS (S : CallFix p m c cc nL s args Ts own) (hM : vx_Met l y ws rm Pc Qc XC mc ms free) (cw : CallB R s args own index y bytes maxL ret ws rm mc ms n ∧ (Cond.static y).before args s = true) (hp : PreS s H Pc As)
    (hg : g.method = m) (hn : As.length = n) (hsize : g.locals.size = nL) (hstack : g.stack = As.reverse ++ rest) (hW : 2 * g.monitorRoom + (rest.map fun v => v.category).sum ≤ 8) (hdg : decode cc g.pc = .ok (.invokestatic index, 3)) (hf : cells + mc ≤ R.cells ∧ slots + ms ≤ R.slots) :
    vx_Run p l e R s m args below meth c H locs cells slots mc ms g rest (Qc As.toArray) XC free := by
  have hK : vx_Back l R p e below s args y 3 8 (PreOf R mc ms Pc) (PostOf Qc mc ms free) (vx_Post XC mc ms free) := vx_callBack cw.1 hM hp.1
  obtain ⟨⟨-, -, -, -, -, -, hcode, hini, hy, hlen, hl⟩, hstt⟩ := cw
  obtain ⟨hx, hb, hml, ho, -⟩ := S
  intro T hT X
  rcases vx_callS X hx (bytes := bytes) (maxL := maxL) (ret := ret) ho hl hstt hini hcode hy hK hg (hsize.trans hml.symm) (argsL := As) (rest := rest) (fun sig h => hn.trans (hlen sig h)) hstack hW (by rw [hb]; exact hdg)
    (fun vm₁ hW₁ => ⟨hf.1, hf.2, hp.2 (T.setVm vm₁) hT hW₁⟩) with ⟨v, vm₁, ⟨U', l2, c2, s2⟩, hW₁, X', ⟨g', mk, t, L, e1, e2, hq, h1, hL, h2, h3⟩, st⟩ | ⟨q, vm₁, ⟨U', l2, c2, s2⟩, hW₁, X', ⟨g', mk, t, L, E, ce, e1, e2, hq, hce, hcv, hcl, h1, hL, h2, h3⟩, st⟩
  · dsimp only [Pt.U, Pt.locs, Pt.cells, Pt.slots] at X' e1 e2 h1 h2 h3 st
    subst h1; subst h2; subst h3
    exact Or.inl ⟨v, (T.setVm vm₁).calling g' mk As.toArray, t, U', L, hT, X', hL, e1, e2, hq, st⟩
  · dsimp only [Pt.U, Pt.locs, Pt.cells, Pt.slots] at X' e1 e2 h1 h2 h3 st hcl
    subst h1; subst h2; subst h3
    exact Or.inr ⟨q, (T.setVm vm₁).calling g' mk As.toArray, t, U', L, E, ce, hT, X', hL, e1, e2, hq, hce, hcv, vx_cls hW₁ hcl, st⟩
end Runs
section Rows
variable {p : Program} {l : Launch} {e : Env} {R : Room} {s : State} {m : MethodId} {args : Array Value} {below : List Frame} {meth : Method} {c : Code} {H : Heap} {locs : List Loc} {cells slots : Nat} {Q : State → Prop}
variable {mc ms : Nat} {free : Addr → Prop} {A0 A1 : Nat → Prop} {H0 : Heap} {a : Array Value} {pc : Nat} {ls : Array Slot} {st0 rest : List Value}
theorem vx_keep {st₀ t T' : State} {L : List Loc} (h0 : st₀.heap = H) (e1 : T'.heap = t.heap) (hS : va_S A0 H0 H locs) (hA : ∀ q, q < H.size → A1 q → A0 q) (hf : ∀ q, free q → A0 q) (hL : ∀ q ∈ L, free q.base) (hF : va_F A1 st₀ t) :
    H.size ≤ T'.heap.size ∧ (∀ q : Nat, q < H.size → ¬ A1 q → T'.heap[q]? = H[q]?) ∧ va_S A0 H0 T'.heap (locs ++ L) := by
  obtain ⟨hz, hk⟩ := hF
  rw [h0] at hz hk
  exact ⟨by rw [e1]; exact hz, fun q h1 h2 => by rw [e1]; exact hk q h1 h2,
    ⟨Nat.le_trans hS.1 (by rw [e1]; exact hz), fun q h1 h2 => by rw [e1, hk q (Nat.lt_of_lt_of_le h1 hS.1) (fun z => h2 (hA q (Nat.lt_of_lt_of_le h1 hS.1) z))]; exact hS.2.1 q h1 h2, fun q hq => by
      rcases List.mem_append.mp hq with h | h
      · exact hS.2.2 q h
      · exact hf _ (hL q h)⟩⟩
theorem vx_calli {S SX : Type} {post : Int32 → S → Prop} {px : SX → Prop} {B : S → State → Prop} {BX : String → SX → State → Prop} {AX : Nat → Prop} (hr : vx_Run p l e R s m args below meth c H locs cells slots mc ms (F0 m pc ls st0) rest (va_Qi post B A1 a) (vx_X px BX AX) free) (hS : va_S A0 H0 H locs) (hA : ∀ q, q < H.size → A1 q → A0 q) (hf : ∀ q, free q → A0 q) (hAX : ∀ q, q < H.size → AX q → A0 q)
    (kx : ∀ (E : String) (ce : Cell) (q9 : Addr) (u : SX) (t : State) (H1 : Heap) (locs1 : List Loc), t.heap = H1 → s.vm.Alike t.vm → px u → BX E u t → H.size ≤ H1.size → (∀ q : Nat, q < H.size → ¬ AX q → H1[q]? = H[q]?) → va_S A0 H0 H1 locs1 → H1[q9]? = some ce → ce.vm = .none → s.vm.findClass E = some ce.cls → vx_W p l e R s m args below meth c H1 locs1 (cells + mc) (slots + ms) Q (F0 m pc ls rest) q9)
    (kk : ∀ (r : Int32) (u : S) (t : State) (H1 : Heap) (locs1 : List Loc), t.heap = H1 → s.vm.Alike t.vm → post r u → B u t → H.size ≤ H1.size → (∀ q : Nat, q < H.size → ¬ A1 q → H1[q]? = H[q]?) → va_S A0 H0 H1 locs1 → W p l e R s m args below meth c H1 locs1 (cells + mc) (slots + ms) Q (F0 m (pc + 3) ls (.int r :: rest))) : W p l e R s m args below meth c H locs cells slots Q (F0 m pc ls st0) := by
  intro T hT X
  rcases hr T hT X with ⟨v, st₀, t, T', L, h0, X', hL, e1, e2, ⟨⟨r, u, hv, hp, hb⟩, hF⟩, st⟩ | ⟨q, st₀, t, T', L, E, ce, h0, X', hL, e1, e2, ⟨u, hp, hb, hF⟩, hce, hcv, hcl, st⟩
  · cases hv
    obtain ⟨k1, k2, k3⟩ := vx_keep h0 e1 hS hA hf hL hF
    obtain ⟨t2, a1, b1⟩ := kk r u t T'.heap (locs ++ L) e1.symm (by rw [← e2]; exact X'.warmed.alike) hp hb k1 k2 k3 T' rfl X'
    exact ⟨t2, st t2 a1, b1⟩
  · obtain ⟨k1, k2, k3⟩ := vx_keep h0 e1 hS hAX hf hL hF
    obtain ⟨t2, a1, b1⟩ := kx E ce q u t T'.heap (locs ++ L) e1.symm (by rw [← e2]; exact X'.warmed.alike) hp hb k1 k2 k3 (by rw [e1]; exact hce) hcv hcl T' rfl X'
    exact ⟨t2, st.trans a1, b1⟩
theorem vx_calll {S SX : Type} {post : Int64 → S → Prop} {px : SX → Prop} {B : S → State → Prop} {BX : String → SX → State → Prop} {AX : Nat → Prop} (hr : vx_Run p l e R s m args below meth c H locs cells slots mc ms (F0 m pc ls st0) rest (va_Ql post B A1 a) (vx_X px BX AX) free) (hS : va_S A0 H0 H locs) (hA : ∀ q, q < H.size → A1 q → A0 q) (hf : ∀ q, free q → A0 q) (hAX : ∀ q, q < H.size → AX q → A0 q)
    (kx : ∀ (E : String) (ce : Cell) (q9 : Addr) (u : SX) (t : State) (H1 : Heap) (locs1 : List Loc), t.heap = H1 → s.vm.Alike t.vm → px u → BX E u t → H.size ≤ H1.size → (∀ q : Nat, q < H.size → ¬ AX q → H1[q]? = H[q]?) → va_S A0 H0 H1 locs1 → H1[q9]? = some ce → ce.vm = .none → s.vm.findClass E = some ce.cls → vx_W p l e R s m args below meth c H1 locs1 (cells + mc) (slots + ms) Q (F0 m pc ls rest) q9)
    (kk : ∀ (r : Int64) (u : S) (t : State) (H1 : Heap) (locs1 : List Loc), t.heap = H1 → s.vm.Alike t.vm → post r u → B u t → H.size ≤ H1.size → (∀ q : Nat, q < H.size → ¬ A1 q → H1[q]? = H[q]?) → va_S A0 H0 H1 locs1 → W p l e R s m args below meth c H1 locs1 (cells + mc) (slots + ms) Q (F0 m (pc + 3) ls (.long r :: rest))) : W p l e R s m args below meth c H locs cells slots Q (F0 m pc ls st0) := by
  intro T hT X
  rcases hr T hT X with ⟨v, st₀, t, T', L, h0, X', hL, e1, e2, ⟨⟨r, u, hv, hp, hb⟩, hF⟩, st⟩ | ⟨q, st₀, t, T', L, E, ce, h0, X', hL, e1, e2, ⟨u, hp, hb, hF⟩, hce, hcv, hcl, st⟩
  · cases hv
    obtain ⟨k1, k2, k3⟩ := vx_keep h0 e1 hS hA hf hL hF
    obtain ⟨t2, a1, b1⟩ := kk r u t T'.heap (locs ++ L) e1.symm (by rw [← e2]; exact X'.warmed.alike) hp hb k1 k2 k3 T' rfl X'
    exact ⟨t2, st t2 a1, b1⟩
  · obtain ⟨k1, k2, k3⟩ := vx_keep h0 e1 hS hAX hf hL hF
    obtain ⟨t2, a1, b1⟩ := kx E ce q u t T'.heap (locs ++ L) e1.symm (by rw [← e2]; exact X'.warmed.alike) hp hb k1 k2 k3 (by rw [e1]; exact hce) hcv hcl T' rfl X'
    exact ⟨t2, st.trans a1, b1⟩
theorem vx_callf {S SX : Type} {post : UInt32 → S → Prop} {px : SX → Prop} {B : S → State → Prop} {BX : String → SX → State → Prop} {AX : Nat → Prop} (hr : vx_Run p l e R s m args below meth c H locs cells slots mc ms (F0 m pc ls st0) rest (va_Qf post B A1 a) (vx_X px BX AX) free) (hS : va_S A0 H0 H locs) (hA : ∀ q, q < H.size → A1 q → A0 q) (hf : ∀ q, free q → A0 q) (hAX : ∀ q, q < H.size → AX q → A0 q)
    (kx : ∀ (E : String) (ce : Cell) (q9 : Addr) (u : SX) (t : State) (H1 : Heap) (locs1 : List Loc), t.heap = H1 → s.vm.Alike t.vm → px u → BX E u t → H.size ≤ H1.size → (∀ q : Nat, q < H.size → ¬ AX q → H1[q]? = H[q]?) → va_S A0 H0 H1 locs1 → H1[q9]? = some ce → ce.vm = .none → s.vm.findClass E = some ce.cls → vx_W p l e R s m args below meth c H1 locs1 (cells + mc) (slots + ms) Q (F0 m pc ls rest) q9)
    (kk : ∀ (r : UInt32) (u : S) (t : State) (H1 : Heap) (locs1 : List Loc), t.heap = H1 → s.vm.Alike t.vm → post r u → B u t → H.size ≤ H1.size → (∀ q : Nat, q < H.size → ¬ A1 q → H1[q]? = H[q]?) → va_S A0 H0 H1 locs1 → W p l e R s m args below meth c H1 locs1 (cells + mc) (slots + ms) Q (F0 m (pc + 3) ls (.float r :: rest))) : W p l e R s m args below meth c H locs cells slots Q (F0 m pc ls st0) := by
  intro T hT X
  rcases hr T hT X with ⟨v, st₀, t, T', L, h0, X', hL, e1, e2, ⟨⟨r, u, hv, hp, hb⟩, hF⟩, st⟩ | ⟨q, st₀, t, T', L, E, ce, h0, X', hL, e1, e2, ⟨u, hp, hb, hF⟩, hce, hcv, hcl, st⟩
  · cases hv
    obtain ⟨k1, k2, k3⟩ := vx_keep h0 e1 hS hA hf hL hF
    obtain ⟨t2, a1, b1⟩ := kk r u t T'.heap (locs ++ L) e1.symm (by rw [← e2]; exact X'.warmed.alike) hp hb k1 k2 k3 T' rfl X'
    exact ⟨t2, st t2 a1, b1⟩
  · obtain ⟨k1, k2, k3⟩ := vx_keep h0 e1 hS hAX hf hL hF
    obtain ⟨t2, a1, b1⟩ := kx E ce q u t T'.heap (locs ++ L) e1.symm (by rw [← e2]; exact X'.warmed.alike) hp hb k1 k2 k3 (by rw [e1]; exact hce) hcv hcl T' rfl X'
    exact ⟨t2, st.trans a1, b1⟩
theorem vx_calld {S SX : Type} {post : UInt64 → S → Prop} {px : SX → Prop} {B : S → State → Prop} {BX : String → SX → State → Prop} {AX : Nat → Prop} (hr : vx_Run p l e R s m args below meth c H locs cells slots mc ms (F0 m pc ls st0) rest (va_Qd post B A1 a) (vx_X px BX AX) free) (hS : va_S A0 H0 H locs) (hA : ∀ q, q < H.size → A1 q → A0 q) (hf : ∀ q, free q → A0 q) (hAX : ∀ q, q < H.size → AX q → A0 q)
    (kx : ∀ (E : String) (ce : Cell) (q9 : Addr) (u : SX) (t : State) (H1 : Heap) (locs1 : List Loc), t.heap = H1 → s.vm.Alike t.vm → px u → BX E u t → H.size ≤ H1.size → (∀ q : Nat, q < H.size → ¬ AX q → H1[q]? = H[q]?) → va_S A0 H0 H1 locs1 → H1[q9]? = some ce → ce.vm = .none → s.vm.findClass E = some ce.cls → vx_W p l e R s m args below meth c H1 locs1 (cells + mc) (slots + ms) Q (F0 m pc ls rest) q9)
    (kk : ∀ (r : UInt64) (u : S) (t : State) (H1 : Heap) (locs1 : List Loc), t.heap = H1 → s.vm.Alike t.vm → post r u → B u t → H.size ≤ H1.size → (∀ q : Nat, q < H.size → ¬ A1 q → H1[q]? = H[q]?) → va_S A0 H0 H1 locs1 → W p l e R s m args below meth c H1 locs1 (cells + mc) (slots + ms) Q (F0 m (pc + 3) ls (.double r :: rest))) : W p l e R s m args below meth c H locs cells slots Q (F0 m pc ls st0) := by
  intro T hT X
  rcases hr T hT X with ⟨v, st₀, t, T', L, h0, X', hL, e1, e2, ⟨⟨r, u, hv, hp, hb⟩, hF⟩, st⟩ | ⟨q, st₀, t, T', L, E, ce, h0, X', hL, e1, e2, ⟨u, hp, hb, hF⟩, hce, hcv, hcl, st⟩
  · cases hv
    obtain ⟨k1, k2, k3⟩ := vx_keep h0 e1 hS hA hf hL hF
    obtain ⟨t2, a1, b1⟩ := kk r u t T'.heap (locs ++ L) e1.symm (by rw [← e2]; exact X'.warmed.alike) hp hb k1 k2 k3 T' rfl X'
    exact ⟨t2, st t2 a1, b1⟩
  · obtain ⟨k1, k2, k3⟩ := vx_keep h0 e1 hS hAX hf hL hF
    obtain ⟨t2, a1, b1⟩ := kx E ce q u t T'.heap (locs ++ L) e1.symm (by rw [← e2]; exact X'.warmed.alike) hp hb k1 k2 k3 (by rw [e1]; exact hce) hcv hcl T' rfl X'
    exact ⟨t2, st.trans a1, b1⟩
theorem vx_callv {S SX : Type} {post : S → Prop} {px : SX → Prop} {B : S → State → Prop} {BX : String → SX → State → Prop} {AX : Nat → Prop} (hr : vx_Run p l e R s m args below meth c H locs cells slots mc ms (F0 m pc ls st0) rest (va_Qv post B A1 a) (vx_X px BX AX) free) (hS : va_S A0 H0 H locs) (hA : ∀ q, q < H.size → A1 q → A0 q) (hf : ∀ q, free q → A0 q) (hAX : ∀ q, q < H.size → AX q → A0 q)
    (kx : ∀ (E : String) (ce : Cell) (q9 : Addr) (u : SX) (t : State) (H1 : Heap) (locs1 : List Loc), t.heap = H1 → s.vm.Alike t.vm → px u → BX E u t → H.size ≤ H1.size → (∀ q : Nat, q < H.size → ¬ AX q → H1[q]? = H[q]?) → va_S A0 H0 H1 locs1 → H1[q9]? = some ce → ce.vm = .none → s.vm.findClass E = some ce.cls → vx_W p l e R s m args below meth c H1 locs1 (cells + mc) (slots + ms) Q (F0 m pc ls rest) q9)
    (kk : ∀ (u : S) (t : State) (H1 : Heap) (locs1 : List Loc), t.heap = H1 → s.vm.Alike t.vm → post u → B u t → H.size ≤ H1.size → (∀ q : Nat, q < H.size → ¬ A1 q → H1[q]? = H[q]?) → va_S A0 H0 H1 locs1 → W p l e R s m args below meth c H1 locs1 (cells + mc) (slots + ms) Q (F0 m (pc + 3) ls (rest))) : W p l e R s m args below meth c H locs cells slots Q (F0 m pc ls st0) := by
  intro T hT X
  rcases hr T hT X with ⟨v, st₀, t, T', L, h0, X', hL, e1, e2, ⟨⟨u, hv, hp, hb⟩, hF⟩, st⟩ | ⟨q, st₀, t, T', L, E, ce, h0, X', hL, e1, e2, ⟨u, hp, hb, hF⟩, hce, hcv, hcl, st⟩
  · cases hv
    obtain ⟨k1, k2, k3⟩ := vx_keep h0 e1 hS hA hf hL hF
    obtain ⟨t2, a1, b1⟩ := kk u t T'.heap (locs ++ L) e1.symm (by rw [← e2]; exact X'.warmed.alike) hp hb k1 k2 k3 T' rfl X'
    exact ⟨t2, st t2 a1, b1⟩
  · obtain ⟨k1, k2, k3⟩ := vx_keep h0 e1 hS hAX hf hL hF
    obtain ⟨t2, a1, b1⟩ := kx E ce q u t T'.heap (locs ++ L) e1.symm (by rw [← e2]; exact X'.warmed.alike) hp hb k1 k2 k3 (by rw [e1]; exact hce) hcv hcl T' rfl X'
    exact ⟨t2, st.trans a1, b1⟩
end Rows
section Ends
variable {p : Program} {l : Launch} {e : Env} {R : Room} {s : State} {m : MethodId} {args : Array Value} {below : List Frame} {meth : Method} {c : Code} {H : Heap} {locs : List Loc} {cells slots : Nat} {Q : State → Prop}
variable {mc ms : Nat} {free : Addr → Prop} {A0 A1 : Nat → Prop} {H0 : Heap} {a : Array Value} {ls : Array Slot} {st0 rest : List Value}
variable {Qc : Array Value → State → Outcome → State → Prop} {XC : String → State → State → Prop}
/-- what a body that may throw owes at its end -/
def vx_MQ (below : List Frame) (Qc : Array Value → State → Outcome → State → Prop) (XC : String → State → State → Prop) (a : Array Value) (s : State) (mc ms : Nat) (free : Addr → Prop) : State → Prop := fun t =>
  ∃ o, t.status = .running ∧ Ended t below o ∧ vx_Q Qc XC mc ms free a s o t
theorem vx_ret {g : JFrame} {mc ms : Nat} (k : W p l e R s m args below meth c H locs cells slots (MQ below Qc args s mc ms free) g) : W p l e R s m args below meth c H locs cells slots (vx_MQ below Qc XC args s mc ms free) g := by
  intro T hT X
  obtain ⟨t, a1, o, b1, b2, b3, b4⟩ := k T hT X
  exact ⟨t, a1, o, b1, b2, Or.inl ⟨b3, b4⟩⟩
/-- not caught here: it goes on to the caller -/
theorem vx_widen {g : JFrame} {q : Addr} {k n : Nat} (h1 : cells ≤ k) (h2 : slots ≤ n) (kk : vx_W p l e R s m args below meth c H locs k n Q g q) : vx_W p l e R s m args below meth c H locs cells slots Q g q := fun T hT X => kk T hT (stand_widen X h1 h2)
theorem vx_out {pc : Nat} {E : String} {ce : Cell} {q : Addr} {mc ms : Nat} (hout : ∀ x ∈ c.exceptionTable.toList, covers x pc = false) (hlocks : meth.locks = false) (hcell : H[q]? = some ce) (hv : ce.vm = .none) (hcl : s.vm.findClass E = some ce.cls)
    (hx : ∀ t : State, t.heap = H → s.vm.Alike t.vm → XC E s t) (hf : ∀ z ∈ locs, free z.base) (hc : cells ≤ mc) (hs : slots ≤ ms) :
    vx_W p l e R s m args below meth c H locs cells slots (vx_MQ below Qc XC args s mc ms free) (F0 m pc ls rest) q := by
  intro T hT X
  obtain ⟨st1, hrun, hend, hW, hsm⟩ := X.leaveThrown q (g := F0 m pc ls rest) rfl rfl rfl hout hlocks
  have hcell9 : (T.setFrames (.throwing q :: below)).heap[q]? = some ce := by
    show T.heap[q]? = some ce
    rw [hT]; exact hcell
  exact ⟨_, st1, .threw q, hrun, hend, Or.inr ⟨q, rfl, E, ce, locs, hx _ hT hW.alike, hcell9, hv, hcl, hW, hsm.mono hc hs, hf⟩⟩
theorem vx_frame {U : State} {k n : Nat} (h : s.sameButNew ({ U with vm := s.vm } : State) locs k n) : s.heap.size ≤ U.heap.size ∧ ∀ q : Nat, q < s.heap.size → (∀ z ∈ locs, z.base ≠ q) → U.heap[q]? = s.heap[q]? := by
  obtain ⟨-, h2, -, -, -, h6⟩ := h
  refine ⟨h2, fun q hq hz => ?_⟩
  obtain ⟨c9, e1, e2, e3, e4⟩ := h6 q _ (Array.getElem?_eq_getElem hq)
  have hs : c9.slots = (s.heap[q]).slots := Array.ext_getElem? fun i => e4 i fun hm => hz _ hm rfl
  have h9 : c9 = s.heap[q] := by
    rw [hs] at e2
    exact e2
  have e5 : U.heap[q]? = some c9 := e1
  rw [e5, h9, Array.getElem?_eq_getElem hq]
/-- the words of a throw but the four that speak of the heap -/
def vx_no (w : Cond) : Bool := decide (w ≠ .isRef (.static Bundle.tN "UNASSIGNED_STACK" Bundle.steD)) && decide (w ≠ .isRef (.static Bundle.tN "SUPPRESSED_SENTINEL" Bundle.listD)) && decide (w ≠ .laysStatic Bundle.tN "UNASSIGNED_STACK" Bundle.steD) && decide (w ≠ .laysStatic Bundle.tN "SUPPRESSED_SENTINEL" Bundle.listD)
def vx_at0 (own : String) (ic : Nat) (X : String) (names : List String) : List Cond := (Bundle.ownAtoms0 own ic X names).filter vx_no
def vx_atS (own : String) (ic : Nat) (X : String) (names : List String) : List Cond := (Bundle.ownAtoms own ic X names).filter vx_no
/-- a word that the tables alone decide, or a good one -/
def vx_ot (w : Cond) : Bool := w.onTables || goodWord w
theorem vx_ot_at {args a' : Array Value} {s U : State} {w : Cond} (hW : s.WarmedH U.vm) (hvm : s.vm = U.vm) (hg : vx_ot w = true) (h : w.before args s = true) : w.before a' U = true := by
  simp only [vx_ot, Bool.or_eq_true] at hg
  rcases hg with hg | hg
  · exact va_tabs hg hvm h
  · exact word_at hW (good_of_word hg) h
/-- a list's words: the good ones out of the method's own list, the others by premises of their own -/
theorem vx_hat {args : Array Value} {s : State} {L B : List Cond} (h1 : ∀ w ∈ L.filter goodWord, w.before args s = true) (h2 : ∀ w ∈ L.filter (fun w => !goodWord w), w ∈ B) (h3 : ∀ w ∈ B, w.before args s = true) : ∀ w ∈ L, w.before args s = true := by
  intro w hw
  by_cases g : goodWord w = true
  · exact h1 w (List.mem_filter.mpr ⟨hw, g⟩)
  · refine h3 w (h2 w (List.mem_filter.mpr ⟨hw, ?_⟩))
    show (!goodWord w) = true
    cases hgw : goodWord w
    · rfl
    · exact absurd hgw g
theorem vx_c {args : Array Value} {s : State} {w : Cond} {B : List Cond} (h : w.before args s = true) (t : ∀ w ∈ B, w.before args s = true) : ∀ w' ∈ w :: B, w'.before args s = true := fun w' h' => (List.mem_cons.mp h').elim (fun e => by rw [e]; exact h) (t w')
theorem vx_n {args : Array Value} {s : State} : ∀ w ∈ ([] : List Cond), w.before args s = true := fun _ h => nomatch h
theorem vx_own {args : Array Value} {s : State} {L : List Cond} (h1 : ∀ w ∈ L.filter vx_no, w.before args s = true)
    (hU : (Cond.isRef (.static Bundle.tN "UNASSIGNED_STACK" Bundle.steD)).before args s = true) (hN : (Cond.isRef (.static Bundle.tN "SUPPRESSED_SENTINEL" Bundle.listD)).before args s = true)
    (lU : (Cond.laysStatic Bundle.tN "UNASSIGNED_STACK" Bundle.steD).before args s = true) (lN : (Cond.laysStatic Bundle.tN "SUPPRESSED_SENTINEL" Bundle.listD).before args s = true) : ∀ w ∈ L, w.before args s = true := by
  intro w hw
  by_cases e1 : w = .isRef (.static Bundle.tN "UNASSIGNED_STACK" Bundle.steD)
  · rw [e1]; exact hU
  · by_cases e2 : w = .isRef (.static Bundle.tN "SUPPRESSED_SENTINEL" Bundle.listD)
    · rw [e2]; exact hN
    · by_cases e3 : w = .laysStatic Bundle.tN "UNASSIGNED_STACK" Bundle.steD
      · rw [e3]; exact lU
      · by_cases e4 : w = .laysStatic Bundle.tN "SUPPRESSED_SENTINEL" Bundle.listD
        · rw [e4]; exact lN
        · exact h1 w (List.mem_filter.mpr ⟨hw, by unfold vx_no; rw [decide_eq_true e1, decide_eq_true e2, decide_eq_true e3, decide_eq_true e4]; rfl⟩)
/-- where a static field lies, its class's statics cell in H -/
def vx_L (C n d : String) (A : Nat → Prop) (U : State) (H : Heap) : Prop := ∃ (c : ClassId) (k : Class) (i : Nat) (f : Field) (a : Nat) (cell : Cell), U.vm.findClass C = some c ∧ U.fieldFound? C n d = some (c, k, i, f) ∧ f.isStatic = true ∧ k.statics = some a ∧ H[a]? = some cell ∧ cell.vm.isStatics = true ∧ cell.cls = c ∧ f.slot < cell.slots.size ∧ k.staticTypes[f.slot]? = some f.type ∧ ¬ A a
theorem vx_L.moved {C n d : String} {A : Nat → Prop} {u U : State} {H : Heap} (hvm : u.vm.Alike U.vm) (h : vx_L C n d A u H) : vx_L C n d A U H := by
  obtain ⟨c, k, i, f, a, cell, h1, h2, h3, h4, h5, h6, h7, h8, h9, h10⟩ := h
  obtain ⟨k', hi', he⟩ := State.fieldFound?_setVm hvm h2
  exact ⟨c, k', i, f, a, cell, by rw [hvm.findClass]; exact h1, hi', h3, by rw [he]; exact h4, h5, h6, h7, h8, by rw [he]; exact h9, h10⟩
theorem vx_L.kept {C n d : String} {A : Nat → Prop} {U : State} {H H1 : Heap} (h : vx_L C n d A U H) (hq : ∀ a : Nat, a < H.size → ¬ A a → H1[a]? = H[a]?) : vx_L C n d A U H1 := by
  obtain ⟨c, k, i, f, a, cell, h1, h2, h3, h4, h5, h6, h7, h8, h9, h10⟩ := h
  exact ⟨c, k, i, f, a, cell, h1, h2, h3, h4, by rw [hq a (Array.getElem?_eq_some_iff.mp h5).1 h10]; exact h5, h6, h7, h8, h9, h10⟩
theorem vx_L.narrow {C n d : String} {A B : Nat → Prop} {U : State} {H : Heap} (h : vx_L C n d A U H) (hAB : ∀ q, B q → A q) : vx_L C n d B U H := by
  obtain ⟨c, k, i, f, a, cell, h1, h2, h3, h4, h5, h6, h7, h8, h9, h10⟩ := h
  exact ⟨c, k, i, f, a, cell, h1, h2, h3, h4, h5, h6, h7, h8, h9, fun z => h10 (hAB _ z)⟩
theorem vx_L.word {C n d : String} {A : Nat → Prop} {s : State} {args : Array Value} (h : vx_L C n d A s s.heap) : (Cond.laysStatic C n d).before args s = true := by
  obtain ⟨c, k, i, f, a, cell, h1, h2, h3, h4, h5, h6, h7, h8, h9, -⟩ := h
  show (Cond.laysStatic C n d).holds args s none s [] = true
  exact Cond.laysStatic_of h1 h2 h3 h4 h5 h6 h7 h8 h9
/-- .. and what it holds: null or some reference -/
def vx_Zq (C n d : String) (A : Nat → Prop) (U : State) (H : Heap) : Prop := va_Zq C n d A U H ∧ vx_L C n d A U H
theorem vx_Zq.moved {C n d : String} {A : Nat → Prop} {u U : State} {H : Heap} (hvm : u.vm.Alike U.vm) (h : vx_Zq C n d A u H) : vx_Zq C n d A U H := ⟨va_Zq.moved hvm h.1, vx_L.moved hvm h.2⟩
theorem vx_Zq.kept {C n d : String} {A : Nat → Prop} {U : State} {H H1 : Heap} (h : vx_Zq C n d A U H) (hq : ∀ a : Nat, a < H.size → ¬ A a → H1[a]? = H[a]?) : vx_Zq C n d A U H1 := ⟨va_Zq.kept h.1 hq, vx_L.kept h.2 hq⟩
theorem vx_Zq.narrow {C n d : String} {A B : Nat → Prop} {U : State} {H : Heap} (h : vx_Zq C n d A U H) (hAB : ∀ q, B q → A q) : vx_Zq C n d B U H := ⟨va_Zq.narrow h.1 hAB, vx_L.narrow h.2 hAB⟩
theorem vx_Zqof {args : Array Value} {s : State} {C n d : String} {A : Nat → Prop} (hl : (Cond.laysStatic C n d).before args s = true) (hini : (Cond.initialized C).before args s = true) (h : (Cond.isRef (.static C n d)).before args s = true) (hA : ∀ a : Nat, a < s.heap.size → ¬ A a) : vx_Zq C n d A s s.heap := by
  refine ⟨va_Zqof hl hini h hA, ?_⟩
  obtain ⟨c, k, i, f, a, cell, h1, h2, h3, h4, h5, h6, h7, h8, h9⟩ := Cond.laysStatic_spec hl
  exact ⟨c, k, i, f, a, cell, h1, h2, h3, h4, h5, h6, h7, h8, h9, hA a (Array.getElem?_eq_some_iff.mp h5).1⟩
theorem vx_isRef {C n d : String} {v : Value} {A : Nat → Prop} {s : State} {args : Array Value} (h : va_Z C n d v A s s.heap) (hv : v.isRef = true) : (Cond.isRef (.static C n d)).before args s = true := by
  obtain ⟨cf, kf, fi, f, a, cell, h1, h2, h3, h4, h5, h6, h7, -⟩ := h
  have he : (Term.static C n d).eval args s none [] s = some v := by
    simp [Term.eval, State.fieldNamed?, h1, h2, h4, h5, h6, h7]
  simp only [Cond.before, Cond.holds, Cond.value, he]
  cases v <;> simp_all [Value.isRef]
theorem vx_isRefq {C n d : String} {A : Nat → Prop} {s : State} {args : Array Value} (h : va_Zq C n d A s s.heap) : (Cond.isRef (.static C n d)).before args s = true := by
  rcases h with h | ⟨t, h⟩
  · exact vx_isRef h rfl
  · exact vx_isRef h rfl
/-- the same frame, seen from here: as if the method were called anew in this heap -/
theorem vx_rebase {T : State} (X : Stand p l e R s m args below meth c T locs cells slots) {R' : Room} (hf : R'.frames ≤ R.frames) (hl : R'.locals ≤ R.locals) (hc : cells + R'.cells ≤ R.cells) (hs : slots + R'.slots ≤ R.slots) :
    Stand p l e R' ((T.setVm s.vm).setFrames (.invoking m args :: below)) m args below meth c T [] 0 0 := by
  have htop : (T.setVm s.vm).topJava?.isSome := X.here.top
  have hF : ((T.setVm s.vm).setFrames (.invoking m args :: below)).frames = .invoking m args :: below := State.frames_setFrames _ (State.cur_lt_of_top htop)
  obtain ⟨g₀, hg0⟩ := Option.isSome_iff_exists.mp htop
  obtain ⟨r, hr⟩ := State.topJava?_eq_some.mp hg0
  have hl9 : e.platform.stackLimits (T.setVm s.vm).me = e.platform.stackLimits s.me := X.limits
  have hb9 : (T.setVm s.vm).me.stackBytes = s.me.stackBytes := X.bytes
  refine ⟨X.admits, X.cas, X.clock, hF, ?_, X.hears, X.method, X.code, X.here, X.tail, X.warmed, ?_, ?_, ?_⟩
  · have h := X.room
    have hU : ((T.setVm s.vm).setFrames (.invoking m args :: below)).localsInUse = s.localsInUse := by
      rw [State.localsInUse_invoking hF (meth := meth) (c := c) X.method X.code, State.localsInUse_invoking X.frames X.method X.code]
    simp only [State.hasRoom, Bool.and_eq_true, decide_eq_true_eq] at h ⊢
    obtain ⟨⟨⟨⟨h1, h2, h3, h4, h5, h6⟩, h7⟩, h8⟩, h9⟩ := h
    rw [X.frames, List.length_cons] at h2 h3
    have q1 := X.heapSize
    have q2 := X.used
    simp only [hF, hU, List.length_cons, State.stackLimits_setFrames, State.stackBytes_setFrames, hl9, hb9]
    refine ⟨⟨⟨⟨by omega, by omega, by omega, by omega, by omega, h6⟩, ?_⟩, ?_⟩, X.book⟩
    · show T.heap.size + R'.cells ≤ e.platform.maxCells
      omega
    · show T.slotsUsed + R'.slots ≤ e.platform.maxSlots
      omega
  · rw [State.stackLimits_setFrames]; rfl
  · rw [State.stackBytes_setFrames]; rfl
  · refine ⟨?_, Nat.le_refl _, Nat.le_refl _, ?_, ?_, fun a c9 h9 => ⟨c9, h9, rfl, rfl, fun _ _ => rfl⟩⟩
    · obtain ⟨t, ht, -⟩ := State.frames_cons hr
      show T.setVm s.vm = { ((T.setVm s.vm).setFrames (.invoking m args :: below)).setFrames (T.setVm s.vm).frames with heap := T.heap, slotsUsed := T.slotsUsed }
      rw [State.setFrames_setFrames, State.setFrames_self ht]
      rfl
    · show T.slotsUsed = T.slotsUsed + ((T.heap.toList.drop T.heap.size).map (·.slots.size)).sum
      rw [List.drop_eq_nil_of_le (Nat.le_of_eq Array.length_toList)]
      rfl
    · show ((T.heap.toList.drop T.heap.size).map (·.slots.size)).sum ≤ 0
      rw [List.drop_eq_nil_of_le (Nat.le_of_eq Array.length_toList)]
      exact Nat.le_refl _
/-- 'throw new E()': new; dup; invokespecial; athrow -/
theorem vx_throw0 {cc : ByteArray} {pc : Nat} (hexec : p.tables.exec = Jvm.exec) (hb : c.code = cc) (hl : l.stackTraces = false) {own cls : String} {names : List String} {ik ic mc ms : Nat} {A : Nat → Prop}
    (hown : s.vm.findClass own = some m.cls) (hcls : Bundle.fit cls = true) (hnames : ∀ n ∈ names, Bundle.fit n = true)
    (hk : (Cond.classLink own ik cls).before args s = true) (hini : (Cond.initialized cls).before args s = true) (hat : ∀ w ∈ vx_at0 own ic cls names, w.before args s = true)
    (hgood : ∀ w ∈ Cond.classLink own ik cls :: Cond.initialized cls :: vx_at0 own ic cls names, vx_ot w = true)
    (hU : vx_Zq Bundle.tN "UNASSIGNED_STACK" Bundle.steD A s s.heap) (hN : vx_Zq Bundle.tN "SUPPRESSED_SENTINEL" Bundle.listD A s s.heap) (hS : va_S A s.heap H locs) (hsize : ls.size = c.maxLocals)
    (d0 : decode cc pc = .ok (.new ik, 3)) (d3 : decode cc (pc + 3) = .ok (.dup, 1)) (d4 : decode cc (pc + 4) = .ok (.invokespecial ic, 3)) (d7 : decode cc (pc + 7) = .ok (.athrow, 1))
    (hout : ∀ x ∈ c.exceptionTable.toList, covers x (pc + 7) = false)
    (hRframes : names.length + 3 < R.frames) (hRlocals : (rest.map fun v => v.category).sum + (13 * (names.length + 1) + 42) ≤ R.locals) (hRcells : cells + 1 ≤ R.cells) (hRslots : slots + 6 ≤ R.slots) (hlocks : meth.locks = false)
    (hx : ∀ t : State, s.vm.Alike t.vm → H.size ≤ t.heap.size → (∀ q : Nat, q < H.size → t.heap[q]? = H[q]?) → XC cls s t)
    (hf : ∀ z ∈ locs, free z.base) (hc : cells + 1 ≤ mc) (hs : slots + 6 ≤ ms) :
    W p l e R s m args below meth c H locs cells slots (vx_MQ below Qc XC args s mc ms free) (F0 m pc ls rest) := by
  intro T hT X
  have htr : e.platform.stackTraces = false := (show e.platform.stackTraces = l.stackTraces by rw [X.admits.platform]).trans hl
  have Y := vx_rebase X (R' := { frames := R.frames, locals := R.locals, cells := 1, slots := 6 }) (Nat.le_refl _) (Nat.le_refl _) hRcells hRslots
  obtain ⟨s', hA⟩ : ∃ z, z = (T.setVm s.vm).setFrames (.invoking m args :: below) := ⟨_, rfl⟩
  rw [← hA] at Y
  have hvm : s'.vm = s.vm := by rw [hA]; rfl
  have hhp : s'.heap = H := by rw [hA]; exact hT
  have hW0 : s.WarmedH s'.vm := by rw [hvm]; exact State.WarmedH.refl s
  have hat' : ∀ w ∈ vx_at0 own ic cls names, w.before args s' = true := fun w hw => vx_ot_at hW0 hvm.symm (hgood w (List.mem_cons_of_mem _ (List.mem_cons_of_mem _ hw))) (hat w hw)
  have hk' : (Cond.classLink own ik cls).before args s' = true := vx_ot_at hW0 hvm.symm (hgood _ List.mem_cons_self) hk
  have hini' : (Cond.initialized cls).before args s' = true := vx_ot_at hW0 hvm.symm (hgood _ (List.mem_cons_of_mem _ List.mem_cons_self)) hini
  have hU' : vx_Zq Bundle.tN "UNASSIGNED_STACK" Bundle.steD A s' s'.heap := by rw [hhp]; exact vx_Zq.moved hW0.alike (hU.kept hS.2.1)
  have hN' : vx_Zq Bundle.tN "SUPPRESSED_SENTINEL" Bundle.listD A s' s'.heap := by rw [hhp]; exact vx_Zq.moved hW0.alike (hN.kept hS.2.1)
  have h : ∀ w ∈ Bundle.ownAtoms0 own ic cls names, w.before args s' = true := vx_own hat' (vx_isRefq hU'.1) (vx_isRefq hN'.1) hU'.2.word hN'.2.word
  have hown' : s'.vm.findClass own = some m.cls := by rw [hvm]; exact hown
  have hins : (Cond.instantiable cls 6).before args s' = true := h _ (by simp [Bundle.ownAtoms0])
  obtain ⟨vm₁, cX, kX, hfX, hkX, -, -, X₁, st1⟩ := Y.newCold hexec (own := own) (C := cls) (index := ik) (n := 6) hown' hk' hins hini'
    (g := F0 m pc ls rest) rfl (by rw [hb]; exact d0) (Nat.le_refl _) (Nat.le_refl _)
  generalize hT1 : (T.setVm vm₁).pushCell { cls := cX, slots := kX.instanceTypes.map defaultValue, vm := .none } = T1 at X₁ st1
  have hcat : (Value.ref T.heap.size).category = 1 := rfl
  have hcellA : T1.heap[T.heap.size]? = some (freshCell cX kX) := by rw [← hT1]; exact State.heap_pushCell_size _ _
  have d3' : decode c.code (pc + 3) = .ok (.dup, 1) := by rw [hb]; exact d3
  obtain ⟨U, hsteps, hrun, hend, hW, hsame, ce, hce, hO⟩ := X₁.ctorThrow0 hexec htr (own := own) (cls := cls) (names := names) (ic := ic) hown' hcls hnames h (fun x hx => nomatch hx) hfX hkX hcellA (by rw [hhp, hT]; exact Nat.le_refl _)
    (g := { method := m, pc := pc + 4, locals := ls, stack := .ref T.heap.size :: .ref T.heap.size :: rest, locked := none }) rfl hsize rfl rfl (rest := rest) rfl
    (by rw [hb]; exact d4) (by rw [hb]; exact d7) hout hRframes (by simp only [List.map_cons, List.sum_cons, hcat]; omega) hlocks
  obtain ⟨f1, f2⟩ := vx_frame hsame
  rw [hhp] at f1 f2
  have hWs : s.WarmedH U.vm := State.WarmedH.trans hW0 hW
  have hcl : s.vm.findClass cls = some ce.cls := by
    have h9 := hO.cls
    rw [hvm] at h9
    exact h9
  have hall : s.sameButNew ({ U with vm := s.vm } : State) locs mc ms := by
    subst hA
    obtain ⟨e1, e2⟩ := hsame
    rw [State.setFrames_setFrames] at e1
    have h2 : (T.setVm s.vm).sameButNew ({ U with vm := s.vm } : State) [] (0 + 1) (0 + 6) := ⟨e1, e2⟩
    have h3 := X.same.trans h2
    rw [List.append_nil] at h3
    exact h3.mono hc hs
  refine ⟨U, ?_, .threw T.heap.size, hrun, hend, Or.inr ⟨T.heap.size, rfl, cls, ce, locs, hx U hWs.alike f1 (fun q hq => f2 q hq (fun z hz => nomatch hz)), hce, hO.vm, hcl, hWs, hall, hf⟩⟩
  refine st1 _ ?_
  show Steps p.tables e below (T1.setTop { method := m, pc := pc + 3, locals := ls, stack := .ref T.heap.size :: rest, locked := none }) _
  jvm_step X₁.here [X₁.here.top, hexec, d3', Value.category]
  exact hsteps
/-- 'throw new E("text")': new; dup; ldc; invokespecial; athrow -/
theorem vx_throwS {cc : ByteArray} {pc : Nat} (hexec : p.tables.exec = Jvm.exec) (hb : c.code = cc) (hl : l.stackTraces = false) {own cls text : String} {names : List String} {ik is ic mc ms sa : Nat} {A : Nat → Prop}
    (hown : s.vm.findClass own = some m.cls) (hcls : Bundle.fit cls = true) (hnames : ∀ n ∈ names, Bundle.fit n = true)
    (hk : (Cond.classLink own ik cls).before args s = true) (hini : (Cond.initialized cls).before args s = true) (hstr : vk_R own is text sa s) (hat : ∀ w ∈ vx_atS own ic cls names, w.before args s = true)
    (hgood : ∀ w ∈ Cond.classLink own ik cls :: Cond.initialized cls :: vx_atS own ic cls names, vx_ot w = true)
    (hU : vx_Zq Bundle.tN "UNASSIGNED_STACK" Bundle.steD A s s.heap) (hN : vx_Zq Bundle.tN "SUPPRESSED_SENTINEL" Bundle.listD A s s.heap) (hS : va_S A s.heap H locs) (hsize : ls.size = c.maxLocals)
    (d0 : decode cc pc = .ok (.new ik, 3)) (d3 : decode cc (pc + 3) = .ok (.dup, 1)) (d4 : decode cc (pc + 4) = .ok (.ldc is, 2)) (d6 : decode cc (pc + 6) = .ok (.invokespecial ic, 3)) (d9 : decode cc (pc + 9) = .ok (.athrow, 1))
    (hout : ∀ x ∈ c.exceptionTable.toList, covers x (pc + 9) = false)
    (hRframes : names.length + 3 < R.frames) (hRlocals : (rest.map fun v => v.category).sum + (13 * (names.length + 1) + 43) ≤ R.locals) (hRcells : cells + 1 ≤ R.cells) (hRslots : slots + 6 ≤ R.slots) (hlocks : meth.locks = false)
    (hx : ∀ t : State, s.vm.Alike t.vm → H.size ≤ t.heap.size → (∀ q : Nat, q < H.size → t.heap[q]? = H[q]?) → XC cls s t)
    (hf : ∀ z ∈ locs, free z.base) (hc : cells + 1 ≤ mc) (hs : slots + 6 ≤ ms) :
    W p l e R s m args below meth c H locs cells slots (vx_MQ below Qc XC args s mc ms free) (F0 m pc ls rest) := by
  intro T hT X
  have htr : e.platform.stackTraces = false := (show e.platform.stackTraces = l.stackTraces by rw [X.admits.platform]).trans hl
  have Y := vx_rebase X (R' := { frames := R.frames, locals := R.locals, cells := 1, slots := 6 }) (Nat.le_refl _) (Nat.le_refl _) hRcells hRslots
  obtain ⟨s', hA⟩ : ∃ z, z = (T.setVm s.vm).setFrames (.invoking m args :: below) := ⟨_, rfl⟩
  rw [← hA] at Y
  have hvm : s'.vm = s.vm := by rw [hA]; rfl
  have hhp : s'.heap = H := by rw [hA]; exact hT
  have hW0 : s.WarmedH s'.vm := by rw [hvm]; exact State.WarmedH.refl s
  have hat' : ∀ w ∈ vx_atS own ic cls names, w.before args s' = true := fun w hw => vx_ot_at hW0 hvm.symm (hgood w (List.mem_cons_of_mem _ (List.mem_cons_of_mem _ hw))) (hat w hw)
  have hk' : (Cond.classLink own ik cls).before args s' = true := vx_ot_at hW0 hvm.symm (hgood _ List.mem_cons_self) hk
  have hini' : (Cond.initialized cls).before args s' = true := vx_ot_at hW0 hvm.symm (hgood _ (List.mem_cons_of_mem _ List.mem_cons_self)) hini
  have hU' : vx_Zq Bundle.tN "UNASSIGNED_STACK" Bundle.steD A s' s'.heap := by rw [hhp]; exact vx_Zq.moved hW0.alike (hU.kept hS.2.1)
  have hN' : vx_Zq Bundle.tN "SUPPRESSED_SENTINEL" Bundle.listD A s' s'.heap := by rw [hhp]; exact vx_Zq.moved hW0.alike (hN.kept hS.2.1)
  have h : ∀ w ∈ Bundle.ownAtoms own ic cls names, w.before args s' = true := vx_own hat' (vx_isRefq hU'.1) (vx_isRefq hN'.1) hU'.2.word hN'.2.word
  have hown' : s'.vm.findClass own = some m.cls := by rw [hvm]; exact hown
  have hins : (Cond.instantiable cls 6).before args s' = true := h _ (by simp [Bundle.ownAtoms])
  obtain ⟨vm₁, cX, kX, hfX, hkX, -, -, X₁, st1⟩ := Y.newCold hexec (own := own) (C := cls) (index := ik) (n := 6) hown' hk' hins hini'
    (g := F0 m pc ls rest) rfl (by rw [hb]; exact d0) (Nat.le_refl _) (Nat.le_refl _)
  generalize hT1 : (T.setVm vm₁).pushCell { cls := cX, slots := kX.instanceTypes.map defaultValue, vm := .none } = T1 at X₁ st1
  have hcat : (Value.ref T.heap.size).category = 1 := rfl
  have hcellA : T1.heap[T.heap.size]? = some (freshCell cX kX) := by rw [← hT1]; exact State.heap_pushCell_size _ _
  have d3' : decode c.code (pc + 3) = .ok (.dup, 1) := by rw [hb]; exact d3
  have d4' : decode c.code (pc + 4) = .ok (.ldc is, 2) := by rw [hb]; exact d4
  have hstr' : vk_R own is text sa s' := vk_R.warm hW0 hstr
  obtain ⟨U, hsteps, hrun, hend, hW, hsame, ce, hce, hO⟩ := X₁.ctorThrowS hexec htr (own := own) (cls := cls) (names := names) (ic := ic) hown' hcls hnames h (fun x hx => nomatch hx) hfX hkX hcellA (by rw [hhp, hT]; exact Nat.le_refl _) (msg := .ref sa) rfl
    (g := { method := m, pc := pc + 6, locals := ls, stack := .ref sa :: .ref T.heap.size :: .ref T.heap.size :: rest, locked := none }) rfl hsize rfl rfl (rest := rest) rfl
    (by rw [hb]; exact d6) (by rw [hb]; exact d9) hout hRframes (by simp only [List.map_cons, List.sum_cons, hcat]; omega) hlocks
  obtain ⟨f1, f2⟩ := vx_frame hsame
  rw [hhp] at f1 f2
  have hWs : s.WarmedH U.vm := State.WarmedH.trans hW0 hW
  have hcl : s.vm.findClass cls = some ce.cls := by
    have h9 := hO.cls
    rw [hvm] at h9
    exact h9
  have hall : s.sameButNew ({ U with vm := s.vm } : State) locs mc ms := by
    subst hA
    obtain ⟨e1, e2⟩ := hsame
    rw [State.setFrames_setFrames] at e1
    have h2 : (T.setVm s.vm).sameButNew ({ U with vm := s.vm } : State) [] (0 + 1) (0 + 6) := ⟨e1, e2⟩
    have h3 := X.same.trans h2
    rw [List.append_nil] at h3
    exact h3.mono hc hs
  refine ⟨U, ?_, .threw T.heap.size, hrun, hend, Or.inr ⟨T.heap.size, rfl, cls, ce, locs, hx U hWs.alike f1 (fun q hq => f2 q hq (fun z hz => nomatch hz)), hce, hO.vm, hcl, hWs, hall, hf⟩⟩
  refine st1 _ ?_
  show Steps p.tables e below (T1.setTop { method := m, pc := pc + 3, locals := ls, stack := .ref T.heap.size :: rest, locked := none }) _
  jvm_step X₁.here [X₁.here.top, hexec, d3', Value.category]
  exact X₁.ldcString hexec (own := own) (text := text) (index := is) (a := sa) hown' hstr'.1 hstr'.2
    (g := { method := m, pc := pc + 4, locals := ls, stack := .ref T.heap.size :: .ref T.heap.size :: rest, locked := none }) rfl d4' _ hsteps
/-- 'throw new E("text")', the text by a wide index -/
theorem vx_throwSW {cc : ByteArray} {pc : Nat} (hexec : p.tables.exec = Jvm.exec) (hb : c.code = cc) (hl : l.stackTraces = false) {own cls text : String} {names : List String} {ik is ic mc ms sa : Nat} {A : Nat → Prop}
    (hown : s.vm.findClass own = some m.cls) (hcls : Bundle.fit cls = true) (hnames : ∀ n ∈ names, Bundle.fit n = true)
    (hk : (Cond.classLink own ik cls).before args s = true) (hini : (Cond.initialized cls).before args s = true) (hstr : vk_R own is text sa s) (hat : ∀ w ∈ vx_atS own ic cls names, w.before args s = true)
    (hgood : ∀ w ∈ Cond.classLink own ik cls :: Cond.initialized cls :: vx_atS own ic cls names, vx_ot w = true)
    (hU : vx_Zq Bundle.tN "UNASSIGNED_STACK" Bundle.steD A s s.heap) (hN : vx_Zq Bundle.tN "SUPPRESSED_SENTINEL" Bundle.listD A s s.heap) (hS : va_S A s.heap H locs) (hsize : ls.size = c.maxLocals)
    (d0 : decode cc pc = .ok (.new ik, 3)) (d3 : decode cc (pc + 3) = .ok (.dup, 1)) (d4 : decode cc (pc + 4) = .ok (.ldc_w is, 3)) (d7 : decode cc (pc + 7) = .ok (.invokespecial ic, 3)) (d10 : decode cc (pc + 10) = .ok (.athrow, 1))
    (hout : ∀ x ∈ c.exceptionTable.toList, covers x (pc + 10) = false)
    (hRframes : names.length + 3 < R.frames) (hRlocals : (rest.map fun v => v.category).sum + (13 * (names.length + 1) + 43) ≤ R.locals) (hRcells : cells + 1 ≤ R.cells) (hRslots : slots + 6 ≤ R.slots) (hlocks : meth.locks = false)
    (hx : ∀ t : State, s.vm.Alike t.vm → H.size ≤ t.heap.size → (∀ q : Nat, q < H.size → t.heap[q]? = H[q]?) → XC cls s t)
    (hf : ∀ z ∈ locs, free z.base) (hc : cells + 1 ≤ mc) (hs : slots + 6 ≤ ms) :
    W p l e R s m args below meth c H locs cells slots (vx_MQ below Qc XC args s mc ms free) (F0 m pc ls rest) := by
  intro T hT X
  have htr : e.platform.stackTraces = false := (show e.platform.stackTraces = l.stackTraces by rw [X.admits.platform]).trans hl
  have Y := vx_rebase X (R' := { frames := R.frames, locals := R.locals, cells := 1, slots := 6 }) (Nat.le_refl _) (Nat.le_refl _) hRcells hRslots
  obtain ⟨s', hA⟩ : ∃ z, z = (T.setVm s.vm).setFrames (.invoking m args :: below) := ⟨_, rfl⟩
  rw [← hA] at Y
  have hvm : s'.vm = s.vm := by rw [hA]; rfl
  have hhp : s'.heap = H := by rw [hA]; exact hT
  have hW0 : s.WarmedH s'.vm := by rw [hvm]; exact State.WarmedH.refl s
  have hat' : ∀ w ∈ vx_atS own ic cls names, w.before args s' = true := fun w hw => vx_ot_at hW0 hvm.symm (hgood w (List.mem_cons_of_mem _ (List.mem_cons_of_mem _ hw))) (hat w hw)
  have hk' : (Cond.classLink own ik cls).before args s' = true := vx_ot_at hW0 hvm.symm (hgood _ List.mem_cons_self) hk
  have hini' : (Cond.initialized cls).before args s' = true := vx_ot_at hW0 hvm.symm (hgood _ (List.mem_cons_of_mem _ List.mem_cons_self)) hini
  have hU' : vx_Zq Bundle.tN "UNASSIGNED_STACK" Bundle.steD A s' s'.heap := by rw [hhp]; exact vx_Zq.moved hW0.alike (hU.kept hS.2.1)
  have hN' : vx_Zq Bundle.tN "SUPPRESSED_SENTINEL" Bundle.listD A s' s'.heap := by rw [hhp]; exact vx_Zq.moved hW0.alike (hN.kept hS.2.1)
  have h : ∀ w ∈ Bundle.ownAtoms own ic cls names, w.before args s' = true := vx_own hat' (vx_isRefq hU'.1) (vx_isRefq hN'.1) hU'.2.word hN'.2.word
  have hown' : s'.vm.findClass own = some m.cls := by rw [hvm]; exact hown
  have hins : (Cond.instantiable cls 6).before args s' = true := h _ (by simp [Bundle.ownAtoms])
  obtain ⟨vm₁, cX, kX, hfX, hkX, -, -, X₁, st1⟩ := Y.newCold hexec (own := own) (C := cls) (index := ik) (n := 6) hown' hk' hins hini'
    (g := F0 m pc ls rest) rfl (by rw [hb]; exact d0) (Nat.le_refl _) (Nat.le_refl _)
  generalize hT1 : (T.setVm vm₁).pushCell { cls := cX, slots := kX.instanceTypes.map defaultValue, vm := .none } = T1 at X₁ st1
  have hcat : (Value.ref T.heap.size).category = 1 := rfl
  have hcellA : T1.heap[T.heap.size]? = some (freshCell cX kX) := by rw [← hT1]; exact State.heap_pushCell_size _ _
  have d3' : decode c.code (pc + 3) = .ok (.dup, 1) := by rw [hb]; exact d3
  have d4' : decode c.code (pc + 4) = .ok (.ldc_w is, 3) := by rw [hb]; exact d4
  have hstr' : vk_R own is text sa s' := vk_R.warm hW0 hstr
  obtain ⟨U, hsteps, hrun, hend, hW, hsame, ce, hce, hO⟩ := X₁.ctorThrowS hexec htr (own := own) (cls := cls) (names := names) (ic := ic) hown' hcls hnames h (fun x hx => nomatch hx) hfX hkX hcellA (by rw [hhp, hT]; exact Nat.le_refl _) (msg := .ref sa) rfl
    (g := { method := m, pc := pc + 7, locals := ls, stack := .ref sa :: .ref T.heap.size :: .ref T.heap.size :: rest, locked := none }) rfl hsize rfl rfl (rest := rest) rfl
    (by rw [hb]; exact d7) (by rw [hb]; exact d10) hout hRframes (by simp only [List.map_cons, List.sum_cons, hcat]; omega) hlocks
  obtain ⟨f1, f2⟩ := vx_frame hsame
  rw [hhp] at f1 f2
  have hWs : s.WarmedH U.vm := State.WarmedH.trans hW0 hW
  have hcl : s.vm.findClass cls = some ce.cls := by
    have h9 := hO.cls
    rw [hvm] at h9
    exact h9
  have hall : s.sameButNew ({ U with vm := s.vm } : State) locs mc ms := by
    subst hA
    obtain ⟨e1, e2⟩ := hsame
    rw [State.setFrames_setFrames] at e1
    have h2 : (T.setVm s.vm).sameButNew ({ U with vm := s.vm } : State) [] (0 + 1) (0 + 6) := ⟨e1, e2⟩
    have h3 := X.same.trans h2
    rw [List.append_nil] at h3
    exact h3.mono hc hs
  refine ⟨U, ?_, .threw T.heap.size, hrun, hend, Or.inr ⟨T.heap.size, rfl, cls, ce, locs, hx U hWs.alike f1 (fun q hq => f2 q hq (fun z hz => nomatch hz)), hce, hO.vm, hcl, hWs, hall, hf⟩⟩
  refine st1 _ ?_
  show Steps p.tables e below (T1.setTop { method := m, pc := pc + 3, locals := ls, stack := .ref T.heap.size :: rest, locked := none }) _
  jvm_step X₁.here [X₁.here.top, hexec, d3', Value.category]
  exact X₁.ldcStringW hexec (own := own) (text := text) (index := is) (a := sa) hown' hstr'.1 hstr'.2
    (g := { method := m, pc := pc + 4, locals := ls, stack := .ref T.heap.size :: .ref T.heap.size :: rest, locked := none }) rfl d4' _ hsteps
end Ends
section Bodies
variable {l : Launch}
theorem vx_ofW {y : MethodName} {ws ws' : List Cond} {rm : Room} {Pc : Array Value → State → Prop} {Qc : Array Value → State → Outcome → State → Prop} {XC : String → State → State → Prop} {mc ms : Nat} {free : Addr → Prop} {cc : ByteArray} {maxL : Nat} {ret : Option FieldType}
    (hy : plainName y.cls = true) (hw : ws = Cond.code y cc maxL ret :: ws')
    (body : ∀ p e s m args below meth c s₁, BodyLoose p l y (headSpec ws rm) cc maxL ret e s m args below meth c s₁ → c.maxLocals = maxL → (∀ x ∈ c.exceptionTable.toList, False) → Pc args s →
      W p l e (headSpec ws rm).room s m args below meth c s.heap [] 0 0 (vx_MQ below Qc XC args s mc ms free) (entryFrame m args maxL)) : vx_Met l y ws rm Pc Qc XC mc ms free := by
  refine MetFree.of_bodyS (code := cc) (maxLocals := maxL) (ret := ret) hy ?_ ?_
  · intro args s m h hn
    obtain ⟨meth, c, h1, h2, h3, h4, h5, h6, -, -⟩ := Cond.code_spec hn (atoms_spec (ws := ws) h _ (by rw [hw]; exact List.mem_cons_self))
    exact ⟨meth, c, h1, h2, h3, h4, h5, h6⟩
  · intro p e s m args below meth c s₁ B hml hP _
    have hh0 : s₁.heap = s.heap := by rw [B.state]; rfl
    have ht : ∀ x ∈ c.exceptionTable.toList, False := by
      obtain ⟨meth9, c9, h1, h2, -, -, -, -, h7, -⟩ := Cond.code_spec B.named (atoms_spec (ws := ws) B.pre _ (by rw [hw]; exact List.mem_cons_self))
      cases Option.some.inj (h1.symm.trans B.method)
      cases Option.some.inj (h2.symm.trans (Stand.of_body B).code)
      intro x hx
      rw [Array.isEmpty_iff.mp h7] at hx
      cases hx
    obtain ⟨t, a1, o, b1, b2, b3⟩ := body p e s m args below meth c s₁ B hml ht hP s₁ hh0 (Stand.of_body B)
    exact ⟨t, o, a1, b1, b2, b3⟩
/-- the table of a body with handlers -/
theorem vx_table {p : Program} {x y : MethodName} {S : Spec} {cc bytes : ByteArray} {maxL maxL' : Nat} {ret ret' : Option FieldType} {e : Env} {s s₁ : State} {m : MethodId} {args : Array Value} {below : List Frame} {meth : Method} {c : Code} {hh : List (Nat × Nat × Nat × Nat)}
    (B : BodyLoose p l y S cc maxL ret e s m args below meth c s₁) (h : (Cond.codeWith y bytes maxL' ret' hh).before args s = true) : c.exceptionTable.toList = tableOf hh := by
  obtain ⟨m9, meth9, c9, hn9, h1, h2, -, -, h6, -⟩ := Cond.codeWith_spec h
  cases Option.some.inj (hn9.symm.trans B.named)
  cases Option.some.inj (h1.symm.trans B.method)
  cases Option.some.inj (h2.symm.trans (Stand.of_body B).code)
  rw [← h6, table_eq]
end Bodies
end VXA
/-! ===== END ===== -/
/-! ===== BEGIN a static call of a method with an exception table ===== -/
section VXS
variable {p : Program} {l : Launch} {e : Env} {R : Room} {s : State} {m : MethodId} {args : Array Value} {below : List Frame} {meth : Method} {c : Code} {T : State} {H : Heap} {locs : List Loc} {cells slots : Nat}
abbrev vx_CSW (R : Room) (s : State) (args : Array Value) (own : String) (index : Nat) (y : MethodName) (bytes : ByteArray) (maxL : Nat) (ret : Option FieldType) (hh : List (Nat × Nat × Nat × Nat)) (ws : List Cond) (rm : Room) (mc ms n : Nat) : Prop :=
  (rm.cells = mc ∧ rm.slots = ms ∧ rm.frames + 1 ≤ R.frames ∧ 8 + (maxL + 11) + rm.locals ≤ R.locals ∧ (∀ w ∈ ws, ∀ (a' : Array Value) (U : State), s.WarmedH U.vm → w.before a' U = true) ∧ Cond.codeWith y bytes maxL ret hh ∈ ws) ∧
  (Cond.codeWith y bytes maxL ret hh).before args s = true ∧ (Cond.initialized y.cls).before args s = true ∧ (y.cls ≠ "java/lang/invoke/MethodHandle" ∧ y.cls ≠ "java/lang/invoke/VarHandle") ∧
  (∀ sig, parseMethodDescriptor y.desc = some sig → n = sig.parameters.length) ∧ (Cond.methodLink own index y).before args s = true ∧ (Cond.static y).before args s = true
theorem vx_cwSW {own : String} {index maxL mc ms : Nat} {y : MethodName} {bytes : ByteArray} {ret : Option FieldType} {hh : List (Nat × Nat × Nat × Nat)} {Ts ws ws' : List Cond} {rm : Room} (n : Nat) (ht : ∀ w ∈ Ts, w.before args s = true) (hT : GoodIn Ts (va_wsS own index y ws)) (hw : ws = Cond.codeWith y bytes maxL ret hh :: ws') (hrc : rm.cells = mc) (hrs : rm.slots = ms)
    (hd : y.cls ≠ "java/lang/invoke/MethodHandle" ∧ y.cls ≠ "java/lang/invoke/VarHandle" ∧ (parseMethodDescriptor y.desc).map (fun d => d.parameters.length) = some n) (hR : rm.frames + 1 ≤ R.frames ∧ 8 + (maxL + 11) + rm.locals ≤ R.locals) :
    vx_CSW R s args own index y bytes maxL ret hh ws rm mc ms n := by
  have ok : ∀ w ∈ va_wsS own index y ws, w.before args s = true := fun w h => ht w (hT w h).1
  have hG : GoodIn Ts ws := fun w h => hT w (by unfold va_wsS; exact List.mem_append_right _ h)
  have hc : Cond.codeWith y bytes maxL ret hh ∈ ws := by rw [hw]; exact List.mem_cons_self
  refine ⟨⟨hrc, hrs, hR.1, hR.2, pay_in ht hG, hc⟩, ht _ (hG _ hc).1, ok _ (by simp [va_wsS]), ⟨hd.1, hd.2.1⟩, fun sig h => ?_, ok _ (by simp [va_wsS]), ok _ (by simp [va_wsS])⟩
  have h2 := hd.2.2
  rw [h] at h2
  exact (Option.some.inj h2).symm
theorem vx_callSW (X : Stand p l e R s m args below meth c T locs cells slots) (hexec : p.tables.exec = Jvm.exec) {own : String} {index : Nat} {y : MethodName} {bytes : ByteArray} {maxL : Nat} {ret : Option FieldType} {hh : List (Nat × Nat × Nat × Nat)}
    (hown : s.vm.findClass own = some m.cls) (hlink : (Cond.methodLink own index y).before args s = true) (hstat : (Cond.static y).before args s = true) (hinit : (Cond.initialized y.cls).before args s = true)
    (hcode : (Cond.codeWith y bytes maxL ret hh).before args s = true) (hy : y.cls ≠ "java/lang/invoke/MethodHandle" ∧ y.cls ≠ "java/lang/invoke/VarHandle")
    {W9 : Nat} {Pre : Pt → Array Value → Prop} {Post : Pt → Array Value → Option Value → Pt → Prop} (hK : Back l R p e below s args y 3 W9 Pre Post)
    {g : JFrame} (hg : g.method = m) (hsize : g.locals.size = c.maxLocals) {argsL rest : List Value} (hlen : ∀ sig, parseMethodDescriptor y.desc = some sig → argsL.length = sig.parameters.length)
    (hstack : g.stack = argsL.reverse ++ rest) (hW : 2 * g.monitorRoom + (rest.map fun v => v.category).sum ≤ W9) (hdg : decode c.code g.pc = .ok (.invokestatic index, 3))
    (hpre : ∀ vm₁, s.WarmedH vm₁ → Pre ⟨T.setVm vm₁, locs, cells, slots⟩ argsL.toArray) :
    ∃ (v : Option Value) (vm₁ : Vm) (B : Pt), s.WarmedH vm₁ ∧ Stand p l e R s m args below meth c B.U B.locs B.cells B.slots ∧ Post ⟨T.setVm vm₁, locs, cells, slots⟩ argsL.toArray v B ∧
      ∀ target, Steps p.tables e below (B.U.setTop { g with pc := g.pc + 3, stack := v.toList ++ rest }) target → Steps p.tables e below (T.setTop g) target := by
  obtain ⟨mk, methM, cM, hnamed, hmethM, -, -, -, -, -, -, hsigM⟩ := Cond.codeWith_spec hcode
  have hstatic : methM.isStatic = true := Cond.static_spec hnamed hmethM hstat
  obtain ⟨kP, hkP, -⟩ := className_of_methodNamed hnamed
  have hinitP : kP.init = .initialized := Cond.initialized_spec (findClass_of_methodNamed hnamed) hkP hinit
  obtain ⟨vm₁, X₁, hstep₁⟩ := X.invokestatic hexec hown hlink hnamed hmethM hstatic hkP hinitP hy (g := g) hg (argsL := argsL) (rest := rest) (hlen _ hsigM) hstack hdg
  obtain ⟨v, B, X', hpost, hsteps⟩ := hK m meth c ⟨T.setVm vm₁, locs, cells, slots⟩ { g with stack := rest } (.invokestatic index) mk argsL.toArray X₁ hg hsize hdg hW (X₁.named hnamed) (hpre vm₁ X₁.warmed)
  exact ⟨v, vm₁, B, X₁.warmed, X', hpost, fun target h => hstep₁ _ fun acts => by rw [doInvoke_state]; exact hsteps.trans h⟩
theorem vx_runSW {y : MethodName} {bytes cc : ByteArray} {maxL nL mc ms n index : Nat} {ret : Option FieldType} {hh : List (Nat × Nat × Nat × Nat)} {ws : List Cond} {rm : Room} {Pc : Array Value → State → Prop} {Qc : Array Value → State → Outcome → State → Prop} {free : Addr → Prop} {Ts : List Cond} {own : String} {As rest : List Value} {g : JFrame}
    (S : CallFix p m c cc nL s args Ts own) (hM : Met l y ws rm Pc Qc mc ms free) (cw : vx_CSW R s args own index y bytes maxL ret hh ws rm mc ms n) (hp : PreS s H Pc As)
    (hg : g.method = m) (hn : As.length = n) (hsize : g.locals.size = nL) (hstack : g.stack = As.reverse ++ rest) (hW : 2 * g.monitorRoom + (rest.map fun v => v.category).sum ≤ 8) (hdg : decode cc g.pc = .ok (.invokestatic index, 3)) (hf : cells + mc ≤ R.cells ∧ slots + ms ≤ R.slots) :
    va_Run p l e R s m args below meth c H locs cells slots mc ms g rest (Qc As.toArray) (free) := by
  obtain ⟨⟨hrc, hrs, hfr, hlo, hws, hcw⟩, hcode, hini, hy, hlen, hl, hstt⟩ := cw
  have hK : Back l R p e below s args y 3 8 (PreOf R mc ms Pc) (PostOf Qc mc ms free) := va_backW (hh := hh) (bytes := bytes) (maxL := maxL) (ret := ret) hM hp.1 hrc hrs hfr hlo hws hcw (fun a' U hW => word_at hW (Or.inl (by first | rfl | simp [Cond.onTables, Cond.keeps, Cond.steady])) hini)
  obtain ⟨hx, hb, hml, ho, -⟩ := S
  intro T hT X
  obtain ⟨v, vm₁, ⟨U', l2, c2, s2⟩, hW₁, X', ⟨g', mk, t, L, e1, e2, hq, h1, hL, h2, h3⟩, st⟩ := vx_callSW X hx (hh := hh) (bytes := bytes) (maxL := maxL) (ret := ret) ho hl hstt hini hcode hy hK hg (hsize.trans hml.symm) (argsL := As) (rest := rest) (fun sig h => hn.trans (hlen sig h)) hstack hW (by rw [hb]; exact hdg)
    (fun vm₁ hW₁ => ⟨hf.1, hf.2, hp.2 (T.setVm vm₁) hT hW₁⟩)
  dsimp only [Pt.U, Pt.locs, Pt.cells, Pt.slots] at X' e1 e2 h1 h2 h3 st
  subst h1; subst h2; subst h3
  exact ⟨v, (T.setVm vm₁).calling g' mk As.toArray, t, U', L, hT, X', hL, e1, e2, hq, st⟩
/-- a thing of a world lies in the heap -/
theorem vx_lt {D : va_G} {cl : List vw_C} {ws : va_W} {H1 : Heap} (h : va_P D cl ws H1) {k : Nat} {q : Nat × va_E} (hk : ws[k]? = some q) : q.1 < H1.size := (h k q hk).lt
end VXS
/-! ===== END ===== -/
end
section
/-! AN EXCEPTION THAT A CALLEE HAS THROWN, caught by the only row of this method's table (the printed law for it leans on a shelf that a round hasn't) -/
section AXX
variable {p : Program} {l : Launch} {e : Env} {R : Room} {s : State} {m : MethodId} {args : Array Value} {below : List Frame} {meth : Method} {c : Code} {H : Heap} {locs : List Loc} {cells slots : Nat} {Q : State → Prop} {ls : Array Slot} {rest : List Value} {pc : Nat}
/-- the search for a handler, where the table has one row, which names a class that takes the object: it links that class, and ends there -/
theorem ax_seek {S : State} {g : JFrame} {q : Addr} {x : ExceptionTableEntry} {cN : ClassId} {ce : Cell} {meth : Method} {c : Code} (hm : S.vm.method? g.method = some meth) (hc : meth.code = some c) (htab : c.exceptionTable.toList = [x]) (hx : covers x g.pc = true) (h0 : x.catchType ≠ 0)
    (hl : S.vm.ClassLinks e.platform g.method.cls x.catchType cN) (hcell : S.heap[q]? = some ce) (hv : ce.vm = .none) (hkE : ∃ k, S.vm.classes[ce.cls]? = some k) (hkN : ∃ k, S.vm.classes[cN]? = some k) (hfit : S.vm.assignable ce.cls cN = true)
    (Qh : Handler → Pre) (E : CtlPost) (d : Bool) (acts : List Action) : wp (findHandler g q) Qh E e d acts S ↔ Qh (.found x.handlerPc) d acts (S.setVm (S.vm.noted g.method.cls x.catchType (.cls cN))) := by
  rw [Jvm.W.findHandler_eq hm hc, htab]
  have hal := (Vm.Alike.refl S.vm).noted g.method.cls x.catchType (.cls cN)
  obtain ⟨r1, r2⟩ := (resolveClass_links e.toSetting hl).op (op := VmOp.resolveClass g.method.cls x.catchType) rfl
  obtain ⟨k1, hk1⟩ := hkE
  obtain ⟨k2, hk2⟩ := hkN
  obtain ⟨j1, hj1, -⟩ := hal.2.2 _ _ hk1
  obtain ⟨j2, hj2, -⟩ := hal.2.2 _ _ hk2
  have hf : (S.vm.noted g.method.cls x.catchType (.cls cN)).assignable ce.cls cN = true := by rw [hal.assignable]; exact hfit
  have ho : ∀ k, ce.vm ≠ .statics k := fun k h => by rw [hv] at h; cases h
  simp only [covers] at hx
  simp [findHandler.go, hx, h0, r1, r2, hcell, ho, hj1, hj2, hf, VmOp.dirties, VmOp.acts]
theorem ax_catch1 {own name E : String} {ce : Cell} {q : Addr} (hown : s.vm.findClass own = some m.cls) (x : ExceptionTableEntry) (htab : c.exceptionTable.toList = [x]) (hx : covers x pc = true) (h0 : x.catchType ≠ 0)
    (hlink : (Cond.classLink own x.catchType name).before args s = true) (hcast : (Cond.castable E name).before args s = true) (hcell : H[q]? = some ce) (hv : ce.vm = .none) (hcl : s.vm.findClass E = some ce.cls)
    (kk : W p l e R s m args below meth c H locs cells slots Q (F0 m x.handlerPc ls [.ref q])) : vx_W p l e R s m args below meth c H locs cells slots Q (F0 m pc ls rest) q := by
  intro T hT X
  have hpl : e.platform.magicAccessors = ({} : Platform).magicAccessors := by rw [X.admits.platform]
  obtain ⟨cE, cN, hcE, hcN, hasg⟩ := Cond.castable_spec hcast
  cases Option.some.inj (hcE.symm.trans hcl)
  obtain ⟨cK, hcK, hK⟩ := Cond.classLink_spec hown hlink e.platform hpl
  cases Option.some.inj (hcN.symm.trans hcK)
  obtain ⟨kE, hkE, -⟩ := Vm.findClass_spec hcl
  obtain ⟨dk, _, _, kN, hd, _, _, _, _, hkN, _, hfree⟩ := hK.here
  have hW := X.warmed
  obtain ⟨kE', hkE', -⟩ := hW.alike.2.2 _ _ hkE
  obtain ⟨kN', hkN', -⟩ := hW.alike.2.2 _ _ hkN
  have hW' := hW.noted hd hfree (State.rightAt_cls hK)
  have find := ax_seek (e := e) (S := (T.setTop (F0 m pc ls rest)).pushFrame (.throwing q)) (g := F0 m pc ls rest) (q := q) (x := x) (cN := cN) (ce := ce) X.method' X.code htab hx h0 (hW.classLinks hK) (by rw [← hT] at hcell; exact hcell) hv ⟨kE', hkE'⟩ ⟨kN', hkN'⟩ (by
    have := hW.alike.assignable
    show T.vm.assignable ce.cls cN = true
    rw [hW.alike.assignable]
    exact hasg)
  have find2 : ∀ (Qh : Handler → Pre) (E2 : CtlPost) (d : Bool) (acts : List Action), wp (findHandler (F0 m pc ls rest) q) Qh E2 e d acts ((T.setTop (F0 m pc ls rest)).pushFrame (.throwing q)) ↔ Qh (.found x.handlerPc) d acts (((T.setTop (F0 m pc ls rest)).pushFrame (.throwing q)).setVm (T.vm.noted m.cls x.catchType (.cls cN))) := find
  obtain ⟨t, a1, b1⟩ := kk (T.setVm (T.vm.noted m.cls x.catchType (.cls cN))) hT (X.noted hW')
  refine ⟨t, ?_, b1⟩
  have hAt : At T (F0 m pc ls rest).method c below := X.here
  obtain ⟨hgo, hw⟩ := hAt.throwing q
  refine Steps.head hgo hw ?_
  obtain ⟨g₀, hg⟩ := Option.isSome_iff_exists.mp hAt.top
  obtain ⟨r, hr⟩ := State.topJava?_eq_some.mp hg
  have hone : (stepThrowing e ((T.setTop (F0 m pc ls rest)).pushFrame (.throwing q)) q (.java (F0 m pc ls rest) :: r)).Is ((((T.setTop (F0 m pc ls rest)).pushFrame (.throwing q)).setVm (T.vm.noted m.cls x.catchType (.cls cN))).setFrames (.java { F0 m pc ls rest with pc := x.handlerPc, stack := [.ref q] } :: r)) [] := by
    simp only [stepThrowing, searchFrame, vmDo]
    generalize hres : Sem.go _ e false [] ((T.setTop (F0 m pc ls rest)).pushFrame (.throwing q)) = res
    obtain ⟨as, rfl, has⟩ := Sem.eq_ok_of hres (a := Handler.found x.handlerPc) (s' := ((T.setTop (F0 m pc ls rest)).pushFrame (.throwing q)).setVm (T.vm.noted m.cls x.catchType (.cls cN))) (acts' := []) (by simp [find2])
    exact ⟨rfl, has⟩
  rw [stepThread_throwing (frames_entered hAt.top _), hr, List.tail_cons, hone.1]
  have hr2 : (T.setVm (T.vm.noted m.cls x.catchType (.cls cN))).frames = .java g₀ :: r := hr
  rw [State.setTop_of_frames _ hr2] at a1
  have e1 : ∀ (u : State) (F G : List Frame) (v : Vm), ((u.setFrames F).setVm v).setFrames G = (u.setVm v).setFrames G := by
    intro u F G v
    have h1 : (u.setFrames F).setVm v = (u.setVm v).setFrames F := rfl
    rw [h1, State.setFrames_setFrames]
  rw [State.pushFrame, e1, State.setTop_of_frames _ hr, e1]
  exact a1
end AXX
end
section
/-! 'throw new NoSuchElementException("..")': its constructor reaches the next one by entry 13 of its pool (the library's law for such a throw knows entry 7 alone); put together out of the library's pieces, as much of it as a catching caller asks -/
section AXT2
def ax_EX : String := "java/util/NoSuchElementException"
def ax_RT : String := "java/lang/RuntimeException"
def ax_b1 : ByteArray := ⟨#[0x2a, 0x2b, 0xb7, 0x00, 0x0d, 0xb1]⟩
def ax_tail (own : String) (ic : Nat) : List Cond :=
  [.methodLink own ic (Bundle.initS ax_EX), .instantiable ax_EX 6, .castable ax_EX ax_EX, .selects ax_EX Bundle.tFill0 Bundle.tFill0, .selects ax_EX Bundle.tFill Bundle.tFill,
   .lays ax_EX Bundle.tN "cause" "Ljava/lang/Throwable;", .lays ax_EX Bundle.tN "stackTrace" Bundle.steD, .lays ax_EX Bundle.tN "suppressedExceptions" Bundle.listD, .lays ax_EX Bundle.tN "detailMessage" "Ljava/lang/String;",
   .isRef (.static Bundle.tN "UNASSIGNED_STACK" Bundle.steD), .isRef (.static Bundle.tN "SUPPRESSED_SENTINEL" Bundle.listD),
   .fieldLink Bundle.tN 198 Bundle.tN "backtrace" "Ljava/lang/Object;", .lays Bundle.tN Bundle.tN "backtrace" "Ljava/lang/Object;", .lays ax_EX Bundle.tN "backtrace" "Ljava/lang/Object;"]
def ax_atoms (own : String) (ic : Nat) : List Cond := Bundle.throwableAtoms ++ (Bundle.throwableSAtoms ++ (Bundle.passSAtoms ax_EX ax_RT 13 ax_b1 ++ (Bundle.chainSAtoms ax_RT ["java/lang/Exception"] ++ ax_tail own ic)))
variable {p : Program} {l : Launch} {e : Env} {R : Room} {s : State} {m₀ : MethodId} {args : Array Value} {below : List Frame} {meth : Method} {c : Code} {W : State} {locs : List Loc} {cells slots : Nat}
theorem ax_ctor (X : Stand p l e R s m₀ args below meth c W locs cells slots) (hexec : p.tables.exec = Jvm.exec) (htr : e.platform.stackTraces = false) {own : String} {ic : Nat}
    (hown : s.vm.findClass own = some m₀.cls) (h : ∀ a ∈ ax_atoms own ic, a.before args s = true) (hlocs : ∀ x ∈ locs, ∀ cell, s.heap[x.base]? = some cell → cell.vm.isStatics = false)
    {a : Addr} {cX : ClassId} {kX : Class} (hfX : s.vm.findClass ax_EX = some cX) (hkX : s.vm.classes[cX]? = some kX) (hcell : W.heap[a]? = some (freshCell cX kX)) (hnew : s.heap.size ≤ a) {msg : Value} (hmsg : msg.isRef = true)
    {g : JFrame} (hg : g.method = m₀) (hsize : g.locals.size = c.maxLocals) (hlocked : g.locked = none) (hentered : g.entered = []) {rest : List Value} (hstack : g.stack = msg :: .ref a :: .ref a :: rest)
    (hd6 : decode c.code g.pc = .ok (.invokespecial ic, 3)) (hd9 : decode c.code (g.pc + 3) = .ok (.athrow, 1)) (hout : ∀ x ∈ c.exceptionTable.toList, covers x (g.pc + 3) = false)
    (hRf : 5 < R.frames) (hRl : 2 * g.monitorRoom + ((Value.ref a :: rest).map fun v => v.category).sum + 81 ≤ R.locals) (hlocks : meth.locks = false) :
    ∃ U : State, Steps p.tables e below (W.setTop g) U ∧ U.status = .running ∧ Ended U below (.threw a) ∧ s.WarmedH U.vm ∧ s.sameButNew ({ U with vm := s.vm } : State) locs cells slots ∧ ∃ ce, U.heap[a]? = some ce ∧ ce.vm = .none ∧ s.vm.findClass ax_EX = some ce.cls := by
  have hpl : e.platform.magicAccessors = ({} : Platform).magicAccessors := by rw [X.admits.platform]
  have hA : ∀ x ∈ Bundle.throwableAtoms, x.before args s = true := fun x hx => h x (List.mem_append_left _ hx)
  have hB : ∀ x ∈ Bundle.throwableSAtoms, x.before args s = true := fun x hx => h x (List.mem_append_right _ (List.mem_append_left _ hx))
  have hC : ∀ x ∈ Bundle.passSAtoms ax_EX ax_RT 13 ax_b1, x.before args s = true := fun x hx => h x (List.mem_append_right _ (List.mem_append_right _ (List.mem_append_left _ hx)))
  have hE : ∀ x ∈ Bundle.chainSAtoms ax_RT ["java/lang/Exception"], x.before args s = true := fun x hx => h x (List.mem_append_right _ (List.mem_append_right _ (List.mem_append_right _ (List.mem_append_left _ hx))))
  have hF : ∀ x ∈ ax_tail own ic, x.before args s = true := fun x hx => h x (List.mem_append_right _ (List.mem_append_right _ (List.mem_append_right _ (List.mem_append_right _ hx))))
  have q : ∀ x, x ∈ ax_tail own ic → x.holds args s none s [] = true := fun x hx => hF x hx
  obtain ⟨T, Z0, L, -, Y⟩ := ThrowableC.of_atoms (args := args) (s := s) (pl := e.platform) (by rw [X.admits.platform]) (by rw [X.admits.platform]) hpl hA
  obtain ⟨Z, M, LZ, LM, hnZ⟩ := Init0T.ofS_atoms (args := args) hpl L Y hB
  obtain ⟨P1, L1, hP1, hS1⟩ := PassC.ofS_atoms (args := args) (s := s) hpl (X := ax_EX) (Y := ax_RT) (by decide) (by decide) (by decide +kernel) (by decide +kernel) (by decide +kernel) (by decide +kernel) hC
  obtain ⟨P2, Ps, hlen, L2, hL2, hP2, hlk2, hlk3⟩ := Bundle.chainS (args := args) hpl hnZ ["java/lang/Exception"] ax_RT (by decide) (by decide) hE
  have hf1 : s.vm.findClass ax_EX = some P1.m.cls := findClass_of_methodNamed hP1
  cases Option.some.inj (hfX.symm.trans hf1)
  obtain ⟨c1, k1, hc1, hk, hord, -, -, hn6⟩ := Cond.instantiable_spec (q (.instantiable ax_EX 6) (by simp [ax_tail]))
  cases Option.some.inj (hc1.symm.trans hf1)
  cases Option.some.inj (hkX.symm.trans hk)
  have hs0 : selectMethod e.platform s.vm P1.m.cls T.fill0 = .method T.fill0 := by
    obtain ⟨c2, r2, m2, g1, g2, g3, g4, -⟩ := Cond.selects_spec (q (.selects ax_EX Bundle.tFill0 Bundle.tFill0) (by simp [ax_tail]))
    cases Option.some.inj (g1.symm.trans hf1)
    cases Option.some.inj (g2.symm.trans (State.methodFound?_of_named Y.fill0 (by decide)))
    cases Option.some.inj (g3.symm.trans Y.fill0)
    rw [Launch.admits_selectMethod X.admits]; exact g4
  have hs1 : selectMethod e.platform s.vm P1.m.cls T.fill = .method T.fill := by
    obtain ⟨c2, r2, m2, g1, g2, g3, g4, -⟩ := Cond.selects_spec (q (.selects ax_EX Bundle.tFill Bundle.tFill) (by simp [ax_tail]))
    cases Option.some.inj (g1.symm.trans hf1)
    cases Option.some.inj (g2.symm.trans (State.methodFound?_of_named Y.fill (by decide)))
    cases Option.some.inj (g3.symm.trans Y.fill)
    rw [Launch.admits_selectMethod X.admits]; exact g4
  obtain ⟨cS0, hcS0, hiss⟩ := Y.statics
  obtain ⟨u0, hu0⟩ := Cond.staticRefV Y.unassigned L.unassignedStatic L.statics hcS0 hiss (q (.isRef (.static Bundle.tN "UNASSIGNED_STACK" Bundle.steD)) (by simp [ax_tail]))
  obtain ⟨sen, hsen⟩ := Cond.staticRefV Y.sentinel L.sentinelStatic L.statics hcS0 hiss (q (.isRef (.static Bundle.tN "SUPPRESSED_SENTINEL" Bundle.listD)) (by simp [ax_tail]))
  obtain ⟨ci9, i9, fB, hk9, hg9, ha9, hsB, -, hnB, htB, hffB⟩ := Cond.ownField (t := .object "java/lang/Object") Y.found L.cls (by decide +kernel) (q (.fieldLink Bundle.tN 198 Bundle.tN "backtrace" "Ljava/lang/Object;") (by simp [ax_tail])) (q (.lays Bundle.tN Bundle.tN "backtrace" "Ljava/lang/Object;") (by simp [ax_tail])) e.platform hpl
  obtain ⟨cS, hcS, heS, -, hkeep⟩ := X.same.2.2.2.2.2 T.aS cS0 hcS0
  have ho : ∀ i, (⟨T.aS, i⟩ : Loc) ∉ locs := fun i hm => by
    have := hlocs _ hm cS0 hcS0
    rw [hiss] at this; cases this
  have hkn : cS.vm ≠ .unknown := by
    rw [heS]; intro hu
    rw [show cS0.vm = .unknown from hu] at hiss
    cases hiss
  have hne : T.aS ≠ a := Nat.ne_of_lt (Nat.lt_of_lt_of_le (Array.getElem?_eq_some_iff.mp hcS0).1 hnew)
  obtain ⟨iM, hffM⟩ := Y.msg
  obtain ⟨tyC, dC, hdC, hdnC⟩ := Cond.laysAt hf1 hk Y.cause (q (.lays ax_EX Bundle.tN "cause" "Ljava/lang/Throwable;") (by simp [ax_tail]))
  obtain ⟨tyS, dS, hdS, hdnS⟩ := Cond.laysAt hf1 hk Y.stack (q (.lays ax_EX Bundle.tN "stackTrace" Bundle.steD) (by simp [ax_tail]))
  obtain ⟨tyP, dP, hdP, hdnP⟩ := Cond.laysAt hf1 hk Y.supp (q (.lays ax_EX Bundle.tN "suppressedExceptions" Bundle.listD) (by simp [ax_tail]))
  obtain ⟨tyM, dM, hdM, hdnM⟩ := Cond.laysAt hf1 hk hffM (q (.lays ax_EX Bundle.tN "detailMessage" "Ljava/lang/String;") (by simp [ax_tail]))
  obtain ⟨tyB, dB, hdB, hdnB⟩ := Cond.laysAt hf1 hk hffB (q (.lays ax_EX Bundle.tN "backtrace" "Ljava/lang/Object;") (by simp [ax_tail]))
  have bC := Cond.laysApart hdB hdC hdnB hdnC (by rw [hnB, Y.causeName]; decide)
  have bS := Cond.laysApart hdB hdS hdnB hdnS (by rw [hnB, Y.stackName]; decide)
  have bP := Cond.laysApart hdB hdP hdnB hdnP (by rw [hnB, Y.suppName]; decide)
  have hskip : SkipFacts T e.platform s (fun u => u) u0 ((preparedCellV T.toThrowableT (freshCell P1.m.cls kX) a u0 sen).withEntry W.cur) :=
    ⟨{ ci198 := ci9, i198 := i9, fBack := fB }, ⟨hk9, hg9, ha9, hsB⟩, by
      have := fresh_default (c := P1.m.cls) tyB
      rw [htB] at this
      simpa [preparedCellV, Cell.setSlot, Cell.withEntry, Array.getElem?_setIfInBounds, bC, bS, bP, bC.symm, bS.symm, bP.symm, defaultValue] using this, fun _ _ => rfl⟩
  obtain ⟨tm, mC, cdC, kC, vm₁, hnC, -, -, -, -, -, -, -, hW₁, st1⟩ := Steps.initColdS (tb := p.tables) (e := e) (below := below) (s := s) (U := W) X.here hexec X.warmed hpl hown (t := Bundle.initS ax_EX) rfl rfl (by decide)
    (q (.methodLink own ic (Bundle.initS ax_EX)) (by simp [ax_tail])) (hC (.instanceMethod (Bundle.initS ax_EX)) (by simp [Bundle.passSAtoms])) (bytes := ax_b1) (maxL := 2) (hC (.code (Bundle.initS ax_EX) ax_b1 2 none) (by simp [Bundle.passSAtoms]))
    (f := g) hg (a := a) (msg := msg) (rest := .ref a :: rest) hstack hd6
  cases Option.some.inj (hnC.symm.trans hP1)
  have hlk1 : P1.sup = P2.m := Option.some.inj (hS1.symm.trans hP2)
  obtain ⟨vm₂, X₂, st2⟩ := (X.noted hW₁).ctorMessageOffV hexec (g := { g with stack := .ref a :: rest }) hg hsize T L Z LZ M LM (P1 :: P2 :: Ps)
    (fun P hP => by
      rcases List.mem_cons.mp hP with rfl | hP
      · exact L1
      · rcases List.mem_cons.mp hP with rfl | hP
        · exact L2
        · exact hL2 P hP) ⟨hlk1, hlk2, hlk3⟩ (u0 := u0) (sen := sen) (self := a) hmsg (cell := freshCell P1.m.cls kX) (cellS := cS)
    hcell (fun _ => by simp) (by simp) rfl rfl hs0 hs1 hcS hne hkn (by rw [hkeep _ (ho _)]; exact hu0) (by rw [hkeep _ (ho _)]; exact hsen)
    (Takes.of_laid hk hord tyC (by rw [Y.causeType]; rfl)) (Takes.of_laid hk hord tyS (by rw [Y.stackType]; exact fits_refV_array _ u0)) (Takes.of_laid hk hord tyP (by rw [Y.suppType]; exact fits_refV_object _ sen))
    (Takes.of_laid hk hord tyM (by rw [Y.msgType]; exact fits_refV_object _ ⟨msg, hmsg⟩)) Y.objLocals hskip htr [] hd6
    (by simp only [List.length_cons, hlen, List.length_nil]; omega) (by simp only [List.length_cons, hlen, List.length_nil]; omega)
  obtain ⟨hwalk, hrun, hended, hWU, hsame⟩ := X₂.athrowLeaves hexec (g := { g with stack := .ref a :: rest, pc := g.pc + 3 }) hg hlocked hentered hout (a := a) (rest := rest) rfl hd9 hlocks
  have hlt : a < ((W.setVm vm₁).setVm vm₂).heap.size := (Array.getElem?_eq_some_iff.mp hcell).1
  have hU := heapAt_setCell_self (s := (W.setVm vm₁).setVm vm₂) (plainBareV T.toThrowableT (freshCell P1.m.cls kX) a u0 sen msg) hlt
  refine ⟨_, st1 _ (fun acts => ?_), hrun, hended, hWU, hsame.weaken (fun y hy hy2 => ?_) (Nat.le_refl _) (Nat.le_refl _), _, hU, rfl, hf1⟩
  · rw [doInvoke_state]
    exact st2 _ hwalk
  · rcases List.mem_append.mp hy with h1 | h1
    · exact h1
    · have hb : y.base = a := by
        simp only [List.mem_cons, List.not_mem_nil, or_false] at h1
        rcases h1 with rfl | rfl | rfl | rfl | rfl <;> rfl
      rw [hb] at hy2
      exact absurd hy2 (Nat.not_lt.mpr hnew)
end AXT2
end
section
/-! the printed law of a throw, for NoSuchElementException (began as vx_throwS of the printed names) -/
section AXT3
variable {p : Program} {l : Launch} {e : Env} {R : Room} {s : State} {m : MethodId} {args : Array Value} {below : List Frame} {meth : Method} {c : Code} {H : Heap} {locs : List Loc} {cells slots : Nat} {Q : State → Prop}
variable {mc ms : Nat} {free : Addr → Prop} {A0 A1 : Nat → Prop} {H0 : Heap} {a : Array Value} {ls : Array Slot} {st0 rest : List Value}
variable {Qc : Array Value → State → Outcome → State → Prop} {XC : String → State → State → Prop}
theorem ax_throwN {cc : ByteArray} {pc : Nat} (hexec : p.tables.exec = Jvm.exec) (hb : c.code = cc) (hl : l.stackTraces = false) {own text : String} {ik is ic mc ms sa : Nat} {A : Nat → Prop}
    (hown : s.vm.findClass own = some m.cls) 
    (hk : (Cond.classLink own ik ax_EX).before args s = true) (hini : (Cond.initialized ax_EX).before args s = true) (hstr : vk_R own is text sa s) (hat : ∀ w ∈ (ax_atoms own ic).filter vx_no, w.before args s = true)
    (hgood : ∀ w ∈ Cond.classLink own ik ax_EX :: Cond.initialized ax_EX :: (ax_atoms own ic).filter vx_no, vx_ot w = true)
    (hU : vx_Zq Bundle.tN "UNASSIGNED_STACK" Bundle.steD A s s.heap) (hN : vx_Zq Bundle.tN "SUPPRESSED_SENTINEL" Bundle.listD A s s.heap) (hS : va_S A s.heap H locs) (hsize : ls.size = c.maxLocals)
    (d0 : decode cc pc = .ok (.new ik, 3)) (d3 : decode cc (pc + 3) = .ok (.dup, 1)) (d4 : decode cc (pc + 4) = .ok (.ldc is, 2)) (d6 : decode cc (pc + 6) = .ok (.invokespecial ic, 3)) (d9 : decode cc (pc + 9) = .ok (.athrow, 1))
    (hout : ∀ x ∈ c.exceptionTable.toList, covers x (pc + 9) = false)
    (hRframes : 5 < R.frames) (hRlocals : (rest.map fun v => v.category).sum + (82) ≤ R.locals) (hRcells : cells + 1 ≤ R.cells) (hRslots : slots + 6 ≤ R.slots) (hlocks : meth.locks = false)
    (hx : ∀ t : State, s.vm.Alike t.vm → H.size ≤ t.heap.size → (∀ q : Nat, q < H.size → t.heap[q]? = H[q]?) → XC ax_EX s t)
    (hf : ∀ z ∈ locs, free z.base) (hc : cells + 1 ≤ mc) (hs : slots + 6 ≤ ms) :
    W p l e R s m args below meth c H locs cells slots (vx_MQ below Qc XC args s mc ms free) (F0 m pc ls rest) := by
  intro T hT X
  have htr : e.platform.stackTraces = false := (show e.platform.stackTraces = l.stackTraces by rw [X.admits.platform]).trans hl
  have Y := vx_rebase X (R' := { frames := R.frames, locals := R.locals, cells := 1, slots := 6 }) (Nat.le_refl _) (Nat.le_refl _) hRcells hRslots
  obtain ⟨s', hA⟩ : ∃ z, z = (T.setVm s.vm).setFrames (.invoking m args :: below) := ⟨_, rfl⟩
  rw [← hA] at Y
  have hvm : s'.vm = s.vm := by rw [hA]; rfl
  have hhp : s'.heap = H := by rw [hA]; exact hT
  have hW0 : s.WarmedH s'.vm := by rw [hvm]; exact State.WarmedH.refl s
  have hat' : ∀ w ∈ (ax_atoms own ic).filter vx_no, w.before args s' = true := fun w hw => vx_ot_at hW0 hvm.symm (hgood w (List.mem_cons_of_mem _ (List.mem_cons_of_mem _ hw))) (hat w hw)
  have hk' : (Cond.classLink own ik ax_EX).before args s' = true := vx_ot_at hW0 hvm.symm (hgood _ List.mem_cons_self) hk
  have hini' : (Cond.initialized ax_EX).before args s' = true := vx_ot_at hW0 hvm.symm (hgood _ (List.mem_cons_of_mem _ List.mem_cons_self)) hini
  have hU' : vx_Zq Bundle.tN "UNASSIGNED_STACK" Bundle.steD A s' s'.heap := by rw [hhp]; exact vx_Zq.moved hW0.alike (hU.kept hS.2.1)
  have hN' : vx_Zq Bundle.tN "SUPPRESSED_SENTINEL" Bundle.listD A s' s'.heap := by rw [hhp]; exact vx_Zq.moved hW0.alike (hN.kept hS.2.1)
  have h : ∀ w ∈ ax_atoms own ic, w.before args s' = true := vx_own hat' (vx_isRefq hU'.1) (vx_isRefq hN'.1) hU'.2.word hN'.2.word
  have hown' : s'.vm.findClass own = some m.cls := by rw [hvm]; exact hown
  have hins : (Cond.instantiable ax_EX 6).before args s' = true := h _ (by simp [ax_atoms, ax_tail])
  obtain ⟨vm₁, cX, kX, hfX, hkX, -, -, X₁, st1⟩ := Y.newCold hexec (own := own) (C := ax_EX) (index := ik) (n := 6) hown' hk' hins hini'
    (g := F0 m pc ls rest) rfl (by rw [hb]; exact d0) (Nat.le_refl _) (Nat.le_refl _)
  generalize hT1 : (T.setVm vm₁).pushCell { cls := cX, slots := kX.instanceTypes.map defaultValue, vm := .none } = T1 at X₁ st1
  have hcat : (Value.ref T.heap.size).category = 1 := rfl
  have hcellA : T1.heap[T.heap.size]? = some (freshCell cX kX) := by rw [← hT1]; exact State.heap_pushCell_size _ _
  have d3' : decode c.code (pc + 3) = .ok (.dup, 1) := by rw [hb]; exact d3
  have d4' : decode c.code (pc + 4) = .ok (.ldc is, 2) := by rw [hb]; exact d4
  have hstr' : vk_R own is text sa s' := vk_R.warm hW0 hstr
  obtain ⟨U, hsteps, hrun, hend, hW, hsame, ce, hce, hOv, hOc⟩ := ax_ctor X₁ hexec htr (own := own) (ic := ic) hown' h (fun x hx => nomatch hx) hfX hkX hcellA (by rw [hhp, hT]; exact Nat.le_refl _) (msg := .ref sa) rfl
    (g := { method := m, pc := pc + 6, locals := ls, stack := .ref sa :: .ref T.heap.size :: .ref T.heap.size :: rest, locked := none }) rfl hsize rfl rfl (rest := rest) rfl
    (by rw [hb]; exact d6) (by rw [hb]; exact d9) hout hRframes (by simp only [List.map_cons, List.sum_cons, hcat]; omega) hlocks
  obtain ⟨f1, f2⟩ := vx_frame hsame
  rw [hhp] at f1 f2
  have hWs : s.WarmedH U.vm := State.WarmedH.trans hW0 hW
  have hcl : s.vm.findClass ax_EX = some ce.cls := by
    have h9 := hOc
    rw [hvm] at h9
    exact h9
  have hall : s.sameButNew ({ U with vm := s.vm } : State) locs mc ms := by
    subst hA
    obtain ⟨e1, e2⟩ := hsame
    rw [State.setFrames_setFrames] at e1
    have h2 : (T.setVm s.vm).sameButNew ({ U with vm := s.vm } : State) [] (0 + 1) (0 + 6) := ⟨e1, e2⟩
    have h3 := X.same.trans h2
    rw [List.append_nil] at h3
    exact h3.mono hc hs
  refine ⟨U, ?_, .threw T.heap.size, hrun, hend, Or.inr ⟨T.heap.size, rfl, ax_EX, ce, locs, hx U hWs.alike f1 (fun q hq => f2 q hq (fun z hz => nomatch hz)), hce, hOv, hcl, hWs, hall, hf⟩⟩
  refine st1 _ ?_
  show Steps p.tables e below (T1.setTop { method := m, pc := pc + 3, locals := ls, stack := .ref T.heap.size :: rest, locked := none }) _
  jvm_step X₁.here [X₁.here.top, hexec, d3', Value.category]
  exact X₁.ldcString hexec (own := own) (text := text) (index := is) (a := sa) hown' hstr'.1 hstr'.2
    (g := { method := m, pc := pc + 4, locals := ls, stack := .ref T.heap.size :: .ref T.heap.size :: rest, locked := none }) rfl d4' _ hsteps
end AXT3
end
section
/-! out(i) OF A NEW OBJECT THROWS, AND THE LAW'S out CATCHES IT -/
section AXO
set_option maxRecDepth 100000 in
theorem ax_outcode : lw_tbl[1199]? = some (.code yX11_out cX11_out 2 (some .int)) := rfl
set_option maxRecDepth 100000 in
theorem ax_loutcode : lw_tbl[1194]? = some (.codeWith yL_out cL_out 4 (some .int) [(0, 9, 12, 13)]) := rfl
theorem dO_0 : decode cX11_out 0 = .ok (.iload_n 1, 1) := by decide +kernel
theorem dO_1 : decode cX11_out 1 = .ok (.ifCond .lt 11, 3) := by decide +kernel
theorem dO_4 : decode cX11_out 4 = .ok (.iload_n 1, 1) := by decide +kernel
theorem dO_5 : decode cX11_out 5 = .ok (.aload_n 0, 1) := by decide +kernel
theorem dO_6 : decode cX11_out 6 = .ok (.getfield 139, 3) := by decide +kernel
theorem dO_9 : decode cX11_out 9 = .ok (.if_icmp .lt 13, 3) := by decide +kernel
theorem dO_12 : decode cX11_out 12 = .ok (.new 168, 3) := by decide +kernel
theorem dO_15 : decode cX11_out 15 = .ok (.dup, 1) := by decide +kernel
theorem dO_16 : decode cX11_out 16 = .ok (.ldc 170, 2) := by decide +kernel
theorem dO_18 : decode cX11_out 18 = .ok (.invokespecial 172, 3) := by decide +kernel
theorem dO_21 : decode cX11_out 21 = .ok (.athrow, 1) := by decide +kernel
theorem dP_0 : decode cL_out 0 = .ok (.aload_n 2, 1) := by decide +kernel
theorem dP_1 : decode cL_out 1 = .ok (.iconst 0, 1) := by decide +kernel
theorem dP_2 : decode cL_out 2 = .ok (.aload_n 0, 1) := by decide +kernel
theorem dP_3 : decode cL_out 3 = .ok (.iload_n 1, 1) := by decide +kernel
theorem dP_4 : decode cL_out 4 = .ok (.invokevirtual 7, 3) := by decide +kernel
theorem dP_12 : decode cL_out 12 = .ok (.astore_n 3, 1) := by decide +kernel
theorem dP_13 : decode cL_out 13 = .ok (.iconst 1, 1) := by decide +kernel
theorem dP_14 : decode cL_out 14 = .ok (.ireturn, 1) := by decide +kernel
def ax_thB : List Cond := [.castable ax_EX ax_EX, .declares (Bundle.initS ax_RT), .declares (Bundle.initS "java/lang/Exception"), .declares (Bundle.initS Bundle.tN)]
theorem ax_thr_in : ∀ w ∈ ((ax_atoms RX11 172).filter vx_no).filter goodWord, w ∈ lw_tbl := by decide +kernel
theorem ax_thr_no : ∀ w ∈ ((ax_atoms RX11 172).filter vx_no).filter (fun w => !goodWord w), w ∈ ax_thB := by decide +kernel
theorem ax_thr_ot : ∀ w ∈ Cond.classLink RX11 168 ax_EX :: Cond.initialized ax_EX :: (ax_atoms RX11 172).filter vx_no, vx_ot w = true := by decide +kernel
theorem ax_thr_W : ∀ w ∈ ((ax_atoms RX11 172).filter vx_no).filter goodWord, w ∈ ax_W := fun w h => List.mem_filter.mpr ⟨ax_thr_in w h, (List.mem_filter.mp h).2⟩
theorem ax_thB_tab : ∀ w ∈ ax_thB, w.onTables = true := by decide +kernel
theorem ax_thB_in : ∀ w ∈ ax_thB, w ∈ lw_tbl := by decide +kernel
theorem ax_thB_warm {s U : State} (hW : s.WarmedH U.vm) (h : ∀ w ∈ ax_thB, va_Nw w s) : ∀ w ∈ ax_thB, va_Nw w U := by
  intro w hw
  have h1 := h w hw
  simp only [ax_thB, List.mem_cons, List.not_mem_nil, or_false] at hw
  rcases hw with rfl | rfl | rfl | rfl
  · exact va_Nw.warmC hW h1
  · exact va_Nw.warmD hW h1
  · exact va_Nw.warmD hW h1
  · exact va_Nw.warmD hW h1
theorem ax_w1 : Cond.classLink RX11 168 ax_EX ∈ ax_W := List.mem_filter.mpr ⟨by decide +kernel, by decide⟩
theorem ax_w2 : Cond.initialized ax_EX ∈ ax_W := List.mem_filter.mpr ⟨by decide +kernel, by decide⟩
theorem ax_w3 : Cond.classLink RL 13 ax_EX ∈ ax_W := List.mem_filter.mpr ⟨by decide +kernel, by decide⟩
theorem ax_w4 : Cond.methodLink RL 7 yX11_out ∈ ax_W := List.mem_filter.mpr ⟨by decide +kernel, by decide⟩
theorem ax_w5 : Cond.methodLink RL 38 yL_out ∈ ax_W := List.mem_filter.mpr ⟨by decide +kernel, by decide⟩
theorem ax_w6 : Cond.static yL_out ∈ ax_W := List.mem_filter.mpr ⟨by decide +kernel, by decide⟩
theorem ax_w7 : Cond.initialized RL ∈ ax_W := List.mem_filter.mpr ⟨by decide +kernel, by decide⟩
theorem ax_w8 : Cond.initialized RX11 ∈ ax_W := List.mem_filter.mpr ⟨by decide +kernel, by decide⟩
theorem ax_w9 : Cond.instanceMethod yX11_out ∈ ax_W := List.mem_filter.mpr ⟨by decide +kernel, by decide⟩
theorem ax_w10 : Cond.selects RX11 yX11_out yX11_out ∈ ax_W := List.mem_filter.mpr ⟨by decide +kernel, by decide⟩
def ax_PO (D : va_G) (vs : List Value) (ws : va_W) (tys : List (ClassId × FieldType)) (sz sa : Nat) : Array Value → State → Prop := fun a U =>
  ax_Pc D vs ws tys sz a U ∧ (∀ w ∈ ax_thB, va_Nw w U) ∧ vk_R RX11 170 "no such byte" sa U ∧ vx_Zq Bundle.tN "UNASSIGNED_STACK" Bundle.steD (va_A ws sz) U U.heap ∧ vx_Zq Bundle.tN "SUPPRESSED_SENTINEL" Bundle.listD (va_A ws sz) U U.heap
theorem ax_blindO {D : va_G} {vs : List Value} {ws : va_W} {tys : List (ClassId × FieldType)} {sz sa : Nat} : FrameBlind (ax_PO D vs ws tys sz sa) := by
  intro a U g mk q
  obtain ⟨q0, q1, q2, q3, q4⟩ := q
  exact ⟨ax_blind a U g mk q0, fun w hw => va_Nw.same (u := U) (U := U.calling g mk a) (ax_thB_tab w hw) rfl (q1 w hw), vk_R.same (u := U) (U := U.calling g mk a) rfl q2, vx_Zq.moved (u := U) (U := U.calling g mk a) (Vm.Alike.refl U.vm) q3, vx_Zq.moved (u := U) (U := U.calling g mk a) (Vm.Alike.refl U.vm) q4⟩
set_option maxHeartbeats 4000000 in
theorem ax_out_c (l : Launch) (hfl : l.stackTraces = false) (D : va_G) (a : Nat) (p0 : Int32) (ws : va_W) (tys : List (ClassId × FieldType)) (sz sa : Nat) (fs : List Value) (hw0 : ws[0]? = some (a, .inr (9, fs))) (hf0 : fs[14]? = some (.int 0)) :
    vx_Met l yX11_out (.code yX11_out cX11_out 2 (some .int) :: ax_W) { frames := 6, cells := 1, slots := 6, locals := 90 } (ax_PO D [.ref a, .int p0] ws tys sz sa) (va_Qi (S := Unit) (fun _ _ => False) (fun _ _ => True) (fun _ => False)) (vx_X (S := Unit) (fun _ => True) (fun E _ _ => E = ax_EX) (fun _ => False)) 1 6 (va_A ws sz) := by
  refine vx_ofW (cc := cX11_out) (maxL := 2) (ret := some .int) (by decide) rfl ?_
  intro p e s m args below meth c s₁ B hml hnx hv
  obtain ⟨⟨rfl, hsz, hP, hK, hD0, hN, hAO⟩, hcast, hstr, hU, hNn⟩ := hv
  have hx := B.exec
  have hb := B.bytes
  have hts0 := atoms_spec (ws := .code yX11_out cX11_out 2 (some .int) :: ax_W) B.pre
  have hts : ∀ w ∈ ax_W, w.before ([.ref a, .int p0] : List Value).toArray s = true := fun w hw => hts0 w (List.mem_cons_of_mem _ hw)
  have hown : s.vm.findClass RX11 = some m.cls := findClass_of_methodNamed B.named
  have hlocks := B.notSynchronized
  subst hsz
  have hS : va_S (va_A ws s.heap.size) s.heap s.heap [] := va_S.rf
  have hl := lv_entry ([.ref a, .int p0]) (n := 2) (Nat.le_of_ble_eq_true rfl)
  rw [lg_entry_eq]
  generalize (lg_sl ([.ref a, .int p0]) ++ List.replicate (2 - (lg_sl ([.ref a, .int p0])).length) Slot.unset).toArray = ls at hl ⊢
  have hl : lv_has ls 2 [(0, .ref a), (1, .int p0)] := hl
  have thr : W p l e (headSpec (.code yX11_out cX11_out 2 (some .int) :: ax_W) { frames := 6, cells := 1, slots := 6, locals := 90 }).room s m ([.ref a, .int p0] : List Value).toArray below meth c s.heap [] 0 0 (vx_MQ below (va_Qi (S := Unit) (fun _ _ => False) (fun _ _ => True) (fun _ => False)) (vx_X (S := Unit) (fun _ => True) (fun E _ _ => E = ax_EX) (fun _ => False)) ([.ref a, .int p0] : List Value).toArray s 1 6 (va_A ws s.heap.size)) (F0 m 12 ls []) := by
    refine ax_throwN (own := RX11) (text := "no such byte") (ik := 168) (is := 170) (ic := 172) (sa := sa) (A := va_A ws s.heap.size) hx hb hfl hown (hts _ ax_w1) (hts _ ax_w2) hstr ?_ ax_thr_ot hU hNn hS (by rw [hml]; exact hl.1) dO_12 dO_15 dO_16 dO_18 dO_21 (fun x hx9 => (hnx x hx9).elim) (by decide) (by decide) (by decide) (by decide) hlocks ?_ (fun z h => by cases h) (by decide) (by decide)
    · exact vx_hat (fun w h => hts w (ax_thr_W w h)) ax_thr_no (fun w hw => va_Nw.use (ax_thB_tab w hw) (hcast w hw))
    · intro t _ h1 h2
      exact ⟨(), trivial, rfl, h1, fun q hq _ => h2 q hq⟩
  refine lv_iload_n hx hb dO_0 rfl (lv_at hl 1 rfl) ?_
  refine lv_if_lt (tgt := 12) hx hb dO_1 (by decide) (fun c1 => thr) (fun c1 => ?_)
  refine lv_iload_n hx hb dO_4 rfl (lv_at hl 1 rfl) ?_
  refine lv_aload_n hx hb dO_5 rfl (lv_at hl 0 rfl) ?_
  obtain ⟨z, f1, f2, f3⟩ := ax_fld_ok (o := 11) (i := 139) (ci := 9) (k := 14) (q := ((ax_fld 11 139).getD (0, 0, 0)).2.2) (by decide +kernel)
  refine va_get (C := z.1) (T := z.2.1) (N := z.2.2) (ref := (z.2.1 14).1) hx hb hts (ax_cl 9 z f1).1 hown hK hP 0 hw0 f1 14 f2 (hts _ f3) (fun _ h9 => h9) hf0 dO_6 ?_
  exact lv_icmp_lt (tgt := 22) hx hb dO_9 (by decide) (fun c2 => absurd c2 c1) (fun _ => thr)
theorem ax_keepP {D : va_G} {ws : va_W} {H H1 : Heap} (hP : va_P D vwCl ws H) (hk : ∀ q : Nat, q < H.size → ¬ (fun _ : Nat => False) q → H1[q]? = H[q]?) : va_P D vwCl ws H1 := hP.kept (fun k q hq => hk q.1 (hP k q hq).lt (fun h => h))
theorem ax_lo_tab : tableOf [(0, 9, 12, 13)] = [{ startPc := 0, endPc := 9, handlerPc := 12, catchType := 13 }] := rfl
set_option maxHeartbeats 4000000 in
theorem ax_lout_c (l : Launch) (hfl : l.stackTraces = false) (D : va_G) (a o3 : Nat) (p0 : Int32) (ws : va_W) (tys : List (ClassId × FieldType)) (sz sa : Nat) (fs : List Value) (hw0 : ws[0]? = some (a, .inr (9, fs))) (hf0 : fs[14]? = some (.int 0)) :
    Met l yL_out (.codeWith yL_out cL_out 4 (some .int) [(0, 9, 12, 13)] :: ax_W) { frames := 7, cells := 1, slots := 6, locals := 120 } (ax_PO D [.ref a, .int p0, .ref o3] ws tys sz sa) (va_Qi (S := Unit) (fun r _ => r = 1) (fun _ t => va_P D vwCl ws t.heap ∧ va_K D vwCl tys t) (va_A ws sz)) 1 6 (va_A ws sz) := by
  refine va_MetW (cc := cL_out) (maxL := 4) (ret := some .int) (by decide) rfl ?_
  intro p e s m args below meth c s₁ B hml hv
  obtain ⟨⟨rfl, hsz, hP, hK, hD0, hN, hAO⟩, hcast, hstr, hU0, hNn⟩ := hv
  have hx := B.exec
  have hb := B.bytes
  have hr := B.returns
  have hts0 := atoms_spec (ws := .codeWith yL_out cL_out 4 (some .int) [(0, 9, 12, 13)] :: ax_W) B.pre
  have hts : ∀ w ∈ ax_W, w.before ([.ref a, .int p0, .ref o3] : List Value).toArray s = true := fun w hw => hts0 w (List.mem_cons_of_mem _ hw)
  have htab := vx_table (x := yL_out) B (hts0 _ List.mem_cons_self)
  rw [ax_lo_tab] at htab
  have hown : s.vm.findClass RL = some m.cls := findClass_of_methodNamed B.named
  have hlocks := B.notSynchronized
  subst hsz
  have hA : ∀ q : Nat, s.heap.size ≤ q → va_A ws s.heap.size q := fun q h => Or.inr h
  have hS : va_S (va_A ws s.heap.size) s.heap s.heap [] := va_S.rf
  have hl := lv_entry ([.ref a, .int p0, .ref o3]) (n := 4) (Nat.le_of_ble_eq_true rfl)
  rw [lg_entry_eq]
  generalize (lg_sl ([.ref a, .int p0, .ref o3]) ++ List.replicate (4 - (lg_sl ([.ref a, .int p0, .ref o3])).length) Slot.unset).toArray = ls at hl ⊢
  have hl : lv_has ls 4 [(0, .ref a), (1, .int p0), (2, .ref o3)] := hl
  refine lv_aload_n hx hb dP_0 rfl (lv_at hl 2 rfl) ?_
  refine lv_iconst (v := 0) hx hb dP_1 (by decide) ?_
  refine lv_aload_n hx hb dP_2 rfl (lv_at hl 0 rfl) ?_
  refine lv_iload_n hx hb dP_3 rfl (lv_at hl 1 rfl) ?_
  have hgood : GoodIn ax_W (.code yX11_out cX11_out 2 (some .int) :: ax_W) := by
    intro w hw
    have h1 : w ∈ ax_W := by
      rcases List.mem_cons.mp hw with rfl | h
      · exact ax_in _ ax_outcode (by decide)
      · exact h
    exact ⟨h1, good_of_word (List.mem_filter.mp h1).2⟩
  refine vx_calli (vx_runV (As := [.int p0]) (rest := [.int 0, .ref o3]) (C := RX11) ⟨hx, hb, hml, hown, hts⟩ (ax_out_c l hfl D a p0 ws tys s.heap.size sa fs hw0 hf0)
    ⟨callB_of 1 hts hgood rfl rfl rfl (hts _ ax_w8) (hts _ ax_w4) (by decide +kernel) ⟨by decide, by decide⟩, hts _ ax_w9, hts _ ax_w10⟩
    ⟨ax_blindO, va_recv hK hP (ci := 9) rfl hw0, fun U hU hW => ⟨⟨rfl, by rw [hU], by rw [hU]; exact hP, va_K.moved hW.alike hK, hD0, ax_nest_warm hW hN, va_AO.moved hW.alike hAO⟩, ax_thB_warm hW hcast, vk_R.warm hW hstr, by rw [hU]; exact vx_Zq.moved hW.alike hU0, by rw [hU]; exact vx_Zq.moved hW.alike hNn⟩⟩
    rfl rfl hl.1 rfl (lv_room (Nat.le_of_ble_eq_true rfl)) dP_4 ⟨by decide, by decide⟩) hS (fun q _ h => h.elim) (fun q h => h) (fun q _ h => h.elim) (fun E ce q9 u t H1 locs1 ht hal _ hE hz hk hS1 hce hcv hcl => ?_) (fun r u t H1 locs1 ht hal hr0 => hr0.elim)
  subst hE
  have hP1 := ax_keepP hP hk
  refine ax_catch1 (own := RL) (name := ax_EX) (E := ax_EX) hown _ htab (by decide) (by decide) (hts _ ax_w3) (va_Nw.use rfl (hcast _ List.mem_cons_self)) hce hcv hcl ?_
  refine lv_astore_n (lv' := [(3, .ref q9), (0, .ref a), (1, .int p0), (2, .ref o3)]) hx hb dP_12 rfl hl (by decide) rfl (fun ls hl => ?_)
  refine lv_iconst (v := 1) hx hb dP_13 (by decide) ?_
  exact W.zret (ty := .int) hx hb hr rfl (fun tt h1 h2 => ⟨⟨1, (), rfl, rfl, by rw [h1]; exact hP1, va_K.moved h2.alike hK⟩, hS1.F h1⟩) hS1.2.2 dP_14
end AXO
end
section
/-! THE CLAIM OUT OF ONE WALK OF THE LAW'S BODY. Your part is whole_start (and what it stands on); all else here is the same for every law, but numbers. -/
def R_law : String := "SymmetryHouseLaw"
def lw_P (b : Addr) (xs : List Int32) (args : Array Value) (s : State) : Prop := args = #[.ref b] ∧ s.IntsAt b xs ∧ xs.length ≤ 8 ∧ (Jvm.Cond.and given_1 narrow_1).before args s = true
def lw_Q (_ : Array Value) (s : State) (o : Outcome) (t : State) : Prop := o = .returned (some (.int 1)) ∧ Framed s o t [] 600002 7302232
def lw_Z (below : List Frame) (a : Array Value) (s : State) : State → Prop := fun t => ∃ o, t.status = .running ∧ Ended t below o ∧ lw_Q a s o t
/-- the law's own end, with 1 on the stack, nothing written that was there before, its room as the claim has it -/
theorem lw_ret {p : Program} {l : Launch} {e : Env} {s : State} {m : MethodId} {below : List Frame} {meth : Method} {c : Code} {b : Nat} (hx : p.tables.exec = Jvm.exec) (hb : c.code = code) (hr : meth.sig.returnType = ret) (hlocks : meth.locks = false) {pc : Nat} {H : Heap} {ls : Array Slot} (hdg : decode code pc = .ok (.ireturn, 1)) : W p l e room_1 s m #[Value.ref b] below meth c H [] 600002 7302232 (lw_Z below #[Value.ref b] s) (F0 m pc ls [.int 1]) := by
  intro T hT X
  obtain ⟨fs, hret, hrun, hended, hW, hframe⟩ := X.leave (v := some (.int 1)) (hlocks := hlocks) (fun h => by rw [hr] at h; cases h)
  have hmeth' : T.vm.method? m = some meth := X.method'
  refine ⟨T.setFrames fs, ?_, .returned (some (.int 1)), hrun, hended, rfl, ⟨_, rfl⟩, hW, hframe⟩
  jvm_step X.here [X.here.top, hx, hb, hdg, hmeth', hr, ret, narrow_b1]
  (try refine ⟨rfl, ?_⟩); (try refine ⟨rfl, ?_⟩)
  first | (intro acts; rw [hret _ acts rfl rfl rfl]) | rw [hret _ _ rfl rfl rfl]
  exact Steps.refl _
/-- what holds at the law's entry: the machine, the code, the tables' words (any of lw_tbl by 'hts w (by decide +kernel)'), the script of L ints xs at the cell b, what the Statement gives of the start (any of its parts by flat_of_before) -/
def lw_At (p : Program) (s : State) (m : MethodId) (meth : Method) (c : Code) (b L : Nat) (xs : Nat → Int32) : Prop :=
  p.tables.exec = Jvm.exec ∧ c.code = code ∧ meth.sig.returnType = ret ∧ c.maxLocals = 7 ∧ s.vm.findClass R_law = some m.cls ∧ (∀ w ∈ lw_tbl, w.before #[Value.ref b] s = true) ∧ va_X b L xs s s.heap ∧ b < s.heap.size ∧ meth.locks = false ∧ (Jvm.Cond.and given_1 narrow_1).before #[Value.ref b] s = true
end
section
/-! THE LAW -/
section AXLAW
theorem dL_ret : decode code 1372 = .ok (.ireturn, 1) := by decide +kernel
theorem dL_364 : decode code 364 = .ok (.invokestatic 38, 3) := by decide +kernel
theorem ax_ends_ok {r : Option (List ax_S)} (h : ax_ends r = true) : ∃ l, r = some l ∧ ∀ S ∈ l, ax_lend S = true := by
  unfold ax_ends at h
  split at h
  · rename_i l2
    exact ⟨l2, rfl, fun S hS => List.all_eq_true.mp h S hS⟩
  · cases h
variable {p : Program} {l : Launch} {e : Env} {s : State} {m : MethodId} {below : List Frame} {meth : Method} {c : Code} {D : va_G} {b L : Nat} {γ : Nat → Int} {pv : List Value} {xs : Nat → Int32}
abbrev ax_A (s : State) : Nat → Prop := fun q => s.heap.size ≤ q
theorem ax_lret (C0 : lw_At p s m meth c b L xs) {S : ax_S} (h : ax_lend S = true) : ax_G p l e room_1 s m #[Value.ref b] below meth c (lw_Z below #[Value.ref b] s) D (ax_A s) b γ pv 7 S := by
  obtain ⟨hx, hb, hr, hml, hown, hts, hX, hbl, hlocks, hgv⟩ := C0
  obtain ⟨pc, lv, st, hp, pr, cn⟩ := S
  unfold ax_lend at h
  simp only [Bool.and_eq_true, decide_eq_true_eq] at h
  obtain ⟨rfl, ⟨h1, h2⟩, h3⟩ := h
  intro cv cs ws tys ls H locs M hls hK hP hD hS
  split at h3
  · rename_i a o
    simp only [decide_eq_true_eq] at h3
    obtain ⟨v, cr, rfl, e1, e2⟩ := ax_popk M.2.2.1
    obtain ⟨x, rfl, e3⟩ := ax_ok_i e1.1
    cases cr with
    | cons => exact e2.elim
    | nil =>
    have e4 : x = 1 := by
      have h4 := e3.1
      rw [h3] at h4
      have h5 : (1 : Int32).toInt = 1 := by decide
      dsimp only at h4
      exact Int32.toInt_inj.mp (by omega)
    subst e4
    refine va_forget (fun q hq => hS.2.2 q hq) ?_
    refine W.widen (k := 600002) (n := 7302232) h1 h2 ?_
    exact lw_ret hx hb hr hlocks dL_ret
  · cases h3
theorem ax_lawX (C0 : lw_At p s m meth c b L xs) (L2 : Nat) (hsc : 0 < L2 → L2 = L + 1 ∧ ∀ (j : Nat) (v : Value), pv[j]? = some v → v = .int (xs (γ 0 + j).toNat)) : ax_X p room_1 s m #[Value.ref b] meth c (ax_A s) b γ pv 13 false 7 L2 600002 7302232 9 code xs := by
  obtain ⟨hx, hb, hr, hml, hown, hts, hX, hbl, hlocks, hgv⟩ := C0
  refine ⟨⟨hx, hb, hml, hown, fun w hw => hts w (List.mem_filter.mp hw).1⟩, fun h => absurd h (by decide), ?_, va_AO.of (hts _ (List.mem_of_getElem? ax_aoin)), fun _ h => h, ⟨by decide, by decide, by decide, by decide⟩, fun h => ?_⟩
  · intro w hw
    have h1 : w ∈ lw_tbl := by
      have h2 := hw
      rw [ax_nestin] at h2
      obtain ⟨i, -, hi⟩ := List.mem_filterMap.mp h2
      exact List.mem_of_getElem? hi
    exact va_Nw.of (ax_nest_tab w hw) (hts w h1)
  · obtain ⟨rfl, h2⟩ := hsc h
    exact ⟨hX, hbl, Nat.not_le.mpr hbl, h2⟩
theorem ax_from (C0 : lw_At p s m meth c b L xs) {L2 f : Nat} {S : ax_S} (X : ax_X p room_1 s m #[Value.ref b] meth c (ax_A s) b γ pv 13 false 7 L2 600002 7302232 9 code xs) (h : ax_ends (ax_run (ax_lstp L2) (fun pc => pc == 1372) f [S] []) = true) :
    ax_G p l e room_1 s m #[Value.ref b] below meth c (lw_Z below #[Value.ref b] s) D (ax_A s) b γ pv 7 S := by
  obtain ⟨l2, h1, h2⟩ := ax_ends_ok h
  exact (ax_run_ok X (ax_con l 9) _ _ _ _ h1 (fun S hS => ax_lret C0 (h2 S hS))).1 S List.mem_cons_self
theorem ax_lawout (C0 : lw_At p s m meth c b L xs) (hfl : l.stackTraces = false) (GP : ax_G p l e room_1 s m #[Value.ref b] below meth c (lw_Z below #[Value.ref b] s) D (ax_A s) b γ pv 7 ax_SP) :
    ax_G p l e room_1 s m #[Value.ref b] below meth c (lw_Z below #[Value.ref b] s) D (ax_A s) b γ pv 7 ax_SO := by
  have X := ax_lawX (pv := pv) (γ := γ) C0 0 (fun h => absurd h (by omega))
  obtain ⟨S0, -, hnest, hao, hA, -, -⟩ := X
  obtain ⟨hx, hb, hr, hml, hown, hts, hX, hbl, hlocks, hgv⟩ := C0
  intro cv cs ws tys ls H locs M hls hK hP hD hS
  obtain ⟨v1, cr, rfl, e1, e2⟩ := ax_popk M.2.2.1
  obtain ⟨v2, cr, rfl, e3, e4⟩ := ax_popk e2
  obtain ⟨v3, cr, rfl, e5, e6⟩ := ax_popk e4
  cases cr with
  | cons => exact e6.elim
  | nil =>
  obtain ⟨o3, rfl, -⟩ := ax_ok_r e1.1
  obtain ⟨p0, rfl, -⟩ := ax_ok_i e3.1
  obtain ⟨a, rfl, ra⟩ := ax_ok_r e5.1
  obtain ⟨afs, h0, h14⟩ : ∃ afs, ax_hpH[0]? = some (.inl (9, afs)) ∧ afs[14]? = some (.inl ((0, 0), none)) := ⟨_, rfl, rfl⟩
  obtain ⟨w, e7, e8⟩ := ax_all2_get M.2.2.2 h0
  have e9 := ax_at ra e7
  obtain ⟨vs, e10, e11⟩ := ax_cok_o e8
  rw [e10] at e9
  subst e9
  obtain ⟨v14, g1, g2⟩ := ax_all2_get e11 h14
  obtain ⟨x14, rfl, g3⟩ := ax_ok_i g2
  have g4 : x14 = 0 := by
    have h5 : (0 : Int32).toInt = 0 := by decide
    have h6 := g3.1
    dsimp only at h6
    exact Int32.toInt_inj.mp (by omega)
  subst g4
  have hsf := flat_of_before _ hgv
  have hex : (Cond.exactly (.string "SymmetryHouse" 170) "java/lang/String").before #[Value.ref b] s = true := hsf _ (by decide +kernel)
  obtain ⟨sa, -, -, -, hsa, -⟩ := Cond.exactly_spec hex
  have hstr : vk_R RX11 170 "no such byte" sa s := vk_R.of (A := #[Value.ref b]) (hts _ (by decide +kernel)) hsa
  have hAA : ∀ q : Nat, q < s.heap.size → ¬ ax_A s q := fun q h1 h2 => absurd h1 (Nat.not_lt.mpr h2)
  have hini : (Cond.initialized Bundle.tN).before #[Value.ref b] s = true := hts _ (by decide +kernel)
  have hU : vx_Zq Bundle.tN "UNASSIGNED_STACK" Bundle.steD (ax_A s) s s.heap := vx_Zqof (args := #[Value.ref b]) (hts _ (by decide +kernel)) hini (hsf _ (by decide +kernel)) hAA
  have hN : vx_Zq Bundle.tN "SUPPRESSED_SENTINEL" Bundle.listD (ax_A s) s s.heap := vx_Zqof (args := #[Value.ref b]) (hts _ (by decide +kernel)) hini (hsf _ (by decide +kernel)) hAA
  have hF : ∀ q, va_A ws H.size q → ax_A s q := by
    intro q hq
    rcases hq with ⟨k, e0, hq⟩ | hq
    · exact hD.2 k _ hq
    · exact Nat.le_trans hS.1 hq
  have hgd : GoodIn ax_W (.codeWith yL_out cL_out 4 (some .int) [(0, 9, 12, 13)] :: ax_W) := by
    intro w hw
    have h1 : w ∈ ax_W := by
      rcases List.mem_cons.mp hw with rfl | h
      · exact ax_in _ ax_loutcode (by decide)
      · exact h
    exact ⟨h1, good_of_word (List.mem_filter.mp h1).2⟩
  have hth : ∀ w ∈ ax_thB, va_Nw w s := fun w hw => va_Nw.of (ax_thB_tab w hw) (hts w (ax_thB_in w hw))
  have hsg : ∀ sig, parseMethodDescriptor yL_out.desc = some sig → 3 = sig.parameters.length := by
    intro sig h
    have h9 : (parseMethodDescriptor yL_out.desc).map (fun d => d.parameters.length) = some 3 := by decide +kernel
    rw [h] at h9
    exact (Option.some.inj h9).symm
  refine va_calli (vx_runSW (As := [.ref a, .int p0, .ref o3]) (rest := []) (hh := [(0, 9, 12, 13)]) (bytes := cL_out) (maxL := 4) (ret := some .int) S0 (ax_lout_c l hfl D a o3 p0 ws tys H.size sa vs e7 g1)
    ⟨⟨rfl, rfl, by decide, by decide, pay_in S0.2.2.2.2 hgd, List.mem_cons_self⟩, S0.2.2.2.2 _ (ax_in _ ax_loutcode (by decide)), S0.2.2.2.2 _ ax_w7, by decide, hsg, S0.2.2.2.2 _ ax_w5, S0.2.2.2.2 _ ax_w6⟩
    ⟨ax_blindO, fun U hU2 hW => ⟨⟨rfl, by rw [hU2], by rw [hU2]; exact hP, va_K.moved hW.alike hK, hD.weaken (fun _ _ _ _ => trivial), ax_nest_warm hW hnest, va_AO.moved hW.alike hao⟩, ax_thB_warm hW hth, vk_R.warm hW hstr, by rw [hU2]; exact vx_Zq.moved hW.alike ((hU.kept hS.2.1).narrow hF), by rw [hU2]; exact vx_Zq.moved hW.alike ((hN.kept hS.2.1).narrow hF)⟩⟩
    rfl rfl hls.1 rfl (lv_room (Nat.le_of_ble_eq_true rfl)) dL_364 ⟨by decide, by decide⟩) hS (fun q _ h => hF q h) hF (fun r u t H1 locs1 ht hal hr1 hB hz hk hS1 => ?_)
  subst hr1
  obtain ⟨hP1, hK1⟩ := hB
  rw [ht] at hP1
  exact GP cv [.int 1] ws tys ls H1 locs1 ⟨M.1, M.2.1, ⟨⟨⟨⟨by decide, by decide⟩, fun _ _ h => by cases h⟩, trivial⟩, trivial⟩, M.2.2.2⟩ hls hK hP1 hD hS1
theorem ax_D (hts : ∀ w ∈ lw_tbl, w.before #[Value.ref b] s = true) : ∃ D : va_G, va_K D vwCl [] s := by
  have hW : ∀ w ∈ ax_W, w.before #[Value.ref b] s = true := fun w hw => hts w (List.mem_filter.mp hw).1
  have key : ∀ (k : Nat) (q : vw_C), vwCl[k]? = some q → ∃ (cC : ClassId) (iS : Nat → Nat), u_Kn s q.1 q.2.1 q.2.2 cC iS := by
    intro k q hq
    have hi : Cond.instantiable q.1 q.2.2 ∈ lw_tbl := by
      have h1 : (vwCl.all fun q => lw_tbl.contains (Cond.instantiable q.1 q.2.2)) = true := by decide +kernel
      have h2 := List.all_eq_true.mp h1 q (List.mem_of_getElem? hq)
      simpa using h2
    exact u_known (n := q.2.2) hW (ax_cl k q hq).1 (hts _ hi)
  classical
  refine ⟨(fun k => if h : ∃ q, vwCl[k]? = some q then (key k h.choose h.choose_spec).choose else 0, fun k => if h : ∃ q, vwCl[k]? = some q then (key k h.choose h.choose_spec).choose_spec.choose else fun _ => 0), ?_, fun k q h => by simp at h⟩
  intro k q hq
  have h : ∃ q, vwCl[k]? = some q := ⟨q, hq⟩
  have e : h.choose = q := Option.some.inj (h.choose_spec.symm.trans hq)
  have h2 := (key k h.choose h.choose_spec).choose_spec.choose_spec
  dsimp only
  rw [dif_pos h, dif_pos h]
  rw [← e]
  exact h2
abbrev ax_pv (xs : Nat → Int32) : List Value := (List.range 8).map (fun j => Value.int (xs j))
theorem ax_pv_ok (j : Nat) (v : Value) (h : (ax_pv xs)[j]? = some v) : v = .int (xs ((0 : Int) + (j : Int)).toNat) := by
  rw [List.getElem?_map] at h
  obtain ⟨i, h1, h2⟩ := Option.map_eq_some_iff.mp h
  have h3 : i = j := by
    have h4 := (List.getElem?_eq_some_iff.mp h1)
    obtain ⟨h5, h6⟩ := h4
    rw [List.getElem_range] at h6
    exact h6.symm
  subst h3
  rw [show ((0 : Int) + (i : Int)).toNat = i by omega]
  exact h2.symm
theorem ax_top_ok {γ : Nat → Int} {R : List Nat} (x : Int32) : ax_ok γ R (.inl ((-2147483648, 2147483647), none)) (.int x) := ax_topN_ok γ x
end AXLAW
end
section
/-! whole_start -/
section AXSTART
set_option maxHeartbeats 4000000 in
theorem whole_start {p : Program} {e : Env} {s : State} {m : MethodId} {below : List Frame} {meth : Method} {c : Code} (l : Launch) (hfl : l.stackTraces = false) {b L : Nat} {xs : Nat → Int32} (hL : L ≤ 8) (C0 : lw_At p s m meth c b L xs) : W p l e room_1 s m #[Value.ref b] below meth c s.heap [] 0 0 (lw_Z below #[Value.ref b] s) (entryFrame m ([Value.ref b] : List Value).toArray 7) := by
  obtain ⟨D, hK⟩ := ax_D (s := s) C0.2.2.2.2.2.1
  have GH : ax_G p l e room_1 s m #[Value.ref b] below meth c (lw_Z below #[Value.ref b] s) D (ax_A s) b (fun _ => 0) [] 7 ax_SH := by
    rcases Nat.lt_or_ge L 8 with h8 | h8
    · have hk := List.all_eq_true.mp ax_k_short L (List.mem_range.mpr h8)
      exact ax_from C0 (ax_lawX C0 (L + 1) (fun _ => ⟨rfl, fun j v h => by simp at h⟩)) hk
    · have hL8 : L = 8 := by omega
      subst hL8
      have X : ax_X p room_1 s m #[Value.ref b] meth c (ax_A s) b (fun _ => 0) (ax_pv xs) 13 false 7 9 600002 7302232 9 code xs := ax_lawX C0 9 (fun _ => ⟨rfl, ax_pv_ok⟩)
      have GP := ax_from (l := l) (e := e) (below := below) (D := D) C0 X ax_k_outend
      have GO := ax_lawout C0 hfl GP
      have Gt : ∀ t ∈ ax_tl, ax_G p l e room_1 s m #[Value.ref b] below meth c (lw_Z below #[Value.ref b] s) D (ax_A s) b (fun _ => 0) (ax_pv xs) 7 (ax_SB t) := by
        intro t ht
        simp only [ax_tl, List.mem_cons, List.not_mem_nil, or_false] at ht
        rcases ht with rfl | rfl | rfl | rfl | rfl | rfl | rfl | rfl | rfl | rfl | rfl | rfl | rfl | rfl | rfl | rfl | rfl | rfl | rfl | rfl | rfl | rfl | rfl | rfl | rfl | rfl
        · exact ax_from C0 X ax_k_156
        · exact ax_from C0 X ax_k_229
        · exact ax_from C0 X ax_k_294
        · exact ax_from C0 X ax_k_319
        · exact (ax_run_ok X (ax_con l 9) _ _ _ _ (ax_is_ok ax_k_out) (fun S hS => by cases List.mem_singleton.mp hS; exact GO)).1 _ List.mem_cons_self
        · exact ax_from C0 X ax_k_412
        · exact ax_from C0 X ax_k_449
        · exact ax_from C0 X ax_k_498
        · exact ax_from C0 X ax_k_547
        · exact ax_from C0 X ax_k_596
        · exact ax_from C0 X ax_k_633
        · exact ax_from C0 X ax_k_682
        · exact ax_from C0 X ax_k_719
        · exact ax_from C0 X ax_k_768
        · exact ax_from C0 X ax_k_805
        · exact ax_from C0 X ax_k_866
        · exact ax_from C0 X ax_k_903
        · exact ax_from C0 X ax_k_968
        · exact ax_from C0 X ax_k_1069
        · exact ax_from C0 X ax_k_1095
        · exact ax_from C0 X ax_k_1168
        · exact ax_from C0 X ax_k_1205
        · exact ax_from C0 X ax_k_1230
        · exact ax_from C0 X ax_k_1255
        · exact ax_from C0 X ax_k_1328
        · exact ax_from C0 X ax_k_1365
      have GB : ax_G p l e room_1 s m #[Value.ref b] below meth c (lw_Z below #[Value.ref b] s) D (ax_A s) b (fun _ => 0) (ax_pv xs) 7 (ax_SB 23) := by
        have hk := ax_k_switch
        unfold ax_swk at hk
        split at hk
        · rename_i l2 hl2
          refine (ax_run_ok X (ax_con l 9) _ _ _ _ hl2 (fun S hS => ?_)).1 _ List.mem_cons_self
          have h1 := List.all_eq_true.mp hk S hS
          simp only [Bool.and_eq_true, decide_eq_true_eq] at h1
          have h2 : S = ax_SB S.1 := Prod.ext rfl h1.1
          rw [h2]
          exact Gt _ (by simpa using h1.2)
        · cases hk
      intro cv cs ws tys ls H locs M hls hK hP hD hS
      refine GB cv cs ws tys ls H locs ⟨?_, ?_, ?_, M.2.2.2⟩ hls hK hP hD hS
      · exact ⟨ax_top_ok _, ax_top_ok _, ax_top_ok _, ax_top_ok _, ax_top_ok _, ax_top_ok _, ax_top_ok _, ax_top_ok _, trivial⟩
      · have M2 := M.2.1
        obtain ⟨r4, cv, rfl, a4, M2⟩ := ax_popk M2
        obtain ⟨r3, cv, rfl, a3, M2⟩ := ax_popk M2
        obtain ⟨r2, cv, rfl, a2, M2⟩ := ax_popk M2
        obtain ⟨r1, cv, rfl, a1, M2⟩ := ax_popk M2
        obtain ⟨r0, cv, rfl, a0, M2⟩ := ax_popk M2
        cases cv with
        | cons => exact M2.elim
        | nil =>
        obtain ⟨x, hx4, hx5⟩ := ax_ok_i a4.2.1
        refine ⟨⟨a4.1, ?_, fun j h => by cases h⟩, ⟨a3.1, a3.2.1, fun j h => by cases h⟩, ⟨a2.1, a2.2.1, fun j h => by cases h⟩, ⟨a1.1, a1.2.1, fun j h => by cases h⟩, ⟨a0.1, a0.2.1, fun j h => by cases h⟩, trivial⟩
        rw [hx4]
        refine ⟨hx5.1, fun g2 c2 h => ?_⟩
        have h6 := hx5.1
        dsimp only at h6
        simp at h
        obtain ⟨rfl, rfl⟩ := h
        show x.toInt = (0 : Int) + 0
        omega
      · have M3 := M.2.2.1
        cases cs with
        | cons => exact M3.elim
        | nil => exact trivial
  have X0 := ax_lawX (pv := []) (γ := fun _ => 0) C0 0 (fun h => absurd h (by omega))
  have G0 := (ax_run_ok (l := l) (e := e) (below := below) (Q := lw_Z below #[Value.ref b] s) (D := D) X0 (ax_con l 9) _ _ _ _ (ax_is_ok ax_k_head) (fun S hS => by cases List.mem_singleton.mp hS; exact GH)).1 _ List.mem_cons_self
  have hl := lv_entry ([.ref b]) (n := 7) (Nat.le_of_ble_eq_true rfl)
  rw [lg_entry_eq]
  refine G0 [(0, .ref b)] [] [] [] _ s.heap [] ⟨trivial, ⟨⟨rfl, rfl, fun j h => by cases h⟩, trivial⟩, trivial, trivial⟩ hl hK (fun k q h => by simp at h) ⟨fun i j p q h => by simp at h, fun k q h => by simp at h⟩ va_S.rf
end AXSTART
set_option maxHeartbeats 4000000 in
theorem lw_walk (l : Launch) (hfl : l.stackTraces = false) (b : Addr) (xs : List Int32) : MetFree l x (headSpec (Jvm.Cond.code x code maxLocals ret :: tables_1) room_1) (lw_P b xs) (fun _ _ _ _ _ => True) lw_Q := by
  refine MetFree.of_bodyS (code := code) (maxLocals := maxLocals) (ret := ret) (by decide) ?_ ?_
  · intro args s m h hn
    obtain ⟨meth, c, h1, h2, h3, h4, h5, h6, -, -⟩ := Cond.code_spec hn (atoms_spec (ws := Jvm.Cond.code x code maxLocals ret :: tables_1) h _ List.mem_cons_self)
    exact ⟨meth, c, h1, h2, h3, h4, h5, h6⟩
  · intro p e s m args below meth c s₁ B hml0 hP _
    obtain ⟨rfl, hx, hbd, hgv⟩ := hP
    obtain ⟨scr, harrAt, hlist, hof, hsmall⟩ := hx
    obtain ⟨hcb, hkn, -, -⟩ := State.arrayAt?_spec harrAt
    have hown : s.vm.findClass R_law = some m.cls := findClass_of_methodNamed B.named
    have hts0 : ∀ c ∈ (Jvm.Cond.code x code maxLocals ret :: tables_1), c.before #[Value.ref b] s = true := atoms_spec (ws := Jvm.Cond.code x code maxLocals ret :: tables_1) B.pre
    have hts : ∀ w ∈ lw_tbl, w.before #[Value.ref b] s = true := k2_hts_sels lw_privs (fun w hw => hts0 w (List.mem_cons_of_mem _ hw)) lw_privs_ok
    have hml : c.maxLocals = 7 := B.maxLocals_eq (hts0 _ List.mem_cons_self)
    have X₀ : Stand p l e room_1 s m #[Value.ref b] below meth c s₁ [] 0 0 := Stand.of_body B
    have hh0 : s₁.heap = s.heap := by rw [B.state]; rfl
    have hsz : scr.slots.size = xs.length := by rw [← Array.length_toList, hlist, List.length_map]
    have hval : ∀ j : Nat, j < xs.length → scr.slots[j]? = some (.int (xs.getD j 0)) := fun j hj => by
      rw [← Array.getElem?_toList, hlist]
      simp [hj]
    have hbl : b < s.heap.size := (Array.getElem?_eq_some_iff.mp hcb).1
    have hX : va_X b xs.length (fun j => xs.getD j 0) s s.heap := ⟨scr, hcb, hof, hkn, hsz, hval⟩
    have K : W p l e room_1 s m #[Value.ref b] below meth c s₁.heap [] 0 0 (lw_Z below #[Value.ref b] s) (entryFrame m ([Value.ref b] : List Value).toArray 7) := by
      rw [hh0]
      exact whole_start l hfl hbd ⟨B.exec, B.bytes, B.returns, hml, hown, hts, hX, hbl, B.notSynchronized, hgv⟩
    obtain ⟨t, a1, o, b1, b2, b3⟩ := K s₁ rfl X₀
    exact ⟨t, o, a1, b1, b2, b3⟩
theorem lw_pre_spec {args : Array Value} {s : State} (h : (Jvm.Cond.and given_1 narrow_1).before args s = true) (hr : rest_1_c.before args s = true) : ∃ (b : Addr) (xs : List Int32), lw_P b xs args s := by
  have hs := flat_of_before _ h
  have hq := flat_of_before _ hr
  have hc : (Cond.count 1).before args s = true := hs _ (by decide +kernel)
  have harr : (Cond.arrayOf (.arg 0) .int).before args s = true := hs _ (by decide +kernel)
  have hle : (Cond.le (.length (.arg 0)) (.int 8)).before args s = true := hs _ (by decide +kernel)
  have hlen : (Cond.isInt (.length (.arg 0))).before args s = true := hq _ (by decide +kernel)
  have hall : (Cond.all (.arg 0) (.isInt (.elem (.arg 0) (.index 0)))).before args s = true := hq _ (by decide +kernel)
  obtain ⟨b, xs, hb, hx⟩ := State.ints_of_pre rfl harr hlen hall
  have hsm : xs.length < 2 ^ 31 := hx.choose_spec.2.2.2
  have hev : (Term.length (.arg 0)).eval args s none [] s = some (.int xs.length.toInt32) := hx.length_eval hb
  have hv := Cond.le_ints hev (show (Term.int 8).eval args s none [] s = some (.int 8) from rfl)
  have hd : xs.length.toInt32 ≤ 8 := by
    simpa [Cond.before, Cond.holds, hv] using hle
  have hN : xs.length ≤ 8 := (Int32.ofNat_le_ofNat hsm (by decide)).mp (show Int32.ofNat xs.length ≤ Int32.ofNat 8 from hd)
  exact ⟨b, xs, Cond.one_arg hc (show args[0]? = some (.ref b) from hb), hx, hN, h⟩
theorem lw_comes (l : Launch) (hfl : l.stackTraces = false) : Comes l x (Jvm.Cond.code x code maxLocals ret :: tables_1) room_1 (fun tb e args s => Calls_1 tb e args s ∧ rest_1 tb e args s ∧ Pre_1 tb e args s)
    (fun _ _ args s o t => lw_Q args s o t) := by
  intro p e ha hc hk s m args below hf hfit hheap happ hpre
  obtain ⟨b, xs, hP⟩ := lw_pre_spec hpre.2.2 hpre.2.1
  obtain ⟨k, o, h1, h2, h3, hQ⟩ := lw_walk l hfl b xs p e ha hc hk s m args below hf ((Spec.applies_iff_loose hf).mp happ).1 hP trivial
  exact ⟨k, o, h1, h2, h3, hQ⟩
theorem lw_frame {s t : State} {o : Outcome} {args : Array Value} (h : Framed s o t [] 600002 7302232) :
    Framed s o t (fieldLocs frame_1_writes args s ++ arrayLocs frame_1_arrays args s ++ staticLocs frame_1_statics s) 600002 7302232 := h
theorem lw_limb (L : Cond) (hL : ∀ (args : Array Value) (s t : State), L.after args s (.returned (some (.int 1))) t = true) :
    ArmFor flags0 classFile x code maxLocals ret World_1 tables_1 room_1 Calls_1 rest_1 Pre_1
      (fun tb e a s o t => postC L tb e a s o t ∧ Framed s o t (fieldLocs frame_1_writes a s ++ arrayLocs frame_1_arrays a s ++ staticLocs frame_1_statics s) 600002 7302232) := by
  intro l hfl0 _ _ p e ha hc hk s m args below hf hfit hheap happ hpre
  obtain ⟨k, o, h1, h2, h3, rfl, hF⟩ := lw_comes l (by unfold Launch.stackTraces; rw [hfl0]; decide +kernel) p e ha hc hk s m args below hf hfit hheap happ hpre
  exact ⟨k, _, h1, h2, h3, hL args s _, lw_frame hF⟩
theorem i_vc : Claimed_1_1 ∧ Claimed_1_2 := ⟨lw_limb limb_1_1 (fun args s t => by simp [limb_1_1, Cond.after, Cond.holds, Cond.value]), lw_limb limb_1_2 (fun args s t => Cond.after_iff.mpr (by
  first | (rw [show limb_1_2 = Cond.eq .result (.int 1) from rfl, Cond.eq_ints (x := 1) (y := 1) rfl rfl]; simp; done) | (simp [limb_1_2, Cond.value, Term.eval]; done)))⟩
end
