section
-- ===== PART A: goes FIRST, ahead of the names: the tables' words, and 'selects' of the private methods out of them =====
/-- a private method of a class that the tables say can be made, by its rows of tables_1 -/
def lw_okq (q : MethodName × Nat) : Prop := (q.1.cls ≠ "java/lang/invoke/MethodHandle" ∧ q.1.cls ≠ "java/lang/invoke/VarHandle") ∧ Cond.instantiable q.1.cls q.2 ∈ tables_1 ∧ Cond.privateMethod q.1 ∈ tables_1 ∧ Cond.instanceMethod q.1 ∈ tables_1
theorem lw_p0 : lw_okq (⟨"BrailleCells$RowReader", "readHand", "()V"⟩, 7) := ⟨⟨by decide +kernel, by decide +kernel⟩, List.mem_of_getElem? (i := 170) (by decide +kernel), List.mem_of_getElem? (i := 306) (by decide +kernel), List.mem_of_getElem? (i := 307) (by decide +kernel)⟩
theorem lw_p1 : lw_okq (⟨"BrailleCells$RowReader", "sees", "(II)Z"⟩, 7) := ⟨⟨by decide +kernel, by decide +kernel⟩, List.mem_of_getElem? (i := 170) (by decide +kernel), List.mem_of_getElem? (i := 310) (by decide +kernel), List.mem_of_getElem? (i := 311) (by decide +kernel)⟩
theorem lw_p2 : lw_okq (⟨"BrailleCells$RowReader", "peek", "()I"⟩, 7) := ⟨⟨by decide +kernel, by decide +kernel⟩, List.mem_of_getElem? (i := 170) (by decide +kernel), List.mem_of_getElem? (i := 315) (by decide +kernel), List.mem_of_getElem? (i := 316) (by decide +kernel)⟩
theorem lw_p3 : lw_okq (⟨"BrailleCells$RowReader", "beginBar", "()Z"⟩, 7) := ⟨⟨by decide +kernel, by decide +kernel⟩, List.mem_of_getElem? (i := 170) (by decide +kernel), List.mem_of_getElem? (i := 319) (by decide +kernel), List.mem_of_getElem? (i := 320) (by decide +kernel)⟩
theorem lw_p4 : lw_okq (⟨"BrailleCells$RowReader", "readVoice", "()Z"⟩, 7) := ⟨⟨by decide +kernel, by decide +kernel⟩, List.mem_of_getElem? (i := 170) (by decide +kernel), List.mem_of_getElem? (i := 339) (by decide +kernel), List.mem_of_getElem? (i := 340) (by decide +kernel)⟩
theorem lw_p5 : lw_okq (⟨"BrailleCells$RowReader", "readItem", "()Z"⟩, 7) := ⟨⟨by decide +kernel, by decide +kernel⟩, List.mem_of_getElem? (i := 170) (by decide +kernel), List.mem_of_getElem? (i := 347) (by decide +kernel), List.mem_of_getElem? (i := 348) (by decide +kernel)⟩
theorem lw_p6 : lw_okq (⟨"BrailleCells$RowReader", "readSizeSign", "()Z"⟩, 7) := ⟨⟨by decide +kernel, by decide +kernel⟩, List.mem_of_getElem? (i := 170) (by decide +kernel), List.mem_of_getElem? (i := 351) (by decide +kernel), List.mem_of_getElem? (i := 352) (by decide +kernel)⟩
theorem lw_p7 : lw_okq (⟨"BrailleCells$RowReader", "readOpen", "()Z"⟩, 7) := ⟨⟨by decide +kernel, by decide +kernel⟩, List.mem_of_getElem? (i := 170) (by decide +kernel), List.mem_of_getElem? (i := 355) (by decide +kernel), List.mem_of_getElem? (i := 356) (by decide +kernel)⟩
theorem lw_p8 : lw_okq (⟨"BrailleCells$RowReader", "readDots", "()I"⟩, 7) := ⟨⟨by decide +kernel, by decide +kernel⟩, List.mem_of_getElem? (i := 170) (by decide +kernel), List.mem_of_getElem? (i := 364) (by decide +kernel), List.mem_of_getElem? (i := 365) (by decide +kernel)⟩
theorem lw_p9 : lw_okq (⟨"BrailleCells$RowReader", "readNote", "()Z"⟩, 7) := ⟨⟨by decide +kernel, by decide +kernel⟩, List.mem_of_getElem? (i := 170) (by decide +kernel), List.mem_of_getElem? (i := 373) (by decide +kernel), List.mem_of_getElem? (i := 374) (by decide +kernel)⟩
theorem lw_p10 : lw_okq (⟨"BrailleCells$RowReader", "readIntervals", "()Z"⟩, 7) := ⟨⟨by decide +kernel, by decide +kernel⟩, List.mem_of_getElem? (i := 170) (by decide +kernel), List.mem_of_getElem? (i := 402) (by decide +kernel), List.mem_of_getElem? (i := 403) (by decide +kernel)⟩
theorem lw_p11 : lw_okq (⟨"BrailleCells$RowReader", "readTie", "()V"⟩, 7) := ⟨⟨by decide +kernel, by decide +kernel⟩, List.mem_of_getElem? (i := 170) (by decide +kernel), List.mem_of_getElem? (i := 416) (by decide +kernel), List.mem_of_getElem? (i := 417) (by decide +kernel)⟩
theorem lw_p12 : lw_okq (⟨"BrailleCells$RowReader", "readSlur", "()V"⟩, 7) := ⟨⟨by decide +kernel, by decide +kernel⟩, List.mem_of_getElem? (i := 170) (by decide +kernel), List.mem_of_getElem? (i := 420) (by decide +kernel), List.mem_of_getElem? (i := 421) (by decide +kernel)⟩
theorem lw_p13 : lw_okq (⟨"BrailleCells$RowReader", "isAtVoiceEnd", "()Z"⟩, 7) := ⟨⟨by decide +kernel, by decide +kernel⟩, List.mem_of_getElem? (i := 170) (by decide +kernel), List.mem_of_getElem? (i := 424) (by decide +kernel), List.mem_of_getElem? (i := 425) (by decide +kernel)⟩
theorem lw_p14 : lw_okq (⟨"BrailleCells$RowReader", "endVoice", "(I)Z"⟩, 7) := ⟨⟨by decide +kernel, by decide +kernel⟩, List.mem_of_getElem? (i := 170) (by decide +kernel), List.mem_of_getElem? (i := 428) (by decide +kernel), List.mem_of_getElem? (i := 429) (by decide +kernel)⟩
theorem lw_p15 : lw_okq (⟨"BrailleCells$Sizer", "load", "(LBrailleCells$Music;III)I"⟩, 5) := ⟨⟨by decide +kernel, by decide +kernel⟩, List.mem_of_getElem? (i := 147) (by decide +kernel), List.mem_of_getElem? (i := 455) (by decide +kernel), List.mem_of_getElem? (i := 456) (by decide +kernel)⟩
def lw_privs_1 : List (MethodName × Nat) := [(⟨"BrailleCells$RowReader", "readHand", "()V"⟩, 7), (⟨"BrailleCells$RowReader", "sees", "(II)Z"⟩, 7), (⟨"BrailleCells$RowReader", "peek", "()I"⟩, 7), (⟨"BrailleCells$RowReader", "beginBar", "()Z"⟩, 7), (⟨"BrailleCells$RowReader", "readVoice", "()Z"⟩, 7), (⟨"BrailleCells$RowReader", "readItem", "()Z"⟩, 7), (⟨"BrailleCells$RowReader", "readSizeSign", "()Z"⟩, 7), (⟨"BrailleCells$RowReader", "readOpen", "()Z"⟩, 7), (⟨"BrailleCells$RowReader", "readDots", "()I"⟩, 7), (⟨"BrailleCells$RowReader", "readNote", "()Z"⟩, 7), (⟨"BrailleCells$RowReader", "readIntervals", "()Z"⟩, 7), (⟨"BrailleCells$RowReader", "readTie", "()V"⟩, 7), (⟨"BrailleCells$RowReader", "readSlur", "()V"⟩, 7), (⟨"BrailleCells$RowReader", "isAtVoiceEnd", "()Z"⟩, 7), (⟨"BrailleCells$RowReader", "endVoice", "(I)Z"⟩, 7), (⟨"BrailleCells$Sizer", "load", "(LBrailleCells$Music;III)I"⟩, 5)]
theorem lw_r1 : ∀ q ∈ lw_privs_1, lw_okq q := List.forall_mem_cons.mpr ⟨lw_p0, List.forall_mem_cons.mpr ⟨lw_p1, List.forall_mem_cons.mpr ⟨lw_p2, List.forall_mem_cons.mpr ⟨lw_p3, List.forall_mem_cons.mpr ⟨lw_p4, List.forall_mem_cons.mpr ⟨lw_p5, List.forall_mem_cons.mpr ⟨lw_p6, List.forall_mem_cons.mpr ⟨lw_p7, List.forall_mem_cons.mpr ⟨lw_p8, List.forall_mem_cons.mpr ⟨lw_p9, List.forall_mem_cons.mpr ⟨lw_p10, List.forall_mem_cons.mpr ⟨lw_p11, List.forall_mem_cons.mpr ⟨lw_p12, List.forall_mem_cons.mpr ⟨lw_p13, List.forall_mem_cons.mpr ⟨lw_p14, List.forall_mem_cons.mpr ⟨lw_p15, fun _ h => absurd h List.not_mem_nil⟩⟩⟩⟩⟩⟩⟩⟩⟩⟩⟩⟩⟩⟩⟩⟩
theorem lw_p16 : lw_okq (⟨"BrailleCells$Sizer", "layEnd", "(II)V"⟩, 5) := ⟨⟨by decide +kernel, by decide +kernel⟩, List.mem_of_getElem? (i := 147) (by decide +kernel), List.mem_of_getElem? (i := 463) (by decide +kernel), List.mem_of_getElem? (i := 464) (by decide +kernel)⟩
theorem lw_p17 : lw_okq (⟨"BrailleCells$Sizer", "layItem", "(II)V"⟩, 5) := ⟨⟨by decide +kernel, by decide +kernel⟩, List.mem_of_getElem? (i := 147) (by decide +kernel), List.mem_of_getElem? (i := 467) (by decide +kernel), List.mem_of_getElem? (i := 468) (by decide +kernel)⟩
theorem lw_p18 : lw_okq (⟨"BrailleCells$Sizer", "leastBehind", "(III)I"⟩, 5) := ⟨⟨by decide +kernel, by decide +kernel⟩, List.mem_of_getElem? (i := 147) (by decide +kernel), List.mem_of_getElem? (i := 471) (by decide +kernel), List.mem_of_getElem? (i := 472) (by decide +kernel)⟩
theorem lw_p19 : lw_okq (⟨"BrailleCells$Sizer", "choose", "(I)Z"⟩, 5) := ⟨⟨by decide +kernel, by decide +kernel⟩, List.mem_of_getElem? (i := 147) (by decide +kernel), List.mem_of_getElem? (i := 475) (by decide +kernel), List.mem_of_getElem? (i := 476) (by decide +kernel)⟩
theorem lw_p20 : lw_okq (⟨"BrailleCells$RowReader", "beginNext", "()Z"⟩, 7) := ⟨⟨by decide +kernel, by decide +kernel⟩, List.mem_of_getElem? (i := 170) (by decide +kernel), List.mem_of_getElem? (i := 485) (by decide +kernel), List.mem_of_getElem? (i := 486) (by decide +kernel)⟩
theorem lw_p21 : lw_okq (⟨"BrailleCells", "addTimed", "(IIIII)I"⟩, 7) := ⟨⟨by decide +kernel, by decide +kernel⟩, List.mem_of_getElem? (i := 12) (by decide +kernel), List.mem_of_getElem? (i := 550) (by decide +kernel), List.mem_of_getElem? (i := 551) (by decide +kernel)⟩
theorem lw_p22 : lw_okq (⟨"BrailleCells$RowWriter", "markSlurs", "()V"⟩, 6) := ⟨⟨by decide +kernel, by decide +kernel⟩, List.mem_of_getElem? (i := 212) (by decide +kernel), List.mem_of_getElem? (i := 584) (by decide +kernel), List.mem_of_getElem? (i := 585) (by decide +kernel)⟩
theorem lw_p23 : lw_okq (⟨"BrailleCells$RowWriter", "markRow", "(II)V"⟩, 6) := ⟨⟨by decide +kernel, by decide +kernel⟩, List.mem_of_getElem? (i := 212) (by decide +kernel), List.mem_of_getElem? (i := 588) (by decide +kernel), List.mem_of_getElem? (i := 589) (by decide +kernel)⟩
theorem lw_p24 : lw_okq (⟨"BrailleCells$RowWriter", "isBroken", "(II)Z"⟩, 6) := ⟨⟨by decide +kernel, by decide +kernel⟩, List.mem_of_getElem? (i := 212) (by decide +kernel), List.mem_of_getElem? (i := 592) (by decide +kernel), List.mem_of_getElem? (i := 593) (by decide +kernel)⟩
theorem lw_p25 : lw_okq (⟨"BrailleCells$RowWriter", "markSigns", "()V"⟩, 6) := ⟨⟨by decide +kernel, by decide +kernel⟩, List.mem_of_getElem? (i := 212) (by decide +kernel), List.mem_of_getElem? (i := 596) (by decide +kernel), List.mem_of_getElem? (i := 597) (by decide +kernel)⟩
theorem lw_p26 : lw_okq (⟨"BrailleCells$RowWriter", "putHand", "()V"⟩, 6) := ⟨⟨by decide +kernel, by decide +kernel⟩, List.mem_of_getElem? (i := 212) (by decide +kernel), List.mem_of_getElem? (i := 606) (by decide +kernel), List.mem_of_getElem? (i := 607) (by decide +kernel)⟩
theorem lw_p27 : lw_okq (⟨"BrailleCells$RowWriter", "putTwo", "(II)V"⟩, 6) := ⟨⟨by decide +kernel, by decide +kernel⟩, List.mem_of_getElem? (i := 212) (by decide +kernel), List.mem_of_getElem? (i := 610) (by decide +kernel), List.mem_of_getElem? (i := 611) (by decide +kernel)⟩
theorem lw_p28 : lw_okq (⟨"BrailleCells$RowWriter", "putBar", "(I)V"⟩, 6) := ⟨⟨by decide +kernel, by decide +kernel⟩, List.mem_of_getElem? (i := 212) (by decide +kernel), List.mem_of_getElem? (i := 616) (by decide +kernel), List.mem_of_getElem? (i := 617) (by decide +kernel)⟩
theorem lw_p29 : lw_okq (⟨"BrailleCells$RowWriter", "putSize", "(I)V"⟩, 6) := ⟨⟨by decide +kernel, by decide +kernel⟩, List.mem_of_getElem? (i := 212) (by decide +kernel), List.mem_of_getElem? (i := 621) (by decide +kernel), List.mem_of_getElem? (i := 622) (by decide +kernel)⟩
theorem lw_p30 : lw_okq (⟨"BrailleCells$RowWriter", "putItem", "(I)V"⟩, 6) := ⟨⟨by decide +kernel, by decide +kernel⟩, List.mem_of_getElem? (i := 212) (by decide +kernel), List.mem_of_getElem? (i := 625) (by decide +kernel), List.mem_of_getElem? (i := 626) (by decide +kernel)⟩
theorem lw_p31 : lw_okq (⟨"BrailleCells$RowWriter", "putNote", "(I)V"⟩, 6) := ⟨⟨by decide +kernel, by decide +kernel⟩, List.mem_of_getElem? (i := 212) (by decide +kernel), List.mem_of_getElem? (i := 630) (by decide +kernel), List.mem_of_getElem? (i := 631) (by decide +kernel)⟩
def lw_privs_2 : List (MethodName × Nat) := [(⟨"BrailleCells$Sizer", "layEnd", "(II)V"⟩, 5), (⟨"BrailleCells$Sizer", "layItem", "(II)V"⟩, 5), (⟨"BrailleCells$Sizer", "leastBehind", "(III)I"⟩, 5), (⟨"BrailleCells$Sizer", "choose", "(I)Z"⟩, 5), (⟨"BrailleCells$RowReader", "beginNext", "()Z"⟩, 7), (⟨"BrailleCells", "addTimed", "(IIIII)I"⟩, 7), (⟨"BrailleCells$RowWriter", "markSlurs", "()V"⟩, 6), (⟨"BrailleCells$RowWriter", "markRow", "(II)V"⟩, 6), (⟨"BrailleCells$RowWriter", "isBroken", "(II)Z"⟩, 6), (⟨"BrailleCells$RowWriter", "markSigns", "()V"⟩, 6), (⟨"BrailleCells$RowWriter", "putHand", "()V"⟩, 6), (⟨"BrailleCells$RowWriter", "putTwo", "(II)V"⟩, 6), (⟨"BrailleCells$RowWriter", "putBar", "(I)V"⟩, 6), (⟨"BrailleCells$RowWriter", "putSize", "(I)V"⟩, 6), (⟨"BrailleCells$RowWriter", "putItem", "(I)V"⟩, 6), (⟨"BrailleCells$RowWriter", "putNote", "(I)V"⟩, 6)]
theorem lw_r2 : ∀ q ∈ lw_privs_2, lw_okq q := List.forall_mem_cons.mpr ⟨lw_p16, List.forall_mem_cons.mpr ⟨lw_p17, List.forall_mem_cons.mpr ⟨lw_p18, List.forall_mem_cons.mpr ⟨lw_p19, List.forall_mem_cons.mpr ⟨lw_p20, List.forall_mem_cons.mpr ⟨lw_p21, List.forall_mem_cons.mpr ⟨lw_p22, List.forall_mem_cons.mpr ⟨lw_p23, List.forall_mem_cons.mpr ⟨lw_p24, List.forall_mem_cons.mpr ⟨lw_p25, List.forall_mem_cons.mpr ⟨lw_p26, List.forall_mem_cons.mpr ⟨lw_p27, List.forall_mem_cons.mpr ⟨lw_p28, List.forall_mem_cons.mpr ⟨lw_p29, List.forall_mem_cons.mpr ⟨lw_p30, List.forall_mem_cons.mpr ⟨lw_p31, fun _ h => absurd h List.not_mem_nil⟩⟩⟩⟩⟩⟩⟩⟩⟩⟩⟩⟩⟩⟩⟩⟩
theorem lw_p32 : lw_okq (⟨"BrailleCells$RowWriter", "putSign", "(I)V"⟩, 6) := ⟨⟨by decide +kernel, by decide +kernel⟩, List.mem_of_getElem? (i := 212) (by decide +kernel), List.mem_of_getElem? (i := 634) (by decide +kernel), List.mem_of_getElem? (i := 635) (by decide +kernel)⟩
theorem lw_p33 : lw_okq (⟨"BrailleCells$RowWriter", "putDots", "(I)V"⟩, 6) := ⟨⟨by decide +kernel, by decide +kernel⟩, List.mem_of_getElem? (i := 212) (by decide +kernel), List.mem_of_getElem? (i := 647) (by decide +kernel), List.mem_of_getElem? (i := 648) (by decide +kernel)⟩
theorem lw_p34 : lw_okq (⟨"BrailleCellsModel", "peek", "(I)I"⟩, 40) := ⟨⟨by decide +kernel, by decide +kernel⟩, List.mem_of_getElem? (i := 698) (by decide +kernel), List.mem_of_getElem? (i := 850) (by decide +kernel), List.mem_of_getElem? (i := 851) (by decide +kernel)⟩
theorem lw_p35 : lw_okq (⟨"BrailleCellsModel", "readBar", "()V"⟩, 40) := ⟨⟨by decide +kernel, by decide +kernel⟩, List.mem_of_getElem? (i := 698) (by decide +kernel), List.mem_of_getElem? (i := 854) (by decide +kernel), List.mem_of_getElem? (i := 855) (by decide +kernel)⟩
theorem lw_p36 : lw_okq (⟨"BrailleCellsModel", "fail", "(I)V"⟩, 40) := ⟨⟨by decide +kernel, by decide +kernel⟩, List.mem_of_getElem? (i := 698) (by decide +kernel), List.mem_of_getElem? (i := 858) (by decide +kernel), List.mem_of_getElem? (i := 859) (by decide +kernel)⟩
theorem lw_p37 : lw_okq (⟨"BrailleCellsModel", "readVoice", "(II)V"⟩, 40) := ⟨⟨by decide +kernel, by decide +kernel⟩, List.mem_of_getElem? (i := 698) (by decide +kernel), List.mem_of_getElem? (i := 862) (by decide +kernel), List.mem_of_getElem? (i := 863) (by decide +kernel)⟩
theorem lw_p38 : lw_okq (⟨"BrailleCellsModel", "full", "(I)V"⟩, 40) := ⟨⟨by decide +kernel, by decide +kernel⟩, List.mem_of_getElem? (i := 698) (by decide +kernel), List.mem_of_getElem? (i := 866) (by decide +kernel), List.mem_of_getElem? (i := 867) (by decide +kernel)⟩
theorem lw_p39 : lw_okq (⟨"BrailleCellsModel", "begins", "(Z)I"⟩, 40) := ⟨⟨by decide +kernel, by decide +kernel⟩, List.mem_of_getElem? (i := 698) (by decide +kernel), List.mem_of_getElem? (i := 870) (by decide +kernel), List.mem_of_getElem? (i := 871) (by decide +kernel)⟩
theorem lw_p40 : lw_okq (⟨"BrailleCellsModel", "isNote", "(I)Z"⟩, 40) := ⟨⟨by decide +kernel, by decide +kernel⟩, List.mem_of_getElem? (i := 698) (by decide +kernel), List.mem_of_getElem? (i := 877) (by decide +kernel), List.mem_of_getElem? (i := 878) (by decide +kernel)⟩
theorem lw_p41 : lw_okq (⟨"BrailleCellsModel", "noteOf", "(I)I"⟩, 40) := ⟨⟨by decide +kernel, by decide +kernel⟩, List.mem_of_getElem? (i := 698) (by decide +kernel), List.mem_of_getElem? (i := 881) (by decide +kernel), List.mem_of_getElem? (i := 882) (by decide +kernel)⟩
theorem lw_p42 : lw_okq (⟨"BrailleCellsModel", "isOctave", "(I)Z"⟩, 40) := ⟨⟨by decide +kernel, by decide +kernel⟩, List.mem_of_getElem? (i := 698) (by decide +kernel), List.mem_of_getElem? (i := 888) (by decide +kernel), List.mem_of_getElem? (i := 889) (by decide +kernel)⟩
theorem lw_p43 : lw_okq (⟨"BrailleCellsModel", "readItem", "(II)V"⟩, 40) := ⟨⟨by decide +kernel, by decide +kernel⟩, List.mem_of_getElem? (i := 698) (by decide +kernel), List.mem_of_getElem? (i := 892) (by decide +kernel), List.mem_of_getElem? (i := 893) (by decide +kernel)⟩
theorem lw_p44 : lw_okq (⟨"BrailleCellsModel", "ahead", "()V"⟩, 40) := ⟨⟨by decide +kernel, by decide +kernel⟩, List.mem_of_getElem? (i := 698) (by decide +kernel), List.mem_of_getElem? (i := 896) (by decide +kernel), List.mem_of_getElem? (i := 897) (by decide +kernel)⟩
theorem lw_p45 : lw_okq (⟨"BrailleCellsModel", "dotted", "(I)V"⟩, 40) := ⟨⟨by decide +kernel, by decide +kernel⟩, List.mem_of_getElem? (i := 698) (by decide +kernel), List.mem_of_getElem? (i := 900) (by decide +kernel), List.mem_of_getElem? (i := 901) (by decide +kernel)⟩
theorem lw_p46 : lw_okq (⟨"BrailleCellsModel", "readNote", "(I)V"⟩, 40) := ⟨⟨by decide +kernel, by decide +kernel⟩, List.mem_of_getElem? (i := 698) (by decide +kernel), List.mem_of_getElem? (i := 904) (by decide +kernel), List.mem_of_getElem? (i := 905) (by decide +kernel)⟩
theorem lw_p47 : lw_okq (⟨"BrailleCellsModel", "intervals", "(I)V"⟩, 40) := ⟨⟨by decide +kernel, by decide +kernel⟩, List.mem_of_getElem? (i := 698) (by decide +kernel), List.mem_of_getElem? (i := 911) (by decide +kernel), List.mem_of_getElem? (i := 912) (by decide +kernel)⟩
def lw_privs_3 : List (MethodName × Nat) := [(⟨"BrailleCells$RowWriter", "putSign", "(I)V"⟩, 6), (⟨"BrailleCells$RowWriter", "putDots", "(I)V"⟩, 6), (⟨"BrailleCellsModel", "peek", "(I)I"⟩, 40), (⟨"BrailleCellsModel", "readBar", "()V"⟩, 40), (⟨"BrailleCellsModel", "fail", "(I)V"⟩, 40), (⟨"BrailleCellsModel", "readVoice", "(II)V"⟩, 40), (⟨"BrailleCellsModel", "full", "(I)V"⟩, 40), (⟨"BrailleCellsModel", "begins", "(Z)I"⟩, 40), (⟨"BrailleCellsModel", "isNote", "(I)Z"⟩, 40), (⟨"BrailleCellsModel", "noteOf", "(I)I"⟩, 40), (⟨"BrailleCellsModel", "isOctave", "(I)Z"⟩, 40), (⟨"BrailleCellsModel", "readItem", "(II)V"⟩, 40), (⟨"BrailleCellsModel", "ahead", "()V"⟩, 40), (⟨"BrailleCellsModel", "dotted", "(I)V"⟩, 40), (⟨"BrailleCellsModel", "readNote", "(I)V"⟩, 40), (⟨"BrailleCellsModel", "intervals", "(I)V"⟩, 40)]
theorem lw_r3 : ∀ q ∈ lw_privs_3, lw_okq q := List.forall_mem_cons.mpr ⟨lw_p32, List.forall_mem_cons.mpr ⟨lw_p33, List.forall_mem_cons.mpr ⟨lw_p34, List.forall_mem_cons.mpr ⟨lw_p35, List.forall_mem_cons.mpr ⟨lw_p36, List.forall_mem_cons.mpr ⟨lw_p37, List.forall_mem_cons.mpr ⟨lw_p38, List.forall_mem_cons.mpr ⟨lw_p39, List.forall_mem_cons.mpr ⟨lw_p40, List.forall_mem_cons.mpr ⟨lw_p41, List.forall_mem_cons.mpr ⟨lw_p42, List.forall_mem_cons.mpr ⟨lw_p43, List.forall_mem_cons.mpr ⟨lw_p44, List.forall_mem_cons.mpr ⟨lw_p45, List.forall_mem_cons.mpr ⟨lw_p46, List.forall_mem_cons.mpr ⟨lw_p47, fun _ h => absurd h List.not_mem_nil⟩⟩⟩⟩⟩⟩⟩⟩⟩⟩⟩⟩⟩⟩⟩⟩
theorem lw_p48 : lw_okq (⟨"BrailleCellsModel", "readSlur", "(I)V"⟩, 40) := ⟨⟨by decide +kernel, by decide +kernel⟩, List.mem_of_getElem? (i := 698) (by decide +kernel), List.mem_of_getElem? (i := 915) (by decide +kernel), List.mem_of_getElem? (i := 916) (by decide +kernel)⟩
theorem lw_p49 : lw_okq (⟨"BrailleCellsModel", "whole", "(II)Z"⟩, 40) := ⟨⟨by decide +kernel, by decide +kernel⟩, List.mem_of_getElem? (i := 698) (by decide +kernel), List.mem_of_getElem? (i := 919) (by decide +kernel), List.mem_of_getElem? (i := 920) (by decide +kernel)⟩
theorem lw_p50 : lw_okq (⟨"BrailleCellsModel", "canBe", "(II)Z"⟩, 40) := ⟨⟨by decide +kernel, by decide +kernel⟩, List.mem_of_getElem? (i := 698) (by decide +kernel), List.mem_of_getElem? (i := 923) (by decide +kernel), List.mem_of_getElem? (i := 924) (by decide +kernel)⟩
theorem lw_p51 : lw_okq (⟨"BrailleCellsModel", "take", "(I)V"⟩, 40) := ⟨⟨by decide +kernel, by decide +kernel⟩, List.mem_of_getElem? (i := 698) (by decide +kernel), List.mem_of_getElem? (i := 931) (by decide +kernel), List.mem_of_getElem? (i := 932) (by decide +kernel)⟩
theorem lw_p52 : lw_okq (⟨"BrailleCellsModel", "lacks", "()Z"⟩, 40) := ⟨⟨by decide +kernel, by decide +kernel⟩, List.mem_of_getElem? (i := 698) (by decide +kernel), List.mem_of_getElem? (i := 947) (by decide +kernel), List.mem_of_getElem? (i := 948) (by decide +kernel)⟩
theorem lw_p53 : lw_okq (⟨"BrailleCellsModel", "voiceLasts", "(III)I"⟩, 40) := ⟨⟨by decide +kernel, by decide +kernel⟩, List.mem_of_getElem? (i := 698) (by decide +kernel), List.mem_of_getElem? (i := 951) (by decide +kernel), List.mem_of_getElem? (i := 952) (by decide +kernel)⟩
theorem lw_p54 : lw_okq (⟨"BrailleCellsModel", "lastsOf", "(I)I"⟩, 40) := ⟨⟨by decide +kernel, by decide +kernel⟩, List.mem_of_getElem? (i := 698) (by decide +kernel), List.mem_of_getElem? (i := 955) (by decide +kernel), List.mem_of_getElem? (i := 956) (by decide +kernel)⟩
theorem lw_p55 : lw_okq (⟨"BrailleCellsModel", "barred", "(I)I"⟩, 40) := ⟨⟨by decide +kernel, by decide +kernel⟩, List.mem_of_getElem? (i := 698) (by decide +kernel), List.mem_of_getElem? (i := 967) (by decide +kernel), List.mem_of_getElem? (i := 968) (by decide +kernel)⟩
theorem lw_p56 : lw_okq (⟨"BrailleCellsModel", "voiceSize", "(III)I"⟩, 40) := ⟨⟨by decide +kernel, by decide +kernel⟩, List.mem_of_getElem? (i := 698) (by decide +kernel), List.mem_of_getElem? (i := 971) (by decide +kernel), List.mem_of_getElem? (i := 972) (by decide +kernel)⟩
theorem lw_p57 : lw_okq (⟨"BrailleCellsModel", "voiceFirst", "(III)I"⟩, 40) := ⟨⟨by decide +kernel, by decide +kernel⟩, List.mem_of_getElem? (i := 698) (by decide +kernel), List.mem_of_getElem? (i := 975) (by decide +kernel), List.mem_of_getElem? (i := 976) (by decide +kernel)⟩
theorem lw_p58 : lw_okq (⟨"BrailleCellsModel", "put", "(IIIII)I"⟩, 40) := ⟨⟨by decide +kernel, by decide +kernel⟩, List.mem_of_getElem? (i := 698) (by decide +kernel), List.mem_of_getElem? (i := 979) (by decide +kernel), List.mem_of_getElem? (i := 980) (by decide +kernel)⟩
theorem lw_p59 : lw_okq (⟨"BrailleCellsModel", "slurs", "()V"⟩, 40) := ⟨⟨by decide +kernel, by decide +kernel⟩, List.mem_of_getElem? (i := 698) (by decide +kernel), List.mem_of_getElem? (i := 1003) (by decide +kernel), List.mem_of_getElem? (i := 1004) (by decide +kernel)⟩
theorem lw_p60 : lw_okq (⟨"BrailleCellsModel", "isSigned", "(II)Z"⟩, 40) := ⟨⟨by decide +kernel, by decide +kernel⟩, List.mem_of_getElem? (i := 698) (by decide +kernel), List.mem_of_getElem? (i := 1007) (by decide +kernel), List.mem_of_getElem? (i := 1008) (by decide +kernel)⟩
theorem lw_p61 : lw_okq (⟨"BrailleCellsModel", "layBar", "(I)V"⟩, 40) := ⟨⟨by decide +kernel, by decide +kernel⟩, List.mem_of_getElem? (i := 698) (by decide +kernel), List.mem_of_getElem? (i := 1011) (by decide +kernel), List.mem_of_getElem? (i := 1012) (by decide +kernel)⟩
theorem lw_p62 : lw_okq (⟨"BrailleCellsModel", "lay", "(I)V"⟩, 40) := ⟨⟨by decide +kernel, by decide +kernel⟩, List.mem_of_getElem? (i := 698) (by decide +kernel), List.mem_of_getElem? (i := 1015) (by decide +kernel), List.mem_of_getElem? (i := 1016) (by decide +kernel)⟩
theorem lw_p63 : lw_okq (⟨"BrailleCellsModel", "layItem", "(I)V"⟩, 40) := ⟨⟨by decide +kernel, by decide +kernel⟩, List.mem_of_getElem? (i := 698) (by decide +kernel), List.mem_of_getElem? (i := 1019) (by decide +kernel), List.mem_of_getElem? (i := 1020) (by decide +kernel)⟩
def lw_privs_4 : List (MethodName × Nat) := [(⟨"BrailleCellsModel", "readSlur", "(I)V"⟩, 40), (⟨"BrailleCellsModel", "whole", "(II)Z"⟩, 40), (⟨"BrailleCellsModel", "canBe", "(II)Z"⟩, 40), (⟨"BrailleCellsModel", "take", "(I)V"⟩, 40), (⟨"BrailleCellsModel", "lacks", "()Z"⟩, 40), (⟨"BrailleCellsModel", "voiceLasts", "(III)I"⟩, 40), (⟨"BrailleCellsModel", "lastsOf", "(I)I"⟩, 40), (⟨"BrailleCellsModel", "barred", "(I)I"⟩, 40), (⟨"BrailleCellsModel", "voiceSize", "(III)I"⟩, 40), (⟨"BrailleCellsModel", "voiceFirst", "(III)I"⟩, 40), (⟨"BrailleCellsModel", "put", "(IIIII)I"⟩, 40), (⟨"BrailleCellsModel", "slurs", "()V"⟩, 40), (⟨"BrailleCellsModel", "isSigned", "(II)Z"⟩, 40), (⟨"BrailleCellsModel", "layBar", "(I)V"⟩, 40), (⟨"BrailleCellsModel", "lay", "(I)V"⟩, 40), (⟨"BrailleCellsModel", "layItem", "(I)V"⟩, 40)]
theorem lw_r4 : ∀ q ∈ lw_privs_4, lw_okq q := List.forall_mem_cons.mpr ⟨lw_p48, List.forall_mem_cons.mpr ⟨lw_p49, List.forall_mem_cons.mpr ⟨lw_p50, List.forall_mem_cons.mpr ⟨lw_p51, List.forall_mem_cons.mpr ⟨lw_p52, List.forall_mem_cons.mpr ⟨lw_p53, List.forall_mem_cons.mpr ⟨lw_p54, List.forall_mem_cons.mpr ⟨lw_p55, List.forall_mem_cons.mpr ⟨lw_p56, List.forall_mem_cons.mpr ⟨lw_p57, List.forall_mem_cons.mpr ⟨lw_p58, List.forall_mem_cons.mpr ⟨lw_p59, List.forall_mem_cons.mpr ⟨lw_p60, List.forall_mem_cons.mpr ⟨lw_p61, List.forall_mem_cons.mpr ⟨lw_p62, List.forall_mem_cons.mpr ⟨lw_p63, fun _ h => absurd h List.not_mem_nil⟩⟩⟩⟩⟩⟩⟩⟩⟩⟩⟩⟩⟩⟩⟩⟩
theorem lw_p64 : lw_okq (⟨"BrailleCellsModel", "laySign", "(I)V"⟩, 40) := ⟨⟨by decide +kernel, by decide +kernel⟩, List.mem_of_getElem? (i := 698) (by decide +kernel), List.mem_of_getElem? (i := 1023) (by decide +kernel), List.mem_of_getElem? (i := 1024) (by decide +kernel)⟩
theorem lw_p65 : lw_okq (⟨"BrailleCellsModel", "isVoice", "(II)Z"⟩, 40) := ⟨⟨by decide +kernel, by decide +kernel⟩, List.mem_of_getElem? (i := 698) (by decide +kernel), List.mem_of_getElem? (i := 1035) (by decide +kernel), List.mem_of_getElem? (i := 1036) (by decide +kernel)⟩
def lw_privs_5 : List (MethodName × Nat) := [(⟨"BrailleCellsModel", "laySign", "(I)V"⟩, 40), (⟨"BrailleCellsModel", "isVoice", "(II)Z"⟩, 40)]
theorem lw_r5 : ∀ q ∈ lw_privs_5, lw_okq q := List.forall_mem_cons.mpr ⟨lw_p64, List.forall_mem_cons.mpr ⟨lw_p65, fun _ h => absurd h List.not_mem_nil⟩⟩
def lw_privs : List (MethodName × Nat) := lw_privs_1 ++ (lw_privs_2 ++ (lw_privs_3 ++ (lw_privs_4 ++ (lw_privs_5))))
def lw_tbl : List Cond := k2_sels lw_privs ++ tables_1
theorem lw_privs_ok : ∀ q ∈ lw_privs, lw_okq q := by
  show ∀ q ∈ lw_privs_1 ++ (lw_privs_2 ++ (lw_privs_3 ++ (lw_privs_4 ++ (lw_privs_5)))), lw_okq q
  exact List.forall_mem_append.mpr ⟨lw_r1, List.forall_mem_append.mpr ⟨lw_r2, List.forall_mem_append.mpr ⟨lw_r3, List.forall_mem_append.mpr ⟨lw_r4, lw_r5⟩⟩⟩⟩
end
section
def RX0 : String := "BrailleCells$Music"
def TX0 : u_T := fun k => match k with
  | 0 => ("BrailleCells$Music", "length", "I", false)
  | 1 => ("BrailleCells$Music", "hand", "I", false)
  | 2 => ("BrailleCells$Music", "bars", "I", false)
  | 3 => ("BrailleCells$Music", "items", "I", false)
  | 4 => ("BrailleCells$Music", "voicesOf", "[I", true)
  | 5 => ("BrailleCells$Music", "firstOf", "[I", true)
  | 6 => ("BrailleCells$Music", "itemsOf", "[I", true)
  | 7 => ("BrailleCells$Music", "barAt", "[I", true)
  | 8 => ("BrailleCells$Music", "voiceAt", "[I", true)
  | 9 => ("BrailleCells$Music", "pitch", "[I", true)
  | 10 => ("BrailleCells$Music", "sign", "[I", true)
  | 11 => ("BrailleCells$Music", "kind", "[I", true)
  | 12 => ("BrailleCells$Music", "size", "[I", true)
  | 13 => ("BrailleCells$Music", "dots", "[I", true)
  | 14 => ("BrailleCells$Music", "tied", "[I", true)
  | 15 => ("BrailleCells$Music", "slurred", "[I", true)
  | 16 => ("BrailleCells$Music", "intervalsOf", "[I", true)
  | _ => ("BrailleCells$Music", "intervals", "[I", true)
def tyX0 : Nat → FieldType := fun k => match k with
  | 0 => .int
  | 1 => .int
  | 2 => .int
  | 3 => .int
  | 4 => .array .int
  | 5 => .array .int
  | 6 => .array .int
  | 7 => .array .int
  | 8 => .array .int
  | 9 => .array .int
  | 10 => .array .int
  | 11 => .array .int
  | 12 => .array .int
  | 13 => .array .int
  | 14 => .array .int
  | 15 => .array .int
  | 16 => .array .int
  | _ => .array .int
abbrev wsX00 : List Cond := u_ws RX0 TX0 18
theorem nmX0 : ∀ a, a < 18 → ∀ b, b < 18 → a ≠ b → (TX0 a).2.1 ≠ (TX0 b).2.1 := by decide +kernel
theorem tyX0_ok : ∀ k, k < 18 → parseFieldDescriptor (TX0 k).2.2.1 = some (tyX0 k) := by decide +kernel
abbrev cX0_init : ByteArray := prog_2_method_1_code
def yX0_init : MethodName := ⟨RX0, "<init>", "()V"⟩
abbrev cX0_empty : ByteArray := prog_2_method_2_code
def yX0_empty : MethodName := ⟨RX0, "empty", "(I)V"⟩
abbrev cX0_startBar : ByteArray := prog_2_method_3_code
def yX0_startBar : MethodName := ⟨RX0, "startBar", "(Z)Z"⟩
abbrev cX0_startVoice : ByteArray := prog_2_method_4_code
def yX0_startVoice : MethodName := ⟨RX0, "startVoice", "()Z"⟩
abbrev cX0_slotOf : ByteArray := prog_2_method_5_code
def yX0_slotOf : MethodName := ⟨RX0, "slotOf", "(II)I"⟩
abbrev cX0_lastSlot : ByteArray := prog_2_method_6_code
def yX0_lastSlot : MethodName := ⟨RX0, "lastSlot", "()I"⟩
abbrev cX0_addItem : ByteArray := prog_2_method_7_code
def yX0_addItem : MethodName := ⟨RX0, "addItem", "(IIIII)I"⟩
abbrev cX0_addInterval : ByteArray := prog_2_method_8_code
def yX0_addInterval : MethodName := ⟨RX0, "addInterval", "(II)V"⟩
abbrev cX0_intervalAt : ByteArray := prog_2_method_9_code
def yX0_intervalAt : MethodName := ⟨RX0, "intervalAt", "(II)I"⟩
abbrev cX0_intervalPitch : ByteArray := prog_2_method_10_code
def yX0_intervalPitch : MethodName := ⟨RX0, "intervalPitch", "(III)I"⟩
abbrev cX0_suitsHand : ByteArray := prog_2_method_11_code
def yX0_suitsHand : MethodName := ⟨RX0, "suitsHand", "(I)Z"⟩
abbrev cX0_isNote : ByteArray := prog_2_method_12_code
def yX0_isNote : MethodName := ⟨RX0, "isNote", "(I)Z"⟩
abbrev cX0_lasts : ByteArray := prog_2_method_13_code
def yX0_lasts : MethodName := ⟨RX0, "lasts", "(I)I"⟩
abbrev cX0_voiceLasts : ByteArray := prog_2_method_14_code
def yX0_voiceLasts : MethodName := ⟨RX0, "voiceLasts", "(I)I"⟩
abbrev cX0_isWhole : ByteArray := prog_2_method_15_code
def yX0_isWhole : MethodName := ⟨RX0, "isWhole", "(I)Z"⟩
abbrev cX0_endsWhole : ByteArray := prog_2_method_16_code
def yX0_endsWhole : MethodName := ⟨RX0, "endsWhole", "()Z"⟩
abbrev cX0_itemsOfBar : ByteArray := prog_2_method_17_code
def yX0_itemsOfBar : MethodName := ⟨RX0, "itemsOfBar", "(I)I"⟩
abbrev cX0_isLoneWholeRest : ByteArray := prog_2_method_18_code
def yX0_isLoneWholeRest : MethodName := ⟨RX0, "isLoneWholeRest", "(I)Z"⟩
def RX1 : String := "BrailleCells$OctaveWatch"
def TX1 : u_T := fun k => match k with
  | 0 => ("BrailleCells$OctaveWatch", "last", "I", false)
  | _ => ("BrailleCells$OctaveWatch", "fresh", "Z", false)
def tyX1 : Nat → FieldType := fun k => match k with
  | 0 => .int
  | _ => .boolean
abbrev wsX10 : List Cond := u_ws RX1 TX1 2
theorem nmX1 : ∀ a, a < 2 → ∀ b, b < 2 → a ≠ b → (TX1 a).2.1 ≠ (TX1 b).2.1 := by decide +kernel
theorem tyX1_ok : ∀ k, k < 2 → parseFieldDescriptor (TX1 k).2.2.1 = some (tyX1 k) := by decide +kernel
abbrev cX1_init : ByteArray := prog_3_method_1_code
def yX1_init : MethodName := ⟨RX1, "<init>", "()V"⟩
abbrev cX1_isLeap : ByteArray := prog_3_method_2_code
def yX1_isLeap : MethodName := ⟨RX1, "isLeap", "(II)Z"⟩
abbrev cX1_forget : ByteArray := prog_3_method_3_code
def yX1_forget : MethodName := ⟨RX1, "forget", "()V"⟩
abbrev cX1_heard : ByteArray := prog_3_method_4_code
def yX1_heard : MethodName := ⟨RX1, "heard", "(I)V"⟩
abbrev cX1_enterBar : ByteArray := prog_3_method_5_code
def yX1_enterBar : MethodName := ⟨RX1, "enterBar", "(LBrailleCells$Music;I)V"⟩
abbrev cX1_needsSign : ByteArray := prog_3_method_6_code
def yX1_needsSign : MethodName := ⟨RX1, "needsSign", "(I)Z"⟩
abbrev cX1_nearest : ByteArray := prog_3_method_7_code
def yX1_nearest : MethodName := ⟨RX1, "nearest", "(I)I"⟩
def RX2 : String := "BrailleCells$Row"
def TX2 : u_T := fun k => match k with
  | 0 => ("BrailleCells$Row", "cells", "[I", true)
  | _ => ("BrailleCells$Row", "count", "I", false)
def tyX2 : Nat → FieldType := fun k => match k with
  | 0 => .array .int
  | _ => .int
abbrev wsX20 : List Cond := u_ws RX2 TX2 2
theorem nmX2 : ∀ a, a < 2 → ∀ b, b < 2 → a ≠ b → (TX2 a).2.1 ≠ (TX2 b).2.1 := by decide +kernel
theorem tyX2_ok : ∀ k, k < 2 → parseFieldDescriptor (TX2 k).2.2.1 = some (tyX2 k) := by decide +kernel
abbrev cX2_init : ByteArray := prog_4_method_1_code
def yX2_init : MethodName := ⟨RX2, "<init>", "()V"⟩
abbrev cX2_put : ByteArray := prog_4_method_2_code
def yX2_put : MethodName := ⟨RX2, "put", "(I)V"⟩
abbrev cX2_get : ByteArray := prog_4_method_3_code
def yX2_get : MethodName := ⟨RX2, "get", "(I)I"⟩
def RX3 : String := "BrailleCells$RowReader"
def TX3 : u_T := fun k => match k with
  | 0 => ("BrailleCells$RowReader", "sizer", "LBrailleCells$Sizer;", true)
  | 1 => ("BrailleCells$RowReader", "watch", "LBrailleCells$OctaveWatch;", true)
  | 2 => ("BrailleCells$RowReader", "row", "LBrailleCells$Row;", false)
  | 3 => ("BrailleCells$RowReader", "music", "LBrailleCells$Music;", false)
  | 4 => ("BrailleCells$RowReader", "place", "I", false)
  | 5 => ("BrailleCells$RowReader", "slurIsOpen", "Z", false)
  | _ => ("BrailleCells$RowReader", "toldSize", "I", false)
def tyX3 : Nat → FieldType := fun k => match k with
  | 0 => .object "BrailleCells$Sizer"
  | 1 => .object "BrailleCells$OctaveWatch"
  | 2 => .object "BrailleCells$Row"
  | 3 => .object "BrailleCells$Music"
  | 4 => .int
  | 5 => .boolean
  | _ => .int
abbrev wsX30 : List Cond := u_ws RX3 TX3 7
theorem nmX3 : ∀ a, a < 7 → ∀ b, b < 7 → a ≠ b → (TX3 a).2.1 ≠ (TX3 b).2.1 := by decide +kernel
theorem tyX3_ok : ∀ k, k < 7 → parseFieldDescriptor (TX3 k).2.2.1 = some (tyX3 k) := by decide +kernel
abbrev cX3_init : ByteArray := prog_5_method_1_code
def yX3_init : MethodName := ⟨RX3, "<init>", "(LBrailleCells$Sizer;)V"⟩
abbrev cX3_run : ByteArray := prog_5_method_2_code
def yX3_run : MethodName := ⟨RX3, "run", "(LBrailleCells$Row;LBrailleCells$Music;)I"⟩
abbrev cX3_peek : ByteArray := prog_5_method_3_code
def yX3_peek : MethodName := ⟨RX3, "peek", "()I"⟩
abbrev cX3_sees : ByteArray := prog_5_method_4_code
def yX3_sees : MethodName := ⟨RX3, "sees", "(II)Z"⟩
abbrev cX3_readHand : ByteArray := prog_5_method_5_code
def yX3_readHand : MethodName := ⟨RX3, "readHand", "()V"⟩
abbrev cX3_beginNext : ByteArray := prog_5_method_6_code
def yX3_beginNext : MethodName := ⟨RX3, "beginNext", "()Z"⟩
abbrev cX3_beginBar : ByteArray := prog_5_method_7_code
def yX3_beginBar : MethodName := ⟨RX3, "beginBar", "()Z"⟩
abbrev cX3_readVoice : ByteArray := prog_5_method_8_code
def yX3_readVoice : MethodName := ⟨RX3, "readVoice", "()Z"⟩
abbrev cX3_isAtVoiceEnd : ByteArray := prog_5_method_9_code
def yX3_isAtVoiceEnd : MethodName := ⟨RX3, "isAtVoiceEnd", "()Z"⟩
abbrev cX3_endVoice : ByteArray := prog_5_method_10_code
def yX3_endVoice : MethodName := ⟨RX3, "endVoice", "(I)Z"⟩
abbrev cX3_readItem : ByteArray := prog_5_method_11_code
def yX3_readItem : MethodName := ⟨RX3, "readItem", "()Z"⟩
abbrev cX3_readSizeSign : ByteArray := prog_5_method_12_code
def yX3_readSizeSign : MethodName := ⟨RX3, "readSizeSign", "()Z"⟩
abbrev cX3_readOpen : ByteArray := prog_5_method_13_code
def yX3_readOpen : MethodName := ⟨RX3, "readOpen", "()Z"⟩
abbrev cX3_readNote : ByteArray := prog_5_method_14_code
def yX3_readNote : MethodName := ⟨RX3, "readNote", "()Z"⟩
abbrev cX3_readDots : ByteArray := prog_5_method_15_code
def yX3_readDots : MethodName := ⟨RX3, "readDots", "()I"⟩
abbrev cX3_readIntervals : ByteArray := prog_5_method_16_code
def yX3_readIntervals : MethodName := ⟨RX3, "readIntervals", "()Z"⟩
abbrev cX3_readTie : ByteArray := prog_5_method_17_code
def yX3_readTie : MethodName := ⟨RX3, "readTie", "()V"⟩
abbrev cX3_readSlur : ByteArray := prog_5_method_18_code
def yX3_readSlur : MethodName := ⟨RX3, "readSlur", "()V"⟩
def RX4 : String := "BrailleCells$RowWriter"
def TX4 : u_T := fun k => match k with
  | 0 => ("BrailleCells$RowWriter", "sizer", "LBrailleCells$Sizer;", true)
  | 1 => ("BrailleCells$RowWriter", "watch", "LBrailleCells$OctaveWatch;", true)
  | 2 => ("BrailleCells$RowWriter", "marks", "[I", true)
  | 3 => ("BrailleCells$RowWriter", "hasSigns", "[Z", true)
  | 4 => ("BrailleCells$RowWriter", "row", "LBrailleCells$Row;", false)
  | _ => ("BrailleCells$RowWriter", "music", "LBrailleCells$Music;", false)
def tyX4 : Nat → FieldType := fun k => match k with
  | 0 => .object "BrailleCells$Sizer"
  | 1 => .object "BrailleCells$OctaveWatch"
  | 2 => .array .int
  | 3 => .array .boolean
  | 4 => .object "BrailleCells$Row"
  | _ => .object "BrailleCells$Music"
abbrev wsX40 : List Cond := u_ws RX4 TX4 6
theorem nmX4 : ∀ a, a < 6 → ∀ b, b < 6 → a ≠ b → (TX4 a).2.1 ≠ (TX4 b).2.1 := by decide +kernel
theorem tyX4_ok : ∀ k, k < 6 → parseFieldDescriptor (TX4 k).2.2.1 = some (tyX4 k) := by decide +kernel
abbrev cX4_init : ByteArray := prog_6_method_1_code
def yX4_init : MethodName := ⟨RX4, "<init>", "(LBrailleCells$Sizer;)V"⟩
abbrev cX4_run : ByteArray := prog_6_method_2_code
def yX4_run : MethodName := ⟨RX4, "run", "(LBrailleCells$Music;LBrailleCells$Row;I)I"⟩
abbrev cX4_markSigns : ByteArray := prog_6_method_3_code
def yX4_markSigns : MethodName := ⟨RX4, "markSigns", "()V"⟩
abbrev cX4_markSlurs : ByteArray := prog_6_method_4_code
def yX4_markSlurs : MethodName := ⟨RX4, "markSlurs", "()V"⟩
abbrev cX4_markRow : ByteArray := prog_6_method_5_code
def yX4_markRow : MethodName := ⟨RX4, "markRow", "(II)V"⟩
abbrev cX4_isBroken : ByteArray := prog_6_method_6_code
def yX4_isBroken : MethodName := ⟨RX4, "isBroken", "(II)Z"⟩
abbrev cX4_putTwo : ByteArray := prog_6_method_7_code
def yX4_putTwo : MethodName := ⟨RX4, "putTwo", "(II)V"⟩
abbrev cX4_putHand : ByteArray := prog_6_method_8_code
def yX4_putHand : MethodName := ⟨RX4, "putHand", "()V"⟩
abbrev cX4_putBar : ByteArray := prog_6_method_9_code
def yX4_putBar : MethodName := ⟨RX4, "putBar", "(I)V"⟩
abbrev cX4_putSize : ByteArray := prog_6_method_10_code
def yX4_putSize : MethodName := ⟨RX4, "putSize", "(I)V"⟩
abbrev cX4_putItem : ByteArray := prog_6_method_11_code
def yX4_putItem : MethodName := ⟨RX4, "putItem", "(I)V"⟩
abbrev cX4_putNote : ByteArray := prog_6_method_12_code
def yX4_putNote : MethodName := ⟨RX4, "putNote", "(I)V"⟩
abbrev cX4_putSign : ByteArray := prog_6_method_13_code
def yX4_putSign : MethodName := ⟨RX4, "putSign", "(I)V"⟩
abbrev cX4_putDots : ByteArray := prog_6_method_14_code
def yX4_putDots : MethodName := ⟨RX4, "putDots", "(I)V"⟩
def RX5 : String := "BrailleCells$Sizer"
def TX5 : u_T := fun k => match k with
  | 0 => ("BrailleCells$Sizer", "chosen", "[I", true)
  | 1 => ("BrailleCells$Sizer", "small", "[I", true)
  | 2 => ("BrailleCells$Sizer", "count", "I", false)
  | 3 => ("BrailleCells$Sizer", "least", "[I", true)
  | _ => ("BrailleCells$Sizer", "found", "[I", true)
def tyX5 : Nat → FieldType := fun k => match k with
  | 0 => .array .int
  | 1 => .array .int
  | 2 => .int
  | 3 => .array .int
  | _ => .array .int
abbrev wsX50 : List Cond := u_ws RX5 TX5 5
theorem nmX5 : ∀ a, a < 5 → ∀ b, b < 5 → a ≠ b → (TX5 a).2.1 ≠ (TX5 b).2.1 := by decide +kernel
theorem tyX5_ok : ∀ k, k < 5 → parseFieldDescriptor (TX5 k).2.2.1 = some (tyX5 k) := by decide +kernel
abbrev cX5_init : ByteArray := prog_7_method_1_code
def yX5_init : MethodName := ⟨RX5, "<init>", "()V"⟩
abbrev cX5_settle : ByteArray := prog_7_method_2_code
def yX5_settle : MethodName := ⟨RX5, "settle", "(LBrailleCells$Music;II)Z"⟩
abbrev cX5_load : ByteArray := prog_7_method_3_code
def yX5_load : MethodName := ⟨RX5, "load", "(LBrailleCells$Music;III)I"⟩
abbrev cX5_layEnd : ByteArray := prog_7_method_4_code
def yX5_layEnd : MethodName := ⟨RX5, "layEnd", "(II)V"⟩
abbrev cX5_layItem : ByteArray := prog_7_method_5_code
def yX5_layItem : MethodName := ⟨RX5, "layItem", "(II)V"⟩
abbrev cX5_leastBehind : ByteArray := prog_7_method_6_code
def yX5_leastBehind : MethodName := ⟨RX5, "leastBehind", "(III)I"⟩
abbrev cX5_choose : ByteArray := prog_7_method_7_code
def yX5_choose : MethodName := ⟨RX5, "choose", "(I)Z"⟩
abbrev cX5_countWays : ByteArray := prog_7_method_8_code
def yX5_countWays : MethodName := ⟨RX5, "countWays", "(LBrailleCells$Music;I)I"⟩
abbrev cX5_needsSigns : ByteArray := prog_7_method_9_code
def yX5_needsSigns : MethodName := ⟨RX5, "needsSigns", "(LBrailleCells$Music;I)Z"⟩
def RX6 : String := "BrailleCells"
def TX6 : u_T := fun k => match k with
  | 0 => ("BrailleCells", "row", "LBrailleCells$Row;", false)
  | 1 => ("BrailleCells", "spareRow", "LBrailleCells$Row;", false)
  | 2 => ("BrailleCells", "music", "LBrailleCells$Music;", false)
  | 3 => ("BrailleCells", "spareMusic", "LBrailleCells$Music;", false)
  | 4 => ("BrailleCells", "sizer", "LBrailleCells$Sizer;", true)
  | 5 => ("BrailleCells", "reader", "LBrailleCells$RowReader;", true)
  | _ => ("BrailleCells", "writer", "LBrailleCells$RowWriter;", true)
def tyX6 : Nat → FieldType := fun k => match k with
  | 0 => .object "BrailleCells$Row"
  | 1 => .object "BrailleCells$Row"
  | 2 => .object "BrailleCells$Music"
  | 3 => .object "BrailleCells$Music"
  | 4 => .object "BrailleCells$Sizer"
  | 5 => .object "BrailleCells$RowReader"
  | _ => .object "BrailleCells$RowWriter"
abbrev wsX60 : List Cond := u_ws RX6 TX6 7
theorem nmX6 : ∀ a, a < 7 → ∀ b, b < 7 → a ≠ b → (TX6 a).2.1 ≠ (TX6 b).2.1 := by decide +kernel
theorem tyX6_ok : ∀ k, k < 7 → parseFieldDescriptor (TX6 k).2.2.1 = some (tyX6 k) := by decide +kernel
abbrev cX6_init : ByteArray := prog_1_method_1_code
def yX6_init : MethodName := ⟨RX6, "<init>", "()V"⟩
abbrev cX6_clear : ByteArray := prog_1_method_2_code
def yX6_clear : MethodName := ⟨RX6, "clear", "()V"⟩
abbrev cX6_cell : ByteArray := prog_1_method_3_code
def yX6_cell : MethodName := ⟨RX6, "cell", "(I)I"⟩
abbrev cX6_more : ByteArray := prog_1_method_4_code
def yX6_more : MethodName := ⟨RX6, "more", "(J)I"⟩
abbrev cX6_byteOf : ByteArray := prog_1_method_5_code
def yX6_byteOf : MethodName := ⟨RX6, "byteOf", "(JI)I"⟩
abbrev cX6_cut : ByteArray := prog_1_method_6_code
def yX6_cut : MethodName := ⟨RX6, "cut", "(I)I"⟩
abbrev cX6_at : ByteArray := prog_1_method_7_code
def yX6_at : MethodName := ⟨RX6, "at", "(I)I"⟩
abbrev cX6_read : ByteArray := prog_1_method_8_code
def yX6_read : MethodName := ⟨RX6, "read", "()I"⟩
abbrev cX6_meter : ByteArray := prog_1_method_9_code
def yX6_meter : MethodName := ⟨RX6, "meter", "(II)I"⟩
abbrev cX6_hand : ByteArray := prog_1_method_10_code
def yX6_hand : MethodName := ⟨RX6, "hand", "(I)I"⟩
abbrev cX6_bar : ByteArray := prog_1_method_11_code
def yX6_bar : MethodName := ⟨RX6, "bar", "(Z)I"⟩
abbrev cX6_voice : ByteArray := prog_1_method_12_code
def yX6_voice : MethodName := ⟨RX6, "voice", "()I"⟩
abbrev cX6_note : ByteArray := prog_1_method_13_code
def yX6_note : MethodName := ⟨RX6, "note", "(IIIII)I"⟩
abbrev cX6_rest : ByteArray := prog_1_method_14_code
def yX6_rest : MethodName := ⟨RX6, "rest", "(III)I"⟩
abbrev cX6_addTimed : ByteArray := prog_1_method_15_code
def yX6_addTimed : MethodName := ⟨RX6, "addTimed", "(IIIII)I"⟩
abbrev cX6_interval : ByteArray := prog_1_method_16_code
def yX6_interval : MethodName := ⟨RX6, "interval", "(II)I"⟩
abbrev cX6_tie : ByteArray := prog_1_method_17_code
def yX6_tie : MethodName := ⟨RX6, "tie", "(Z)I"⟩
abbrev cX6_slur : ByteArray := prog_1_method_18_code
def yX6_slur : MethodName := ⟨RX6, "slur", "(IZ)I"⟩
abbrev cX6_write : ByteArray := prog_1_method_19_code
def yX6_write : MethodName := ⟨RX6, "write", "(I)I"⟩
abbrev cX6_wants : ByteArray := prog_1_method_20_code
def yX6_wants : MethodName := ⟨RX6, "wants", "(II)I"⟩
abbrev cX6_ways : ByteArray := prog_1_method_21_code
def yX6_ways : MethodName := ⟨RX6, "ways", "(II)I"⟩
abbrev cX6_signed : ByteArray := prog_1_method_22_code
def yX6_signed : MethodName := ⟨RX6, "signed", "(II)I"⟩
abbrev cX6_barOf : ByteArray := prog_1_method_23_code
def yX6_barOf : MethodName := ⟨RX6, "barOf", "(II)I"⟩
abbrev cX6_item : ByteArray := prog_1_method_24_code
def yX6_item : MethodName := ⟨RX6, "item", "(II)I"⟩
abbrev cX6_loose : ByteArray := prog_1_method_25_code
def yX6_loose : MethodName := ⟨RX6, "loose", "()I"⟩
abbrev cX6_told : ByteArray := prog_1_method_26_code
def yX6_told : MethodName := ⟨RX6, "told", "(I)I"⟩
abbrev cX6_isPitch : ByteArray := prog_1_method_27_code
def yX6_isPitch : MethodName := ⟨RX6, "isPitch", "(I)Z"⟩
abbrev cX6_isSign : ByteArray := prog_1_method_28_code
def yX6_isSign : MethodName := ⟨RX6, "isSign", "(I)Z"⟩
abbrev cX6_isKind : ByteArray := prog_1_method_29_code
def yX6_isKind : MethodName := ⟨RX6, "isKind", "(I)Z"⟩
abbrev cX6_isDots : ByteArray := prog_1_method_30_code
def yX6_isDots : MethodName := ⟨RX6, "isDots", "(I)Z"⟩
abbrev cX6_lengthOf : ByteArray := prog_1_method_31_code
def yX6_lengthOf : MethodName := ⟨RX6, "lengthOf", "(III)I"⟩
abbrev cX6_indexIn : ByteArray := prog_1_method_32_code
def yX6_indexIn : MethodName := ⟨RX6, "indexIn", "([II)I"⟩
def RX7 : String := "BrailleCellsModel"
def TX7 : u_T := fun k => match k with
  | 0 => ("BrailleCellsModel", "steps", "[I", true)
  | 1 => ("BrailleCellsModel", "kinds", "[I", true)
  | 2 => ("BrailleCellsModel", "rests", "[I", true)
  | 3 => ("BrailleCellsModel", "octaves", "[I", true)
  | 4 => ("BrailleCellsModel", "downs", "[I", true)
  | 5 => ("BrailleCellsModel", "row", "[I", true)
  | 6 => ("BrailleCellsModel", "cells", "I", false)
  | 7 => ("BrailleCellsModel", "length", "I", false)
  | 8 => ("BrailleCellsModel", "bars", "[I", true)
  | 9 => ("BrailleCellsModel", "items", "[I", true)
  | 10 => ("BrailleCellsModel", "hands", "[I", true)
  | 11 => ("BrailleCellsModel", "repeated", "[I", true)
  | 12 => ("BrailleCellsModel", "voices", "[I", true)
  | 13 => ("BrailleCellsModel", "itemBar", "[I", true)
  | 14 => ("BrailleCellsModel", "itemVoice", "[I", true)
  | 15 => ("BrailleCellsModel", "pitch", "[I", true)
  | 16 => ("BrailleCellsModel", "sign", "[I", true)
  | 17 => ("BrailleCellsModel", "kind", "[I", true)
  | 18 => ("BrailleCellsModel", "size", "[I", true)
  | 19 => ("BrailleCellsModel", "dots", "[I", true)
  | 20 => ("BrailleCellsModel", "tied", "[I", true)
  | 21 => ("BrailleCellsModel", "slurred", "[I", true)
  | 22 => ("BrailleCellsModel", "many", "[I", true)
  | 23 => ("BrailleCellsModel", "interval", "[I", true)
  | 24 => ("BrailleCellsModel", "at", "I", false)
  | 25 => ("BrailleCellsModel", "fault", "I", false)
  | 26 => ("BrailleCellsModel", "open", "Z", false)
  | 27 => ("BrailleCellsModel", "fresh", "Z", false)
  | 28 => ("BrailleCellsModel", "before", "I", false)
  | 29 => ("BrailleCellsModel", "cost", "[I", true)
  | 30 => ("BrailleCellsModel", "wished", "[I", true)
  | 31 => ("BrailleCellsModel", "found", "[I", true)
  | 32 => ("BrailleCellsModel", "opens", "[I", true)
  | 33 => ("BrailleCellsModel", "closes", "[I", true)
  | 34 => ("BrailleCellsModel", "marks", "[I", true)
  | 35 => ("BrailleCellsModel", "signs", "[I", true)
  | 36 => ("BrailleCellsModel", "piece", "[I", true)
  | 37 => ("BrailleCellsModel", "pieces", "I", false)
  | 38 => ("BrailleCellsModel", "written", "[I", true)
  | _ => ("BrailleCellsModel", "toldSize", "I", false)
def tyX7 : Nat → FieldType := fun k => match k with
  | 0 => .array .int
  | 1 => .array .int
  | 2 => .array .int
  | 3 => .array .int
  | 4 => .array .int
  | 5 => .array .int
  | 6 => .int
  | 7 => .int
  | 8 => .array .int
  | 9 => .array .int
  | 10 => .array .int
  | 11 => .array .int
  | 12 => .array .int
  | 13 => .array .int
  | 14 => .array .int
  | 15 => .array .int
  | 16 => .array .int
  | 17 => .array .int
  | 18 => .array .int
  | 19 => .array .int
  | 20 => .array .int
  | 21 => .array .int
  | 22 => .array .int
  | 23 => .array .int
  | 24 => .int
  | 25 => .int
  | 26 => .boolean
  | 27 => .boolean
  | 28 => .int
  | 29 => .array .int
  | 30 => .array .int
  | 31 => .array .int
  | 32 => .array .int
  | 33 => .array .int
  | 34 => .array .int
  | 35 => .array .int
  | 36 => .array .int
  | 37 => .int
  | 38 => .array .int
  | _ => .int
abbrev wsX70 : List Cond := u_ws RX7 TX7 40
theorem nmX7 : ∀ a, a < 40 → ∀ b, b < 40 → a ≠ b → (TX7 a).2.1 ≠ (TX7 b).2.1 := by decide +kernel
theorem tyX7_ok : ∀ k, k < 40 → parseFieldDescriptor (TX7 k).2.2.1 = some (tyX7 k) := by decide +kernel
abbrev cX7_init : ByteArray := prog_9_method_1_code
def yX7_init : MethodName := ⟨RX7, "<init>", "()V"⟩
abbrev cX7_clear : ByteArray := prog_9_method_2_code
def yX7_clear : MethodName := ⟨RX7, "clear", "()V"⟩
abbrev cX7_cell : ByteArray := prog_9_method_3_code
def yX7_cell : MethodName := ⟨RX7, "cell", "(I)I"⟩
abbrev cX7_more : ByteArray := prog_9_method_4_code
def yX7_more : MethodName := ⟨RX7, "more", "(J)I"⟩
abbrev cX7_cut : ByteArray := prog_9_method_5_code
def yX7_cut : MethodName := ⟨RX7, "cut", "(I)I"⟩
abbrev cX7_at : ByteArray := prog_9_method_6_code
def yX7_at : MethodName := ⟨RX7, "at", "(I)I"⟩
abbrev cX7_lasts : ByteArray := prog_9_method_7_code
def yX7_lasts : MethodName := ⟨RX7, "lasts", "(III)I"⟩
abbrev cX7_lastsOf : ByteArray := prog_9_method_8_code
def yX7_lastsOf : MethodName := ⟨RX7, "lastsOf", "(I)I"⟩
abbrev cX7_voiceLasts : ByteArray := prog_9_method_9_code
def yX7_voiceLasts : MethodName := ⟨RX7, "voiceLasts", "(III)I"⟩
abbrev cX7_voiceSize : ByteArray := prog_9_method_10_code
def yX7_voiceSize : MethodName := ⟨RX7, "voiceSize", "(III)I"⟩
abbrev cX7_voiceFirst : ByteArray := prog_9_method_11_code
def yX7_voiceFirst : MethodName := ⟨RX7, "voiceFirst", "(III)I"⟩
abbrev cX7_canBe : ByteArray := prog_9_method_12_code
def yX7_canBe : MethodName := ⟨RX7, "canBe", "(II)Z"⟩
abbrev cX7_peek : ByteArray := prog_9_method_13_code
def yX7_peek : MethodName := ⟨RX7, "peek", "(I)I"⟩
abbrev cX7_fail : ByteArray := prog_9_method_14_code
def yX7_fail : MethodName := ⟨RX7, "fail", "(I)V"⟩
abbrev cX7_find : ByteArray := prog_9_method_15_code
def yX7_find : MethodName := ⟨RX7, "find", "([II)I"⟩
abbrev cX7_noteOf : ByteArray := prog_9_method_16_code
def yX7_noteOf : MethodName := ⟨RX7, "noteOf", "(I)I"⟩
abbrev cX7_signOf : ByteArray := prog_9_method_17_code
def yX7_signOf : MethodName := ⟨RX7, "signOf", "(I)I"⟩
abbrev cX7_isNote : ByteArray := prog_9_method_18_code
def yX7_isNote : MethodName := ⟨RX7, "isNote", "(I)Z"⟩
abbrev cX7_isOctave : ByteArray := prog_9_method_19_code
def yX7_isOctave : MethodName := ⟨RX7, "isOctave", "(I)Z"⟩
abbrev cX7_wantsSign : ByteArray := prog_9_method_20_code
def yX7_wantsSign : MethodName := ⟨RX7, "wantsSign", "(II)Z"⟩
abbrev cX7_begins : ByteArray := prog_9_method_21_code
def yX7_begins : MethodName := ⟨RX7, "begins", "(Z)I"⟩
abbrev cX7_ahead : ByteArray := prog_9_method_22_code
def yX7_ahead : MethodName := ⟨RX7, "ahead", "()V"⟩
abbrev cX7_readNote : ByteArray := prog_9_method_23_code
def yX7_readNote : MethodName := ⟨RX7, "readNote", "(I)V"⟩
abbrev cX7_dotted : ByteArray := prog_9_method_24_code
def yX7_dotted : MethodName := ⟨RX7, "dotted", "(I)V"⟩
abbrev cX7_intervals : ByteArray := prog_9_method_25_code
def yX7_intervals : MethodName := ⟨RX7, "intervals", "(I)V"⟩
abbrev cX7_readItem : ByteArray := prog_9_method_26_code
def yX7_readItem : MethodName := ⟨RX7, "readItem", "(II)V"⟩
abbrev cX7_readSlur : ByteArray := prog_9_method_27_code
def yX7_readSlur : MethodName := ⟨RX7, "readSlur", "(I)V"⟩
abbrev cX7_readVoice : ByteArray := prog_9_method_28_code
def yX7_readVoice : MethodName := ⟨RX7, "readVoice", "(II)V"⟩
abbrev cX7_full : ByteArray := prog_9_method_29_code
def yX7_full : MethodName := ⟨RX7, "full", "(I)V"⟩
abbrev cX7_whole : ByteArray := prog_9_method_30_code
def yX7_whole : MethodName := ⟨RX7, "whole", "(II)Z"⟩
abbrev cX7_readBar : ByteArray := prog_9_method_31_code
def yX7_readBar : MethodName := ⟨RX7, "readBar", "()V"⟩
abbrev cX7_read : ByteArray := prog_9_method_32_code
def yX7_read : MethodName := ⟨RX7, "read", "()I"⟩
abbrev cX7_take : ByteArray := prog_9_method_33_code
def yX7_take : MethodName := ⟨RX7, "take", "(I)V"⟩
abbrev cX7_meter : ByteArray := prog_9_method_34_code
def yX7_meter : MethodName := ⟨RX7, "meter", "(II)I"⟩
abbrev cX7_hand : ByteArray := prog_9_method_35_code
def yX7_hand : MethodName := ⟨RX7, "hand", "(I)I"⟩
abbrev cX7_lacks : ByteArray := prog_9_method_36_code
def yX7_lacks : MethodName := ⟨RX7, "lacks", "()Z"⟩
abbrev cX7_bar : ByteArray := prog_9_method_37_code
def yX7_bar : MethodName := ⟨RX7, "bar", "(Z)I"⟩
abbrev cX7_voice : ByteArray := prog_9_method_38_code
def yX7_voice : MethodName := ⟨RX7, "voice", "()I"⟩
abbrev cX7_barred : ByteArray := prog_9_method_39_code
def yX7_barred : MethodName := ⟨RX7, "barred", "(I)I"⟩
abbrev cX7_put : ByteArray := prog_9_method_40_code
def yX7_put : MethodName := ⟨RX7, "put", "(IIIII)I"⟩
abbrev cX7_note : ByteArray := prog_9_method_41_code
def yX7_note : MethodName := ⟨RX7, "note", "(IIIII)I"⟩
abbrev cX7_rest : ByteArray := prog_9_method_42_code
def yX7_rest : MethodName := ⟨RX7, "rest", "(III)I"⟩
abbrev cX7_interval : ByteArray := prog_9_method_43_code
def yX7_interval : MethodName := ⟨RX7, "interval", "(II)I"⟩
abbrev cX7_tie : ByteArray := prog_9_method_44_code
def yX7_tie : MethodName := ⟨RX7, "tie", "(Z)I"⟩
abbrev cX7_slur : ByteArray := prog_9_method_45_code
def yX7_slur : MethodName := ⟨RX7, "slur", "(IZ)I"⟩
abbrev cX7_isVoice : ByteArray := prog_9_method_46_code
def yX7_isVoice : MethodName := ⟨RX7, "isVoice", "(II)Z"⟩
abbrev cX7_isSigned : ByteArray := prog_9_method_47_code
def yX7_isSigned : MethodName := ⟨RX7, "isSigned", "(II)Z"⟩
abbrev cX7_slurs : ByteArray := prog_9_method_48_code
def yX7_slurs : MethodName := ⟨RX7, "slurs", "()V"⟩
abbrev cX7_lay : ByteArray := prog_9_method_49_code
def yX7_lay : MethodName := ⟨RX7, "lay", "(I)V"⟩
abbrev cX7_laySign : ByteArray := prog_9_method_50_code
def yX7_laySign : MethodName := ⟨RX7, "laySign", "(I)V"⟩
abbrev cX7_layItem : ByteArray := prog_9_method_51_code
def yX7_layItem : MethodName := ⟨RX7, "layItem", "(I)V"⟩
abbrev cX7_layBar : ByteArray := prog_9_method_52_code
def yX7_layBar : MethodName := ⟨RX7, "layBar", "(I)V"⟩
abbrev cX7_write : ByteArray := prog_9_method_53_code
def yX7_write : MethodName := ⟨RX7, "write", "(I)I"⟩
abbrev cX7_wants : ByteArray := prog_9_method_54_code
def yX7_wants : MethodName := ⟨RX7, "wants", "(II)I"⟩
abbrev cX7_ways : ByteArray := prog_9_method_55_code
def yX7_ways : MethodName := ⟨RX7, "ways", "(II)I"⟩
abbrev cX7_signed : ByteArray := prog_9_method_56_code
def yX7_signed : MethodName := ⟨RX7, "signed", "(II)I"⟩
abbrev cX7_barOf : ByteArray := prog_9_method_57_code
def yX7_barOf : MethodName := ⟨RX7, "barOf", "(II)I"⟩
abbrev cX7_item : ByteArray := prog_9_method_58_code
def yX7_item : MethodName := ⟨RX7, "item", "(II)I"⟩
abbrev cX7_loose : ByteArray := prog_9_method_59_code
def yX7_loose : MethodName := ⟨RX7, "loose", "()I"⟩
abbrev cX7_told : ByteArray := prog_9_method_60_code
def yX7_told : MethodName := ⟨RX7, "told", "(I)I"⟩
def RJ9 : String := "java/lang/Math"
def TJ9 : u_T := fun k => match k with
  | _ => ("", "", "", false)
def tyJ9 : Nat → FieldType := fun k => match k with
  | _ => .int
abbrev wsJ90 : List Cond := u_ws RJ9 TJ9 0
theorem nmJ9 : ∀ a, a < 0 → ∀ b, b < 0 → a ≠ b → (TJ9 a).2.1 ≠ (TJ9 b).2.1 := by decide +kernel
theorem tyJ9_ok : ∀ k, k < 0 → parseFieldDescriptor (TJ9 k).2.2.1 = some (tyJ9 k) := by decide +kernel
abbrev cJ9_abs_0f7a4 : ByteArray := prog_10_method_59_code
def yJ9_abs_0f7a4 : MethodName := ⟨RJ9, "abs", "(I)I"⟩
abbrev cJ9_max_7cf53 : ByteArray := prog_10_method_65_code
def yJ9_max_7cf53 : MethodName := ⟨RJ9, "max", "(II)I"⟩
abbrev cJ9_min_7cf53 : ByteArray := prog_10_method_69_code
def yJ9_min_7cf53 : MethodName := ⟨RJ9, "min", "(II)I"⟩
def RJ10 : String := "java/lang/System"
def TJ10 : u_T := fun k => match k with
  | _ => ("", "", "", false)
def tyJ10 : Nat → FieldType := fun k => match k with
  | _ => .int
abbrev wsJ100 : List Cond := u_ws RJ10 TJ10 0
theorem nmJ10 : ∀ a, a < 0 → ∀ b, b < 0 → a ≠ b → (TJ10 a).2.1 ≠ (TJ10 b).2.1 := by decide +kernel
theorem tyJ10_ok : ∀ k, k < 0 → parseFieldDescriptor (TJ10 k).2.2.1 = some (tyJ10 k) := by decide +kernel
def RL : String := "BrailleCellsLaw"
abbrev cL_law : ByteArray := code
def yL_law : MethodName := ⟨RL, "law", "([I)Z"⟩
end
section
def lw_nst : Cond → Bool
  | .methodLinkNest _ _ _ _ => true
  | .fieldLinkNest _ _ _ _ _ _ => true
  | _ => false
/-! THE PURE PICTURE: places 0 .. 77 (78 .. a method's own new rows), 100 .. 108 tables that nobody writes; a memory of ints -/
abbrev Mem : Type := Nat → Nat → Int32
abbrev Mt : Type := MethodName × ByteArray × Nat × Option FieldType × Nat × Nat
def mset (M : Mem) (k j : Nat) (x : Int32) : Mem := fun a => if a = k then upd (M k) j x else M a
def mrow (M : Mem) (k : Nat) (f : Nat → Int32) : Mem := fun a => if a = k then f else M a
/-- a place's shape: 0 a row of ints, 1 of booleans, c + 2 an object of class c; how many -/
def shp : List (Nat × Nat) := [(8, 7), (4, 2), (0, 4000), (4, 2), (0, 4000), (2, 18), (0, 60), (0, 180), (0, 180), (0, 600), (0, 600), (0, 600), (0, 600), (0, 600), (0, 600), (0, 600), (0, 600), (0, 600), (0, 600), (0, 2400), (2, 18), (0, 60), (0, 180), (0, 180), (0, 600), (0, 600), (0, 600), (0, 600), (0, 600), (0, 600), (0, 600), (0, 600), (0, 600), (0, 600), (0, 2400), (7, 5), (0, 40), (0, 40), (0, 11234), (0, 137), (5, 7), (3, 2), (6, 6), (3, 2), (0, 600), (1, 180), (9, 40), (0, 7), (0, 4), (0, 4), (0, 7), (0, 7), (0, 4000), (0, 2), (0, 2), (0, 2), (0, 120), (0, 120), (0, 1200), (0, 1200), (0, 1200), (0, 1200), (0, 1200), (0, 1200), (0, 1200), (0, 1200), (0, 1200), (0, 1200), (0, 4800), (0, 163920), (0, 40), (0, 40), (0, 600), (0, 600), (0, 600), (0, 180), (0, 4000), (0, 4000)]
def S0 (k : Nat) : Nat × Nat := shp.getD k (0, 11)
abbrev clO : List vw_C := [(RX0, TX0, 18), (RX1, TX1, 2), (RX2, TX2, 2), (RX3, TX3, 7), (RX4, TX4, 6), (RX5, TX5, 5), (RX6, TX6, 7), (RX7, TX7, 40)]
def tyC (ci : Nat) : Nat → FieldType := match ci with
  | 0 => tyX0
  | 1 => tyX1
  | 2 => tyX2
  | 3 => tyX3
  | 4 => tyX4
  | 5 => tyX5
  | 6 => tyX6
  | _ => tyX7
def rfq (ci j : Nat) : Bool := match tyC ci j with
  | .int => false
  | .boolean => false
  | _ => true
/-- the places that final fields name (0: no such) -/
def frs : List (List Nat) := [[0, 0, 0, 0, 35, 40, 42], [2, 0], [], [4, 0], [], [0, 0, 0, 0, 6, 7, 8, 9, 10, 11, 12, 13, 14, 15, 16, 17, 18, 19], [], [], [], [], [], [], [], [], [], [], [], [], [], [], [0, 0, 0, 0, 21, 22, 23, 24, 25, 26, 27, 28, 29, 30, 31, 32, 33, 34], [], [], [], [], [], [], [], [], [], [], [], [], [], [], [36, 37, 0, 38, 39], [], [], [], [], [35, 41, 0, 0, 0, 0, 0], [], [35, 43, 44, 45, 0, 0], [], [], [], [47, 48, 49, 50, 51, 52, 0, 0, 53, 54, 55, 56, 57, 58, 59, 60, 61, 62, 63, 64, 65, 66, 67, 68, 0, 0, 0, 0, 0, 69, 70, 71, 72, 73, 74, 75, 76, 0, 77, 0]]
def FR (k j : Nat) : Nat := (frs.getD k []).getD j 0
def rn (ad : Nat → Nat) : Value → Value
  | .ref k => .ref (ad k)
  | v => v
def encF (ph : Bool) (ad : Nat → Nat) (k ci j : Nat) (x : Int32) : Value :=
  if rfq ci j then (if ph && !(FR k j == 0) then .ref (ad (FR k j)) else if x < 0 then .null else .ref (ad x.toNatClampNeg)) else .int x
def cellE (ph : Bool) (cI cB : ClassId) (ad : Nat → Nat) (k : Nat) (m : Nat → Int32) : va_E := match (S0 k).1 with
  | 0 => .inl (cI, (S0 k).2, .inl m)
  | 1 => .inl (cB, (S0 k).2, .inl m)
  | ci + 2 => .inr (ci, (List.range (S0 k).2).map (fun j => encF ph ad k ci j (m j)))
def wsO (ph : Bool) (cI cB : ClassId) (ad : Nat → Nat) (n : Nat) (M : Mem) : va_W := (List.range n).map (fun k => (ad k, cellE ph cI cB ad k (M k)))
theorem wsO_at {ph : Bool} {cI cB : ClassId} {ad : Nat → Nat} {n k : Nat} {M : Mem} (h : k < n) : (wsO ph cI cB ad n M)[k]? = some (ad k, cellE ph cI cB ad k (M k)) := by
  simp [wsO, h]
theorem wsO_set {ph : Bool} {cI cB : ClassId} {ad : Nat → Nat} {n k : Nat} {M M' : Mem} (ho : ∀ a, a ≠ k → M' a = M a) : (wsO ph cI cB ad n M).set k (ad k, cellE ph cI cB ad k (M' k)) = wsO ph cI cB ad n M' := by
  apply List.ext_getElem?
  intro i
  rw [List.getElem?_set]
  by_cases hi : k = i
  · subst hi
    by_cases hk : k < n
    · simp [wsO, hk]
    · simp [wsO, hk]
  · rw [if_neg hi]
    by_cases hk : i < n
    · rw [wsO_at hk, wsO_at hk, ho i (Ne.symm hi)]
    · simp [wsO, hk]
/-- refs in fields point to places that are -/
def wfM (ph : Bool) (n : Nat) (M : Mem) : Prop := ∀ k j ci : Nat, k < n → (S0 k).1 = ci + 2 → j < (S0 k).2 → rfq ci j = true → ¬ M k j < 0 → (M k j).toNatClampNeg < if ph then 78 else n
theorem FR_lt : ∀ k j : Nat, FR k j < 78 := by
  have h : ∀ l ∈ frs, ∀ v ∈ l, v < 78 := by decide +kernel
  intro k j
  unfold FR
  rw [List.getD_eq_getElem?_getD, List.getD_eq_getElem?_getD]
  cases hk : frs[k]? with
  | none => simp
  | some l =>
    simp only [Option.getD_some]
    cases hj : l[j]? with
    | none => simp
    | some v => exact h l (List.mem_of_getElem? hk) v (List.mem_of_getElem? hj)
theorem wsO_ad {ph : Bool} {cI cB : ClassId} {ad ad' : Nat → Nat} {n : Nat} {M : Mem} (hw : wfM ph n M) (hn : ph = true → 78 ≤ n) (ha : ∀ k, k < n → ad' k = ad k) : wsO ph cI cB ad' n M = wsO ph cI cB ad n M := by
  apply List.map_congr_left
  intro k hk
  have hk : k < n := List.mem_range.mp hk
  rw [ha k hk]
  congr 1
  unfold cellE
  split
  · rfl
  · rfl
  · rename_i ci hci
    congr 2
    apply List.map_congr_left
    intro j hj
    have hj := List.mem_range.mp hj
    unfold encF
    by_cases hr : rfq ci j = true
    · rw [if_pos hr, if_pos hr]
      by_cases hp : (ph && !(FR k j == 0)) = true
      · rw [if_pos hp, if_pos hp]
        have h1 : ph = true := by
          cases ph <;> simp_all
        rw [ha _ (Nat.lt_of_lt_of_le (FR_lt k j) (hn h1))]
      · rw [if_neg hp, if_neg hp]
        by_cases hx : M k j < 0
        · rw [if_pos hx, if_pos hx]
        · rw [if_neg hx, if_neg hx, ha _ ?_]
          have h9 := hw k j ci hk hci hj hr hx
          cases ph
          · simpa using h9
          · exact Nat.lt_of_lt_of_le (by simpa using h9) (hn rfl)
    · rw [if_neg hr, if_neg hr]
def gwT : List Cond := lw_tbl.filter goodWord
def nwT : List Cond := lw_tbl.filter lw_nst
def sN (i : Nat) : String := match i with
  | 0 => "STEP_CELLS"
  | 1 => "KIND_CELLS"
  | 2 => "REST_CELLS"
  | 3 => "OCTAVE_CELLS"
  | 4 => "SIGN_CELLS"
  | 5 => "INTERVAL_CELLS"
  | 6 => "KIND_LENGTHS"
  | _ => "DOT_TIMES"
/-- the tables: eight statics, and the script; their lengths stand at place 110 -/
def Tx (ad : Nat → Nat) (A : Nat → Prop) (M : Mem) (s : State) (H : Heap) : Prop :=
  (∀ i, i < 9 → va_T .int (ad (100 + i)) (M 110 i).toNatClampNeg (fun j => .int (M (100 + i) j)) A s H) ∧ ∀ i, i < 8 → va_Z RX6 (sN i) "[I" (.ref (ad (100 + i))) A s H
def Wx (ph : Bool) (D : va_G) (cI cB : ClassId) (ad : Nat → Nat) (n : Nat) (A : Nat → Prop) (M : Mem) (s : State) (H : Heap) (locs : List Loc) : Prop :=
  va_K D clO [(cI, .int), (cB, .boolean)] s ∧ va_P D clO (wsO ph cI cB ad n M) H ∧ va_D A (wsO ph cI cB ad n M) ∧ va_S A s.heap H locs ∧ (∀ q, s.heap.size ≤ q → A q) ∧ wfM ph n M ∧ n ≤ 100 ∧ (ph = true → 78 ≤ n) ∧ Tx ad A M s s.heap
def Cx (p : Program) (R : Room) (s : State) (m : MethodId) (args : Array Value) (meth : Method) (c : Code) (y : Mt) : Prop :=
  p.tables.exec = Jvm.exec ∧ c.code = y.2.1 ∧ c.maxLocals = y.2.2.1 ∧ s.vm.findClass y.1.cls = some m.cls ∧ (∀ w ∈ gwT, w.before args s = true) ∧ (∀ w ∈ nwT, va_Nw w s) ∧ meth.name = y.1.name ∧ y.2.2.2.2.1 ≤ R.frames ∧ y.2.2.2.2.2 ≤ R.locals
def nul : Value → Bool
  | .null => true
  | _ => false
def lvO (ad : Nat → Nat) : Nat → List Value → List (Nat × Value)
  | _, [] => []
  | i, v :: vs => if nul v then lvO ad (i + 1) vs else (i, rn ad v) :: lvO ad (i + 1) vs
theorem lvO_mem {ad : Nat → Nat} {q : Nat × Value} : ∀ {L : List Value} {i : Nat}, q ∈ lvO ad i L ↔ ∃ j v, L[j]? = some v ∧ nul v = false ∧ q = (i + j, rn ad v)
  | [], i => by simp [lvO]
  | v :: vs, i => by
    have ih := lvO_mem (ad := ad) (q := q) (L := vs) (i := i + 1)
    unfold lvO
    constructor
    · intro h
      by_cases hn : nul v = true
      · rw [if_pos hn] at h
        obtain ⟨j, w, h1, h2, h3⟩ := ih.mp h
        exact ⟨j + 1, w, by simpa using h1, h2, by rw [h3]; congr 1; omega⟩
      · rw [if_neg hn] at h
        rcases List.mem_cons.mp h with h | h
        · exact ⟨0, v, rfl, by simpa using hn, h⟩
        · obtain ⟨j, w, h1, h2, h3⟩ := ih.mp h
          exact ⟨j + 1, w, by simpa using h1, h2, by rw [h3]; congr 1; omega⟩
    · rintro ⟨j, w, h1, h2, h3⟩
      cases j with
      | zero =>
        simp at h1
        subst h1
        rw [if_neg (by simp [h2])]
        exact List.mem_cons.mpr (Or.inl h3)
      | succ j =>
        have : q ∈ lvO ad (i + 1) vs := ih.mpr ⟨j, w, by simpa using h1, h2, by rw [h3]; congr 1; omega⟩
        by_cases hn : nul v = true
        · rw [if_pos hn]; exact this
        · rw [if_neg hn]; exact List.mem_cons_of_mem _ this
theorem lvO_at {ad : Nat → Nat} {ls : Array Slot} {nL i : Nat} {L : List Value} {v : Value} (h : lv_has ls nL (lvO ad 0 L)) (hi : L[i]? = some v) (hn : nul v = false) : ls[i]? = some (.val (rn ad v)) := by
  have := h.2.2 (i, rn ad v) (lvO_mem.mpr ⟨i, v, hi, hn, by simp⟩)
  exact this
/-- at i - 1 stands no long -/
def nlg (L : List Value) (i : Nat) : Bool := match i with
  | 0 => true
  | i + 1 => match L[i]? with
    | some v => !(v.category == 2)
    | none => true
theorem rn_cat {ad : Nat → Nat} (v : Value) : (rn ad v).category = v.category := by cases v <;> rfl
theorem lvO_set {ad : Nat → Nat} {ls : Array Slot} {nL i : Nat} {L : List Value} {v : Value} (hg : nlg L i = true) (h : lv_has ls nL ((i, rn ad v) :: (lvO ad 0 L).filter (fun q => !(q.1 == i) && !(q.1 + 1 == i && q.2.category == 2)))) : lv_has ls nL (lvO ad 0 (L.set i v)) := by
  refine ⟨h.1, h.2.1, fun q hq => h.2.2 q ?_⟩
  obtain ⟨j, w, h1, h2, h3⟩ := lvO_mem.mp hq
  simp only [Nat.zero_add] at h3
  rw [List.getElem?_set] at h1
  by_cases hj : i = j
  · subst hj
    rw [if_pos rfl] at h1
    by_cases hl : i < L.length
    · rw [if_pos hl] at h1
      cases h1
      exact List.mem_cons.mpr (Or.inl h3)
    · rw [if_neg hl] at h1
      cases h1
  · rw [if_neg hj] at h1
    refine List.mem_cons_of_mem _ (List.mem_filter.mpr ⟨lvO_mem.mpr ⟨j, w, h1, h2, by simpa using h3⟩, ?_⟩)
    subst h3
    simp only [Bool.and_eq_true, Bool.not_eq_true', beq_eq_false_iff_ne, ne_eq, Bool.and_eq_false_iff]
    refine ⟨fun e => hj e.symm, ?_⟩
    by_cases he : j + 1 = i
    · right
      subst he
      simp only [nlg, h1] at hg
      rw [rn_cat]
      simpa using hg
    · left
      simpa using he
def retI (y : Mt) : Instr := match y.2.2.2.1 with
  | none => .return_
  | some _ => .ireturn
def retS (y : Mt) (v : Int32) : List Value := match y.2.2.2.1 with
  | none => []
  | some _ => [.int v]
def narO (y : Mt) (v : Int32) : Prop := match y.2.2.2.1 with
  | none => True
  | some ty => narrow ty (.int v) = .int v
/-- THE JUDGEMENT: method y at pc, with locals L, stack st, memory M and n places, comes to its return with Q, nR places then -/
def Ex (ph : Bool) (y : Mt) (nR n kc ks pc : Nat) (L st : List Value) (M : Mem) (Q : Int32 → Mem → Prop) : Prop :=
  ∀ (p : Program) (l : Launch) (e : Env) (R : Room) (s : State) (m : MethodId) (args : Array Value) (below : List Frame) (meth : Method) (c : Code) (D : va_G) (cI cB : ClassId) (ad : Nat → Nat) (A : Nat → Prop) (H : Heap) (locs : List Loc) (cells slots KC KS : Nat) (Z : State → Prop) (ls : Array Slot),
    Cx p R s m args meth c y → Wx ph D cI cB ad n A M s H locs → lv_has ls y.2.2.1 (lvO ad 0 L) → cells + kc ≤ KC → slots + ks ≤ KS → KC ≤ R.cells → KS ≤ R.slots →
    (∀ (ad' : Nat → Nat) (M' : Mem) (H' : Heap) (locs' : List Loc) (v : Int32) (pc' : Nat) (ls' : Array Slot), (∀ k, k < n ∨ 100 ≤ k → ad' k = ad k) → Q v M' → Wx ph D cI cB ad' nR A M' s H' locs' → decode y.2.1 pc' = .ok (retI y, 1) → narO y v → W p l e R s m args below meth c H' locs' KC KS Z (F0 m pc' ls' (retS y v))) →
    W p l e R s m args below meth c H locs cells slots Z (F0 m pc ls (st.map (rn ad)))
end
section
section Rows
variable {ph : Bool} {y : Mt} {nR n kc ks pc : Nat} {L st : List Value} {M : Mem} {Q : Int32 → Mem → Prop}
theorem ex_iconst {k : Int} {v : Int32} (hd : decode y.2.1 pc = .ok (.iconst k, 1)) (hv : Int32.ofInt k = v) (kk : Ex ph y nR n kc ks (pc + 1) L (.int v :: st) M Q) : Ex ph y nR n kc ks pc L st M Q := by
  intro p l e R s m args below meth c D cI cB ad A H locs cells slots KC KS Z ls C Wd hl h1 h2 h3 h4 hZ
  exact lv_iconst C.1 C.2.1 hd hv (kk p l e R s m args below meth c D cI cB ad A H locs cells slots KC KS Z ls C Wd hl h1 h2 h3 h4 hZ)
theorem ex_bipush {k : Int} {v : Int32} (hd : decode y.2.1 pc = .ok (.bipush k, 2)) (hv : (Int8.ofInt k).toInt32 = v) (kk : Ex ph y nR n kc ks (pc + 2) L (.int v :: st) M Q) : Ex ph y nR n kc ks pc L st M Q := by
  intro p l e R s m args below meth c D cI cB ad A H locs cells slots KC KS Z ls C Wd hl h1 h2 h3 h4 hZ
  exact lv_bipush C.1 C.2.1 hd hv (kk p l e R s m args below meth c D cI cB ad A H locs cells slots KC KS Z ls C Wd hl h1 h2 h3 h4 hZ)
theorem ex_sipush {k : Int} {v : Int32} (hd : decode y.2.1 pc = .ok (.sipush k, 3)) (hv : (Int16.ofInt k).toInt32 = v) (kk : Ex ph y nR n kc ks (pc + 3) L (.int v :: st) M Q) : Ex ph y nR n kc ks pc L st M Q := by
  intro p l e R s m args below meth c D cI cB ad A H locs cells slots KC KS Z ls C Wd hl h1 h2 h3 h4 hZ
  exact lv_sipush C.1 C.2.1 hd hv (kk p l e R s m args below meth c D cI cB ad A H locs cells slots KC KS Z ls C Wd hl h1 h2 h3 h4 hZ)
theorem ex_ldc {k : Nat} {v : Int32} (hd : decode y.2.1 pc = .ok (.ldc k, 2)) (hv : Cond.constant y.1.cls k v ∈ gwT) (kk : Ex ph y nR n kc ks (pc + 2) L (.int v :: st) M Q) : Ex ph y nR n kc ks pc L st M Q := by
  intro p l e R s m args below meth c D cI cB ad A H locs cells slots KC KS Z ls C Wd hl h1 h2 h3 h4 hZ
  exact lv_ldc C.1 C.2.1 C.2.2.2.1 (C.2.2.2.2.1 _ hv) hd (kk p l e R s m args below meth c D cI cB ad A H locs cells slots KC KS Z ls C Wd hl h1 h2 h3 h4 hZ)
theorem ex_ldc2 {k : Nat} {v : Int64} (hd : decode y.2.1 pc = .ok (.ldc2_w k, 3)) (hv : Cond.constantLong y.1.cls k v ∈ gwT) (kk : Ex ph y nR n kc ks (pc + 3) L (.long v :: st) M Q) : Ex ph y nR n kc ks pc L st M Q := by
  intro p l e R s m args below meth c D cI cB ad A H locs cells slots KC KS Z ls C Wd hl h1 h2 h3 h4 hZ
  exact lv_ldc2 C.1 C.2.1 C.2.2.2.1 (C.2.2.2.2.1 _ hv) hd (kk p l e R s m args below meth c D cI cB ad A H locs cells slots KC KS Z ls C Wd hl h1 h2 h3 h4 hZ)
theorem ex_iadd {a b : Int32} (hd : decode y.2.1 pc = .ok (.iadd, 1)) (kk : Ex ph y nR n kc ks (pc + 1) L (.int (a + b) :: st) M Q) : Ex ph y nR n kc ks pc L (.int b :: .int a :: st) M Q := by
  intro p l e R s m args below meth c D cI cB ad A H locs cells slots KC KS Z ls C Wd hl h1 h2 h3 h4 hZ
  exact lv_iadd C.1 C.2.1 hd (kk p l e R s m args below meth c D cI cB ad A H locs cells slots KC KS Z ls C Wd hl h1 h2 h3 h4 hZ)
theorem ex_isub {a b : Int32} (hd : decode y.2.1 pc = .ok (.isub, 1)) (kk : Ex ph y nR n kc ks (pc + 1) L (.int (a - b) :: st) M Q) : Ex ph y nR n kc ks pc L (.int b :: .int a :: st) M Q := by
  intro p l e R s m args below meth c D cI cB ad A H locs cells slots KC KS Z ls C Wd hl h1 h2 h3 h4 hZ
  exact lv_isub C.1 C.2.1 hd (kk p l e R s m args below meth c D cI cB ad A H locs cells slots KC KS Z ls C Wd hl h1 h2 h3 h4 hZ)
theorem ex_imul {a b : Int32} (hd : decode y.2.1 pc = .ok (.imul, 1)) (kk : Ex ph y nR n kc ks (pc + 1) L (.int (a * b) :: st) M Q) : Ex ph y nR n kc ks pc L (.int b :: .int a :: st) M Q := by
  intro p l e R s m args below meth c D cI cB ad A H locs cells slots KC KS Z ls C Wd hl h1 h2 h3 h4 hZ
  exact lv_imul C.1 C.2.1 hd (kk p l e R s m args below meth c D cI cB ad A H locs cells slots KC KS Z ls C Wd hl h1 h2 h3 h4 hZ)
theorem ex_iand {a b : Int32} (hd : decode y.2.1 pc = .ok (.iand, 1)) (kk : Ex ph y nR n kc ks (pc + 1) L (.int (a &&& b) :: st) M Q) : Ex ph y nR n kc ks pc L (.int b :: .int a :: st) M Q := by
  intro p l e R s m args below meth c D cI cB ad A H locs cells slots KC KS Z ls C Wd hl h1 h2 h3 h4 hZ
  exact lv_iand C.1 C.2.1 hd (kk p l e R s m args below meth c D cI cB ad A H locs cells slots KC KS Z ls C Wd hl h1 h2 h3 h4 hZ)
theorem ex_ior {a b : Int32} (hd : decode y.2.1 pc = .ok (.ior, 1)) (kk : Ex ph y nR n kc ks (pc + 1) L (.int (a ||| b) :: st) M Q) : Ex ph y nR n kc ks pc L (.int b :: .int a :: st) M Q := by
  intro p l e R s m args below meth c D cI cB ad A H locs cells slots KC KS Z ls C Wd hl h1 h2 h3 h4 hZ
  exact lv_ior C.1 C.2.1 hd (kk p l e R s m args below meth c D cI cB ad A H locs cells slots KC KS Z ls C Wd hl h1 h2 h3 h4 hZ)
theorem ex_ishr {a b : Int32} (hd : decode y.2.1 pc = .ok (.ishr, 1)) (kk : Ex ph y nR n kc ks (pc + 1) L (.int (a >>> (b &&& 31)) :: st) M Q) : Ex ph y nR n kc ks pc L (.int b :: .int a :: st) M Q := by
  intro p l e R s m args below meth c D cI cB ad A H locs cells slots KC KS Z ls C Wd hl h1 h2 h3 h4 hZ
  exact lv_ishr C.1 C.2.1 hd (kk p l e R s m args below meth c D cI cB ad A H locs cells slots KC KS Z ls C Wd hl h1 h2 h3 h4 hZ)
theorem ex_ishl {a b : Int32} (hd : decode y.2.1 pc = .ok (.ishl, 1)) (kk : Ex ph y nR n kc ks (pc + 1) L (.int (a <<< (b &&& 31)) :: st) M Q) : Ex ph y nR n kc ks pc L (.int b :: .int a :: st) M Q := by
  intro p l e R s m args below meth c D cI cB ad A H locs cells slots KC KS Z ls C Wd hl h1 h2 h3 h4 hZ
  exact lv_ishl C.1 C.2.1 hd (kk p l e R s m args below meth c D cI cB ad A H locs cells slots KC KS Z ls C Wd hl h1 h2 h3 h4 hZ)
theorem ex_idiv {a b : Int32} (hd : decode y.2.1 pc = .ok (.idiv, 1)) (hb : ¬ b = 0) (kk : Ex ph y nR n kc ks (pc + 1) L (.int (a / b) :: st) M Q) : Ex ph y nR n kc ks pc L (.int b :: .int a :: st) M Q := by
  intro p l e R s m args below meth c D cI cB ad A H locs cells slots KC KS Z ls C Wd hl h1 h2 h3 h4 hZ
  exact lv_idiv C.1 C.2.1 hd hb (kk p l e R s m args below meth c D cI cB ad A H locs cells slots KC KS Z ls C Wd hl h1 h2 h3 h4 hZ)
theorem ex_irem {a b : Int32} (hd : decode y.2.1 pc = .ok (.irem, 1)) (hb : ¬ b = 0) (kk : Ex ph y nR n kc ks (pc + 1) L (.int (a - a / b * b) :: st) M Q) : Ex ph y nR n kc ks pc L (.int b :: .int a :: st) M Q := by
  intro p l e R s m args below meth c D cI cB ad A H locs cells slots KC KS Z ls C Wd hl h1 h2 h3 h4 hZ
  exact lv_irem C.1 C.2.1 hd hb (kk p l e R s m args below meth c D cI cB ad A H locs cells slots KC KS Z ls C Wd hl h1 h2 h3 h4 hZ)
theorem ex_land {a b : Int64} (hd : decode y.2.1 pc = .ok (.land, 1)) (kk : Ex ph y nR n kc ks (pc + 1) L (.long (a &&& b) :: st) M Q) : Ex ph y nR n kc ks pc L (.long b :: .long a :: st) M Q := by
  intro p l e R s m args below meth c D cI cB ad A H locs cells slots KC KS Z ls C Wd hl h1 h2 h3 h4 hZ
  exact lv_land C.1 C.2.1 hd (kk p l e R s m args below meth c D cI cB ad A H locs cells slots KC KS Z ls C Wd hl h1 h2 h3 h4 hZ)
theorem ex_lor {a b : Int64} (hd : decode y.2.1 pc = .ok (.lor, 1)) (kk : Ex ph y nR n kc ks (pc + 1) L (.long (a ||| b) :: st) M Q) : Ex ph y nR n kc ks pc L (.long b :: .long a :: st) M Q := by
  intro p l e R s m args below meth c D cI cB ad A H locs cells slots KC KS Z ls C Wd hl h1 h2 h3 h4 hZ
  exact lv_lor C.1 C.2.1 hd (kk p l e R s m args below meth c D cI cB ad A H locs cells slots KC KS Z ls C Wd hl h1 h2 h3 h4 hZ)
theorem ex_lshr {a : Int64} {b : Int32} (hd : decode y.2.1 pc = .ok (.lshr, 1)) (kk : Ex ph y nR n kc ks (pc + 1) L (.long (a >>> (b.toInt64 &&& 63)) :: st) M Q) : Ex ph y nR n kc ks pc L (.int b :: .long a :: st) M Q := by
  intro p l e R s m args below meth c D cI cB ad A H locs cells slots KC KS Z ls C Wd hl h1 h2 h3 h4 hZ
  exact lv_lshr C.1 C.2.1 hd rfl (kk p l e R s m args below meth c D cI cB ad A H locs cells slots KC KS Z ls C Wd hl h1 h2 h3 h4 hZ)
theorem ex_lshl {a : Int64} {b : Int32} (hd : decode y.2.1 pc = .ok (.lshl, 1)) (kk : Ex ph y nR n kc ks (pc + 1) L (.long (a <<< (b.toInt64 &&& 63)) :: st) M Q) : Ex ph y nR n kc ks pc L (.int b :: .long a :: st) M Q := by
  intro p l e R s m args below meth c D cI cB ad A H locs cells slots KC KS Z ls C Wd hl h1 h2 h3 h4 hZ
  exact lv_lshl C.1 C.2.1 hd rfl (kk p l e R s m args below meth c D cI cB ad A H locs cells slots KC KS Z ls C Wd hl h1 h2 h3 h4 hZ)
theorem ex_lushr {a : Int64} {b : Int32} (hd : decode y.2.1 pc = .ok (.lushr, 1)) (kk : Ex ph y nR n kc ks (pc + 1) L (.long ((a.toUInt64 >>> (b.toInt64.toUInt64 &&& Int64.toUInt64 63)).toInt64) :: st) M Q) : Ex ph y nR n kc ks pc L (.int b :: .long a :: st) M Q := by
  intro p l e R s m args below meth c D cI cB ad A H locs cells slots KC KS Z ls C Wd hl h1 h2 h3 h4 hZ
  exact lv_lushr C.1 C.2.1 hd rfl (kk p l e R s m args below meth c D cI cB ad A H locs cells slots KC KS Z ls C Wd hl h1 h2 h3 h4 hZ)
theorem ex_i2l {a : Int32} (hd : decode y.2.1 pc = .ok (.i2l, 1)) (kk : Ex ph y nR n kc ks (pc + 1) L (.long a.toInt64 :: st) M Q) : Ex ph y nR n kc ks pc L (.int a :: st) M Q := by
  intro p l e R s m args below meth c D cI cB ad A H locs cells slots KC KS Z ls C Wd hl h1 h2 h3 h4 hZ
  exact lv_i2l C.1 C.2.1 hd rfl (kk p l e R s m args below meth c D cI cB ad A H locs cells slots KC KS Z ls C Wd hl h1 h2 h3 h4 hZ)
theorem ex_l2i {a : Int64} (hd : decode y.2.1 pc = .ok (.l2i, 1)) (kk : Ex ph y nR n kc ks (pc + 1) L (.int a.toInt32 :: st) M Q) : Ex ph y nR n kc ks pc L (.long a :: st) M Q := by
  intro p l e R s m args below meth c D cI cB ad A H locs cells slots KC KS Z ls C Wd hl h1 h2 h3 h4 hZ
  exact lv_l2i C.1 C.2.1 hd rfl (kk p l e R s m args below meth c D cI cB ad A H locs cells slots KC KS Z ls C Wd hl h1 h2 h3 h4 hZ)
theorem ex_dup {v : Value} (hd : decode y.2.1 pc = .ok (.dup, 1)) (hc : v.category = 1) (kk : Ex ph y nR n kc ks (pc + 1) L (v :: v :: st) M Q) : Ex ph y nR n kc ks pc L (v :: st) M Q := by
  intro p l e R s m args below meth c D cI cB ad A H locs cells slots KC KS Z ls C Wd hl h1 h2 h3 h4 hZ
  exact lv_dup C.1 C.2.1 hd ((rn_cat v).trans hc) (kk p l e R s m args below meth c D cI cB ad A H locs cells slots KC KS Z ls C Wd hl h1 h2 h3 h4 hZ)
theorem ex_pop {v : Value} (hd : decode y.2.1 pc = .ok (.pop, 1)) (hc : v.category = 1) (kk : Ex ph y nR n kc ks (pc + 1) L st M Q) : Ex ph y nR n kc ks pc L (v :: st) M Q := by
  intro p l e R s m args below meth c D cI cB ad A H locs cells slots KC KS Z ls C Wd hl h1 h2 h3 h4 hZ
  exact lv_pop C.1 C.2.1 hd ((rn_cat v).trans hc) (kk p l e R s m args below meth c D cI cB ad A H locs cells slots KC KS Z ls C Wd hl h1 h2 h3 h4 hZ)
theorem ex_dup2 {v w : Value} (hd : decode y.2.1 pc = .ok (.dup2, 1)) (hc : v.category = 1) (hc2 : w.category = 1) (kk : Ex ph y nR n kc ks (pc + 1) L (v :: w :: v :: w :: st) M Q) : Ex ph y nR n kc ks pc L (v :: w :: st) M Q := by
  intro p l e R s m args below meth c D cI cB ad A H locs cells slots KC KS Z ls C Wd hl h1 h2 h3 h4 hZ
  exact lv_dup2_11 C.1 C.2.1 hd ((rn_cat v).trans hc) ((rn_cat w).trans hc2) (kk p l e R s m args below meth c D cI cB ad A H locs cells slots KC KS Z ls C Wd hl h1 h2 h3 h4 hZ)
theorem ex_iload_n {k : Fin 4} {x : Int32} (hd : decode y.2.1 pc = .ok (.iload_n k, 1)) (hx : L[(k : Nat)]? = some (.int x)) (kk : Ex ph y nR n kc ks (pc + 1) L (.int x :: st) M Q) : Ex ph y nR n kc ks pc L st M Q := by
  intro p l e R s m args below meth c D cI cB ad A H locs cells slots KC KS Z ls C Wd hl h1 h2 h3 h4 hZ
  exact lv_iload_n C.1 C.2.1 hd rfl (lvO_at hl hx rfl) (kk p l e R s m args below meth c D cI cB ad A H locs cells slots KC KS Z ls C Wd hl h1 h2 h3 h4 hZ)
theorem ex_iload {k : Nat} {x : Int32} (hd : decode y.2.1 pc = .ok (.iload k, 2)) (hx : L[k]? = some (.int x)) (kk : Ex ph y nR n kc ks (pc + 2) L (.int x :: st) M Q) : Ex ph y nR n kc ks pc L st M Q := by
  intro p l e R s m args below meth c D cI cB ad A H locs cells slots KC KS Z ls C Wd hl h1 h2 h3 h4 hZ
  exact lv_iload C.1 C.2.1 hd (lvO_at hl hx rfl) (kk p l e R s m args below meth c D cI cB ad A H locs cells slots KC KS Z ls C Wd hl h1 h2 h3 h4 hZ)
theorem ex_istore_n {k : Fin 4} {x : Int32} {L2 : List Value} (hd : decode y.2.1 pc = .ok (.istore_n k, 1)) (hn : (k : Nat) < y.2.2.1) (hg : nlg L (k : Nat) = true) (hL : L.set (k : Nat) (.int x) = L2) (kk : Ex ph y nR n kc ks (pc + 1) L2 st M Q) : Ex ph y nR n kc ks pc L (.int x :: st) M Q := by
  subst hL
  intro p l e R s m args below meth c D cI cB ad A H locs cells slots KC KS Z ls C Wd hl h1 h2 h3 h4 hZ
  exact lv_istore_n C.1 C.2.1 hd rfl hl hn rfl (fun ls2 hl2 => kk p l e R s m args below meth c D cI cB ad A H locs cells slots KC KS Z ls2 C Wd (lvO_set (v := .int x) hg hl2) h1 h2 h3 h4 hZ)
theorem ex_istore {k : Nat} {x : Int32} {L2 : List Value} (hd : decode y.2.1 pc = .ok (.istore k, 2)) (hn : k < y.2.2.1) (hg : nlg L k = true) (hL : L.set k (.int x) = L2) (kk : Ex ph y nR n kc ks (pc + 2) L2 st M Q) : Ex ph y nR n kc ks pc L (.int x :: st) M Q := by
  subst hL
  intro p l e R s m args below meth c D cI cB ad A H locs cells slots KC KS Z ls C Wd hl h1 h2 h3 h4 hZ
  exact lv_istore C.1 C.2.1 hd hl hn rfl (fun ls2 hl2 => kk p l e R s m args below meth c D cI cB ad A H locs cells slots KC KS Z ls2 C Wd (lvO_set (v := .int x) hg hl2) h1 h2 h3 h4 hZ)
theorem ex_aload_n {k : Fin 4} {x : Nat} (hd : decode y.2.1 pc = .ok (.aload_n k, 1)) (hx : L[(k : Nat)]? = some (.ref x)) (kk : Ex ph y nR n kc ks (pc + 1) L (.ref x :: st) M Q) : Ex ph y nR n kc ks pc L st M Q := by
  intro p l e R s m args below meth c D cI cB ad A H locs cells slots KC KS Z ls C Wd hl h1 h2 h3 h4 hZ
  exact lv_aload_n C.1 C.2.1 hd rfl (lvO_at hl hx rfl) (kk p l e R s m args below meth c D cI cB ad A H locs cells slots KC KS Z ls C Wd hl h1 h2 h3 h4 hZ)
theorem ex_aload {k : Nat} {x : Nat} (hd : decode y.2.1 pc = .ok (.aload k, 2)) (hx : L[k]? = some (.ref x)) (kk : Ex ph y nR n kc ks (pc + 2) L (.ref x :: st) M Q) : Ex ph y nR n kc ks pc L st M Q := by
  intro p l e R s m args below meth c D cI cB ad A H locs cells slots KC KS Z ls C Wd hl h1 h2 h3 h4 hZ
  exact lv_aload C.1 C.2.1 hd (lvO_at hl hx rfl) (kk p l e R s m args below meth c D cI cB ad A H locs cells slots KC KS Z ls C Wd hl h1 h2 h3 h4 hZ)
theorem ex_astore_n {k : Fin 4} {x : Nat} {L2 : List Value} (hd : decode y.2.1 pc = .ok (.astore_n k, 1)) (hn : (k : Nat) < y.2.2.1) (hg : nlg L (k : Nat) = true) (hL : L.set (k : Nat) (.ref x) = L2) (kk : Ex ph y nR n kc ks (pc + 1) L2 st M Q) : Ex ph y nR n kc ks pc L (.ref x :: st) M Q := by
  subst hL
  intro p l e R s m args below meth c D cI cB ad A H locs cells slots KC KS Z ls C Wd hl h1 h2 h3 h4 hZ
  exact lv_astore_n C.1 C.2.1 hd rfl hl hn rfl (fun ls2 hl2 => kk p l e R s m args below meth c D cI cB ad A H locs cells slots KC KS Z ls2 C Wd (lvO_set (v := .ref x) hg hl2) h1 h2 h3 h4 hZ)
theorem ex_astore {k : Nat} {x : Nat} {L2 : List Value} (hd : decode y.2.1 pc = .ok (.astore k, 2)) (hn : k < y.2.2.1) (hg : nlg L k = true) (hL : L.set k (.ref x) = L2) (kk : Ex ph y nR n kc ks (pc + 2) L2 st M Q) : Ex ph y nR n kc ks pc L (.ref x :: st) M Q := by
  subst hL
  intro p l e R s m args below meth c D cI cB ad A H locs cells slots KC KS Z ls C Wd hl h1 h2 h3 h4 hZ
  exact lv_astore C.1 C.2.1 hd hl hn rfl (fun ls2 hl2 => kk p l e R s m args below meth c D cI cB ad A H locs cells slots KC KS Z ls2 C Wd (lvO_set (v := .ref x) hg hl2) h1 h2 h3 h4 hZ)
theorem ex_lload_n {k : Fin 4} {x : Int64} (hd : decode y.2.1 pc = .ok (.lload_n k, 1)) (hx : L[(k : Nat)]? = some (.long x)) (kk : Ex ph y nR n kc ks (pc + 1) L (.long x :: st) M Q) : Ex ph y nR n kc ks pc L st M Q := by
  intro p l e R s m args below meth c D cI cB ad A H locs cells slots KC KS Z ls C Wd hl h1 h2 h3 h4 hZ
  exact lv_lload_n C.1 C.2.1 hd rfl (lvO_at hl hx rfl) (kk p l e R s m args below meth c D cI cB ad A H locs cells slots KC KS Z ls C Wd hl h1 h2 h3 h4 hZ)
theorem ex_iinc {k : Nat} {d : Int} {x v : Int32} {L2 : List Value} (hd : decode y.2.1 pc = .ok (.iinc k d, 3)) (hx : L[k]? = some (.int x)) (hv : x + Int32.ofInt d = v) (hn : k < y.2.2.1) (hg : nlg L k = true) (hL : L.set k (.int v) = L2) (kk : Ex ph y nR n kc ks (pc + 3) L2 st M Q) : Ex ph y nR n kc ks pc L st M Q := by
  subst hL
  intro p l e R s m args below meth c D cI cB ad A H locs cells slots KC KS Z ls C Wd hl h1 h2 h3 h4 hZ
  obtain ⟨q, hq⟩ := List.getElem?_of_mem (lvO_mem.mpr ⟨k, .int x, hx, rfl, by simp; rfl⟩ : (k, Value.int x) ∈ lvO ad 0 L)
  exact lv_iinc C.1 C.2.1 hd hl hq hv hn rfl (fun ls2 hl2 => kk p l e R s m args below meth c D cI cB ad A H locs cells slots KC KS Z ls2 C Wd (lvO_set (v := .int v) hg hl2) h1 h2 h3 h4 hZ)
theorem ex_if_eq {x : Int32} {off : Int} {tgt : Nat} (hd : decode y.2.1 pc = .ok (.ifCond .eq off, 3)) (ht : (pc : Int) + off = (tgt : Int)) (kt : x = 0 → Ex ph y nR n kc ks tgt L st M Q) (kf : ¬ x = 0 → Ex ph y nR n kc ks (pc + 3) L st M Q) : Ex ph y nR n kc ks pc L (.int x :: st) M Q := by
  intro p l e R s m args below meth c D cI cB ad A H locs cells slots KC KS Z ls C Wd hl h1 h2 h3 h4 hZ
  exact lv_if_eq C.1 C.2.1 hd ht (fun h => kt h p l e R s m args below meth c D cI cB ad A H locs cells slots KC KS Z ls C Wd hl h1 h2 h3 h4 hZ) (fun h => kf h p l e R s m args below meth c D cI cB ad A H locs cells slots KC KS Z ls C Wd hl h1 h2 h3 h4 hZ)
theorem ex_icmp_eq {x y0 : Int32} {off : Int} {tgt : Nat} (hd : decode y.2.1 pc = .ok (.if_icmp .eq off, 3)) (ht : (pc : Int) + off = (tgt : Int)) (kt : x = y0 → Ex ph y nR n kc ks tgt L st M Q) (kf : ¬ x = y0 → Ex ph y nR n kc ks (pc + 3) L st M Q) : Ex ph y nR n kc ks pc L (.int y0 :: .int x :: st) M Q := by
  intro p l e R s m args below meth c D cI cB ad A H locs cells slots KC KS Z ls C Wd hl h1 h2 h3 h4 hZ
  exact lv_icmp_eq C.1 C.2.1 hd ht (fun h => kt h p l e R s m args below meth c D cI cB ad A H locs cells slots KC KS Z ls C Wd hl h1 h2 h3 h4 hZ) (fun h => kf h p l e R s m args below meth c D cI cB ad A H locs cells slots KC KS Z ls C Wd hl h1 h2 h3 h4 hZ)
theorem ex_if_ne {x : Int32} {off : Int} {tgt : Nat} (hd : decode y.2.1 pc = .ok (.ifCond .ne off, 3)) (ht : (pc : Int) + off = (tgt : Int)) (kt : ¬ x = 0 → Ex ph y nR n kc ks tgt L st M Q) (kf : x = 0 → Ex ph y nR n kc ks (pc + 3) L st M Q) : Ex ph y nR n kc ks pc L (.int x :: st) M Q := by
  intro p l e R s m args below meth c D cI cB ad A H locs cells slots KC KS Z ls C Wd hl h1 h2 h3 h4 hZ
  exact lv_if_ne C.1 C.2.1 hd ht (fun h => kt h p l e R s m args below meth c D cI cB ad A H locs cells slots KC KS Z ls C Wd hl h1 h2 h3 h4 hZ) (fun h => kf h p l e R s m args below meth c D cI cB ad A H locs cells slots KC KS Z ls C Wd hl h1 h2 h3 h4 hZ)
theorem ex_icmp_ne {x y0 : Int32} {off : Int} {tgt : Nat} (hd : decode y.2.1 pc = .ok (.if_icmp .ne off, 3)) (ht : (pc : Int) + off = (tgt : Int)) (kt : ¬ x = y0 → Ex ph y nR n kc ks tgt L st M Q) (kf : x = y0 → Ex ph y nR n kc ks (pc + 3) L st M Q) : Ex ph y nR n kc ks pc L (.int y0 :: .int x :: st) M Q := by
  intro p l e R s m args below meth c D cI cB ad A H locs cells slots KC KS Z ls C Wd hl h1 h2 h3 h4 hZ
  exact lv_icmp_ne C.1 C.2.1 hd ht (fun h => kt h p l e R s m args below meth c D cI cB ad A H locs cells slots KC KS Z ls C Wd hl h1 h2 h3 h4 hZ) (fun h => kf h p l e R s m args below meth c D cI cB ad A H locs cells slots KC KS Z ls C Wd hl h1 h2 h3 h4 hZ)
theorem ex_if_lt {x : Int32} {off : Int} {tgt : Nat} (hd : decode y.2.1 pc = .ok (.ifCond .lt off, 3)) (ht : (pc : Int) + off = (tgt : Int)) (kt : x < 0 → Ex ph y nR n kc ks tgt L st M Q) (kf : ¬ x < 0 → Ex ph y nR n kc ks (pc + 3) L st M Q) : Ex ph y nR n kc ks pc L (.int x :: st) M Q := by
  intro p l e R s m args below meth c D cI cB ad A H locs cells slots KC KS Z ls C Wd hl h1 h2 h3 h4 hZ
  exact lv_if_lt C.1 C.2.1 hd ht (fun h => kt h p l e R s m args below meth c D cI cB ad A H locs cells slots KC KS Z ls C Wd hl h1 h2 h3 h4 hZ) (fun h => kf h p l e R s m args below meth c D cI cB ad A H locs cells slots KC KS Z ls C Wd hl h1 h2 h3 h4 hZ)
theorem ex_icmp_lt {x y0 : Int32} {off : Int} {tgt : Nat} (hd : decode y.2.1 pc = .ok (.if_icmp .lt off, 3)) (ht : (pc : Int) + off = (tgt : Int)) (kt : x < y0 → Ex ph y nR n kc ks tgt L st M Q) (kf : ¬ x < y0 → Ex ph y nR n kc ks (pc + 3) L st M Q) : Ex ph y nR n kc ks pc L (.int y0 :: .int x :: st) M Q := by
  intro p l e R s m args below meth c D cI cB ad A H locs cells slots KC KS Z ls C Wd hl h1 h2 h3 h4 hZ
  exact lv_icmp_lt C.1 C.2.1 hd ht (fun h => kt h p l e R s m args below meth c D cI cB ad A H locs cells slots KC KS Z ls C Wd hl h1 h2 h3 h4 hZ) (fun h => kf h p l e R s m args below meth c D cI cB ad A H locs cells slots KC KS Z ls C Wd hl h1 h2 h3 h4 hZ)
theorem ex_if_ge {x : Int32} {off : Int} {tgt : Nat} (hd : decode y.2.1 pc = .ok (.ifCond .ge off, 3)) (ht : (pc : Int) + off = (tgt : Int)) (kt : 0 ≤ x → Ex ph y nR n kc ks tgt L st M Q) (kf : ¬ 0 ≤ x → Ex ph y nR n kc ks (pc + 3) L st M Q) : Ex ph y nR n kc ks pc L (.int x :: st) M Q := by
  intro p l e R s m args below meth c D cI cB ad A H locs cells slots KC KS Z ls C Wd hl h1 h2 h3 h4 hZ
  exact lv_if_ge C.1 C.2.1 hd ht (fun h => kt h p l e R s m args below meth c D cI cB ad A H locs cells slots KC KS Z ls C Wd hl h1 h2 h3 h4 hZ) (fun h => kf h p l e R s m args below meth c D cI cB ad A H locs cells slots KC KS Z ls C Wd hl h1 h2 h3 h4 hZ)
theorem ex_icmp_ge {x y0 : Int32} {off : Int} {tgt : Nat} (hd : decode y.2.1 pc = .ok (.if_icmp .ge off, 3)) (ht : (pc : Int) + off = (tgt : Int)) (kt : y0 ≤ x → Ex ph y nR n kc ks tgt L st M Q) (kf : ¬ y0 ≤ x → Ex ph y nR n kc ks (pc + 3) L st M Q) : Ex ph y nR n kc ks pc L (.int y0 :: .int x :: st) M Q := by
  intro p l e R s m args below meth c D cI cB ad A H locs cells slots KC KS Z ls C Wd hl h1 h2 h3 h4 hZ
  exact lv_icmp_ge C.1 C.2.1 hd ht (fun h => kt h p l e R s m args below meth c D cI cB ad A H locs cells slots KC KS Z ls C Wd hl h1 h2 h3 h4 hZ) (fun h => kf h p l e R s m args below meth c D cI cB ad A H locs cells slots KC KS Z ls C Wd hl h1 h2 h3 h4 hZ)
theorem ex_if_gt {x : Int32} {off : Int} {tgt : Nat} (hd : decode y.2.1 pc = .ok (.ifCond .gt off, 3)) (ht : (pc : Int) + off = (tgt : Int)) (kt : 0 < x → Ex ph y nR n kc ks tgt L st M Q) (kf : ¬ 0 < x → Ex ph y nR n kc ks (pc + 3) L st M Q) : Ex ph y nR n kc ks pc L (.int x :: st) M Q := by
  intro p l e R s m args below meth c D cI cB ad A H locs cells slots KC KS Z ls C Wd hl h1 h2 h3 h4 hZ
  exact lv_if_gt C.1 C.2.1 hd ht (fun h => kt h p l e R s m args below meth c D cI cB ad A H locs cells slots KC KS Z ls C Wd hl h1 h2 h3 h4 hZ) (fun h => kf h p l e R s m args below meth c D cI cB ad A H locs cells slots KC KS Z ls C Wd hl h1 h2 h3 h4 hZ)
theorem ex_icmp_gt {x y0 : Int32} {off : Int} {tgt : Nat} (hd : decode y.2.1 pc = .ok (.if_icmp .gt off, 3)) (ht : (pc : Int) + off = (tgt : Int)) (kt : y0 < x → Ex ph y nR n kc ks tgt L st M Q) (kf : ¬ y0 < x → Ex ph y nR n kc ks (pc + 3) L st M Q) : Ex ph y nR n kc ks pc L (.int y0 :: .int x :: st) M Q := by
  intro p l e R s m args below meth c D cI cB ad A H locs cells slots KC KS Z ls C Wd hl h1 h2 h3 h4 hZ
  exact lv_icmp_gt C.1 C.2.1 hd ht (fun h => kt h p l e R s m args below meth c D cI cB ad A H locs cells slots KC KS Z ls C Wd hl h1 h2 h3 h4 hZ) (fun h => kf h p l e R s m args below meth c D cI cB ad A H locs cells slots KC KS Z ls C Wd hl h1 h2 h3 h4 hZ)
theorem ex_if_le {x : Int32} {off : Int} {tgt : Nat} (hd : decode y.2.1 pc = .ok (.ifCond .le off, 3)) (ht : (pc : Int) + off = (tgt : Int)) (kt : x ≤ 0 → Ex ph y nR n kc ks tgt L st M Q) (kf : ¬ x ≤ 0 → Ex ph y nR n kc ks (pc + 3) L st M Q) : Ex ph y nR n kc ks pc L (.int x :: st) M Q := by
  intro p l e R s m args below meth c D cI cB ad A H locs cells slots KC KS Z ls C Wd hl h1 h2 h3 h4 hZ
  exact lv_if_le C.1 C.2.1 hd ht (fun h => kt h p l e R s m args below meth c D cI cB ad A H locs cells slots KC KS Z ls C Wd hl h1 h2 h3 h4 hZ) (fun h => kf h p l e R s m args below meth c D cI cB ad A H locs cells slots KC KS Z ls C Wd hl h1 h2 h3 h4 hZ)
theorem ex_icmp_le {x y0 : Int32} {off : Int} {tgt : Nat} (hd : decode y.2.1 pc = .ok (.if_icmp .le off, 3)) (ht : (pc : Int) + off = (tgt : Int)) (kt : x ≤ y0 → Ex ph y nR n kc ks tgt L st M Q) (kf : ¬ x ≤ y0 → Ex ph y nR n kc ks (pc + 3) L st M Q) : Ex ph y nR n kc ks pc L (.int y0 :: .int x :: st) M Q := by
  intro p l e R s m args below meth c D cI cB ad A H locs cells slots KC KS Z ls C Wd hl h1 h2 h3 h4 hZ
  exact lv_icmp_le C.1 C.2.1 hd ht (fun h => kt h p l e R s m args below meth c D cI cB ad A H locs cells slots KC KS Z ls C Wd hl h1 h2 h3 h4 hZ) (fun h => kf h p l e R s m args below meth c D cI cB ad A H locs cells slots KC KS Z ls C Wd hl h1 h2 h3 h4 hZ)
theorem ex_goto {off : Int} {tgt : Nat} (hd : decode y.2.1 pc = .ok (.goto off, 3)) (ht : (pc : Int) + off = (tgt : Int)) (kk : Ex ph y nR n kc ks tgt L st M Q) : Ex ph y nR n kc ks pc L st M Q := by
  intro p l e R s m args below meth c D cI cB ad A H locs cells slots KC KS Z ls C Wd hl h1 h2 h3 h4 hZ
  exact lv_goto C.1 C.2.1 hd ht (kk p l e R s m args below meth c D cI cB ad A H locs cells slots KC KS Z ls C Wd hl h1 h2 h3 h4 hZ)
theorem ex_tableOut {df lo hi : Int} {offs : Array Int} {len : Nat} {x : Int32} {tgt : Nat} (hd : decode y.2.1 pc = .ok (.tableswitch df lo hi offs, len)) (h : x.toInt < lo ∨ hi < x.toInt) (ht : (pc : Int) + df = (tgt : Int)) (kk : Ex ph y nR n kc ks tgt L st M Q) : Ex ph y nR n kc ks pc L (.int x :: st) M Q := by
  intro p l e R s m args below meth c D cI cB ad A H locs cells slots KC KS Z ls C Wd hl h1 h2 h3 h4 hZ
  exact lv_tableOut C.1 C.2.1 hd h ht (kk p l e R s m args below meth c D cI cB ad A H locs cells slots KC KS Z ls C Wd hl h1 h2 h3 h4 hZ)
theorem ex_tableIn {df lo hi : Int} {offs : Array Int} {len : Nat} {x : Int32} {off : Int} {tgt : Nat} (hd : decode y.2.1 pc = .ok (.tableswitch df lo hi offs, len)) (h1 : ¬ x.toInt < lo) (h2 : ¬ hi < x.toInt) (ho : offs[(x.toInt - lo).toNat]? = some off) (ht : (pc : Int) + off = (tgt : Int)) (kk : Ex ph y nR n kc ks tgt L st M Q) : Ex ph y nR n kc ks pc L (.int x :: st) M Q := by
  intro p l e R s m args below meth c D cI cB ad A H locs cells slots KC KS Z ls C Wd hl g1 g2 h3 h4 hZ
  exact lv_tableIn C.1 C.2.1 hd h1 h2 ho ht (kk p l e R s m args below meth c D cI cB ad A H locs cells slots KC KS Z ls C Wd hl g1 g2 h3 h4 hZ)
end Rows
end
section
def nmC (ci : Nat) : String := match ci with
  | 0 => RX0
  | 1 => RX1
  | 2 => RX2
  | 3 => RX3
  | 4 => RX4
  | 5 => RX5
  | 6 => RX6
  | _ => RX7
def TC (ci : Nat) : u_T := match ci with
  | 0 => TX0
  | 1 => TX1
  | 2 => TX2
  | 3 => TX3
  | 4 => TX4
  | 5 => TX5
  | 6 => TX6
  | _ => TX7
def NC (ci : Nat) : Nat := match ci with
  | 0 => 18
  | 1 => 2
  | 2 => 2
  | 3 => 7
  | 4 => 6
  | 5 => 5
  | 6 => 7
  | _ => 40
theorem C_cl : ∀ ci, ci < 8 → clO[ci]? = some (nmC ci, TC ci, NC ci) := by
  intro ci h
  match ci, h with
  | 0, _ => rfl
  | 1, _ => rfl
  | 2, _ => rfl
  | 3, _ => rfl
  | 4, _ => rfl
  | 5, _ => rfl
  | 6, _ => rfl
  | 7, _ => rfl
theorem mem_gw {w : Cond} (h : w ∈ lw_tbl) (hg : goodWord w = true) : w ∈ gwT := List.mem_filter.mpr ⟨h, hg⟩
theorem mem_nw {w : Cond} (h : w ∈ lw_tbl) (hg : lw_nst w = true) : w ∈ nwT := List.mem_filter.mpr ⟨h, hg⟩
set_option maxRecDepth 100000 in
theorem C_in0 : ((List.range 8).all (fun ci => (u_ws (nmC ci) (TC ci) (NC ci)).all (fun w => decide (w ∈ lw_tbl) && goodWord w))) = true := by decide +kernel
theorem C_in : ∀ ci, ci < 8 → ∀ w ∈ u_ws (nmC ci) (TC ci) (NC ci), w ∈ gwT := by
  intro ci h w hw
  have h1 := List.all_eq_true.mp (List.all_eq_true.mp C_in0 ci (List.mem_range.mpr h)) w hw
  rw [Bool.and_eq_true] at h1
  exact mem_gw (of_decide_eq_true h1.1) h1.2
theorem C_ty : ∀ ci, ci < 8 → ∀ k, k < NC ci → parseFieldDescriptor (TC ci k).2.2.1 = some (tyC ci k) := by
  intro ci h
  match ci, h with
  | 0, _ => exact tyX0_ok
  | 1, _ => exact tyX1_ok
  | 2, _ => exact tyX2_ok
  | 3, _ => exact tyX3_ok
  | 4, _ => exact tyX4_ok
  | 5, _ => exact tyX5_ok
  | 6, _ => exact tyX6_ok
  | 7, _ => exact tyX7_ok
theorem C_nm : ∀ ci, ci < 8 → ∀ a, a < NC ci → ∀ b, b < NC ci → a ≠ b → (TC ci a).2.1 ≠ (TC ci b).2.1 := by
  intro ci h
  match ci, h with
  | 0, _ => exact nmX0
  | 1, _ => exact nmX1
  | 2, _ => exact nmX2
  | 3, _ => exact nmX3
  | 4, _ => exact nmX4
  | 5, _ => exact nmX5
  | 6, _ => exact nmX6
  | 7, _ => exact nmX7
theorem C_own0 : ((List.range 8).all (fun ci => (List.range (NC ci)).all (fun j => (TC ci j).1 == nmC ci))) = true := by decide +kernel
theorem C_own {ci j : Nat} (h : ci < 8) (hj : j < NC ci) : (TC ci j).1 = nmC ci := by
  have h1 := List.all_eq_true.mp (List.all_eq_true.mp C_own0 ci (List.mem_range.mpr h)) j (List.mem_range.mpr hj)
  exact eq_of_beq h1
/-- an instruction's entry idx of class own names field j of class ci -/
def FLK (own : String) (idx ci j : Nat) : Prop := Cond.fieldLink own idx (nmC ci) (TC ci j).2.1 (TC ci j).2.2.1 ∈ gwT ∨ ∃ host, Cond.fieldLinkNest own idx (nmC ci) (TC ci j).2.1 (TC ci j).2.2.1 host ∈ nwT
def SLK (own : String) (idx i : Nat) : Prop := Cond.fieldLink own idx RX6 (sN i) "[I" ∈ gwT ∨ ∃ host, Cond.fieldLinkNest own idx RX6 (sN i) "[I" host ∈ nwT
theorem FLK.a {own : String} {idx ci j : Nat} (h : Cond.fieldLink own idx (nmC ci) (TC ci j).2.1 (TC ci j).2.2.1 ∈ lw_tbl) : FLK own idx ci j := Or.inl (mem_gw h rfl)
theorem FLK.b {own : String} {idx ci j : Nat} (host : String) (h : Cond.fieldLinkNest own idx (nmC ci) (TC ci j).2.1 (TC ci j).2.2.1 host ∈ lw_tbl) : FLK own idx ci j := Or.inr ⟨host, mem_nw h rfl⟩
theorem SLK.a {own : String} {idx i : Nat} (h : Cond.fieldLink own idx RX6 (sN i) "[I" ∈ lw_tbl) : SLK own idx i := Or.inl (mem_gw h rfl)
theorem SLK.b {own : String} {idx i : Nat} (host : String) (h : Cond.fieldLinkNest own idx RX6 (sN i) "[I" host ∈ lw_tbl) : SLK own idx i := Or.inr ⟨host, mem_nw h rfl⟩
theorem cell_obj {ph : Bool} {cI cB : ClassId} {ad : Nat → Nat} {k ci N : Nat} {m : Nat → Int32} (hS : S0 k = (ci + 2, N)) : cellE ph cI cB ad k m = .inr (ci, (List.range N).map (fun j => encF ph ad k ci j (m j))) := by
  unfold cellE
  rw [hS]
theorem cell_row {ph : Bool} {cI cB : ClassId} {ad : Nat → Nat} {k N : Nat} {m : Nat → Int32} (hS : S0 k = (0, N)) : cellE ph cI cB ad k m = .inl (cI, N, .inl m) := by
  unfold cellE
  rw [hS]
theorem cell_brow {ph : Bool} {cI cB : ClassId} {ad : Nat → Nat} {k N : Nat} {m : Nat → Int32} (hS : S0 k = (1, N)) : cellE ph cI cB ad k m = .inl (cB, N, .inl m) := by
  unfold cellE
  rw [hS]
theorem mset_k {M : Mem} {k j : Nat} {x : Int32} : mset M k j x k = upd (M k) j x := by simp [mset]
theorem mset_o {M : Mem} {k j a : Nat} {x : Int32} (h : a ≠ k) : mset M k j x a = M a := by simp [mset, h]
theorem mrow_k {M : Mem} {k : Nat} {f : Nat → Int32} : mrow M k f k = f := by simp [mrow]
theorem mrow_o {M : Mem} {k a : Nat} {f : Nat → Int32} (h : a ≠ k) : mrow M k f a = M a := by simp [mrow, h]
theorem Tx_same {ad : Nat → Nat} {A : Nat → Prop} {M M' : Mem} {s : State} {H : Heap} (h : Tx ad A M s H) (hM : ∀ a, 100 ≤ a → M' a = M a) : Tx ad A M' s H := by
  refine ⟨fun i hi => ?_, h.2⟩
  rw [hM (100 + i) (by omega), hM 110 (by omega)]
  exact h.1 i hi
section Heap
variable {ph : Bool} {y : Mt} {nR n kc ks pc : Nat} {L st : List Value} {M : Mem} {Q : Int32 → Mem → Prop}
theorem ex_get {idx k ci j : Nat} {v : Value} (hd : decode y.2.1 pc = .ok (.getfield idx, 3)) (hk : k < n) (hS : S0 k = (ci + 2, NC ci)) (hci : ci < 8) (hj : j < NC ci) (hlk : FLK y.1.cls idx ci j) (hv : ∀ ad, encF ph ad k ci j (M k j) = rn ad v) (kk : Ex ph y nR n kc ks (pc + 3) L (v :: st) M Q) : Ex ph y nR n kc ks pc L (.ref k :: st) M Q := by
  intro p l e R s m args below meth c D cI cB ad A H locs cells slots KC KS Z ls C Wd hl h1 h2 h3 h4 hZ
  have hw : (wsO ph cI cB ad n M)[k]? = some (ad k, .inr (ci, (List.range (NC ci)).map (fun j => encF ph ad k ci j (M k j)))) := by rw [wsO_at hk, cell_obj hS]
  have hf : ((List.range (NC ci)).map (fun j => encF ph ad k ci j (M k j)))[j]? = some (rn ad v) := by simp [hj, hv ad]
  have hsame : ∀ x, s.fieldFound? (TC ci j).1 (TC ci j).2.1 (TC ci j).2.2.1 = some x → s.fieldFound? (nmC ci) (TC ci j).2.1 (TC ci j).2.2.1 = some x := by rw [C_own hci hj]; exact fun _ h => h
  rcases hlk with hlk | ⟨host, hlk⟩
  · exact va_get C.1 C.2.1 C.2.2.2.2.1 (C_in ci hci) C.2.2.2.1 Wd.1 Wd.2.1 k hw (C_cl ci hci) j hj (C.2.2.2.2.1 _ hlk) hsame hf hd (kk p l e R s m args below meth c D cI cB ad A H locs cells slots KC KS Z ls C Wd hl h1 h2 h3 h4 hZ)
  · exact va_getN C.1 C.2.1 C.2.2.2.2.1 (C_in ci hci) C.2.2.2.1 Wd.1 Wd.2.1 k hw (C_cl ci hci) j hj (va_Nw.use rfl (C.2.2.2.2.2.1 _ hlk)) hsame hf hd (kk p l e R s m args below meth c D cI cB ad A H locs cells slots KC KS Z ls C Wd hl h1 h2 h3 h4 hZ)
/-- an int or boolean field -/
theorem ex_getI {idx k ci j : Nat} (hd : decode y.2.1 pc = .ok (.getfield idx, 3)) (hk : k < n) (hS : S0 k = (ci + 2, NC ci)) (hq : (decide (ci < 8) && decide (j < NC ci) && !rfq ci j) = true) (hlk : FLK y.1.cls idx ci j) (kk : Ex ph y nR n kc ks (pc + 3) L (.int (M k j) :: st) M Q) : Ex ph y nR n kc ks pc L (.ref k :: st) M Q := by
  simp only [Bool.and_eq_true, decide_eq_true_eq, Bool.not_eq_true'] at hq
  exact ex_get hd hk hS hq.1.1 hq.1.2 hlk (fun ad => by simp [encF, hq.2, rn]) kk
/-- a final field that names a place -/
theorem ex_getR {idx k ci j v : Nat} (hd : decode y.2.1 pc = .ok (.getfield idx, 3)) (hk : k < n) (hS : S0 k = (ci + 2, NC ci)) (hq : (decide (ci < 8) && decide (j < NC ci) && rfq ci j) = true) (hlk : FLK y.1.cls idx ci j) (hF : FR k j = v) (hv : ¬ v = 0) (kk : Ex true y nR n kc ks (pc + 3) L (.ref v :: st) M Q) : Ex true y nR n kc ks pc L (.ref k :: st) M Q := by
  simp only [Bool.and_eq_true, decide_eq_true_eq] at hq
  exact ex_get hd hk hS hq.1.1 hq.1.2 hlk (fun ad => by simp [encF, hq.2, rn, hF, hv]) kk
/-- a field that names a place by what it holds -/
theorem ex_getD {idx k ci j v : Nat} (hd : decode y.2.1 pc = .ok (.getfield idx, 3)) (hk : k < n) (hS : S0 k = (ci + 2, NC ci)) (hq : (decide (ci < 8) && decide (j < NC ci) && rfq ci j) = true) (hlk : FLK y.1.cls idx ci j) (hF : (ph && !(FR k j == 0)) = false) (hx : M k j = nI v) (hv : v < 100) (kk : Ex ph y nR n kc ks (pc + 3) L (.ref v :: st) M Q) : Ex ph y nR n kc ks pc L (.ref k :: st) M Q := by
  simp only [Bool.and_eq_true, decide_eq_true_eq] at hq
  refine ex_get hd hk hS hq.1.1 hq.1.2 hlk (fun ad => ?_) kk
  have h2 : ¬ (nI v < 0) := nI_pos (by omega)
  unfold encF
  rw [if_pos hq.2, hF, hx, if_neg (by simp), if_neg h2, nI_clamp (by omega)]
  rfl
theorem enc_set {ph : Bool} {ad : Nat → Nat} {k ci N j : Nat} {m : Nat → Int32} {x : Int32} {v : Value} (hj : j < N) (hv : encF ph ad k ci j x = v) : ((List.range N).map (fun j => encF ph ad k ci j (m j))).set j v = (List.range N).map (fun i => encF ph ad k ci i (upd m j x i)) := by
  apply List.ext_getElem?
  intro i
  rw [List.getElem?_set]
  by_cases h : j = i
  · subst h
    simp [hj, upd, hv]
  · rw [if_neg h]
    by_cases hi : i < N
    · simp [hi, upd, Ne.symm h]
    · simp [hi]
theorem ex_put {idx k ci j : Nat} {x : Int32} {v : Value} (hd : decode y.2.1 pc = .ok (.putfield idx, 3)) (hk : k < n) (hS : S0 k = (ci + 2, NC ci)) (hci : ci < 8) (hj : j < NC ci) (hlk : FLK y.1.cls idx ci j) (hfin : (TC ci j).2.2.2 = false ∨ (y.1.name = "<init>" ∧ nmC ci = y.1.cls ∧ Cond.fieldLink y.1.cls idx (nmC ci) (TC ci j).2.1 (TC ci j).2.2.1 ∈ gwT)) (hv : ∀ ad, encF ph ad k ci j x = rn ad v) (hnf : ∀ ad, narrow (tyC ci j) (rn ad v) = rn ad v ∧ fits (tyC ci j) (rn ad v) = true) (hwf : rfq ci j = true → ¬ x < 0 → x.toNatClampNeg < if ph then 78 else n) (kk : Ex ph y nR n kc ks (pc + 3) L st (mset M k j x) Q) : Ex ph y nR n kc ks pc L (v :: .ref k :: st) M Q := by
  intro p l e R s m args below meth c D cI cB ad A H locs cells slots KC KS Z ls C Wd hl h1 h2 h3 h4 hZ
  have hw : (wsO ph cI cB ad n M)[k]? = some (ad k, .inr (ci, (List.range (NC ci)).map (fun j => encF ph ad k ci j (M k j)))) := by rw [wsO_at hk, cell_obj hS]
  have hsame : ∀ x, s.fieldFound? (TC ci j).1 (TC ci j).2.1 (TC ci j).2.2.1 = some x → s.fieldFound? (nmC ci) (TC ci j).2.1 (TC ci j).2.2.1 = some x := by rw [C_own hci hj]; exact fun _ h => h
  have hlen : j < ((List.range (NC ci)).map (fun j => encF ph ad k ci j (M k j))).length := by simpa using hj
  have hset : (wsO ph cI cB ad n M).set k (ad k, .inr (ci, ((List.range (NC ci)).map (fun j => encF ph ad k ci j (M k j))).set j (rn ad v))) = wsO ph cI cB ad n (mset M k j x) := by
    rw [enc_set hj (hv ad), ← wsO_set (M := M) (M' := mset M k j x) (k := k) (fun a h => mset_o h), cell_obj hS, mset_k]
  have hgo : ∀ (H1 : Heap) (locs1 : List Loc), va_P D clO ((wsO ph cI cB ad n M).set k (ad k, .inr (ci, ((List.range (NC ci)).map (fun j => encF ph ad k ci j (M k j))).set j (rn ad v)))) H1 → va_D A ((wsO ph cI cB ad n M).set k (ad k, .inr (ci, ((List.range (NC ci)).map (fun j => encF ph ad k ci j (M k j))).set j (rn ad v)))) → va_S A s.heap H1 locs1 → W p l e R s m args below meth c H1 locs1 cells slots Z (F0 m (pc + 3) ls (st.map (rn ad))) := by
    intro H1 locs1 g1 g2 g3
    rw [hset] at g1 g2
    refine kk p l e R s m args below meth c D cI cB ad A H1 locs1 cells slots KC KS Z ls C ⟨Wd.1, g1, g2, g3, Wd.2.2.2.2.1, ?_, Wd.2.2.2.2.2.2.1, Wd.2.2.2.2.2.2.2.1, Tx_same Wd.2.2.2.2.2.2.2.2 (fun a ha => mset_o (by have := Wd.2.2.2.2.2.2.1; omega))⟩ hl h1 h2 h3 h4 hZ
    intro k2 j2 c2 q1 q2 q3 q4 q5
    by_cases e1 : k2 = k
    · subst e1
      rw [mset_k] at q5 ⊢
      have e3 : c2 = ci := by
        rw [hS] at q2
        simp only at q2
        omega
      subst e3
      by_cases e2 : j2 = j
      · subst e2
        simp only [upd, if_pos] at q5 ⊢
        exact hwf q4 q5
      · simp only [upd, if_neg e2] at q5 ⊢
        exact Wd.2.2.2.2.2.1 k2 j2 c2 q1 q2 q3 q4 q5
    · rw [mset_o e1] at q5 ⊢
      exact Wd.2.2.2.2.2.1 k2 j2 c2 q1 q2 q3 q4 q5
  by_cases hf2 : (TC ci j).2.2.2 = false
  · rcases hlk with hlk | ⟨host, hlk⟩
    · exact va_put C.1 C.2.1 C.2.2.2.2.1 (C_in ci hci) (tyC ci) (C_ty ci hci) (C_nm ci hci) C.2.2.2.1 Wd.1 Wd.2.1 Wd.2.2.1 Wd.2.2.2.1 k hw (C_cl ci hci) j hj (C.2.2.2.2.1 _ hlk) hsame hf2 (C_ty ci hci j hj) (hnf ad).1 (hnf ad).2 hlen hd hgo
    · exact va_putN C.1 C.2.1 C.2.2.2.2.1 (C_in ci hci) (tyC ci) (C_ty ci hci) (C_nm ci hci) C.2.2.2.1 Wd.1 Wd.2.1 Wd.2.2.1 Wd.2.2.2.1 k hw (C_cl ci hci) j hj (va_Nw.use rfl (C.2.2.2.2.2.1 _ hlk)) hsame hf2 (C_ty ci hci j hj) (hnf ad).1 (hnf ad).2 hlen hd hgo
  · rcases hfin with h | ⟨g1, g2, g3⟩
    · exact absurd h hf2
    · exact va_putF C.1 C.2.1 C.2.2.2.2.1 (C_in ci hci) (tyC ci) (C_ty ci hci) (C_nm ci hci) C.2.2.2.1 Wd.1 Wd.2.1 Wd.2.2.1 Wd.2.2.2.1 k hw (C_cl ci hci) j hj (C.2.2.2.2.1 _ g3) hsame (by simpa using hf2) (C.2.2.2.2.2.2.1.trans g1) ((C_own hci hj).trans g2) (C_ty ci hci j hj) (hnf ad).1 (hnf ad).2 hlen hd hgo
theorem ex_putI {idx k ci j : Nat} {x : Int32} (hd : decode y.2.1 pc = .ok (.putfield idx, 3)) (hk : k < n) (hS : S0 k = (ci + 2, NC ci)) (hq : (decide (ci < 8) && decide (j < NC ci) && !rfq ci j && !(TC ci j).2.2.2) = true) (hlk : FLK y.1.cls idx ci j) (hnf : narrow (tyC ci j) (.int x) = .int x ∧ fits (tyC ci j) (.int x) = true) (kk : Ex ph y nR n kc ks (pc + 3) L st (mset M k j x) Q) : Ex ph y nR n kc ks pc L (.int x :: .ref k :: st) M Q := by
  simp only [Bool.and_eq_true, decide_eq_true_eq, Bool.not_eq_true'] at hq
  exact ex_put hd hk hS hq.1.1.1 hq.1.1.2 hlk (Or.inl hq.2) (fun ad => by simp [encF, hq.1.2, rn]) (fun _ => hnf) (fun h => by rw [hq.1.2] at h; cases h) kk
theorem ex_putD {idx k ci j v : Nat} (hd : decode y.2.1 pc = .ok (.putfield idx, 3)) (hk : k < n) (hS : S0 k = (ci + 2, NC ci)) (hq : (decide (ci < 8) && decide (j < NC ci) && rfq ci j) = true) (hlk : FLK y.1.cls idx ci j) (hfin : (TC ci j).2.2.2 = false ∨ (y.1.name = "<init>" ∧ nmC ci = y.1.cls ∧ Cond.fieldLink y.1.cls idx (nmC ci) (TC ci j).2.1 (TC ci j).2.2.1 ∈ gwT)) (hF : (ph && !(FR k j == 0)) = false) (hv : v < if ph then 78 else n) (hv2 : v < 100) (hnf : ∀ a, narrow (tyC ci j) (.ref a) = .ref a ∧ fits (tyC ci j) (.ref a) = true) (kk : Ex ph y nR n kc ks (pc + 3) L st (mset M k j (nI v)) Q) : Ex ph y nR n kc ks pc L (.ref v :: .ref k :: st) M Q := by
  simp only [Bool.and_eq_true, decide_eq_true_eq] at hq
  have h2 : ¬ (nI v < 0) := nI_pos (by omega)
  refine ex_put hd hk hS hq.1.1 hq.1.2 hlk hfin (fun ad => ?_) (fun ad => hnf _) (fun _ _ => by rw [nI_clamp (by omega)]; exact hv) kk
  unfold encF
  rw [if_pos hq.2, hF, if_neg (by simp), if_neg h2, nI_clamp (by omega)]
  rfl
theorem ex_gets {idx i : Nat} (hd : decode y.2.1 pc = .ok (.getstatic idx, 3)) (hi : i < 8) (hlk : SLK y.1.cls idx i) (kk : Ex ph y nR n kc ks (pc + 3) L (.ref (100 + i) :: st) M Q) : Ex ph y nR n kc ks pc L st M Q := by
  intro p l e R s m args below meth c D cI cB ad A H locs cells slots KC KS Z ls C Wd hl h1 h2 h3 h4 hZ
  rcases hlk with hlk | ⟨host, hlk⟩
  · exact va_gets C.1 C.2.1 (Wd.2.2.2.2.2.2.2.2.2 i hi) Wd.2.2.2.1 C.2.2.2.1 (C.2.2.2.2.1 _ hlk) (fun _ h => h) hd (kk p l e R s m args below meth c D cI cB ad A H locs cells slots KC KS Z ls C Wd hl h1 h2 h3 h4 hZ)
  · exact va_getsN C.1 C.2.1 (Wd.2.2.2.2.2.2.2.2.2 i hi) Wd.2.2.2.1 C.2.2.2.1 (va_Nw.use rfl (C.2.2.2.2.2.1 _ hlk)) (fun _ h => h) hd (kk p l e R s m args below meth c D cI cB ad A H locs cells slots KC KS Z ls C Wd hl h1 h2 h3 h4 hZ)
theorem ex_iald {k len : Nat} {i : Int32} (hd : decode y.2.1 pc = .ok (.iaload, 1)) (hk : k < n) (hS : S0 k = (0, len)) (hin : vp_in i len) (kk : Ex ph y nR n kc ks (pc + 1) L (.int (M k i.toNatClampNeg) :: st) M Q) : Ex ph y nR n kc ks pc L (.int i :: .ref k :: st) M Q := by
  intro p l e R s m args below meth c D cI cB ad A H locs cells slots KC KS Z ls C Wd hl h1 h2 h3 h4 hZ
  exact va_iald C.1 C.2.1 Wd.1 Wd.2.1 k 0 (by rw [wsO_at hk, cell_row hS]) rfl hin hd (kk p l e R s m args below meth c D cI cB ad A H locs cells slots KC KS Z ls C Wd hl h1 h2 h3 h4 hZ)
theorem ex_zald {k len : Nat} {i : Int32} (hd : decode y.2.1 pc = .ok (.baload, 1)) (hk : k < n) (hS : S0 k = (1, len)) (hin : vp_in i len) (kk : Ex ph y nR n kc ks (pc + 1) L (.int (M k i.toNatClampNeg) :: st) M Q) : Ex ph y nR n kc ks pc L (.int i :: .ref k :: st) M Q := by
  intro p l e R s m args below meth c D cI cB ad A H locs cells slots KC KS Z ls C Wd hl h1 h2 h3 h4 hZ
  exact va_zald C.1 C.2.1 Wd.1 Wd.2.1 k 1 (by rw [wsO_at hk, cell_brow hS]) rfl hin hd (kk p l e R s m args below meth c D cI cB ad A H locs cells slots KC KS Z ls C Wd hl h1 h2 h3 h4 hZ)
theorem ex_tald {i : Nat} {x : Int32} (hd : decode y.2.1 pc = .ok (.iaload, 1)) (hi : i < 9) (hin : vp_in x (M 110 i).toNatClampNeg) (kk : Ex ph y nR n kc ks (pc + 1) L (.int (M (100 + i) x.toNatClampNeg) :: st) M Q) : Ex ph y nR n kc ks pc L (.int x :: .ref (100 + i) :: st) M Q := by
  intro p l e R s m args below meth c D cI cB ad A H locs cells slots KC KS Z ls C Wd hl h1 h2 h3 h4 hZ
  exact va_ti C.1 C.2.1 (Wd.2.2.2.2.2.2.2.2.1 i hi) Wd.2.2.2.1 hin rfl hd (kk p l e R s m args below meth c D cI cB ad A H locs cells slots KC KS Z ls C Wd hl h1 h2 h3 h4 hZ)
theorem ex_alen {k len : Nat} (hd : decode y.2.1 pc = .ok (.arraylength, 1)) (hk : k < n) (hS : S0 k = (0, len)) (kk : Ex ph y nR n kc ks (pc + 1) L (.int (nI len) :: st) M Q) : Ex ph y nR n kc ks pc L (.ref k :: st) M Q := by
  intro p l e R s m args below meth c D cI cB ad A H locs cells slots KC KS Z ls C Wd hl h1 h2 h3 h4 hZ
  exact va_alen (x := (len, .inl (M k))) (cA := cI) (v := nI len) C.1 C.2.1 Wd.1 Wd.2.1 k 0 (by rw [wsO_at hk, cell_row hS]) rfl rfl hd (kk p l e R s m args below meth c D cI cB ad A H locs cells slots KC KS Z ls C Wd hl h1 h2 h3 h4 hZ)
theorem ex_tlen {i : Nat} (hd : decode y.2.1 pc = .ok (.arraylength, 1)) (hi : i < 9) (kk : Ex ph y nR n kc ks (pc + 1) L (.int (nI (M 110 i).toNatClampNeg) :: st) M Q) : Ex ph y nR n kc ks pc L (.ref (100 + i) :: st) M Q := by
  intro p l e R s m args below meth c D cI cB ad A H locs cells slots KC KS Z ls C Wd hl h1 h2 h3 h4 hZ
  exact va_tlen C.1 C.2.1 (Wd.2.2.2.2.2.2.2.2.1 i hi) Wd.2.2.2.1 rfl hd (kk p l e R s m args below meth c D cI cB ad A H locs cells slots KC KS Z ls C Wd hl h1 h2 h3 h4 hZ)
theorem Wx_row {D : va_G} {cI cB : ClassId} {ad : Nat → Nat} {A : Nat → Prop} {s : State} {H H1 : Heap} {locs locs1 : List Loc} {k N tg : Nat} {M' : Mem} (Wd : Wx ph D cI cB ad n A M s H locs) (hk : k < n) (hS : S0 k = (tg, N)) (htg : tg < 2) (hM : ∀ a, a ≠ k → M' a = M a) (g1 : va_P D clO ((wsO ph cI cB ad n M).set k (ad k, cellE ph cI cB ad k (M' k))) H1) (g2 : va_D A ((wsO ph cI cB ad n M).set k (ad k, cellE ph cI cB ad k (M' k)))) (g3 : va_S A s.heap H1 locs1) : Wx ph D cI cB ad n A M' s H1 locs1 := by
  rw [wsO_set hM] at g1 g2
  refine ⟨Wd.1, g1, g2, g3, Wd.2.2.2.2.1, ?_, Wd.2.2.2.2.2.2.1, Wd.2.2.2.2.2.2.2.1, Tx_same Wd.2.2.2.2.2.2.2.2 (fun a ha => hM a (by have := Wd.2.2.2.2.2.2.1; omega))⟩
  intro k2 j2 c2 q1 q2 q3 q4 q5
  have e : k2 ≠ k := by
    intro e
    subst e
    rw [hS] at q2
    simp only at q2
    omega
  rw [hM k2 e] at q5 ⊢
  exact Wd.2.2.2.2.2.1 k2 j2 c2 q1 q2 q3 q4 q5
theorem ex_iast {k len : Nat} {i x : Int32} (hd : decode y.2.1 pc = .ok (.iastore, 1)) (hk : k < n) (hS : S0 k = (0, len)) (hin : vp_in i len) (kk : Ex ph y nR n kc ks (pc + 1) L st (mset M k i.toNatClampNeg x) Q) : Ex ph y nR n kc ks pc L (.int x :: .int i :: .ref k :: st) M Q := by
  intro p l e R s m args below meth c D cI cB ad A H locs cells slots KC KS Z ls C Wd hl h1 h2 h3 h4 hZ
  refine va_iast C.1 C.2.1 Wd.1 Wd.2.1 Wd.2.2.1 Wd.2.2.2.1 k 0 (by rw [wsO_at hk, cell_row hS]) rfl hin hd (fun H1 locs1 g1 g2 g3 => ?_)
  exact kk p l e R s m args below meth c D cI cB ad A H1 locs1 cells slots KC KS Z ls C (Wx_row Wd hk hS (by decide) (fun a h => mset_o h) (by rw [cell_row hS, mset_k]; exact g1) (by rw [cell_row hS, mset_k]; exact g2) g3) hl h1 h2 h3 h4 hZ
theorem ex_zast {k len : Nat} {i x : Int32} (hd : decode y.2.1 pc = .ok (.bastore, 1)) (hk : k < n) (hS : S0 k = (1, len)) (hin : vp_in i len) (hx : vp_nar .boolean x = x) (kk : Ex ph y nR n kc ks (pc + 1) L st (mset M k i.toNatClampNeg x) Q) : Ex ph y nR n kc ks pc L (.int x :: .int i :: .ref k :: st) M Q := by
  intro p l e R s m args below meth c D cI cB ad A H locs cells slots KC KS Z ls C Wd hl h1 h2 h3 h4 hZ
  refine va_zast C.1 C.2.1 Wd.1 Wd.2.1 Wd.2.2.1 Wd.2.2.2.1 k 1 (by rw [wsO_at hk, cell_brow hS]) rfl hin hd (fun H1 locs1 g1 g2 g3 => ?_)
  rw [hx] at g1 g2
  exact kk p l e R s m args below meth c D cI cB ad A H1 locs1 cells slots KC KS Z ls C (Wx_row Wd hk hS (by decide) (fun a h => mset_o h) (by rw [cell_brow hS, mset_k]; exact g1) (by rw [cell_brow hS, mset_k]; exact g2) g3) hl h1 h2 h3 h4 hZ
/-- System.arraycopy between two rows of ints -/
theorem ex_copy {idx k0 k1 n0 n1 : Nat} {sp dp x : Int32} (hd : decode y.2.1 pc = .ok (.invokestatic idx, 3)) (hlk : Cond.methodLink y.1.cls idx arraycopyName ∈ gwT ∧ Cond.native arraycopyName ∈ gwT ∧ Cond.static arraycopyName ∈ gwT ∧ Cond.initialized "java/lang/System" ∈ gwT) (hk0 : k0 < n) (hk1 : k1 < n) (hS0 : S0 k0 = (0, n0)) (hS1 : S0 k1 = (0, n1)) (g1 : ¬ sp < 0) (g2 : ¬ dp < 0) (g3 : ¬ x < 0) (g4 : sp.toNatClampNeg + x.toNatClampNeg ≤ n0) (g5 : dp.toNatClampNeg + x.toNatClampNeg ≤ n1) (hfr : 1 ≤ y.2.2.2.2.1) (hlo : (st.map fun v => v.category).sum + (nativeFrameWords "java/lang/System" "arraycopy" 5 + 11) ≤ y.2.2.2.2.2) (kk : Ex ph y nR n kc ks (pc + 3) L st (mrow M k1 (va_cpy (M k0) (M k1) sp.toNatClampNeg dp.toNatClampNeg x.toNatClampNeg)) Q) : Ex ph y nR n kc ks pc L (.int x :: .int dp :: .ref k1 :: .int sp :: .ref k0 :: st) M Q := by
  intro p l e R s m args below meth c D cI cB ad A H locs cells slots KC KS Z ls C Wd hl h1 h2 h3 h4 hZ
  have hcat : ((st.map (rn ad)).map fun v => v.category) = st.map fun v => v.category := by
    rw [List.map_map]
    exact List.map_congr_left (fun v _ => rn_cat v)
  refine va_copyi C.1 C.2.1 (C.2.2.1.trans hl.1.symm) C.2.2.2.1 (C.2.2.2.2.1 _ hlk.1) (C.2.2.2.2.1 _ hlk.2.1) (C.2.2.2.2.1 _ hlk.2.2.1) (C.2.2.2.2.1 _ hlk.2.2.2) Wd.1 Wd.2.1 Wd.2.2.1 Wd.2.2.2.1 k0 k1 0 0 (by rw [wsO_at hk0, cell_row hS0]) (by rw [wsO_at hk1, cell_row hS1]) rfl rfl rfl g1 g2 g3 g4 g5 (fun _ _ => rfl) (Nat.le_trans hfr C.2.2.2.2.2.2.2.1) (by rw [hcat]; exact Nat.le_trans hlo C.2.2.2.2.2.2.2.2) hd (fun H1 locs1 g1 g2 g3 => ?_)
  exact kk p l e R s m args below meth c D cI cB ad A H1 locs1 cells slots KC KS Z ls C (Wx_row Wd hk1 hS1 (by decide) (fun a h => mrow_o h) (by rw [cell_row hS1, mrow_k]; exact g1) (by rw [cell_row hS1, mrow_k]; exact g2) g3) hl h1 h2 h3 h4 hZ
end Heap
end
section
def okv (n : Nat) : Value → Bool
  | .ref k => decide (k < n) || decide (100 ≤ k)
  | _ => true
theorem rn_ok {ad ad' : Nat → Nat} {n : Nat} {v : Value} (ha : ∀ k, k < n ∨ 100 ≤ k → ad' k = ad k) (h : okv n v = true) : rn ad' v = rn ad v := by
  cases v with
  | ref k =>
    simp only [okv, Bool.or_eq_true, decide_eq_true_eq] at h
    simp only [rn, ha k h]
  | _ => rfl
theorem map_ok {ad ad' : Nat → Nat} {n : Nat} {st : List Value} (ha : ∀ k, k < n ∨ 100 ≤ k → ad' k = ad k) (h : st.all (okv n) = true) : st.map (rn ad') = st.map (rn ad) :=
  List.map_congr_left (fun v hv => rn_ok ha (List.all_eq_true.mp h v hv))
theorem lvO_ok {ad ad' : Nat → Nat} {n : Nat} (ha : ∀ k, k < n ∨ 100 ≤ k → ad' k = ad k) : ∀ {L : List Value} {i : Nat}, L.all (okv n) = true → lvO ad' i L = lvO ad i L
  | [], _, _ => rfl
  | v :: vs, i, h => by
    rw [List.all_cons, Bool.and_eq_true] at h
    unfold lvO
    rw [lvO_ok ha h.2, rn_ok ha h.1]
theorem Wx_shrink {ph : Bool} {D : va_G} {cI cB : ClassId} {ad : Nat → Nat} {n nR : Nat} {A : Nat → Prop} {M : Mem} {s : State} {H : Heap} {locs : List Loc} (h : Wx ph D cI cB ad n A M s H locs) (hR : (nR == n || (ph && decide (78 ≤ nR) && decide (nR ≤ n))) = true) : Wx ph D cI cB ad nR A M s H locs := by
  simp only [Bool.or_eq_true, beq_iff_eq, Bool.and_eq_true, decide_eq_true_eq] at hR
  rcases hR with rfl | ⟨⟨h1, h2⟩, h3⟩
  · exact h
  · obtain ⟨k1, k2, k3, k4, k5, k6, k7, k8, k9⟩ := h
    have hin : ∀ (k : Nat) (q : Nat × va_E), (wsO ph cI cB ad nR M)[k]? = some q → (wsO ph cI cB ad n M)[k]? = some q := by
      intro k q hq
      have hk : k < nR := by
        have := (List.getElem?_eq_some_iff.mp hq).1
        simpa [wsO] using this
      rw [wsO_at hk] at hq
      rw [wsO_at (Nat.lt_of_lt_of_le hk h3)]
      exact hq
    refine ⟨k1, fun k q hq => k2 k q (hin k q hq), ⟨fun i j p q hp hq => k3.1 i j p q (hin i p hp) (hin j q hq), fun k q hq => k3.2 k q (hin k q hq)⟩, k4, k5, ?_, Nat.le_trans h3 k7, fun _ => h2, k9⟩
    intro k j ci q1 q2 q3 q4 q5
    have := k6 k j ci (Nat.lt_of_lt_of_le q1 h3) q2 q3 q4 q5
    rw [h1] at this ⊢
    exact this
section Ret
variable {ph : Bool} {y : Mt} {nR n kc ks pc : Nat} {L st : List Value} {M : Mem} {Q : Int32 → Mem → Prop}
theorem ex_iret {v : Int32} {ty : FieldType} (hd : decode y.2.1 pc = .ok (.ireturn, 1)) (hr : y.2.2.2.1 = some ty) (hn : narrow ty (.int v) = .int v) (hR : (nR == n || (ph && decide (78 ≤ nR) && decide (nR ≤ n))) = true) (hq : Q v M) : Ex ph y nR n kc ks pc L [.int v] M Q := by
  intro p l e R s m args below meth c D cI cB ad A H locs cells slots KC KS Z ls C Wd hl h1 h2 h3 h4 hZ
  have := hZ ad M H locs v pc ls (fun _ _ => rfl) hq (Wx_shrink Wd hR) (by rw [retI, hr]; exact hd) (by rw [narO, hr]; exact hn)
  rw [retS, hr] at this
  exact W.widen (by omega) (by omega) this
theorem ex_vret (hd : decode y.2.1 pc = .ok (.return_, 1)) (hr : y.2.2.2.1 = none) (hR : (nR == n || (ph && decide (78 ≤ nR) && decide (nR ≤ n))) = true) (hq : Q 0 M) : Ex ph y nR n kc ks pc L [] M Q := by
  intro p l e R s m args below meth c D cI cB ad A H locs cells slots KC KS Z ls C Wd hl h1 h2 h3 h4 hZ
  have := hZ ad M H locs 0 pc ls (fun _ _ => rfl) hq (Wx_shrink Wd hR) (by rw [retI, hr]; exact hd) (by rw [narO, hr]; trivial)
  rw [retS, hr] at this
  exact W.widen (by omega) (by omega) this
theorem ex_post {Q2 : Int32 → Mem → Prop} (h : Ex ph y nR n kc ks pc L st M Q2) (hq : ∀ v M', Q2 v M' → Q v M') : Ex ph y nR n kc ks pc L st M Q := by
  intro p l e R s m args below meth c D cI cB ad A H locs cells slots KC KS Z ls C Wd hl h1 h2 h3 h4 hZ
  exact h p l e R s m args below meth c D cI cB ad A H locs cells slots KC KS Z ls C Wd hl h1 h2 h3 h4 (fun ad' M' H' locs' v pc' ls' g1 g2 g3 g4 g5 => hZ ad' M' H' locs' v pc' ls' g1 (hq v M' g2) g3 g4 g5)
/-- fewer locals are enough -/
theorem ex_less {L2 : List Value} (h : Ex ph y nR n kc ks pc L2 st M Q) (hL : ∀ (i : Nat) (v : Value), L2[i]? = some v → nul v = false → L[i]? = some v) : Ex ph y nR n kc ks pc L st M Q := by
  intro p l e R s m args below meth c D cI cB ad A H locs cells slots KC KS Z ls C Wd hl h1 h2 h3 h4 hZ
  refine h p l e R s m args below meth c D cI cB ad A H locs cells slots KC KS Z ls C Wd ⟨hl.1, hl.2.1, fun q hq => hl.2.2 q ?_⟩ h1 h2 h3 h4 hZ
  obtain ⟨j, v, q1, q2, q3⟩ := lvO_mem.mp hq
  exact lvO_mem.mpr ⟨j, v, hL j v q1 q2, q2, q3⟩
end Ret
/-- a method's locals at its entry -/
def L0 (as : List Value) (nL : Nat) : List Value := (as.flatMap fun v => if v.category = 2 then [v, .null] else [v]) ++ List.replicate (nL - (as.flatMap fun v => if v.category = 2 then [v, .null] else [v]).length) .null
theorem nul_null : nul .null = true := rfl
theorem lvO_nulls {ad : Nat → Nat} : ∀ (k i : Nat), lvO ad i (List.replicate k .null) = []
  | 0, _ => rfl
  | k + 1, i => by
    rw [List.replicate_succ]
    unfold lvO
    rw [if_pos nul_null]
    exact lvO_nulls k (i + 1)
theorem L0_in {ad : Nat → Nat} {q : Nat × Value} (k : Nat) : ∀ (as : List Value) (i : Nat), q ∈ lvO ad i ((as.flatMap fun v => if v.category = 2 then [v, .null] else [v]) ++ List.replicate k .null) → q ∈ lv_args i (as.map (rn ad))
  | [], i, h => by
    rw [List.flatMap_nil, List.nil_append, lvO_nulls] at h
    cases h
  | v :: vs, i, h => by
    rw [List.flatMap_cons] at h
    rw [List.map_cons]
    unfold lv_args
    by_cases hc : v.category = 2
    · rw [if_pos hc] at h
      rw [if_pos ((rn_cat v).trans hc)]
      have hn : nul v = false := by
        cases v <;> first | rfl | (simp [Value.category] at hc)
      simp only [List.cons_append, List.nil_append] at h
      unfold lvO at h
      rw [if_neg (by simp [hn])] at h
      unfold lvO at h
      rw [if_pos nul_null] at h
      rcases List.mem_cons.mp h with h | h
      · exact List.mem_cons.mpr (Or.inl h)
      · exact List.mem_cons_of_mem _ (L0_in k vs (i + 1 + 1) h)
    · rw [if_neg hc] at h
      rw [if_neg (fun e => hc ((rn_cat v).symm.trans e))]
      simp only [List.cons_append, List.nil_append] at h
      unfold lvO at h
      by_cases hn : nul v = true
      · rw [if_pos hn] at h
        exact List.mem_cons_of_mem _ (L0_in k vs (i + 1) h)
      · rw [if_neg hn] at h
        rcases List.mem_cons.mp h with h | h
        · exact List.mem_cons.mpr (Or.inl h)
        · exact List.mem_cons_of_mem _ (L0_in k vs (i + 1) h)
def wsM (y : Mt) : List Cond := Cond.code y.1 y.2.1 y.2.2.1 y.2.2.2.1 :: gwT
def rmO (y : Mt) (kc ks : Nat) : Room := { frames := y.2.2.2.2.1, cells := kc, slots := ks, locals := y.2.2.2.2.2 }
def PcO (ph : Bool) (D : va_G) (cI cB : ClassId) (ad : Nat → Nat) (n : Nat) (M : Mem) (sz : Nat) : State → Prop := fun U => U.heap.size = sz ∧ va_K D clO [(cI, .int), (cB, .boolean)] U ∧ va_P D clO (wsO ph cI cB ad n M) U.heap ∧ va_D (fun _ => True) (wsO ph cI cB ad n M) ∧ wfM ph n M ∧ n ≤ 100 ∧ (ph = true → 78 ≤ n) ∧ Tx ad (va_A (wsO ph cI cB ad n M) sz) M U U.heap ∧ ∀ w ∈ nwT, va_Nw w U
def BxO (ph : Bool) (D : va_G) (cI cB : ClassId) (ad : Nat → Nat) (n nR : Nat) (A : Nat → Prop) : Mem → State → Prop := fun M' t => ∃ ad' : Nat → Nat, (∀ k, k < n ∨ 100 ≤ k → ad' k = ad k) ∧ va_K D clO [(cI, .int), (cB, .boolean)] t ∧ va_P D clO (wsO ph cI cB ad' nR M') t.heap ∧ va_D A (wsO ph cI cB ad' nR M') ∧ wfM ph nR M' ∧ nR ≤ 100 ∧ (ph = true → 78 ≤ nR) ∧ Tx ad' A M' t t.heap
def QcO (y : Mt) (Q : Int32 → Mem → Prop) (B : Mem → State → Prop) (A : Nat → Prop) : Array Value → State → Outcome → State → Prop := match y.2.2.2.1 with
  | none => va_Qv (fun M' => ∃ v, Q v M') B A
  | some _ => va_Qi (fun v M' => Q v M') B A
theorem Tx_moved {ad : Nat → Nat} {A : Nat → Prop} {M : Mem} {u U : State} {H : Heap} (hvm : u.vm.Alike U.vm) (h : Tx ad A M u H) : Tx ad A M U H := ⟨fun i hi => (h.1 i hi).moved hvm, fun i hi => (h.2 i hi).moved hvm⟩
theorem Tx_kept {ad : Nat → Nat} {A : Nat → Prop} {M : Mem} {U : State} {H H1 : Heap} (h : Tx ad A M U H) (hq : ∀ a : Nat, a < H.size → ¬ A a → H1[a]? = H[a]?) : Tx ad A M U H1 := ⟨fun i hi => (h.1 i hi).kept hq, fun i hi => (h.2 i hi).kept hq⟩
theorem Tx_narrow {ad : Nat → Nat} {A B : Nat → Prop} {M : Mem} {U : State} {H : Heap} (h : Tx ad A M U H) (hAB : ∀ q, B q → A q) : Tx ad B M U H := ⟨fun i hi => (h.1 i hi).narrow hAB, fun i hi => (h.2 i hi).narrow hAB⟩
theorem Nw_warm {w : Cond} (hw : w ∈ nwT) {s U : State} (hW : s.WarmedH U.vm) (h : va_Nw w s) : va_Nw w U := by
  have h1 := (List.mem_filter.mp hw).2
  cases w <;> first | exact va_Nw.warmF hW h | exact va_Nw.warmM hW h | (cases h1)
theorem Nw_same {w : Cond} (hw : w ∈ nwT) {u U : State} (he : u.vm = U.vm) (h : va_Nw w u) : va_Nw w U := by
  have h1 := (List.mem_filter.mp hw).2
  cases w <;> first | exact va_Nw.same rfl he h | (cases h1)
theorem PcO_blind {ph : Bool} {D : va_G} {cI cB : ClassId} {ad : Nat → Nat} {n sz : Nat} {M : Mem} {av : List Value} : FrameBlind (va_Pc av (PcO ph D cI cB ad n M sz)) := by
  intro a U g mk h
  obtain ⟨h0, h1, h2, h3, h4, h5, h6, h7, h8, h9⟩ := h
  exact ⟨h0, h1, va_K.moved (u := U) (U := U.calling g mk a) (Vm.Alike.refl U.vm) h2, h3, h4, h5, h6, h7, Tx_moved (u := U) (U := U.calling g mk a) (Vm.Alike.refl U.vm) h8, fun w hw => Nw_same (u := U) (U := U.calling g mk a) hw rfl (h9 w hw)⟩
theorem gw_good {y : Mt} (h : Cond.code y.1 y.2.1 y.2.2.1 y.2.2.2.1 ∈ gwT) : GoodIn gwT (wsM y) := by
  have hg : ∀ w ∈ gwT, w ∈ gwT ∧ ((w.onTables && w.keeps) = true ∨ ∃ ty, w = .arrayClass ty) := fun w hw => ⟨hw, good_of_word (List.mem_filter.mp hw).2⟩
  intro w hw
  rcases List.mem_cons.mp hw with rfl | h2
  · exact hg _ h
  · exact hg _ h2
theorem ex_met {ph : Bool} {y : Mt} {nR n kc ks : Nat} {M : Mem} {Q : Int32 → Mem → Prop} {as : List Value} (l : Launch) (hE : Ex ph y nR n kc ks 0 (L0 as y.2.2.1) [] M Q) (hp : plainName y.1.cls = true) (hlen : (lg_sl as).length ≤ y.2.2.1) (D : va_G) (cI cB : ClassId) (ad : Nat → Nat) (sz : Nat) :
    Met l y.1 (wsM y) (rmO y kc ks) (va_Pc (as.map (rn ad)) (PcO ph D cI cB ad n M sz)) (QcO y Q (BxO ph D cI cB ad n nR (va_A (wsO ph cI cB ad n M) sz)) (va_A (wsO ph cI cB ad n M) sz)) kc ks (va_A (wsO ph cI cB ad n M) sz) := by
  refine Met.ofW (cc := y.2.1) (maxL := y.2.2.1) (ret := y.2.2.2.1) hp rfl ?_
  intro p e s m args below meth c s₁ B hml hv
  obtain ⟨rfl, hsz, hK, hP, hD, hwf, hn1, hn2, hT, hN⟩ := hv
  have hts := atoms_spec (ws := wsM y) B.pre
  have hown : s.vm.findClass y.1.cls = some m.cls := findClass_of_methodNamed B.named
  have hlocks := B.notSynchronized
  have hin : meth.name = y.1.name := (name_of_methodNamed B.named B.method).1
  have hlen2 : (lg_sl (as.map (rn ad))).length ≤ y.2.2.1 := by
    have : (lg_sl (as.map (rn ad))).length = (lg_sl as).length := by
      unfold lg_sl
      rw [List.flatMap_map, List.length_flatMap, List.length_flatMap]
      congr 1
      apply List.map_congr_left
      intro v _
      rw [rn_cat]
      by_cases h : v.category = 2
      · rw [if_pos h, if_pos h]; rfl
      · rw [if_neg h, if_neg h]; rfl
    rw [this]; exact hlen
  have hl := lv_entry (as.map (rn ad)) (n := y.2.2.1) hlen2
  rw [lg_entry_eq]
  generalize (lg_sl (as.map (rn ad)) ++ List.replicate (y.2.2.1 - (lg_sl (as.map (rn ad))).length) Slot.unset).toArray = ls at hl ⊢
  subst hsz
  have hl2 : lv_has ls y.2.2.1 (lvO ad 0 (L0 as y.2.2.1)) := ⟨hl.1, hl.2.1, fun q hq => hl.2.2 q (L0_in _ as 0 hq)⟩
  have hD2 := hD.self (sz := s.heap.size)
  refine hE p l e _ s m _ below meth c D cI cB ad (va_A (wsO ph cI cB ad n M) s.heap.size) s.heap [] 0 0 kc ks _ ls ⟨B.exec, B.bytes, hml, hown, fun w hw => hts w (List.mem_cons_of_mem _ hw), hN, hin, Nat.le_refl _, Nat.le_refl _⟩ ⟨hK, hP, hD2, va_S.rf, fun q h => Or.inr h, hwf, hn1, hn2, hT⟩ hl2 (by omega) (by omega) (Nat.le_refl _) (Nat.le_refl _) ?_
  intro ad' M' H' locs' v pc' ls' ha hq hW hdc hnar
  obtain ⟨w1, w2, w3, w4, w5, w6, w7, w8, w9⟩ := hW
  have hB : ∀ t : State, t.heap = H' → s.WarmedH t.vm → BxO ph D cI cB ad n nR (va_A (wsO ph cI cB ad n M) s.heap.size) M' t := fun t ht hWm => ⟨ad', ha, va_K.moved hWm.alike w1, by rw [ht]; exact w2, w3, w6, w7, w8, Tx_moved hWm.alike (by rw [ht]; exact Tx_kept w9 w4.2.1)⟩
  unfold QcO
  cases hr : y.2.2.2.1 with
  | none =>
    rw [retI, hr] at hdc
    rw [retS, hr]
    exact W.vret B.exec B.bytes (B.returns.trans hr) (fun t ht hWm => ⟨⟨M', rfl, ⟨v, hq⟩, hB t ht hWm⟩, w4.F ht⟩) w4.2.2 hdc
  | some ty =>
    rw [retI, hr] at hdc
    rw [retS, hr]
    rw [narO, hr] at hnar
    exact W.zret B.exec B.bytes (B.returns.trans hr) hnar (fun t ht hWm => ⟨⟨v, M', rfl, hq, hB t ht hWm⟩, w4.F ht⟩) w4.2.2 hdc
theorem call_go {ph : Bool} {y2 : Mt} {nR2 n k2 s2 pc : Nat} {M : Mem} {Q2 : Int32 → Mem → Prop} {p : Program} {l : Launch} {e : Env} {R : Room} {s : State} {m : MethodId} {args : Array Value} {below : List Frame} {meth : Method} {c : Code} {D : va_G} {cI cB : ClassId} {ad : Nat → Nat} {A : Nat → Prop} {H : Heap} {locs : List Loc} {cells slots : Nat} {Z : State → Prop} {ls : Array Slot} {st0 rest : List Value} {a : Array Value}
    (Wd : Wx ph D cI cB ad n A M s H locs) (hr : va_Run p l e R s m args below meth c H locs cells slots k2 s2 (F0 m pc ls st0) rest (QcO y2 Q2 (BxO ph D cI cB ad n nR2 (va_A (wsO ph cI cB ad n M) H.size)) (va_A (wsO ph cI cB ad n M) H.size) a) (va_A (wsO ph cI cB ad n M) H.size))
    (kk : ∀ (ad' : Nat → Nat) (M' : Mem) (H1 : Heap) (locs1 : List Loc) (v : Int32), (∀ k, k < n ∨ 100 ≤ k → ad' k = ad k) → Q2 v M' → Wx ph D cI cB ad' nR2 A M' s H1 locs1 → W p l e R s m args below meth c H1 locs1 (cells + k2) (slots + s2) Z (F0 m (pc + 3) ls (retS y2 v ++ rest))) : W p l e R s m args below meth c H locs cells slots Z (F0 m pc ls st0) := by
  have hF : ∀ q, va_A (wsO ph cI cB ad n M) H.size q → A q := by
    intro q h
    rcases h with ⟨k, e, h⟩ | h
    · exact Wd.2.2.1.2 k _ h
    · exact Wd.2.2.2.2.1 q (Nat.le_trans Wd.2.2.2.1.1 h)
  have hback : ∀ (M' : Mem) (t : State) (H1 : Heap) (locs1 : List Loc), t.heap = H1 → s.vm.Alike t.vm → BxO ph D cI cB ad n nR2 (va_A (wsO ph cI cB ad n M) H.size) M' t → va_S A s.heap H1 locs1 → ∃ ad' : Nat → Nat, (∀ k, k < n ∨ 100 ≤ k → ad' k = ad k) ∧ Wx ph D cI cB ad' nR2 A M' s H1 locs1 := by
    intro M' t H1 locs1 ht hvm hB hS1
    obtain ⟨ad', b1, b2, b3, b4, b5, b6, b7, b8⟩ := hB
    rw [ht] at b3
    refine ⟨ad', b1, va_K.moved hvm.symm b2, b3, b4.weaken (fun _ _ _ h => hF _ h), hS1, Wd.2.2.2.2.1, b5, b6, b7, ?_, fun i hi => ?_⟩
    · intro i hi
      obtain ⟨cell, t1, t2, t3, t4, t5, t6, t7⟩ := (b8.1 i hi)
      obtain ⟨cell0, u1, u2, u3, u4, u5, u6, u7⟩ := (Wd.2.2.2.2.2.2.2.2.1 i hi)
      rw [b1 (100 + i) (Or.inr (by omega))] at t1 ⊢
      have hlt : ad (100 + i) < s.heap.size := (Array.getElem?_eq_some_iff.mp u1).1
      have hcell : s.heap[ad (100 + i)]? = some cell := by
        rw [← hS1.2.1 _ hlt u7, ← ht]
        exact t1
      exact ⟨cell, hcell, State.isArrayOf_alike hvm.symm t2, t3, t4, t5, t6, u7⟩
    · rw [b1 (100 + i) (Or.inr (by omega))]
      exact Wd.2.2.2.2.2.2.2.2.2 i hi
  unfold QcO at hr
  cases hy : y2.2.2.2.1 with
  | none =>
    rw [hy] at hr
    refine va_callv hr Wd.2.2.2.1 (fun q _ h => hF q h) hF (fun M' t H1 locs1 ht hvm hw hB hz1 hk1 hS1 => ?_)
    obtain ⟨v, hv⟩ := hw
    obtain ⟨ad', g1, g2⟩ := hback M' t H1 locs1 ht hvm hB hS1
    have := kk ad' M' H1 locs1 v g1 hv g2
    rw [retS, hy] at this
    exact this
  | some ty =>
    rw [hy] at hr
    refine va_calli hr Wd.2.2.2.1 (fun q _ h => hF q h) hF (fun v M' t H1 locs1 ht hvm hw hB hz1 hk1 hS1 => ?_)
    obtain ⟨ad', g1, g2⟩ := hback M' t H1 locs1 ht hvm hB hS1
    have := kk ad' M' H1 locs1 v g1 hw g2
    rw [retS, hy] at this
    exact this
end
section
def MLK (own : String) (idx : Nat) (y2 : Mt) (np : Nat) : Prop := (Cond.methodLink own idx y2.1 ∈ gwT ∨ ∃ host, Cond.methodLinkNest own idx y2.1 host ∈ nwT) ∧ Cond.initialized y2.1.cls ∈ gwT ∧ Cond.code y2.1 y2.2.1 y2.2.2.1 y2.2.2.2.1 ∈ gwT ∧ (y2.1.cls ≠ "java/lang/invoke/MethodHandle" ∧ y2.1.cls ≠ "java/lang/invoke/VarHandle" ∧ (parseMethodDescriptor y2.1.desc).map (fun d => d.parameters.length) = some np) ∧ plainName y2.1.cls = true
def rmK (y y2 : Mt) : Prop := y2.2.2.2.2.1 + 1 ≤ y.2.2.2.2.1 ∧ 8 + (y2.2.2.1 + 11) + y2.2.2.2.2.2 ≤ y.2.2.2.2.2
theorem cat_map {ad : Nat → Nat} {st : List Value} : ((st.map (rn ad)).map fun v => v.category).sum = (st.map fun v => v.category).sum := by
  rw [List.map_map]
  congr 1
  exact List.map_congr_left (fun v _ => rn_cat v)
section Inv
variable {ph : Bool} {y : Mt} {nR n kc ks pc : Nat} {L st : List Value} {M : Mem} {Q : Int32 → Mem → Prop}
/-- what a callee may ask of the start, out of the caller's world -/
theorem pre_of {p : Program} {R : Room} {s : State} {m : MethodId} {args : Array Value} {meth : Method} {c : Code} {D : va_G} {cI cB : ClassId} {ad : Nat → Nat} {A : Nat → Prop} {H : Heap} {locs : List Loc} (C : Cx p R s m args meth c y) (Wd : Wx ph D cI cB ad n A M s H locs) (as : List Value) : ∀ U : State, U.heap = H → s.WarmedH U.vm → va_Pc (as.map (rn ad)) (PcO ph D cI cB ad n M H.size) (as.map (rn ad)).toArray U := by
  intro U hU hW
  have hF : ∀ q, va_A (wsO ph cI cB ad n M) H.size q → A q := by
    intro q h
    rcases h with ⟨k, e, h⟩ | h
    · exact Wd.2.2.1.2 k _ h
    · exact Wd.2.2.2.2.1 q (Nat.le_trans Wd.2.2.2.1.1 h)
  refine ⟨rfl, by rw [hU], va_K.moved hW.alike Wd.1, by rw [hU]; exact Wd.2.1, Wd.2.2.1.weaken (fun _ _ _ _ => trivial), Wd.2.2.2.2.2.1, Wd.2.2.2.2.2.2.1, Wd.2.2.2.2.2.2.2.1, Tx_moved hW.alike ?_, fun w hw => Nw_warm hw hW (C.2.2.2.2.2.1 w hw)⟩
  rw [hU]
  exact Tx_narrow (Tx_kept Wd.2.2.2.2.2.2.2.2 Wd.2.2.2.1.2.1) hF
theorem Wx_ad {D : va_G} {cI cB : ClassId} {ad ad' : Nat → Nat} {A : Nat → Prop} {s : State} {H : Heap} {locs : List Loc} (Wd : Wx ph D cI cB ad' n A M s H locs) (ha : ∀ k, k < n ∨ 100 ≤ k → ad' k = ad k) : Wx ph D cI cB ad n A M s H locs := by
  obtain ⟨k1, k2, k3, k4, k5, k6, k7, k8, k9⟩ := Wd
  have he := wsO_ad (cI := cI) (cB := cB) k6 k8 (fun k hk => ha k (Or.inl hk))
  rw [he] at k2 k3
  refine ⟨k1, k2, k3, k4, k5, k6, k7, k8, fun i hi => ?_, fun i hi => ?_⟩
  · rw [← ha (100 + i) (Or.inr (by omega))]
    exact k9.1 i hi
  · rw [← ha (100 + i) (Or.inr (by omega))]
    exact k9.2 i hi
theorem cb_of {own : String} {idx np kc2 ks2 : Nat} {y2 : Mt} {R : Room} {s : State} {args : Array Value} (ht : ∀ w ∈ gwT, w.before args s = true) (hlk : MLK own idx y2 np) (hl : Cond.methodLink own idx y2.1 ∈ gwT) (hfr : y2.2.2.2.2.1 + 1 ≤ R.frames) (hlo : 8 + (y2.2.2.1 + 11) + y2.2.2.2.2.2 ≤ R.locals) : CallB R s args own idx y2.1 y2.2.1 y2.2.2.1 y2.2.2.2.1 (wsM y2) (rmO y2 kc2 ks2) kc2 ks2 np :=
  callB_of np ht (gw_good hlk.2.2.1) rfl rfl rfl (ht _ hlk.2.1) (ht _ hl) hlk.2.2.2.1 ⟨hfr, hlo⟩
theorem cn_of {own host : String} {idx np kc2 ks2 : Nat} {y2 : Mt} {R : Room} {s : State} {args : Array Value} (ht : ∀ w ∈ gwT, w.before args s = true) (hlk : MLK own idx y2 np) (hl : va_Nw (.methodLinkNest own idx y2.1 host) s) (hfr : y2.2.2.2.2.1 + 1 ≤ R.frames) (hlo : 8 + (y2.2.2.1 + 11) + y2.2.2.2.2.2 ≤ R.locals) : va_CN R s args own idx y2.1 host y2.2.1 y2.2.2.1 y2.2.2.2.1 (wsM y2) (rmO y2 kc2 ks2) kc2 ks2 np :=
  va_cnB np ht (gw_good hlk.2.2.1) rfl rfl rfl hl (ht _ hlk.2.1) hlk.2.2.2.1 ⟨hfr, hlo⟩
/-- a call of an instance method, with all that the callee makes left behind -/
theorem ex_invV {idx k ci : Nat} {y2 : Mt} {as L2 : List Value} {Q2 : Int32 → Mem → Prop} (k2 s2 : Nat) (hd : decode y.2.1 pc = .ok (.invokevirtual idx, 3)) (hlk : MLK y.1.cls idx y2 as.length) (hsel : Cond.instanceMethod y2.1 ∈ gwT ∧ Cond.selects y2.1.cls y2.1 y2.1 ∈ gwT) (hrm : rmK y y2) (hk : k < n) (hS : S0 k = (ci + 2, NC ci)) (hc : ci < 8 ∧ nmC ci = y2.1.cls) (hL : L0 (.ref k :: as) y2.2.2.1 = L2) (hln : (lg_sl (.ref k :: as)).length ≤ y2.2.2.1) (hst : (st.map fun v => v.category).sum ≤ 8) (hE : Ex ph y2 n n k2 s2 0 L2 [] M Q2) (kk : ∀ v M', Q2 v M' → Ex ph y nR n kc ks (pc + 3) L (retS y2 v ++ st) M' Q) : Ex ph y nR n (kc + k2) (ks + s2) pc L (as.reverse ++ .ref k :: st) M Q := by
  subst hL
  intro p l e R s m args below meth c D cI cB ad A H locs cells slots KC KS Z ls C Wd hl h1 h2 h3 h4 hZ
  have hfr : y2.2.2.2.2.1 + 1 ≤ R.frames := Nat.le_trans hrm.1 C.2.2.2.2.2.2.2.1
  have hlo : 8 + (y2.2.2.1 + 11) + y2.2.2.2.2.2 ≤ R.locals := Nat.le_trans hrm.2 C.2.2.2.2.2.2.2.2
  have hM := ex_met l hE hlk.2.2.2.2 hln D cI cB ad H.size
  have hstk : (as.reverse ++ .ref k :: st).map (rn ad) = (as.map (rn ad)).reverse ++ .ref (ad k) :: st.map (rn ad) := by
    rw [List.map_append, List.map_reverse]
    rfl
  have hPV : PreV s H y2.1.cls (ad k) (va_Pc ((Value.ref k :: as).map (rn ad)) (PcO ph D cI cB ad n M H.size)) (as.map (rn ad)) := by
    refine ⟨PcO_blind, ?_, pre_of C Wd (.ref k :: as)⟩
    have := va_recv Wd.1 Wd.2.1 (C_cl ci hc.1) (q0 := k) (a := ad k) (ci := ci) (by rw [wsO_at hk, cell_obj hS])
    rw [← hc.2]
    exact this
  have go : va_Run p l e R s m args below meth c H locs cells slots k2 s2 (F0 m pc ls ((as.reverse ++ .ref k :: st).map (rn ad))) (st.map (rn ad)) (QcO y2 Q2 (BxO ph D cI cB ad n n (va_A (wsO ph cI cB ad n M) H.size)) (va_A (wsO ph cI cB ad n M) H.size) (Value.ref (ad k) :: as.map (rn ad)).toArray) (va_A (wsO ph cI cB ad n M) H.size) := by
    rcases hlk.1 with hl1 | ⟨host, hl1⟩
    · exact va_runV ⟨C.1, C.2.1, C.2.2.1, C.2.2.2.1, C.2.2.2.2.1⟩ hM ⟨cb_of C.2.2.2.2.1 hlk hl1 hfr hlo, C.2.2.2.2.1 _ hsel.1, C.2.2.2.2.1 _ hsel.2⟩ hPV rfl (by simp) hl.1 hstk (lv_room (by rw [cat_map]; exact hst)) hd ⟨by omega, by omega⟩
    · exact va_runVN ⟨C.1, C.2.1, C.2.2.1, C.2.2.2.1, C.2.2.2.2.1⟩ hM ⟨cn_of C.2.2.2.2.1 hlk (C.2.2.2.2.2.1 _ hl1) hfr hlo, C.2.2.2.2.1 _ hsel.1, C.2.2.2.2.1 _ hsel.2⟩ hPV rfl (by simp) hl.1 hstk (lv_room (by rw [cat_map]; exact hst)) hd ⟨by omega, by omega⟩
  refine call_go Wd go (fun ad' M' H1 locs1 v ha hq Wd1 => ?_)
  have := kk v M' hq p l e R s m args below meth c D cI cB ad A H1 locs1 (cells + k2) (slots + s2) KC KS Z ls C (Wx_ad Wd1 ha) hl (by omega) (by omega) h3 h4 hZ
  rw [List.map_append] at this
  have hrs : (retS y2 v).map (rn ad) = retS y2 v := by
    unfold retS
    split <;> rfl
  rw [hrs] at this
  exact this
theorem ex_invS {idx : Nat} {y2 : Mt} {as L2 : List Value} {Q2 : Int32 → Mem → Prop} (k2 s2 : Nat) (hd : decode y.2.1 pc = .ok (.invokestatic idx, 3)) (hlk : MLK y.1.cls idx y2 as.length) (hsel : Cond.static y2.1 ∈ gwT) (hrm : rmK y y2) (hL : L0 as y2.2.2.1 = L2) (hln : (lg_sl as).length ≤ y2.2.2.1) (hst : (st.map fun v => v.category).sum ≤ 8) (hE : Ex ph y2 n n k2 s2 0 L2 [] M Q2) (kk : ∀ v M', Q2 v M' → Ex ph y nR n kc ks (pc + 3) L (retS y2 v ++ st) M' Q) : Ex ph y nR n (kc + k2) (ks + s2) pc L (as.reverse ++ st) M Q := by
  subst hL
  intro p l e R s m args below meth c D cI cB ad A H locs cells slots KC KS Z ls C Wd hl h1 h2 h3 h4 hZ
  have hfr : y2.2.2.2.2.1 + 1 ≤ R.frames := Nat.le_trans hrm.1 C.2.2.2.2.2.2.2.1
  have hlo : 8 + (y2.2.2.1 + 11) + y2.2.2.2.2.2 ≤ R.locals := Nat.le_trans hrm.2 C.2.2.2.2.2.2.2.2
  have hM := ex_met l hE hlk.2.2.2.2 hln D cI cB ad H.size
  have hstk : (as.reverse ++ st).map (rn ad) = (as.map (rn ad)).reverse ++ st.map (rn ad) := by
    rw [List.map_append, List.map_reverse]
  have hPS : PreS s H (va_Pc (as.map (rn ad)) (PcO ph D cI cB ad n M H.size)) (as.map (rn ad)) := ⟨PcO_blind, pre_of C Wd as⟩
  have go : va_Run p l e R s m args below meth c H locs cells slots k2 s2 (F0 m pc ls ((as.reverse ++ st).map (rn ad))) (st.map (rn ad)) (QcO y2 Q2 (BxO ph D cI cB ad n n (va_A (wsO ph cI cB ad n M) H.size)) (va_A (wsO ph cI cB ad n M) H.size) (as.map (rn ad)).toArray) (va_A (wsO ph cI cB ad n M) H.size) := by
    rcases hlk.1 with hl1 | ⟨host, hl1⟩
    · exact va_runS ⟨C.1, C.2.1, C.2.2.1, C.2.2.2.1, C.2.2.2.2.1⟩ hM ⟨cb_of C.2.2.2.2.1 hlk hl1 hfr hlo, C.2.2.2.2.1 _ hsel⟩ hPS rfl (by simp) hl.1 hstk (lv_room (by rw [cat_map]; exact hst)) hd ⟨by omega, by omega⟩
    · exact va_runSN ⟨C.1, C.2.1, C.2.2.1, C.2.2.2.1, C.2.2.2.2.1⟩ hM ⟨cn_of C.2.2.2.2.1 hlk (C.2.2.2.2.2.1 _ hl1) hfr hlo, C.2.2.2.2.1 _ hsel, trivial⟩ hPS rfl (by simp) hl.1 hstk (lv_room (by rw [cat_map]; exact hst)) hd ⟨by omega, by omega⟩
  refine call_go Wd go (fun ad' M' H1 locs1 v ha hq Wd1 => ?_)
  have := kk v M' hq p l e R s m args below meth c D cI cB ad A H1 locs1 (cells + k2) (slots + s2) KC KS Z ls C (Wx_ad Wd1 ha) hl (by omega) (by omega) h3 h4 hZ
  rw [List.map_append] at this
  have hrs : (retS y2 v).map (rn ad) = retS y2 v := by
    unfold retS
    split <;> rfl
  rw [hrs] at this
  exact this
/-- a constructor's call: what it makes stays -/
theorem ex_invI {idx k nR2 : Nat} {y2 : Mt} {as L2 : List Value} {Q2 : Int32 → Mem → Prop} (k2 s2 : Nat) (hd : decode y.2.1 pc = .ok (.invokespecial idx, 3)) (hlk : MLK y.1.cls idx y2 as.length) (hsel : Cond.instanceMethod y2.1 ∈ gwT) (hin : y2.1.name = "<init>") (hret : y2.2.2.2.1 = none) (hrm : rmK y y2) (hL : L0 (.ref k :: as) y2.2.2.1 = L2) (hln : (lg_sl (.ref k :: as)).length ≤ y2.2.2.1) (hst : (st.map fun v => v.category).sum ≤ 8) (hok : (L ++ st).all (okv n) = true) (hnn : n ≤ nR2) (hE : Ex ph y2 nR2 n k2 s2 0 L2 [] M Q2) (kk : ∀ v M', Q2 v M' → Ex ph y nR nR2 kc ks (pc + 3) L st M' Q) : Ex ph y nR n (kc + k2) (ks + s2) pc L (as.reverse ++ .ref k :: st) M Q := by
  subst hL
  intro p l e R s m args below meth c D cI cB ad A H locs cells slots KC KS Z ls C Wd hl h1 h2 h3 h4 hZ
  have hfr : y2.2.2.2.2.1 + 1 ≤ R.frames := Nat.le_trans hrm.1 C.2.2.2.2.2.2.2.1
  have hlo : 8 + (y2.2.2.1 + 11) + y2.2.2.2.2.2 ≤ R.locals := Nat.le_trans hrm.2 C.2.2.2.2.2.2.2.2
  have hM := ex_met l hE hlk.2.2.2.2 hln D cI cB ad H.size
  have hstk : (as.reverse ++ .ref k :: st).map (rn ad) = (as.map (rn ad)).reverse ++ .ref (ad k) :: st.map (rn ad) := by
    rw [List.map_append, List.map_reverse]
    rfl
  have hPS : PreS s H (va_Pc ((Value.ref k :: as).map (rn ad)) (PcO ph D cI cB ad n M H.size)) (.ref (ad k) :: as.map (rn ad)) := ⟨PcO_blind, pre_of C Wd (.ref k :: as)⟩
  have go : va_Run p l e R s m args below meth c H locs cells slots k2 s2 (F0 m pc ls ((as.reverse ++ .ref k :: st).map (rn ad))) (st.map (rn ad)) (QcO y2 Q2 (BxO ph D cI cB ad n nR2 (va_A (wsO ph cI cB ad n M) H.size)) (va_A (wsO ph cI cB ad n M) H.size) (Value.ref (ad k) :: as.map (rn ad)).toArray) (va_A (wsO ph cI cB ad n M) H.size) := by
    rcases hlk.1 with hl1 | ⟨host, hl1⟩
    · exact va_runI ⟨C.1, C.2.1, C.2.2.1, C.2.2.2.1, C.2.2.2.2.1⟩ hM ⟨by have := cb_of (kc2 := k2) (ks2 := s2) C.2.2.2.2.1 hlk hl1 hfr hlo; rw [hret] at this; exact this, hin, C.2.2.2.2.1 _ hsel⟩ hPS rfl (by simp) hl.1 hstk (lv_room (by rw [cat_map]; exact hst)) hd ⟨by omega, by omega⟩
    · exact va_runIN ⟨C.1, C.2.1, C.2.2.1, C.2.2.2.1, C.2.2.2.2.1⟩ hM ⟨by have := cn_of (kc2 := k2) (ks2 := s2) C.2.2.2.2.1 hlk (C.2.2.2.2.2.1 _ hl1) hfr hlo; rw [hret] at this; exact this, hin, C.2.2.2.2.1 _ hsel⟩ hPS rfl (by simp) hl.1 hstk (lv_room (by rw [cat_map]; exact hst)) hd ⟨by omega, by omega⟩
  rw [List.all_append, Bool.and_eq_true] at hok
  refine call_go Wd go (fun ad' M' H1 locs1 v ha hq Wd1 => ?_)
  have := kk v M' hq p l e R s m args below meth c D cI cB ad' A H1 locs1 (cells + k2) (slots + s2) KC KS Z ls C Wd1 (by rw [lvO_ok ha hok.1]; exact hl) (by omega) (by omega) h3 h4 (fun ad2 M2 H2 locs2 v2 pc2 ls2 g1 g2 g3 g4 g5 => hZ ad2 M2 H2 locs2 v2 pc2 ls2 (fun k hk => by rw [g1 k (hk.imp (fun h => Nat.lt_of_lt_of_le h hnn) id), ha k hk]) g2 g3 g4 g5)
  rw [map_ok ha hok.2] at this
  rw [retS, hret]
  exact this
theorem ex_obj {idx k : Nat} (hd : decode y.2.1 pc = .ok (.invokespecial idx, 3)) (hlk : Cond.methodLink y.1.cls idx objectInit ∈ gwT ∧ Cond.instanceMethod objectInit ∈ gwT ∧ Cond.code objectInit ⟨#[0xb1]⟩ 1 none ∈ gwT) (hfr : 1 ≤ y.2.2.2.2.1) (hlo : (st.map fun v => v.category).sum + 12 ≤ y.2.2.2.2.2) (kk : Ex ph y nR n kc ks (pc + 3) L st M Q) : Ex ph y nR n kc ks pc L (.ref k :: st) M Q := by
  intro p l e R s m args below meth c D cI cB ad A H locs cells slots KC KS Z ls C Wd hl h1 h2 h3 h4 hZ
  refine W.objInit C.1 C.2.1 C.2.2.2.1 (C.2.2.2.2.1 _ hlk.1) (C.2.2.2.2.1 _ hlk.2.1) (C.2.2.2.2.1 _ hlk.2.2) rfl (hl.1.trans C.2.2.1.symm) rfl hd (Nat.le_trans hfr C.2.2.2.2.2.2.2.1) ?_ ?_
  · show 2 * 0 + _ + 12 ≤ _
    rw [cat_map]
    have := C.2.2.2.2.2.2.2.2
    omega
  · exact kk p l e R s m args below meth c D cI cB ad A H locs cells slots KC KS Z ls C Wd hl h1 h2 h3 h4 hZ
end Inv
end
section
theorem wsO_push {ph : Bool} {cI cB : ClassId} {ad : Nat → Nat} {n q : Nat} {M : Mem} {f : Nat → Int32} (hw : wfM ph n M) (hn : ph = true → 78 ≤ n) : wsO ph cI cB (fun k => if k = n then q else ad k) (n + 1) (mrow M n f) = wsO ph cI cB ad n M ++ [(q, cellE ph cI cB (fun k => if k = n then q else ad k) n f)] := by
  have h1 := wsO_ad (cI := cI) (cB := cB) (ad := ad) (ad' := fun k => if k = n then q else ad k) hw hn (fun k hk => if_neg (by omega))
  rw [← h1]
  unfold wsO
  rw [List.range_succ, List.map_append]
  congr 1
  · apply List.map_congr_left
    intro k hk
    have hk := List.mem_range.mp hk
    rw [mrow_o (by omega)]
  · simp [mrow_k]
section Make
variable {ph : Bool} {y : Mt} {nR n kc ks pc : Nat} {L st : List Value} {M : Mem} {Q : Int32 → Mem → Prop}
theorem wf_push {f : Nat → Int32} (hw : wfM ph n M) (hf : ∀ j ci : Nat, (S0 n).1 = ci + 2 → j < (S0 n).2 → rfq ci j = true → f j < 0) : wfM ph (n + 1) (mrow M n f) := by
  intro k j ci q1 q2 q3 q4 q5
  by_cases e : k = n
  · subst e
    rw [mrow_k] at q5
    exact absurd (hf j ci q2 q3 q4) q5
  · rw [mrow_o e] at q5 ⊢
    have := hw k j ci (by omega) q2 q3 q4 q5
    cases ph
    · simp at this ⊢
      omega
    · simpa using this
/-- a new cell at place n -/
theorem push_go {p : Program} {l : Launch} {e : Env} {R : Room} {s : State} {m : MethodId} {args : Array Value} {below : List Frame} {meth : Method} {c : Code} {D : va_G} {cI cB : ClassId} {ad : Nat → Nat} {A : Nat → Prop} {H H1 : Heap} {locs : List Loc} {cells slots KC KS len d q : Nat} {Z : State → Prop} {ls : Array Slot} {f : Nat → Int32} {E : va_E}
    (C : Cx p R s m args meth c y) (Wd : Wx ph D cI cB ad n A M s H locs) (hl : lv_has ls y.2.2.1 (lvO ad 0 L)) (h1 : cells + (kc + 1) ≤ KC) (h2 : slots + (ks + len) ≤ KS) (h3 : KC ≤ R.cells) (h4 : KS ≤ R.slots)
    (hZ : ∀ (ad' : Nat → Nat) (M' : Mem) (H' : Heap) (locs' : List Loc) (v : Int32) (pc' : Nat) (ls' : Array Slot), (∀ k, k < n ∨ 100 ≤ k → ad' k = ad k) → Q v M' → Wx ph D cI cB ad' nR A M' s H' locs' → decode y.2.1 pc' = .ok (retI y, 1) → narO y v → W p l e R s m args below meth c H' locs' KC KS Z (F0 m pc' ls' (retS y v)))
    (hn : n < 100) (hok : (L ++ st).all (okv n) = true) (hf : ∀ j ci : Nat, (S0 n).1 = ci + 2 → j < (S0 n).2 → rfq ci j = true → f j < 0) (hE : cellE ph cI cB (fun k => if k = n then q else ad k) n f = E)
    (g1 : va_P D clO (wsO ph cI cB ad n M ++ [(q, E)]) H1) (g2 : va_D A (wsO ph cI cB ad n M ++ [(q, E)])) (g3 : va_S A s.heap H1 locs)
    (kk : Ex ph y nR (n + 1) kc ks (pc + d) L (.ref n :: st) (mrow M n f) Q) : W p l e R s m args below meth c H1 locs (cells + 1) (slots + len) Z (F0 m (pc + d) ls (.ref q :: st.map (rn ad))) := by
  rw [← hE, ← wsO_push Wd.2.2.2.2.2.1 Wd.2.2.2.2.2.2.2.1] at g1 g2
  rw [List.all_append, Bool.and_eq_true] at hok
  have ha : ∀ k, k < n ∨ 100 ≤ k → (fun k => if k = n then q else ad k) k = ad k := fun k hk => if_neg (by omega)
  have := kk p l e R s m args below meth c D cI cB (fun k => if k = n then q else ad k) A H1 locs (cells + 1) (slots + len) KC KS Z ls C ⟨Wd.1, g1, g2, g3, Wd.2.2.2.2.1, wf_push Wd.2.2.2.2.2.1 hf, by omega, fun h => by have := Wd.2.2.2.2.2.2.2.1 h; omega, ?_⟩ (by rw [lvO_ok ha hok.1]; exact hl) (by omega) (by omega) h3 h4 (fun ad2 M2 H2 locs2 v2 pc2 ls2 q1 q2 q3 q4 q5 => hZ ad2 M2 H2 locs2 v2 pc2 ls2 (fun k hk => (q1 k (by omega)).trans (ha k hk)) q2 q3 q4 q5)
  · rw [List.map_cons, map_ok ha hok.2] at this
    simpa [rn] using this
  · have hT := Tx_same (M' := mrow M n f) Wd.2.2.2.2.2.2.2.2 (fun a h => mrow_o (by omega))
    refine ⟨fun i hi => ?_, fun i hi => ?_⟩
    · rw [ha (100 + i) (by omega)]
      exact hT.1 i hi
    · rw [ha (100 + i) (by omega)]
      exact hT.2 i hi
theorem one_class {D : va_G} {s : State} {cI cB cA : ClassId} {ty : FieldType} (i : Nat) (hty : ty = .int ∨ ty = .boolean) (h : va_K D clO ([(cI, .int), (cB, .boolean)] ++ [(cA, ty)]) s) (hi : [(cI, FieldType.int), (cB, FieldType.boolean)][i]? = some (if ty = .int then cI else cB, ty)) : cA = if ty = .int then cI else cB := by
  have a1 := (h.2 2 (cA, ty) rfl).2
  have a2 := (h.2 i (if ty = .int then cI else cB, ty) (by
    match i, hi with
    | 0, hi => exact hi
    | 1, hi => exact hi
    | i + 2, hi => simp at hi)).2
  rcases hty with rfl | rfl
  · exact Option.some.inj (Eq.trans (Eq.symm a1) a2)
  · exact Option.some.inj (Eq.trans (Eq.symm a1) a2)
theorem ex_newI {len : Nat} {x : Int32} (hd : decode y.2.1 pc = .ok (.newarray .int, 2)) (hS : S0 n = (0, len)) (hx : ¬ x < 0) (hx2 : x.toNatClampNeg = len) (hb : len * 4 ≤ 536870912) (hw : Cond.arrayClass .int ∈ gwT) (hn : n < 100) (hok : (L ++ st).all (okv n) = true) (kk : Ex ph y nR (n + 1) kc ks (pc + 2) L (.ref n :: st) (mrow M n (fun _ => 0)) Q) : Ex ph y nR n (kc + 1) (ks + len) pc L (.int x :: st) M Q := by
  intro p l e R s m args below meth c D cI cB ad A H locs cells slots KC KS Z ls C Wd hl h1 h2 h3 h4 hZ
  refine va_newa (a0 := (len, .inl (fun _ => 0))) C.1 C.2.1 (atype := .int) (C.2.2.2.2.1 _ hw) rfl Wd.1 Wd.2.1 Wd.2.2.1 Wd.2.2.2.1 Wd.2.2.2.2.1 (fun cA => rfl) hx hx2 hb (by omega) (by omega) hd (fun q cA H1 gK g1 g2 g3 => ?_)
  have hc : cA = cI := one_class 0 (Or.inl rfl) gK rfl
  subst hc
  exact push_go C Wd hl h1 h2 h3 h4 hZ hn hok (fun j ci h => by rw [hS] at h; simp only at h; omega) (by rw [cell_row hS]) g1 g2 g3 kk
theorem ex_newZ {len : Nat} {x : Int32} (hd : decode y.2.1 pc = .ok (.newarray .boolean, 2)) (hS : S0 n = (1, len)) (hx : ¬ x < 0) (hx2 : x.toNatClampNeg = len) (hb : len * 1 ≤ 536870912) (hw : Cond.arrayClass .boolean ∈ gwT) (hn : n < 100) (hok : (L ++ st).all (okv n) = true) (kk : Ex ph y nR (n + 1) kc ks (pc + 2) L (.ref n :: st) (mrow M n (fun _ => 0)) Q) : Ex ph y nR n (kc + 1) (ks + len) pc L (.int x :: st) M Q := by
  intro p l e R s m args below meth c D cI cB ad A H locs cells slots KC KS Z ls C Wd hl h1 h2 h3 h4 hZ
  refine va_newa (a0 := (len, .inl (fun _ => 0))) C.1 C.2.1 (atype := .boolean) (C.2.2.2.2.1 _ hw) rfl Wd.1 Wd.2.1 Wd.2.2.1 Wd.2.2.2.1 Wd.2.2.2.2.1 (fun cA => rfl) hx hx2 hb (by omega) (by omega) hd (fun q cA H1 gK g1 g2 g3 => ?_)
  have hc : cA = cB := one_class 1 (Or.inr rfl) gK rfl
  subst hc
  exact push_go C Wd hl h1 h2 h3 h4 hZ hn hok (fun j ci h => by rw [hS] at h; simp only at h; omega) (by rw [cell_brow hS]) g1 g2 g3 kk
theorem C_def0 : ((List.range 8).all (fun ci => (List.range (NC ci)).all (fun j => decide (defaultValue (tyC ci j) = if rfq ci j then .null else .int 0)))) = true := by decide +kernel
theorem ex_new {idx ci : Nat} (hd : decode y.2.1 pc = .ok (.new idx, 3)) (hS : S0 n = (ci + 2, NC ci)) (hci : ci < 8) (hlk : Cond.classLink y.1.cls idx (nmC ci) ∈ gwT ∧ Cond.instantiable (nmC ci) (NC ci) ∈ gwT ∧ Cond.initialized (nmC ci) ∈ gwT) (hn : n < 100) (hok : (L ++ st).all (okv n) = true) (kk : Ex false y nR (n + 1) kc ks (pc + 3) L (.ref n :: st) (mrow M n (fun j => if rfq ci j then -1 else 0)) Q) : Ex false y nR n (kc + 1) (ks + NC ci) pc L st M Q := by
  intro p l e R s m args below meth c D cI cB ad A H locs cells slots KC KS Z ls C Wd hl h1 h2 h3 h4 hZ
  refine va_new (ci := ci) (fs := (List.range (NC ci)).map (fun j => if rfq ci j then .null else .int 0)) C.1 C.2.1 C.2.2.2.2.1 (C_in ci hci) (tyC ci) (C_ty ci hci) C.2.2.2.1 (C.2.2.2.2.1 _ hlk.1) (C.2.2.2.2.1 _ hlk.2.1) (C.2.2.2.2.1 _ hlk.2.2) Wd.1 Wd.2.1 Wd.2.2.1 Wd.2.2.2.1 Wd.2.2.2.2.1 (C_cl ci hci) (fun j hj => ?_) (by omega) (by omega) hd (fun q H1 g1 g2 g3 => ?_)
  · have := of_decide_eq_true (List.all_eq_true.mp (List.all_eq_true.mp C_def0 ci (List.mem_range.mpr hci)) j (List.mem_range.mpr hj))
    rw [this]
    simp [vp_V, List.getD_eq_getElem?_getD, hj]
  · refine push_go (f := fun j => if rfq ci j then -1 else 0) C Wd hl h1 h2 h3 h4 hZ hn hok (fun j c2 h hj hr => ?_) ?_ g1 g2 g3 kk
    · have : c2 = ci := by
        rw [hS] at h
        simp only at h
        omega
      subst this
      simp only [hr, if_true]
      decide
    · rw [cell_obj hS]
      congr 2
      apply List.map_congr_left
      intro j hj
      unfold encF
      by_cases hr : rfq ci j = true
      · simp only [hr, if_true, Bool.false_and, Bool.false_eq_true, if_false]
        rw [if_pos (by decide)]
      · simp only [hr, if_false, Bool.false_eq_true]
theorem ex_max {idx : Nat} {a b : Int32} (hd : decode y.2.1 pc = .ok (.invokestatic idx, 3)) (hlk : Cond.methodLink y.1.cls idx Lib.Math.max.name ∈ gwT ∧ Cond.static Lib.Math.max.name ∈ gwT ∧ Cond.initialized "java/lang/Math" ∈ gwT ∧ Cond.code Lib.Math.max.name Lib.Math.max.code 2 (some .int) ∈ gwT) (hfr : 1 ≤ y.2.2.2.2.1) (hlo : (st.map fun v => v.category).sum + 13 ≤ y.2.2.2.2.2) (kk : Ex ph y nR n kc ks (pc + 3) L (.int (if a < b then b else a) :: st) M Q) : Ex ph y nR n kc ks pc L (.int b :: .int a :: st) M Q := by
  intro p l e R s m args below meth c D cI cB ad A H locs cells slots KC KS Z ls C Wd hl h1 h2 h3 h4 hZ
  exact va_mmax C.1 C.2.1 (C.2.2.1.trans hl.1.symm) C.2.2.2.1 (C.2.2.2.2.1 _ hlk.1) (C.2.2.2.2.1 _ hlk.2.1) (C.2.2.2.2.1 _ hlk.2.2.1) (C.2.2.2.2.1 _ hlk.2.2.2) (Nat.le_trans hfr C.2.2.2.2.2.2.2.1) (by rw [cat_map]; exact Nat.le_trans hlo C.2.2.2.2.2.2.2.2) (by omega) (by omega) hd (kk p l e R s m args below meth c D cI cB ad A H locs cells slots KC KS Z ls C Wd hl h1 h2 h3 h4 hZ)
theorem ex_min {idx : Nat} {a b : Int32} (hd : decode y.2.1 pc = .ok (.invokestatic idx, 3)) (hlk : Cond.methodLink y.1.cls idx Lib.Math.min.name ∈ gwT ∧ Cond.static Lib.Math.min.name ∈ gwT ∧ Cond.initialized "java/lang/Math" ∈ gwT ∧ Cond.code Lib.Math.min.name Lib.Math.min.code 2 (some .int) ∈ gwT) (hfr : 1 ≤ y.2.2.2.2.1) (hlo : (st.map fun v => v.category).sum + 13 ≤ y.2.2.2.2.2) (kk : Ex ph y nR n kc ks (pc + 3) L (.int (if b < a then b else a) :: st) M Q) : Ex ph y nR n kc ks pc L (.int b :: .int a :: st) M Q := by
  intro p l e R s m args below meth c D cI cB ad A H locs cells slots KC KS Z ls C Wd hl h1 h2 h3 h4 hZ
  exact va_mmin C.1 C.2.1 (C.2.2.1.trans hl.1.symm) C.2.2.2.1 (C.2.2.2.2.1 _ hlk.1) (C.2.2.2.2.1 _ hlk.2.1) (C.2.2.2.2.1 _ hlk.2.2.1) (C.2.2.2.2.1 _ hlk.2.2.2) (Nat.le_trans hfr C.2.2.2.2.2.2.2.1) (by rw [cat_map]; exact Nat.le_trans hlo C.2.2.2.2.2.2.2.2) (by omega) (by omega) hd (kk p l e R s m args below meth c D cI cB ad A H locs cells slots KC KS Z ls C Wd hl h1 h2 h3 h4 hZ)
theorem ex_abs {idx : Nat} {a : Int32} (hd : decode y.2.1 pc = .ok (.invokestatic idx, 3)) (hlk : Cond.methodLink y.1.cls idx Lib.Math.abs.name ∈ gwT ∧ Cond.static Lib.Math.abs.name ∈ gwT ∧ Cond.initialized "java/lang/Math" ∈ gwT ∧ Cond.code Lib.Math.abs.name Lib.Math.abs.code 1 (some .int) ∈ gwT) (hfr : 1 ≤ y.2.2.2.2.1) (hlo : (st.map fun v => v.category).sum + 13 ≤ y.2.2.2.2.2) (kk : Ex ph y nR n kc ks (pc + 3) L (.int (if 0 ≤ a then a else 0 - a) :: st) M Q) : Ex ph y nR n kc ks pc L (.int a :: st) M Q := by
  intro p l e R s m args below meth c D cI cB ad A H locs cells slots KC KS Z ls C Wd hl h1 h2 h3 h4 hZ
  exact va_mabs C.1 C.2.1 (C.2.2.1.trans hl.1.symm) C.2.2.2.1 (C.2.2.2.2.1 _ hlk.1) (C.2.2.2.2.1 _ hlk.2.1) (C.2.2.2.2.1 _ hlk.2.2.1) (C.2.2.2.2.1 _ hlk.2.2.2) (Nat.le_trans hfr C.2.2.2.2.2.2.2.1) (by rw [cat_map]; exact Nat.le_trans hlo C.2.2.2.2.2.2.2.2) (by omega) (by omega) hd (kk p l e R s m args below meth c D cI cB ad A H locs cells slots KC KS Z ls C Wd hl h1 h2 h3 h4 hZ)
end Make
end
section
def mX0_init : Mt := (yX0_init, cX0_init, 1, none, 1, 20)
def mX0_empty : Mt := (yX0_empty, cX0_empty, 2, none, 0, 0)
def mX0_startBar : Mt := (yX0_startBar, cX0_startBar, 2, (some .boolean), 1, 22)
def mX0_startVoice : Mt := (yX0_startVoice, cX0_startVoice, 3, (some .boolean), 0, 0)
def mX0_slotOf : Mt := (yX0_slotOf, cX0_slotOf, 3, (some .int), 0, 0)
def mX0_lastSlot : Mt := (yX0_lastSlot, cX0_lastSlot, 2, (some .int), 0, 0)
def mX0_addItem : Mt := (yX0_addItem, cX0_addItem, 7, (some .int), 1, 21)
def mX0_addInterval : Mt := (yX0_addInterval, cX0_addInterval, 4, none, 0, 0)
def mX0_intervalAt : Mt := (yX0_intervalAt, cX0_intervalAt, 3, (some .int), 0, 0)
def mX0_intervalPitch : Mt := (yX0_intervalPitch, cX0_intervalPitch, 4, (some .int), 0, 0)
def mX0_suitsHand : Mt := (yX0_suitsHand, cX0_suitsHand, 4, (some .boolean), 1, 23)
def mX0_isNote : Mt := (yX0_isNote, cX0_isNote, 2, (some .boolean), 0, 0)
def mX0_lasts : Mt := (yX0_lasts, cX0_lasts, 2, (some .int), 1, 22)
def mX0_voiceLasts : Mt := (yX0_voiceLasts, cX0_voiceLasts, 4, (some .int), 2, 43)
def mX0_isWhole : Mt := (yX0_isWhole, cX0_isWhole, 2, (some .boolean), 3, 66)
def mX0_endsWhole : Mt := (yX0_endsWhole, cX0_endsWhole, 2, (some .boolean), 4, 87)
def mX0_itemsOfBar : Mt := (yX0_itemsOfBar, cX0_itemsOfBar, 4, (some .int), 0, 0)
def mX0_isLoneWholeRest : Mt := (yX0_isLoneWholeRest, cX0_isLoneWholeRest, 3, (some .boolean), 1, 21)
def mX1_init : Mt := (yX1_init, cX1_init, 1, none, 1, 20)
def mX1_isLeap : Mt := (yX1_isLeap, cX1_isLeap, 3, (some .boolean), 1, 21)
def mX1_forget : Mt := (yX1_forget, cX1_forget, 1, none, 0, 0)
def mX1_heard : Mt := (yX1_heard, cX1_heard, 2, none, 0, 0)
def mX1_enterBar : Mt := (yX1_enterBar, cX1_enterBar, 4, none, 1, 20)
def mX1_needsSign : Mt := (yX1_needsSign, cX1_needsSign, 2, (some .boolean), 2, 43)
def mX1_nearest : Mt := (yX1_nearest, cX1_nearest, 3, (some .int), 2, 43)
def mX2_init : Mt := (yX2_init, cX2_init, 1, none, 1, 20)
def mX2_put : Mt := (yX2_put, cX2_put, 2, none, 0, 0)
def mX2_get : Mt := (yX2_get, cX2_get, 2, (some .int), 0, 0)
def mX3_init : Mt := (yX3_init, cX3_init, 2, none, 2, 40)
def mX3_run : Mt := (yX3_run, cX3_run, 5, (some .int), 6, 135)
def mX3_peek : Mt := (yX3_peek, cX3_peek, 1, (some .int), 1, 21)
def mX3_sees : Mt := (yX3_sees, cX3_sees, 3, (some .boolean), 1, 21)
def mX3_readHand : Mt := (yX3_readHand, cX3_readHand, 1, none, 2, 43)
def mX3_beginNext : Mt := (yX3_beginNext, cX3_beginNext, 2, (some .boolean), 3, 64)
def mX3_beginBar : Mt := (yX3_beginBar, cX3_beginBar, 2, (some .boolean), 2, 43)
def mX3_readVoice : Mt := (yX3_readVoice, cX3_readVoice, 4, (some .boolean), 5, 112)
def mX3_isAtVoiceEnd : Mt := (yX3_isAtVoiceEnd, cX3_isAtVoiceEnd, 2, (some .boolean), 2, 43)
def mX3_endVoice : Mt := (yX3_endVoice, cX3_endVoice, 4, (some .boolean), 3, 78)
def mX3_readItem : Mt := (yX3_readItem, cX3_readItem, 2, (some .boolean), 4, 91)
def mX3_readSizeSign : Mt := (yX3_readSizeSign, cX3_readSizeSign, 2, (some .boolean), 2, 41)
def mX3_readOpen : Mt := (yX3_readOpen, cX3_readOpen, 1, (some .boolean), 2, 43)
def mX3_readNote : Mt := (yX3_readNote, cX3_readNote, 7, (some .boolean), 3, 65)
def mX3_readDots : Mt := (yX3_readDots, cX3_readDots, 2, (some .int), 2, 41)
def mX3_readIntervals : Mt := (yX3_readIntervals, cX3_readIntervals, 5, (some .boolean), 2, 41)
def mX3_readTie : Mt := (yX3_readTie, cX3_readTie, 2, none, 2, 43)
def mX3_readSlur : Mt := (yX3_readSlur, cX3_readSlur, 2, none, 2, 43)
def mX4_init : Mt := (yX4_init, cX4_init, 2, none, 2, 40)
def mX4_run : Mt := (yX4_run, cX4_run, 7, (some .int), 6, 134)
def mX4_markSigns : Mt := (yX4_markSigns, cX4_markSigns, 4, none, 4, 102)
def mX4_markSlurs : Mt := (yX4_markSlurs, cX4_markSlurs, 3, none, 2, 47)
def mX4_markRow : Mt := (yX4_markRow, cX4_markRow, 4, none, 1, 24)
def mX4_isBroken : Mt := (yX4_isBroken, cX4_isBroken, 5, (some .boolean), 0, 0)
def mX4_putTwo : Mt := (yX4_putTwo, cX4_putTwo, 3, none, 1, 21)
def mX4_putHand : Mt := (yX4_putHand, cX4_putHand, 1, none, 2, 43)
def mX4_putBar : Mt := (yX4_putBar, cX4_putBar, 6, none, 5, 109)
def mX4_putSize : Mt := (yX4_putSize, cX4_putSize, 2, none, 2, 43)
def mX4_putItem : Mt := (yX4_putItem, cX4_putItem, 2, none, 4, 88)
def mX4_putNote : Mt := (yX4_putNote, cX4_putNote, 5, none, 3, 64)
def mX4_putSign : Mt := (yX4_putSign, cX4_putSign, 2, none, 1, 21)
def mX4_putDots : Mt := (yX4_putDots, cX4_putDots, 3, none, 1, 21)
def mX5_init : Mt := (yX5_init, cX5_init, 1, none, 1, 20)
def mX5_settle : Mt := (yX5_settle, cX5_settle, 9, (some .boolean), 2, 50)
def mX5_load : Mt := (yX5_load, cX5_load, 7, (some .int), 1, 22)
def mX5_layEnd : Mt := (yX5_layEnd, cX5_layEnd, 6, none, 0, 0)
def mX5_layItem : Mt := (yX5_layItem, cX5_layItem, 5, none, 1, 26)
def mX5_leastBehind : Mt := (yX5_leastBehind, cX5_leastBehind, 7, (some .int), 0, 0)
def mX5_choose : Mt := (yX5_choose, cX5_choose, 8, (some .boolean), 1, 21)
def mX5_countWays : Mt := (yX5_countWays, cX5_countWays, 8, (some .int), 2, 48)
def mX5_needsSigns : Mt := (yX5_needsSigns, cX5_needsSigns, 5, (some .boolean), 3, 78)
def mX6_init : Mt := (yX6_init, cX6_init, 1, none, 3, 61)
def mX6_clear : Mt := (yX6_clear, cX6_clear, 1, none, 1, 21)
def mX6_cell : Mt := (yX6_cell, cX6_cell, 2, (some .int), 1, 21)
def mX6_more : Mt := (yX6_more, cX6_more, 6, (some .int), 1, 22)
def mX6_byteOf : Mt := (yX6_byteOf, cX6_byteOf, 3, (some .int), 0, 0)
def mX6_cut : Mt := (yX6_cut, cX6_cut, 3, (some .int), 0, 0)
def mX6_at : Mt := (yX6_at, cX6_at, 2, (some .int), 1, 21)
def mX6_read : Mt := (yX6_read, cX6_read, 3, (some .int), 7, 159)
def mX6_meter : Mt := (yX6_meter, cX6_meter, 5, (some .int), 0, 0)
def mX6_hand : Mt := (yX6_hand, cX6_hand, 3, (some .int), 2, 46)
def mX6_bar : Mt := (yX6_bar, cX6_bar, 2, (some .int), 5, 108)
def mX6_voice : Mt := (yX6_voice, cX6_voice, 2, (some .int), 4, 87)
def mX6_note : Mt := (yX6_note, cX6_note, 6, (some .int), 4, 93)
def mX6_rest : Mt := (yX6_rest, cX6_rest, 4, (some .int), 4, 93)
def mX6_addTimed : Mt := (yX6_addTimed, cX6_addTimed, 8, (some .int), 3, 66)
def mX6_interval : Mt := (yX6_interval, cX6_interval, 4, (some .int), 1, 23)
def mX6_tie : Mt := (yX6_tie, cX6_tie, 4, (some .int), 1, 21)
def mX6_slur : Mt := (yX6_slur, cX6_slur, 4, (some .int), 0, 0)
def mX6_write : Mt := (yX6_write, cX6_write, 4, (some .int), 7, 160)
def mX6_wants : Mt := (yX6_wants, cX6_wants, 3, (some .int), 2, 43)
def mX6_ways : Mt := (yX6_ways, cX6_ways, 4, (some .int), 3, 75)
def mX6_signed : Mt := (yX6_signed, cX6_signed, 4, (some .int), 4, 102)
def mX6_barOf : Mt := (yX6_barOf, cX6_barOf, 3, (some .int), 1, 23)
def mX6_item : Mt := (yX6_item, cX6_item, 3, (some .int), 2, 43)
def mX6_loose : Mt := (yX6_loose, cX6_loose, 4, (some .int), 0, 0)
def mX6_told : Mt := (yX6_told, cX6_told, 2, (some .int), 3, 66)
def mX6_isPitch : Mt := (yX6_isPitch, cX6_isPitch, 1, (some .boolean), 0, 0)
def mX6_isSign : Mt := (yX6_isSign, cX6_isSign, 1, (some .boolean), 0, 0)
def mX6_isKind : Mt := (yX6_isKind, cX6_isKind, 1, (some .boolean), 0, 0)
def mX6_isDots : Mt := (yX6_isDots, cX6_isDots, 1, (some .boolean), 0, 0)
def mX6_lengthOf : Mt := (yX6_lengthOf, cX6_lengthOf, 3, (some .int), 0, 0)
def mX6_indexIn : Mt := (yX6_indexIn, cX6_indexIn, 3, (some .int), 0, 0)
def mX7_init : Mt := (yX7_init, cX7_init, 1, none, 1, 20)
def mX7_clear : Mt := (yX7_clear, cX7_clear, 1, none, 0, 0)
def mX7_cell : Mt := (yX7_cell, cX7_cell, 2, (some .int), 0, 0)
def mX7_more : Mt := (yX7_more, cX7_more, 6, (some .int), 0, 0)
def mX7_cut : Mt := (yX7_cut, cX7_cut, 3, (some .int), 0, 0)
def mX7_at : Mt := (yX7_at, cX7_at, 2, (some .int), 0, 0)
def mX7_lasts : Mt := (yX7_lasts, cX7_lasts, 4, (some .int), 0, 0)
def mX7_lastsOf : Mt := (yX7_lastsOf, cX7_lastsOf, 2, (some .int), 1, 23)
def mX7_voiceLasts : Mt := (yX7_voiceLasts, cX7_voiceLasts, 6, (some .int), 2, 44)
def mX7_voiceSize : Mt := (yX7_voiceSize, cX7_voiceSize, 6, (some .int), 0, 0)
def mX7_voiceFirst : Mt := (yX7_voiceFirst, cX7_voiceFirst, 6, (some .int), 0, 0)
def mX7_canBe : Mt := (yX7_canBe, cX7_canBe, 10, (some .boolean), 1, 23)
def mX7_peek : Mt := (yX7_peek, cX7_peek, 2, (some .int), 0, 0)
def mX7_fail : Mt := (yX7_fail, cX7_fail, 2, none, 0, 0)
def mX7_find : Mt := (yX7_find, cX7_find, 3, (some .int), 0, 0)
def mX7_noteOf : Mt := (yX7_noteOf, cX7_noteOf, 5, (some .int), 0, 0)
def mX7_signOf : Mt := (yX7_signOf, cX7_signOf, 1, (some .int), 0, 0)
def mX7_isNote : Mt := (yX7_isNote, cX7_isNote, 2, (some .boolean), 1, 24)
def mX7_isOctave : Mt := (yX7_isOctave, cX7_isOctave, 2, (some .boolean), 1, 22)
def mX7_wantsSign : Mt := (yX7_wantsSign, cX7_wantsSign, 3, (some .boolean), 0, 0)
def mX7_begins : Mt := (yX7_begins, cX7_begins, 6, (some .int), 2, 45)
def mX7_ahead : Mt := (yX7_ahead, cX7_ahead, 2, none, 1, 21)
def mX7_readNote : Mt := (yX7_readNote, cX7_readNote, 7, none, 1, 24)
def mX7_dotted : Mt := (yX7_dotted, cX7_dotted, 2, none, 1, 21)
def mX7_intervals : Mt := (yX7_intervals, cX7_intervals, 6, none, 1, 22)
def mX7_readItem : Mt := (yX7_readItem, cX7_readItem, 5, none, 2, 50)
def mX7_readSlur : Mt := (yX7_readSlur, cX7_readSlur, 2, none, 1, 21)
def mX7_readVoice : Mt := (yX7_readVoice, cX7_readVoice, 6, none, 3, 76)
def mX7_full : Mt := (yX7_full, cX7_full, 4, none, 1, 21)
def mX7_whole : Mt := (yX7_whole, cX7_whole, 5, (some .boolean), 2, 52)
def mX7_readBar : Mt := (yX7_readBar, cX7_readBar, 4, none, 4, 101)
def mX7_read : Mt := (yX7_read, cX7_read, 3, (some .int), 5, 124)
def mX7_take : Mt := (yX7_take, cX7_take, 4, none, 0, 0)
def mX7_meter : Mt := (yX7_meter, cX7_meter, 4, (some .int), 0, 0)
def mX7_hand : Mt := (yX7_hand, cX7_hand, 6, (some .int), 0, 0)
def mX7_lacks : Mt := (yX7_lacks, cX7_lacks, 2, (some .boolean), 3, 69)
def mX7_bar : Mt := (yX7_bar, cX7_bar, 2, (some .int), 4, 90)
def mX7_voice : Mt := (yX7_voice, cX7_voice, 2, (some .int), 4, 90)
def mX7_barred : Mt := (yX7_barred, cX7_barred, 6, (some .int), 3, 69)
def mX7_put : Mt := (yX7_put, cX7_put, 8, (some .int), 0, 0)
def mX7_note : Mt := (yX7_note, cX7_note, 7, (some .int), 4, 94)
def mX7_rest : Mt := (yX7_rest, cX7_rest, 5, (some .int), 4, 94)
def mX7_interval : Mt := (yX7_interval, cX7_interval, 5, (some .int), 0, 0)
def mX7_tie : Mt := (yX7_tie, cX7_tie, 4, (some .int), 0, 0)
def mX7_slur : Mt := (yX7_slur, cX7_slur, 4, (some .int), 0, 0)
def mX7_isVoice : Mt := (yX7_isVoice, cX7_isVoice, 3, (some .boolean), 0, 0)
def mX7_isSigned : Mt := (yX7_isSigned, cX7_isSigned, 7, (some .boolean), 2, 52)
def mX7_slurs : Mt := (yX7_slurs, cX7_slurs, 5, none, 0, 0)
def mX7_lay : Mt := (yX7_lay, cX7_lay, 2, none, 0, 0)
def mX7_laySign : Mt := (yX7_laySign, cX7_laySign, 2, none, 1, 21)
def mX7_layItem : Mt := (yX7_layItem, cX7_layItem, 3, none, 2, 42)
def mX7_layBar : Mt := (yX7_layBar, cX7_layBar, 5, none, 3, 64)
def mX7_write : Mt := (yX7_write, cX7_write, 9, (some .int), 4, 90)
def mX7_wants : Mt := (yX7_wants, cX7_wants, 3, (some .int), 1, 22)
def mX7_ways : Mt := (yX7_ways, cX7_ways, 10, (some .int), 1, 25)
def mX7_signed : Mt := (yX7_signed, cX7_signed, 3, (some .int), 3, 78)
def mX7_barOf : Mt := (yX7_barOf, cX7_barOf, 6, (some .int), 0, 0)
def mX7_item : Mt := (yX7_item, cX7_item, 4, (some .int), 2, 44)
def mX7_loose : Mt := (yX7_loose, cX7_loose, 3, (some .int), 0, 0)
def mX7_told : Mt := (yX7_told, cX7_told, 4, (some .int), 3, 69)
def mL_law : Mt := (yL_law, cL_law, 4, (some .boolean), 8, 183)
theorem inT {w : Cond} (i : Nat) (h : lw_tbl[i]? = some w) : w ∈ lw_tbl := List.mem_of_getElem? h
theorem cd_X0_init : Cond.code mX0_init.1 mX0_init.2.1 mX0_init.2.2.1 mX0_init.2.2.2.1 ∈ gwT := mem_gw (inT 106 (by decide +kernel)) rfl
theorem sl_X0_init : Cond.instanceMethod mX0_init.1 ∈ gwT := mem_gw (inT 105 (by decide +kernel)) rfl
theorem cd_X0_empty : Cond.code mX0_empty.1 mX0_empty.2.1 mX0_empty.2.2.1 mX0_empty.2.2.2.1 ∈ gwT := mem_gw (inT 334 (by decide +kernel)) rfl
theorem sl_X0_empty : Cond.instanceMethod mX0_empty.1 ∈ gwT ∧ Cond.selects mX0_empty.1.cls mX0_empty.1 mX0_empty.1 ∈ gwT := ⟨mem_gw (inT 332 (by decide +kernel)) rfl, mem_gw (inT 333 (by decide +kernel)) rfl⟩
theorem cd_X0_startBar : Cond.code mX0_startBar.1 mX0_startBar.2.1 mX0_startBar.2.2.1 mX0_startBar.2.2.2.1 ∈ gwT := mem_gw (inT 399 (by decide +kernel)) rfl
theorem sl_X0_startBar : Cond.instanceMethod mX0_startBar.1 ∈ gwT ∧ Cond.selects mX0_startBar.1.cls mX0_startBar.1 mX0_startBar.1 ∈ gwT := ⟨mem_gw (inT 397 (by decide +kernel)) rfl, mem_gw (inT 398 (by decide +kernel)) rfl⟩
theorem cd_X0_startVoice : Cond.code mX0_startVoice.1 mX0_startVoice.2.1 mX0_startVoice.2.2.1 mX0_startVoice.2.2.2.1 ∈ gwT := mem_gw (inT 403 (by decide +kernel)) rfl
theorem sl_X0_startVoice : Cond.instanceMethod mX0_startVoice.1 ∈ gwT ∧ Cond.selects mX0_startVoice.1.cls mX0_startVoice.1 mX0_startVoice.1 ∈ gwT := ⟨mem_gw (inT 401 (by decide +kernel)) rfl, mem_gw (inT 402 (by decide +kernel)) rfl⟩
theorem cd_X0_slotOf : Cond.code mX0_slotOf.1 mX0_slotOf.2.1 mX0_slotOf.2.2.1 mX0_slotOf.2.2.2.1 ∈ gwT := mem_gw (inT 731 (by decide +kernel)) rfl
theorem sl_X0_slotOf : Cond.instanceMethod mX0_slotOf.1 ∈ gwT ∧ Cond.selects mX0_slotOf.1.cls mX0_slotOf.1 mX0_slotOf.1 ∈ gwT := ⟨mem_gw (inT 729 (by decide +kernel)) rfl, mem_gw (inT 730 (by decide +kernel)) rfl⟩
theorem cd_X0_lastSlot : Cond.code mX0_lastSlot.1 mX0_lastSlot.2.1 mX0_lastSlot.2.2.1 mX0_lastSlot.2.2.2.1 ∈ gwT := mem_gw (inT 411 (by decide +kernel)) rfl
theorem sl_X0_lastSlot : Cond.instanceMethod mX0_lastSlot.1 ∈ gwT ∧ Cond.selects mX0_lastSlot.1.cls mX0_lastSlot.1 mX0_lastSlot.1 ∈ gwT := ⟨mem_gw (inT 409 (by decide +kernel)) rfl, mem_gw (inT 410 (by decide +kernel)) rfl⟩
theorem cd_X0_addItem : Cond.code mX0_addItem.1 mX0_addItem.2.1 mX0_addItem.2.2.1 mX0_addItem.2.2.2.1 ∈ gwT := mem_gw (inT 436 (by decide +kernel)) rfl
theorem sl_X0_addItem : Cond.instanceMethod mX0_addItem.1 ∈ gwT ∧ Cond.selects mX0_addItem.1.cls mX0_addItem.1 mX0_addItem.1 ∈ gwT := ⟨mem_gw (inT 434 (by decide +kernel)) rfl, mem_gw (inT 435 (by decide +kernel)) rfl⟩
theorem cd_X0_addInterval : Cond.code mX0_addInterval.1 mX0_addInterval.2.1 mX0_addInterval.2.2.1 mX0_addInterval.2.2.2.1 ∈ gwT := mem_gw (inT 480 (by decide +kernel)) rfl
theorem sl_X0_addInterval : Cond.instanceMethod mX0_addInterval.1 ∈ gwT ∧ Cond.selects mX0_addInterval.1.cls mX0_addInterval.1 mX0_addInterval.1 ∈ gwT := ⟨mem_gw (inT 478 (by decide +kernel)) rfl, mem_gw (inT 479 (by decide +kernel)) rfl⟩
theorem cd_X0_intervalAt : Cond.code mX0_intervalAt.1 mX0_intervalAt.2.1 mX0_intervalAt.2.2.1 mX0_intervalAt.2.2.2.1 ∈ gwT := mem_gw (inT 571 (by decide +kernel)) rfl
theorem sl_X0_intervalAt : Cond.instanceMethod mX0_intervalAt.1 ∈ gwT ∧ Cond.selects mX0_intervalAt.1.cls mX0_intervalAt.1 mX0_intervalAt.1 ∈ gwT := ⟨mem_gw (inT 569 (by decide +kernel)) rfl, mem_gw (inT 570 (by decide +kernel)) rfl⟩
theorem cd_X0_intervalPitch : Cond.code mX0_intervalPitch.1 mX0_intervalPitch.2.1 mX0_intervalPitch.2.2.1 mX0_intervalPitch.2.2.2.1 ∈ gwT := mem_gw (inT 476 (by decide +kernel)) rfl
theorem sl_X0_intervalPitch : Cond.instanceMethod mX0_intervalPitch.1 ∈ gwT ∧ Cond.selects mX0_intervalPitch.1.cls mX0_intervalPitch.1 mX0_intervalPitch.1 ∈ gwT := ⟨mem_gw (inT 474 (by decide +kernel)) rfl, mem_gw (inT 475 (by decide +kernel)) rfl⟩
theorem cd_X0_suitsHand : Cond.code mX0_suitsHand.1 mX0_suitsHand.2.1 mX0_suitsHand.2.2.1 mX0_suitsHand.2.2.2.1 ∈ gwT := mem_gw (inT 567 (by decide +kernel)) rfl
theorem sl_X0_suitsHand : Cond.instanceMethod mX0_suitsHand.1 ∈ gwT ∧ Cond.selects mX0_suitsHand.1.cls mX0_suitsHand.1 mX0_suitsHand.1 ∈ gwT := ⟨mem_gw (inT 565 (by decide +kernel)) rfl, mem_gw (inT 566 (by decide +kernel)) rfl⟩
theorem cd_X0_isNote : Cond.code mX0_isNote.1 mX0_isNote.2.1 mX0_isNote.2.2.1 mX0_isNote.2.2.2.1 ∈ gwT := mem_gw (inT 504 (by decide +kernel)) rfl
theorem sl_X0_isNote : Cond.instanceMethod mX0_isNote.1 ∈ gwT ∧ Cond.selects mX0_isNote.1.cls mX0_isNote.1 mX0_isNote.1 ∈ gwT := ⟨mem_gw (inT 502 (by decide +kernel)) rfl, mem_gw (inT 503 (by decide +kernel)) rfl⟩
theorem cd_X0_lasts : Cond.code mX0_lasts.1 mX0_lasts.2.1 mX0_lasts.2.2.1 mX0_lasts.2.2.2.1 ∈ gwT := mem_gw (inT 512 (by decide +kernel)) rfl
theorem sl_X0_lasts : Cond.instanceMethod mX0_lasts.1 ∈ gwT ∧ Cond.selects mX0_lasts.1.cls mX0_lasts.1 mX0_lasts.1 ∈ gwT := ⟨mem_gw (inT 510 (by decide +kernel)) rfl, mem_gw (inT 511 (by decide +kernel)) rfl⟩
theorem cd_X0_voiceLasts : Cond.code mX0_voiceLasts.1 mX0_voiceLasts.2.1 mX0_voiceLasts.2.2.1 mX0_voiceLasts.2.2.2.1 ∈ gwT := mem_gw (inT 589 (by decide +kernel)) rfl
theorem sl_X0_voiceLasts : Cond.instanceMethod mX0_voiceLasts.1 ∈ gwT ∧ Cond.selects mX0_voiceLasts.1.cls mX0_voiceLasts.1 mX0_voiceLasts.1 ∈ gwT := ⟨mem_gw (inT 587 (by decide +kernel)) rfl, mem_gw (inT 588 (by decide +kernel)) rfl⟩
theorem cd_X0_isWhole : Cond.code mX0_isWhole.1 mX0_isWhole.2.1 mX0_isWhole.2.2.1 mX0_isWhole.2.2.2.1 ∈ gwT := mem_gw (inT 585 (by decide +kernel)) rfl
theorem sl_X0_isWhole : Cond.instanceMethod mX0_isWhole.1 ∈ gwT ∧ Cond.selects mX0_isWhole.1.cls mX0_isWhole.1 mX0_isWhole.1 ∈ gwT := ⟨mem_gw (inT 583 (by decide +kernel)) rfl, mem_gw (inT 584 (by decide +kernel)) rfl⟩
theorem cd_X0_endsWhole : Cond.code mX0_endsWhole.1 mX0_endsWhole.2.1 mX0_endsWhole.2.2.1 mX0_endsWhole.2.2.2.1 ∈ gwT := mem_gw (inT 581 (by decide +kernel)) rfl
theorem sl_X0_endsWhole : Cond.instanceMethod mX0_endsWhole.1 ∈ gwT ∧ Cond.selects mX0_endsWhole.1.cls mX0_endsWhole.1 mX0_endsWhole.1 ∈ gwT := ⟨mem_gw (inT 579 (by decide +kernel)) rfl, mem_gw (inT 580 (by decide +kernel)) rfl⟩
theorem cd_X0_itemsOfBar : Cond.code mX0_itemsOfBar.1 mX0_itemsOfBar.2.1 mX0_itemsOfBar.2.2.1 mX0_itemsOfBar.2.2.2.1 ∈ gwT := mem_gw (inT 748 (by decide +kernel)) rfl
theorem sl_X0_itemsOfBar : Cond.instanceMethod mX0_itemsOfBar.1 ∈ gwT ∧ Cond.selects mX0_itemsOfBar.1.cls mX0_itemsOfBar.1 mX0_itemsOfBar.1 ∈ gwT := ⟨mem_gw (inT 746 (by decide +kernel)) rfl, mem_gw (inT 747 (by decide +kernel)) rfl⟩
theorem cd_X0_isLoneWholeRest : Cond.code mX0_isLoneWholeRest.1 mX0_isLoneWholeRest.2.1 mX0_isLoneWholeRest.2.2.1 mX0_isLoneWholeRest.2.2.2.1 ∈ gwT := mem_gw (inT 500 (by decide +kernel)) rfl
theorem sl_X0_isLoneWholeRest : Cond.instanceMethod mX0_isLoneWholeRest.1 ∈ gwT ∧ Cond.selects mX0_isLoneWholeRest.1.cls mX0_isLoneWholeRest.1 mX0_isLoneWholeRest.1 ∈ gwT := ⟨mem_gw (inT 498 (by decide +kernel)) rfl, mem_gw (inT 499 (by decide +kernel)) rfl⟩
theorem cd_X1_init : Cond.code mX1_init.1 mX1_init.2.1 mX1_init.2.2.1 mX1_init.2.2.2.1 ∈ gwT := mem_gw (inT 245 (by decide +kernel)) rfl
theorem sl_X1_init : Cond.instanceMethod mX1_init.1 ∈ gwT := mem_gw (inT 244 (by decide +kernel)) rfl
theorem cd_X1_isLeap : Cond.code mX1_isLeap.1 mX1_isLeap.2.1 mX1_isLeap.2.2.1 mX1_isLeap.2.2.2.1 ∈ gwT := mem_gw (inT 454 (by decide +kernel)) rfl
theorem sl_X1_isLeap : Cond.static mX1_isLeap.1 ∈ gwT := mem_gw (inT 453 (by decide +kernel)) rfl
theorem cd_X1_forget : Cond.code mX1_forget.1 mX1_forget.2.1 mX1_forget.2.2.1 mX1_forget.2.2.2.1 ∈ gwT := mem_gw (inT 395 (by decide +kernel)) rfl
theorem sl_X1_forget : Cond.instanceMethod mX1_forget.1 ∈ gwT ∧ Cond.selects mX1_forget.1.cls mX1_forget.1 mX1_forget.1 ∈ gwT := ⟨mem_gw (inT 393 (by decide +kernel)) rfl, mem_gw (inT 394 (by decide +kernel)) rfl⟩
theorem cd_X1_heard : Cond.code mX1_heard.1 mX1_heard.2.1 mX1_heard.2.2.1 mX1_heard.2.2.2.1 ∈ gwT := mem_gw (inT 464 (by decide +kernel)) rfl
theorem sl_X1_heard : Cond.instanceMethod mX1_heard.1 ∈ gwT ∧ Cond.selects mX1_heard.1.cls mX1_heard.1 mX1_heard.1 ∈ gwT := ⟨mem_gw (inT 462 (by decide +kernel)) rfl, mem_gw (inT 463 (by decide +kernel)) rfl⟩
theorem cd_X1_enterBar : Cond.code mX1_enterBar.1 mX1_enterBar.2.1 mX1_enterBar.2.2.1 mX1_enterBar.2.2.2.1 ∈ gwT := mem_gw (inT 391 (by decide +kernel)) rfl
theorem sl_X1_enterBar : Cond.instanceMethod mX1_enterBar.1 ∈ gwT ∧ Cond.selects mX1_enterBar.1.cls mX1_enterBar.1 mX1_enterBar.1 ∈ gwT := ⟨mem_gw (inT 389 (by decide +kernel)) rfl, mem_gw (inT 390 (by decide +kernel)) rfl⟩
theorem cd_X1_needsSign : Cond.code mX1_needsSign.1 mX1_needsSign.2.1 mX1_needsSign.2.2.1 mX1_needsSign.2.2.2.1 ∈ gwT := mem_gw (inT 707 (by decide +kernel)) rfl
theorem sl_X1_needsSign : Cond.instanceMethod mX1_needsSign.1 ∈ gwT ∧ Cond.selects mX1_needsSign.1.cls mX1_needsSign.1 mX1_needsSign.1 ∈ gwT := ⟨mem_gw (inT 705 (by decide +kernel)) rfl, mem_gw (inT 706 (by decide +kernel)) rfl⟩
theorem cd_X1_nearest : Cond.code mX1_nearest.1 mX1_nearest.2.1 mX1_nearest.2.2.1 mX1_nearest.2.2.2.1 ∈ gwT := mem_gw (inT 451 (by decide +kernel)) rfl
theorem sl_X1_nearest : Cond.instanceMethod mX1_nearest.1 ∈ gwT ∧ Cond.selects mX1_nearest.1.cls mX1_nearest.1 mX1_nearest.1 ∈ gwT := ⟨mem_gw (inT 449 (by decide +kernel)) rfl, mem_gw (inT 450 (by decide +kernel)) rfl⟩
theorem cd_X2_init : Cond.code mX2_init.1 mX2_init.2.1 mX2_init.2.2.1 mX2_init.2.2.2.1 ∈ gwT := mem_gw (inT 89 (by decide +kernel)) rfl
theorem sl_X2_init : Cond.instanceMethod mX2_init.1 ∈ gwT := mem_gw (inT 88 (by decide +kernel)) rfl
theorem cd_X2_put : Cond.code mX2_put.1 mX2_put.2.1 mX2_put.2.2.1 mX2_put.2.2.2.1 ∈ gwT := mem_gw (inT 342 (by decide +kernel)) rfl
theorem sl_X2_put : Cond.instanceMethod mX2_put.1 ∈ gwT ∧ Cond.selects mX2_put.1.cls mX2_put.1 mX2_put.1 ∈ gwT := ⟨mem_gw (inT 340 (by decide +kernel)) rfl, mem_gw (inT 341 (by decide +kernel)) rfl⟩
theorem cd_X2_get : Cond.code mX2_get.1 mX2_get.2.1 mX2_get.2.2.1 mX2_get.2.2.2.1 ∈ gwT := mem_gw (inT 362 (by decide +kernel)) rfl
theorem sl_X2_get : Cond.instanceMethod mX2_get.1 ∈ gwT ∧ Cond.selects mX2_get.1.cls mX2_get.1 mX2_get.1 ∈ gwT := ⟨mem_gw (inT 360 (by decide +kernel)) rfl, mem_gw (inT 361 (by decide +kernel)) rfl⟩
theorem cd_X3_init : Cond.code mX3_init.1 mX3_init.2.1 mX3_init.2.2.1 mX3_init.2.2.2.1 ∈ gwT := mem_gw (inT 239 (by decide +kernel)) rfl
theorem sl_X3_init : Cond.instanceMethod mX3_init.1 ∈ gwT := mem_gw (inT 238 (by decide +kernel)) rfl
theorem cd_X3_run : Cond.code mX3_run.1 mX3_run.2.1 mX3_run.2.2.1 mX3_run.2.2.2.1 ∈ gwT := mem_gw (inT 370 (by decide +kernel)) rfl
theorem sl_X3_run : Cond.instanceMethod mX3_run.1 ∈ gwT ∧ Cond.selects mX3_run.1.cls mX3_run.1 mX3_run.1 ∈ gwT := ⟨mem_gw (inT 368 (by decide +kernel)) rfl, mem_gw (inT 369 (by decide +kernel)) rfl⟩
theorem cd_X3_peek : Cond.code mX3_peek.1 mX3_peek.2.1 mX3_peek.2.2.1 mX3_peek.2.2.2.1 ∈ gwT := mem_gw (inT 383 (by decide +kernel)) rfl
theorem sl_X3_peek : Cond.instanceMethod mX3_peek.1 ∈ gwT ∧ Cond.selects mX3_peek.1.cls mX3_peek.1 mX3_peek.1 ∈ gwT := ⟨mem_gw (inT 382 (by decide +kernel)) rfl, mem_gw (inT 2 (by decide +kernel)) rfl⟩
theorem cd_X3_sees : Cond.code mX3_sees.1 mX3_sees.2.1 mX3_sees.2.2.1 mX3_sees.2.2.2.1 ∈ gwT := mem_gw (inT 378 (by decide +kernel)) rfl
theorem sl_X3_sees : Cond.instanceMethod mX3_sees.1 ∈ gwT ∧ Cond.selects mX3_sees.1.cls mX3_sees.1 mX3_sees.1 ∈ gwT := ⟨mem_gw (inT 377 (by decide +kernel)) rfl, mem_gw (inT 1 (by decide +kernel)) rfl⟩
theorem cd_X3_readHand : Cond.code mX3_readHand.1 mX3_readHand.2.1 mX3_readHand.2.2.1 mX3_readHand.2.2.2.1 ∈ gwT := mem_gw (inT 374 (by decide +kernel)) rfl
theorem sl_X3_readHand : Cond.instanceMethod mX3_readHand.1 ∈ gwT ∧ Cond.selects mX3_readHand.1.cls mX3_readHand.1 mX3_readHand.1 ∈ gwT := ⟨mem_gw (inT 373 (by decide +kernel)) rfl, mem_gw (inT 0 (by decide +kernel)) rfl⟩
theorem cd_X3_beginNext : Cond.code mX3_beginNext.1 mX3_beginNext.2.1 mX3_beginNext.2.2.1 mX3_beginNext.2.2.2.1 ∈ gwT := mem_gw (inT 553 (by decide +kernel)) rfl
theorem sl_X3_beginNext : Cond.instanceMethod mX3_beginNext.1 ∈ gwT ∧ Cond.selects mX3_beginNext.1.cls mX3_beginNext.1 mX3_beginNext.1 ∈ gwT := ⟨mem_gw (inT 552 (by decide +kernel)) rfl, mem_gw (inT 20 (by decide +kernel)) rfl⟩
theorem cd_X3_beginBar : Cond.code mX3_beginBar.1 mX3_beginBar.2.1 mX3_beginBar.2.2.1 mX3_beginBar.2.2.2.1 ∈ gwT := mem_gw (inT 387 (by decide +kernel)) rfl
theorem sl_X3_beginBar : Cond.instanceMethod mX3_beginBar.1 ∈ gwT ∧ Cond.selects mX3_beginBar.1.cls mX3_beginBar.1 mX3_beginBar.1 ∈ gwT := ⟨mem_gw (inT 386 (by decide +kernel)) rfl, mem_gw (inT 3 (by decide +kernel)) rfl⟩
theorem cd_X3_readVoice : Cond.code mX3_readVoice.1 mX3_readVoice.2.1 mX3_readVoice.2.2.1 mX3_readVoice.2.2.2.1 ∈ gwT := mem_gw (inT 407 (by decide +kernel)) rfl
theorem sl_X3_readVoice : Cond.instanceMethod mX3_readVoice.1 ∈ gwT ∧ Cond.selects mX3_readVoice.1.cls mX3_readVoice.1 mX3_readVoice.1 ∈ gwT := ⟨mem_gw (inT 406 (by decide +kernel)) rfl, mem_gw (inT 4 (by decide +kernel)) rfl⟩
theorem cd_X3_isAtVoiceEnd : Cond.code mX3_isAtVoiceEnd.1 mX3_isAtVoiceEnd.2.1 mX3_isAtVoiceEnd.2.2.1 mX3_isAtVoiceEnd.2.2.2.1 ∈ gwT := mem_gw (inT 492 (by decide +kernel)) rfl
theorem sl_X3_isAtVoiceEnd : Cond.instanceMethod mX3_isAtVoiceEnd.1 ∈ gwT ∧ Cond.selects mX3_isAtVoiceEnd.1.cls mX3_isAtVoiceEnd.1 mX3_isAtVoiceEnd.1 ∈ gwT := ⟨mem_gw (inT 491 (by decide +kernel)) rfl, mem_gw (inT 13 (by decide +kernel)) rfl⟩
theorem cd_X3_endVoice : Cond.code mX3_endVoice.1 mX3_endVoice.2.1 mX3_endVoice.2.2.1 mX3_endVoice.2.2.2.1 ∈ gwT := mem_gw (inT 496 (by decide +kernel)) rfl
theorem sl_X3_endVoice : Cond.instanceMethod mX3_endVoice.1 ∈ gwT ∧ Cond.selects mX3_endVoice.1.cls mX3_endVoice.1 mX3_endVoice.1 ∈ gwT := ⟨mem_gw (inT 495 (by decide +kernel)) rfl, mem_gw (inT 14 (by decide +kernel)) rfl⟩
theorem cd_X3_readItem : Cond.code mX3_readItem.1 mX3_readItem.2.1 mX3_readItem.2.2.1 mX3_readItem.2.2.2.1 ∈ gwT := mem_gw (inT 415 (by decide +kernel)) rfl
theorem sl_X3_readItem : Cond.instanceMethod mX3_readItem.1 ∈ gwT ∧ Cond.selects mX3_readItem.1.cls mX3_readItem.1 mX3_readItem.1 ∈ gwT := ⟨mem_gw (inT 414 (by decide +kernel)) rfl, mem_gw (inT 5 (by decide +kernel)) rfl⟩
theorem cd_X3_readSizeSign : Cond.code mX3_readSizeSign.1 mX3_readSizeSign.2.1 mX3_readSizeSign.2.2.1 mX3_readSizeSign.2.2.2.1 ∈ gwT := mem_gw (inT 419 (by decide +kernel)) rfl
theorem sl_X3_readSizeSign : Cond.instanceMethod mX3_readSizeSign.1 ∈ gwT ∧ Cond.selects mX3_readSizeSign.1.cls mX3_readSizeSign.1 mX3_readSizeSign.1 ∈ gwT := ⟨mem_gw (inT 418 (by decide +kernel)) rfl, mem_gw (inT 6 (by decide +kernel)) rfl⟩
theorem cd_X3_readOpen : Cond.code mX3_readOpen.1 mX3_readOpen.2.1 mX3_readOpen.2.2.1 mX3_readOpen.2.2.2.1 ∈ gwT := mem_gw (inT 423 (by decide +kernel)) rfl
theorem sl_X3_readOpen : Cond.instanceMethod mX3_readOpen.1 ∈ gwT ∧ Cond.selects mX3_readOpen.1.cls mX3_readOpen.1 mX3_readOpen.1 ∈ gwT := ⟨mem_gw (inT 422 (by decide +kernel)) rfl, mem_gw (inT 7 (by decide +kernel)) rfl⟩
theorem cd_X3_readNote : Cond.code mX3_readNote.1 mX3_readNote.2.1 mX3_readNote.2.2.1 mX3_readNote.2.2.2.1 ∈ gwT := mem_gw (inT 441 (by decide +kernel)) rfl
theorem sl_X3_readNote : Cond.instanceMethod mX3_readNote.1 ∈ gwT ∧ Cond.selects mX3_readNote.1.cls mX3_readNote.1 mX3_readNote.1 ∈ gwT := ⟨mem_gw (inT 440 (by decide +kernel)) rfl, mem_gw (inT 9 (by decide +kernel)) rfl⟩
theorem cd_X3_readDots : Cond.code mX3_readDots.1 mX3_readDots.2.1 mX3_readDots.2.2.1 mX3_readDots.2.2.2.1 ∈ gwT := mem_gw (inT 432 (by decide +kernel)) rfl
theorem sl_X3_readDots : Cond.instanceMethod mX3_readDots.1 ∈ gwT ∧ Cond.selects mX3_readDots.1.cls mX3_readDots.1 mX3_readDots.1 ∈ gwT := ⟨mem_gw (inT 431 (by decide +kernel)) rfl, mem_gw (inT 8 (by decide +kernel)) rfl⟩
theorem cd_X3_readIntervals : Cond.code mX3_readIntervals.1 mX3_readIntervals.2.1 mX3_readIntervals.2.2.1 mX3_readIntervals.2.2.2.1 ∈ gwT := mem_gw (inT 470 (by decide +kernel)) rfl
theorem sl_X3_readIntervals : Cond.instanceMethod mX3_readIntervals.1 ∈ gwT ∧ Cond.selects mX3_readIntervals.1.cls mX3_readIntervals.1 mX3_readIntervals.1 ∈ gwT := ⟨mem_gw (inT 469 (by decide +kernel)) rfl, mem_gw (inT 10 (by decide +kernel)) rfl⟩
theorem cd_X3_readTie : Cond.code mX3_readTie.1 mX3_readTie.2.1 mX3_readTie.2.2.1 mX3_readTie.2.2.2.1 ∈ gwT := mem_gw (inT 484 (by decide +kernel)) rfl
theorem sl_X3_readTie : Cond.instanceMethod mX3_readTie.1 ∈ gwT ∧ Cond.selects mX3_readTie.1.cls mX3_readTie.1 mX3_readTie.1 ∈ gwT := ⟨mem_gw (inT 483 (by decide +kernel)) rfl, mem_gw (inT 11 (by decide +kernel)) rfl⟩
theorem cd_X3_readSlur : Cond.code mX3_readSlur.1 mX3_readSlur.2.1 mX3_readSlur.2.2.1 mX3_readSlur.2.2.2.1 ∈ gwT := mem_gw (inT 488 (by decide +kernel)) rfl
theorem sl_X3_readSlur : Cond.instanceMethod mX3_readSlur.1 ∈ gwT ∧ Cond.selects mX3_readSlur.1.cls mX3_readSlur.1 mX3_readSlur.1 ∈ gwT := ⟨mem_gw (inT 487 (by decide +kernel)) rfl, mem_gw (inT 12 (by decide +kernel)) rfl⟩
theorem cd_X4_init : Cond.code mX4_init.1 mX4_init.2.1 mX4_init.2.2.1 mX4_init.2.2.2.1 ∈ gwT := mem_gw (inT 281 (by decide +kernel)) rfl
theorem sl_X4_init : Cond.instanceMethod mX4_init.1 ∈ gwT := mem_gw (inT 280 (by decide +kernel)) rfl
theorem cd_X4_run : Cond.code mX4_run.1 mX4_run.2.1 mX4_run.2.2.1 mX4_run.2.2.2.1 ∈ gwT := mem_gw (inT 648 (by decide +kernel)) rfl
theorem sl_X4_run : Cond.instanceMethod mX4_run.1 ∈ gwT ∧ Cond.selects mX4_run.1.cls mX4_run.1 mX4_run.1 ∈ gwT := ⟨mem_gw (inT 646 (by decide +kernel)) rfl, mem_gw (inT 647 (by decide +kernel)) rfl⟩
theorem cd_X4_markSigns : Cond.code mX4_markSigns.1 mX4_markSigns.2.1 mX4_markSigns.2.2.1 mX4_markSigns.2.2.2.1 ∈ gwT := mem_gw (inT 664 (by decide +kernel)) rfl
theorem sl_X4_markSigns : Cond.instanceMethod mX4_markSigns.1 ∈ gwT ∧ Cond.selects mX4_markSigns.1.cls mX4_markSigns.1 mX4_markSigns.1 ∈ gwT := ⟨mem_gw (inT 663 (by decide +kernel)) rfl, mem_gw (inT 25 (by decide +kernel)) rfl⟩
theorem cd_X4_markSlurs : Cond.code mX4_markSlurs.1 mX4_markSlurs.2.1 mX4_markSlurs.2.2.1 mX4_markSlurs.2.2.2.1 ∈ gwT := mem_gw (inT 652 (by decide +kernel)) rfl
theorem sl_X4_markSlurs : Cond.instanceMethod mX4_markSlurs.1 ∈ gwT ∧ Cond.selects mX4_markSlurs.1.cls mX4_markSlurs.1 mX4_markSlurs.1 ∈ gwT := ⟨mem_gw (inT 651 (by decide +kernel)) rfl, mem_gw (inT 22 (by decide +kernel)) rfl⟩
theorem cd_X4_markRow : Cond.code mX4_markRow.1 mX4_markRow.2.1 mX4_markRow.2.2.1 mX4_markRow.2.2.2.1 ∈ gwT := mem_gw (inT 656 (by decide +kernel)) rfl
theorem sl_X4_markRow : Cond.instanceMethod mX4_markRow.1 ∈ gwT ∧ Cond.selects mX4_markRow.1.cls mX4_markRow.1 mX4_markRow.1 ∈ gwT := ⟨mem_gw (inT 655 (by decide +kernel)) rfl, mem_gw (inT 23 (by decide +kernel)) rfl⟩
theorem cd_X4_isBroken : Cond.code mX4_isBroken.1 mX4_isBroken.2.1 mX4_isBroken.2.2.1 mX4_isBroken.2.2.2.1 ∈ gwT := mem_gw (inT 660 (by decide +kernel)) rfl
theorem sl_X4_isBroken : Cond.instanceMethod mX4_isBroken.1 ∈ gwT ∧ Cond.selects mX4_isBroken.1.cls mX4_isBroken.1 mX4_isBroken.1 ∈ gwT := ⟨mem_gw (inT 659 (by decide +kernel)) rfl, mem_gw (inT 24 (by decide +kernel)) rfl⟩
theorem cd_X4_putTwo : Cond.code mX4_putTwo.1 mX4_putTwo.2.1 mX4_putTwo.2.2.1 mX4_putTwo.2.2.2.1 ∈ gwT := mem_gw (inT 678 (by decide +kernel)) rfl
theorem sl_X4_putTwo : Cond.instanceMethod mX4_putTwo.1 ∈ gwT ∧ Cond.selects mX4_putTwo.1.cls mX4_putTwo.1 mX4_putTwo.1 ∈ gwT := ⟨mem_gw (inT 677 (by decide +kernel)) rfl, mem_gw (inT 27 (by decide +kernel)) rfl⟩
theorem cd_X4_putHand : Cond.code mX4_putHand.1 mX4_putHand.2.1 mX4_putHand.2.2.1 mX4_putHand.2.2.2.1 ∈ gwT := mem_gw (inT 674 (by decide +kernel)) rfl
theorem sl_X4_putHand : Cond.instanceMethod mX4_putHand.1 ∈ gwT ∧ Cond.selects mX4_putHand.1.cls mX4_putHand.1 mX4_putHand.1 ∈ gwT := ⟨mem_gw (inT 673 (by decide +kernel)) rfl, mem_gw (inT 26 (by decide +kernel)) rfl⟩
theorem cd_X4_putBar : Cond.code mX4_putBar.1 mX4_putBar.2.1 mX4_putBar.2.2.1 mX4_putBar.2.2.2.1 ∈ gwT := mem_gw (inT 684 (by decide +kernel)) rfl
theorem sl_X4_putBar : Cond.instanceMethod mX4_putBar.1 ∈ gwT ∧ Cond.selects mX4_putBar.1.cls mX4_putBar.1 mX4_putBar.1 ∈ gwT := ⟨mem_gw (inT 683 (by decide +kernel)) rfl, mem_gw (inT 28 (by decide +kernel)) rfl⟩
theorem cd_X4_putSize : Cond.code mX4_putSize.1 mX4_putSize.2.1 mX4_putSize.2.2.1 mX4_putSize.2.2.2.1 ∈ gwT := mem_gw (inT 689 (by decide +kernel)) rfl
theorem sl_X4_putSize : Cond.instanceMethod mX4_putSize.1 ∈ gwT ∧ Cond.selects mX4_putSize.1.cls mX4_putSize.1 mX4_putSize.1 ∈ gwT := ⟨mem_gw (inT 688 (by decide +kernel)) rfl, mem_gw (inT 29 (by decide +kernel)) rfl⟩
theorem cd_X4_putItem : Cond.code mX4_putItem.1 mX4_putItem.2.1 mX4_putItem.2.2.1 mX4_putItem.2.2.2.1 ∈ gwT := mem_gw (inT 693 (by decide +kernel)) rfl
theorem sl_X4_putItem : Cond.instanceMethod mX4_putItem.1 ∈ gwT ∧ Cond.selects mX4_putItem.1.cls mX4_putItem.1 mX4_putItem.1 ∈ gwT := ⟨mem_gw (inT 692 (by decide +kernel)) rfl, mem_gw (inT 30 (by decide +kernel)) rfl⟩
theorem cd_X4_putNote : Cond.code mX4_putNote.1 mX4_putNote.2.1 mX4_putNote.2.2.1 mX4_putNote.2.2.2.1 ∈ gwT := mem_gw (inT 698 (by decide +kernel)) rfl
theorem sl_X4_putNote : Cond.instanceMethod mX4_putNote.1 ∈ gwT ∧ Cond.selects mX4_putNote.1.cls mX4_putNote.1 mX4_putNote.1 ∈ gwT := ⟨mem_gw (inT 697 (by decide +kernel)) rfl, mem_gw (inT 31 (by decide +kernel)) rfl⟩
theorem cd_X4_putSign : Cond.code mX4_putSign.1 mX4_putSign.2.1 mX4_putSign.2.2.1 mX4_putSign.2.2.2.1 ∈ gwT := mem_gw (inT 702 (by decide +kernel)) rfl
theorem sl_X4_putSign : Cond.instanceMethod mX4_putSign.1 ∈ gwT ∧ Cond.selects mX4_putSign.1.cls mX4_putSign.1 mX4_putSign.1 ∈ gwT := ⟨mem_gw (inT 701 (by decide +kernel)) rfl, mem_gw (inT 32 (by decide +kernel)) rfl⟩
theorem cd_X4_putDots : Cond.code mX4_putDots.1 mX4_putDots.2.1 mX4_putDots.2.2.1 mX4_putDots.2.2.2.1 ∈ gwT := mem_gw (inT 715 (by decide +kernel)) rfl
theorem sl_X4_putDots : Cond.instanceMethod mX4_putDots.1 ∈ gwT ∧ Cond.selects mX4_putDots.1.cls mX4_putDots.1 mX4_putDots.1 ∈ gwT := ⟨mem_gw (inT 714 (by decide +kernel)) rfl, mem_gw (inT 33 (by decide +kernel)) rfl⟩
theorem cd_X5_init : Cond.code mX5_init.1 mX5_init.2.1 mX5_init.2.2.1 mX5_init.2.2.2.1 ∈ gwT := mem_gw (inT 216 (by decide +kernel)) rfl
theorem sl_X5_init : Cond.instanceMethod mX5_init.1 ∈ gwT := mem_gw (inT 215 (by decide +kernel)) rfl
theorem cd_X5_settle : Cond.code mX5_settle.1 mX5_settle.2.1 mX5_settle.2.2.1 mX5_settle.2.2.2.1 ∈ gwT := mem_gw (inT 508 (by decide +kernel)) rfl
theorem sl_X5_settle : Cond.instanceMethod mX5_settle.1 ∈ gwT ∧ Cond.selects mX5_settle.1.cls mX5_settle.1 mX5_settle.1 ∈ gwT := ⟨mem_gw (inT 506 (by decide +kernel)) rfl, mem_gw (inT 507 (by decide +kernel)) rfl⟩
theorem cd_X5_load : Cond.code mX5_load.1 mX5_load.2.1 mX5_load.2.2.1 mX5_load.2.2.2.1 ∈ gwT := mem_gw (inT 523 (by decide +kernel)) rfl
theorem sl_X5_load : Cond.instanceMethod mX5_load.1 ∈ gwT ∧ Cond.selects mX5_load.1.cls mX5_load.1 mX5_load.1 ∈ gwT := ⟨mem_gw (inT 522 (by decide +kernel)) rfl, mem_gw (inT 15 (by decide +kernel)) rfl⟩
theorem cd_X5_layEnd : Cond.code mX5_layEnd.1 mX5_layEnd.2.1 mX5_layEnd.2.2.1 mX5_layEnd.2.2.2.1 ∈ gwT := mem_gw (inT 531 (by decide +kernel)) rfl
theorem sl_X5_layEnd : Cond.instanceMethod mX5_layEnd.1 ∈ gwT ∧ Cond.selects mX5_layEnd.1.cls mX5_layEnd.1 mX5_layEnd.1 ∈ gwT := ⟨mem_gw (inT 530 (by decide +kernel)) rfl, mem_gw (inT 16 (by decide +kernel)) rfl⟩
theorem cd_X5_layItem : Cond.code mX5_layItem.1 mX5_layItem.2.1 mX5_layItem.2.2.1 mX5_layItem.2.2.2.1 ∈ gwT := mem_gw (inT 535 (by decide +kernel)) rfl
theorem sl_X5_layItem : Cond.instanceMethod mX5_layItem.1 ∈ gwT ∧ Cond.selects mX5_layItem.1.cls mX5_layItem.1 mX5_layItem.1 ∈ gwT := ⟨mem_gw (inT 534 (by decide +kernel)) rfl, mem_gw (inT 17 (by decide +kernel)) rfl⟩
theorem cd_X5_leastBehind : Cond.code mX5_leastBehind.1 mX5_leastBehind.2.1 mX5_leastBehind.2.2.1 mX5_leastBehind.2.2.2.1 ∈ gwT := mem_gw (inT 539 (by decide +kernel)) rfl
theorem sl_X5_leastBehind : Cond.instanceMethod mX5_leastBehind.1 ∈ gwT ∧ Cond.selects mX5_leastBehind.1.cls mX5_leastBehind.1 mX5_leastBehind.1 ∈ gwT := ⟨mem_gw (inT 538 (by decide +kernel)) rfl, mem_gw (inT 18 (by decide +kernel)) rfl⟩
theorem cd_X5_choose : Cond.code mX5_choose.1 mX5_choose.2.1 mX5_choose.2.2.1 mX5_choose.2.2.2.1 ∈ gwT := mem_gw (inT 543 (by decide +kernel)) rfl
theorem sl_X5_choose : Cond.instanceMethod mX5_choose.1 ∈ gwT ∧ Cond.selects mX5_choose.1.cls mX5_choose.1 mX5_choose.1 ∈ gwT := ⟨mem_gw (inT 542 (by decide +kernel)) rfl, mem_gw (inT 19 (by decide +kernel)) rfl⟩
theorem cd_X5_countWays : Cond.code mX5_countWays.1 mX5_countWays.2.1 mX5_countWays.2.2.1 mX5_countWays.2.2.2.1 ∈ gwT := mem_gw (inT 735 (by decide +kernel)) rfl
theorem sl_X5_countWays : Cond.instanceMethod mX5_countWays.1 ∈ gwT ∧ Cond.selects mX5_countWays.1.cls mX5_countWays.1 mX5_countWays.1 ∈ gwT := ⟨mem_gw (inT 733 (by decide +kernel)) rfl, mem_gw (inT 734 (by decide +kernel)) rfl⟩
theorem cd_X5_needsSigns : Cond.code mX5_needsSigns.1 mX5_needsSigns.2.1 mX5_needsSigns.2.2.1 mX5_needsSigns.2.2.2.1 ∈ gwT := mem_gw (inT 668 (by decide +kernel)) rfl
theorem sl_X5_needsSigns : Cond.instanceMethod mX5_needsSigns.1 ∈ gwT ∧ Cond.selects mX5_needsSigns.1.cls mX5_needsSigns.1 mX5_needsSigns.1 ∈ gwT := ⟨mem_gw (inT 666 (by decide +kernel)) rfl, mem_gw (inT 667 (by decide +kernel)) rfl⟩
theorem cd_X6_init : Cond.code mX6_init.1 mX6_init.2.1 mX6_init.2.2.1 mX6_init.2.2.2.1 ∈ gwT := mem_gw (inT 81 (by decide +kernel)) rfl
theorem sl_X6_init : Cond.instanceMethod mX6_init.1 ∈ gwT := mem_gw (inT 80 (by decide +kernel)) rfl
theorem cd_X6_clear : Cond.code mX6_clear.1 mX6_clear.2.1 mX6_clear.2.2.1 mX6_clear.2.2.2.1 ∈ gwT := mem_gw (inT 330 (by decide +kernel)) rfl
theorem sl_X6_clear : Cond.instanceMethod mX6_clear.1 ∈ gwT ∧ Cond.selects mX6_clear.1.cls mX6_clear.1 mX6_clear.1 ∈ gwT := ⟨mem_gw (inT 328 (by decide +kernel)) rfl, mem_gw (inT 329 (by decide +kernel)) rfl⟩
theorem cd_X6_cell : Cond.code mX6_cell.1 mX6_cell.2.1 mX6_cell.2.2.1 mX6_cell.2.2.2.1 ∈ gwT := mem_gw (inT 338 (by decide +kernel)) rfl
theorem sl_X6_cell : Cond.instanceMethod mX6_cell.1 ∈ gwT ∧ Cond.selects mX6_cell.1.cls mX6_cell.1 mX6_cell.1 ∈ gwT := ⟨mem_gw (inT 336 (by decide +kernel)) rfl, mem_gw (inT 337 (by decide +kernel)) rfl⟩
theorem cd_X6_more : Cond.code mX6_more.1 mX6_more.2.1 mX6_more.2.2.1 mX6_more.2.2.2.1 ∈ gwT := mem_gw (inT 346 (by decide +kernel)) rfl
theorem sl_X6_more : Cond.instanceMethod mX6_more.1 ∈ gwT ∧ Cond.selects mX6_more.1.cls mX6_more.1 mX6_more.1 ∈ gwT := ⟨mem_gw (inT 344 (by decide +kernel)) rfl, mem_gw (inT 345 (by decide +kernel)) rfl⟩
theorem cd_X6_byteOf : Cond.code mX6_byteOf.1 mX6_byteOf.2.1 mX6_byteOf.2.2.1 mX6_byteOf.2.2.2.1 ∈ gwT := mem_gw (inT 349 (by decide +kernel)) rfl
theorem sl_X6_byteOf : Cond.static mX6_byteOf.1 ∈ gwT := mem_gw (inT 348 (by decide +kernel)) rfl
theorem cd_X6_cut : Cond.code mX6_cut.1 mX6_cut.2.1 mX6_cut.2.2.1 mX6_cut.2.2.2.1 ∈ gwT := mem_gw (inT 354 (by decide +kernel)) rfl
theorem sl_X6_cut : Cond.instanceMethod mX6_cut.1 ∈ gwT ∧ Cond.selects mX6_cut.1.cls mX6_cut.1 mX6_cut.1 ∈ gwT := ⟨mem_gw (inT 352 (by decide +kernel)) rfl, mem_gw (inT 353 (by decide +kernel)) rfl⟩
theorem cd_X6_at : Cond.code mX6_at.1 mX6_at.2.1 mX6_at.2.2.1 mX6_at.2.2.2.1 ∈ gwT := mem_gw (inT 358 (by decide +kernel)) rfl
theorem sl_X6_at : Cond.instanceMethod mX6_at.1 ∈ gwT ∧ Cond.selects mX6_at.1.cls mX6_at.1 mX6_at.1 ∈ gwT := ⟨mem_gw (inT 356 (by decide +kernel)) rfl, mem_gw (inT 357 (by decide +kernel)) rfl⟩
theorem cd_X6_read : Cond.code mX6_read.1 mX6_read.2.1 mX6_read.2.2.1 mX6_read.2.2.2.1 ∈ gwT := mem_gw (inT 366 (by decide +kernel)) rfl
theorem sl_X6_read : Cond.instanceMethod mX6_read.1 ∈ gwT ∧ Cond.selects mX6_read.1.cls mX6_read.1 mX6_read.1 ∈ gwT := ⟨mem_gw (inT 364 (by decide +kernel)) rfl, mem_gw (inT 365 (by decide +kernel)) rfl⟩
theorem cd_X6_meter : Cond.code mX6_meter.1 mX6_meter.2.1 mX6_meter.2.2.1 mX6_meter.2.2.2.1 ∈ gwT := mem_gw (inT 559 (by decide +kernel)) rfl
theorem sl_X6_meter : Cond.instanceMethod mX6_meter.1 ∈ gwT ∧ Cond.selects mX6_meter.1.cls mX6_meter.1 mX6_meter.1 ∈ gwT := ⟨mem_gw (inT 557 (by decide +kernel)) rfl, mem_gw (inT 558 (by decide +kernel)) rfl⟩
theorem cd_X6_hand : Cond.code mX6_hand.1 mX6_hand.2.1 mX6_hand.2.2.1 mX6_hand.2.2.2.1 ∈ gwT := mem_gw (inT 563 (by decide +kernel)) rfl
theorem sl_X6_hand : Cond.instanceMethod mX6_hand.1 ∈ gwT ∧ Cond.selects mX6_hand.1.cls mX6_hand.1 mX6_hand.1 ∈ gwT := ⟨mem_gw (inT 561 (by decide +kernel)) rfl, mem_gw (inT 562 (by decide +kernel)) rfl⟩
theorem cd_X6_bar : Cond.code mX6_bar.1 mX6_bar.2.1 mX6_bar.2.2.1 mX6_bar.2.2.2.1 ∈ gwT := mem_gw (inT 577 (by decide +kernel)) rfl
theorem sl_X6_bar : Cond.instanceMethod mX6_bar.1 ∈ gwT ∧ Cond.selects mX6_bar.1.cls mX6_bar.1 mX6_bar.1 ∈ gwT := ⟨mem_gw (inT 575 (by decide +kernel)) rfl, mem_gw (inT 576 (by decide +kernel)) rfl⟩
theorem cd_X6_voice : Cond.code mX6_voice.1 mX6_voice.2.1 mX6_voice.2.2.1 mX6_voice.2.2.2.1 ∈ gwT := mem_gw (inT 595 (by decide +kernel)) rfl
theorem sl_X6_voice : Cond.instanceMethod mX6_voice.1 ∈ gwT ∧ Cond.selects mX6_voice.1.cls mX6_voice.1 mX6_voice.1 ∈ gwT := ⟨mem_gw (inT 593 (by decide +kernel)) rfl, mem_gw (inT 594 (by decide +kernel)) rfl⟩
theorem cd_X6_note : Cond.code mX6_note.1 mX6_note.2.1 mX6_note.2.2.1 mX6_note.2.2.2.1 ∈ gwT := mem_gw (inT 602 (by decide +kernel)) rfl
theorem sl_X6_note : Cond.instanceMethod mX6_note.1 ∈ gwT ∧ Cond.selects mX6_note.1.cls mX6_note.1 mX6_note.1 ∈ gwT := ⟨mem_gw (inT 600 (by decide +kernel)) rfl, mem_gw (inT 601 (by decide +kernel)) rfl⟩
theorem cd_X6_rest : Cond.code mX6_rest.1 mX6_rest.2.1 mX6_rest.2.2.1 mX6_rest.2.2.2.1 ∈ gwT := mem_gw (inT 625 (by decide +kernel)) rfl
theorem sl_X6_rest : Cond.instanceMethod mX6_rest.1 ∈ gwT ∧ Cond.selects mX6_rest.1.cls mX6_rest.1 mX6_rest.1 ∈ gwT := ⟨mem_gw (inT 623 (by decide +kernel)) rfl, mem_gw (inT 624 (by decide +kernel)) rfl⟩
theorem cd_X6_addTimed : Cond.code mX6_addTimed.1 mX6_addTimed.2.1 mX6_addTimed.2.2.1 mX6_addTimed.2.2.2.1 ∈ gwT := mem_gw (inT 618 (by decide +kernel)) rfl
theorem sl_X6_addTimed : Cond.instanceMethod mX6_addTimed.1 ∈ gwT ∧ Cond.selects mX6_addTimed.1.cls mX6_addTimed.1 mX6_addTimed.1 ∈ gwT := ⟨mem_gw (inT 617 (by decide +kernel)) rfl, mem_gw (inT 21 (by decide +kernel)) rfl⟩
theorem cd_X6_interval : Cond.code mX6_interval.1 mX6_interval.2.1 mX6_interval.2.2.1 mX6_interval.2.2.2.1 ∈ gwT := mem_gw (inT 629 (by decide +kernel)) rfl
theorem sl_X6_interval : Cond.instanceMethod mX6_interval.1 ∈ gwT ∧ Cond.selects mX6_interval.1.cls mX6_interval.1 mX6_interval.1 ∈ gwT := ⟨mem_gw (inT 627 (by decide +kernel)) rfl, mem_gw (inT 628 (by decide +kernel)) rfl⟩
theorem cd_X6_tie : Cond.code mX6_tie.1 mX6_tie.2.1 mX6_tie.2.2.1 mX6_tie.2.2.2.1 ∈ gwT := mem_gw (inT 636 (by decide +kernel)) rfl
theorem sl_X6_tie : Cond.instanceMethod mX6_tie.1 ∈ gwT ∧ Cond.selects mX6_tie.1.cls mX6_tie.1 mX6_tie.1 ∈ gwT := ⟨mem_gw (inT 634 (by decide +kernel)) rfl, mem_gw (inT 635 (by decide +kernel)) rfl⟩
theorem cd_X6_slur : Cond.code mX6_slur.1 mX6_slur.2.1 mX6_slur.2.2.1 mX6_slur.2.2.2.1 ∈ gwT := mem_gw (inT 640 (by decide +kernel)) rfl
theorem sl_X6_slur : Cond.instanceMethod mX6_slur.1 ∈ gwT ∧ Cond.selects mX6_slur.1.cls mX6_slur.1 mX6_slur.1 ∈ gwT := ⟨mem_gw (inT 638 (by decide +kernel)) rfl, mem_gw (inT 639 (by decide +kernel)) rfl⟩
theorem cd_X6_write : Cond.code mX6_write.1 mX6_write.2.1 mX6_write.2.2.1 mX6_write.2.2.2.1 ∈ gwT := mem_gw (inT 644 (by decide +kernel)) rfl
theorem sl_X6_write : Cond.instanceMethod mX6_write.1 ∈ gwT ∧ Cond.selects mX6_write.1.cls mX6_write.1 mX6_write.1 ∈ gwT := ⟨mem_gw (inT 642 (by decide +kernel)) rfl, mem_gw (inT 643 (by decide +kernel)) rfl⟩
theorem cd_X6_wants : Cond.code mX6_wants.1 mX6_wants.2.1 mX6_wants.2.2.1 mX6_wants.2.2.2.1 ∈ gwT := mem_gw (inT 722 (by decide +kernel)) rfl
theorem sl_X6_wants : Cond.instanceMethod mX6_wants.1 ∈ gwT ∧ Cond.selects mX6_wants.1.cls mX6_wants.1 mX6_wants.1 ∈ gwT := ⟨mem_gw (inT 720 (by decide +kernel)) rfl, mem_gw (inT 721 (by decide +kernel)) rfl⟩
theorem cd_X6_ways : Cond.code mX6_ways.1 mX6_ways.2.1 mX6_ways.2.2.1 mX6_ways.2.2.2.1 ∈ gwT := mem_gw (inT 727 (by decide +kernel)) rfl
theorem sl_X6_ways : Cond.instanceMethod mX6_ways.1 ∈ gwT ∧ Cond.selects mX6_ways.1.cls mX6_ways.1 mX6_ways.1 ∈ gwT := ⟨mem_gw (inT 725 (by decide +kernel)) rfl, mem_gw (inT 726 (by decide +kernel)) rfl⟩
theorem cd_X6_signed : Cond.code mX6_signed.1 mX6_signed.2.1 mX6_signed.2.2.1 mX6_signed.2.2.2.1 ∈ gwT := mem_gw (inT 739 (by decide +kernel)) rfl
theorem sl_X6_signed : Cond.instanceMethod mX6_signed.1 ∈ gwT ∧ Cond.selects mX6_signed.1.cls mX6_signed.1 mX6_signed.1 ∈ gwT := ⟨mem_gw (inT 737 (by decide +kernel)) rfl, mem_gw (inT 738 (by decide +kernel)) rfl⟩
theorem cd_X6_barOf : Cond.code mX6_barOf.1 mX6_barOf.2.1 mX6_barOf.2.2.1 mX6_barOf.2.2.2.1 ∈ gwT := mem_gw (inT 744 (by decide +kernel)) rfl
theorem sl_X6_barOf : Cond.instanceMethod mX6_barOf.1 ∈ gwT ∧ Cond.selects mX6_barOf.1.cls mX6_barOf.1 mX6_barOf.1 ∈ gwT := ⟨mem_gw (inT 742 (by decide +kernel)) rfl, mem_gw (inT 743 (by decide +kernel)) rfl⟩
theorem cd_X6_item : Cond.code mX6_item.1 mX6_item.2.1 mX6_item.2.2.1 mX6_item.2.2.2.1 ∈ gwT := mem_gw (inT 752 (by decide +kernel)) rfl
theorem sl_X6_item : Cond.instanceMethod mX6_item.1 ∈ gwT ∧ Cond.selects mX6_item.1.cls mX6_item.1 mX6_item.1 ∈ gwT := ⟨mem_gw (inT 750 (by decide +kernel)) rfl, mem_gw (inT 751 (by decide +kernel)) rfl⟩
theorem cd_X6_loose : Cond.code mX6_loose.1 mX6_loose.2.1 mX6_loose.2.2.1 mX6_loose.2.2.2.1 ∈ gwT := mem_gw (inT 758 (by decide +kernel)) rfl
theorem sl_X6_loose : Cond.instanceMethod mX6_loose.1 ∈ gwT ∧ Cond.selects mX6_loose.1.cls mX6_loose.1 mX6_loose.1 ∈ gwT := ⟨mem_gw (inT 756 (by decide +kernel)) rfl, mem_gw (inT 757 (by decide +kernel)) rfl⟩
theorem cd_X6_told : Cond.code mX6_told.1 mX6_told.2.1 mX6_told.2.2.1 mX6_told.2.2.2.1 ∈ gwT := mem_gw (inT 762 (by decide +kernel)) rfl
theorem sl_X6_told : Cond.instanceMethod mX6_told.1 ∈ gwT ∧ Cond.selects mX6_told.1.cls mX6_told.1 mX6_told.1 ∈ gwT := ⟨mem_gw (inT 760 (by decide +kernel)) rfl, mem_gw (inT 761 (by decide +kernel)) rfl⟩
theorem cd_X6_isPitch : Cond.code mX6_isPitch.1 mX6_isPitch.2.1 mX6_isPitch.2.2.1 mX6_isPitch.2.2.2.1 ∈ gwT := mem_gw (inT 460 (by decide +kernel)) rfl
theorem sl_X6_isPitch : Cond.static mX6_isPitch.1 ∈ gwT := mem_gw (inT 459 (by decide +kernel)) rfl
theorem cd_X6_isSign : Cond.code mX6_isSign.1 mX6_isSign.2.1 mX6_isSign.2.2.1 mX6_isSign.2.2.2.1 ∈ gwT := mem_gw (inT 606 (by decide +kernel)) rfl
theorem sl_X6_isSign : Cond.static mX6_isSign.1 ∈ gwT := mem_gw (inT 605 (by decide +kernel)) rfl
theorem cd_X6_isKind : Cond.code mX6_isKind.1 mX6_isKind.2.1 mX6_isKind.2.2.1 mX6_isKind.2.2.2.1 ∈ gwT := mem_gw (inT 610 (by decide +kernel)) rfl
theorem sl_X6_isKind : Cond.static mX6_isKind.1 ∈ gwT := mem_gw (inT 609 (by decide +kernel)) rfl
theorem cd_X6_isDots : Cond.code mX6_isDots.1 mX6_isDots.2.1 mX6_isDots.2.2.1 mX6_isDots.2.2.2.1 ∈ gwT := mem_gw (inT 614 (by decide +kernel)) rfl
theorem sl_X6_isDots : Cond.static mX6_isDots.1 ∈ gwT := mem_gw (inT 613 (by decide +kernel)) rfl
theorem cd_X6_lengthOf : Cond.code mX6_lengthOf.1 mX6_lengthOf.2.1 mX6_lengthOf.2.2.1 mX6_lengthOf.2.2.2.1 ∈ gwT := mem_gw (inT 515 (by decide +kernel)) rfl
theorem sl_X6_lengthOf : Cond.static mX6_lengthOf.1 ∈ gwT := mem_gw (inT 514 (by decide +kernel)) rfl
theorem cd_X6_indexIn : Cond.code mX6_indexIn.1 mX6_indexIn.2.1 mX6_indexIn.2.2.1 mX6_indexIn.2.2.2.1 ∈ gwT := mem_gw (inT 428 (by decide +kernel)) rfl
theorem sl_X6_indexIn : Cond.static mX6_indexIn.1 ∈ gwT := mem_gw (inT 427 (by decide +kernel)) rfl
theorem cd_X7_init : Cond.code mX7_init.1 mX7_init.2.1 mX7_init.2.2.1 mX7_init.2.2.2.1 ∈ gwT := mem_gw (inT 767 (by decide +kernel)) rfl
theorem sl_X7_init : Cond.instanceMethod mX7_init.1 ∈ gwT := mem_gw (inT 766 (by decide +kernel)) rfl
theorem cd_X7_clear : Cond.code mX7_clear.1 mX7_clear.2.1 mX7_clear.2.2.1 mX7_clear.2.2.2.1 ∈ gwT := mem_gw (inT 894 (by decide +kernel)) rfl
theorem sl_X7_clear : Cond.instanceMethod mX7_clear.1 ∈ gwT ∧ Cond.selects mX7_clear.1.cls mX7_clear.1 mX7_clear.1 ∈ gwT := ⟨mem_gw (inT 892 (by decide +kernel)) rfl, mem_gw (inT 893 (by decide +kernel)) rfl⟩
theorem cd_X7_cell : Cond.code mX7_cell.1 mX7_cell.2.1 mX7_cell.2.2.1 mX7_cell.2.2.2.1 ∈ gwT := mem_gw (inT 898 (by decide +kernel)) rfl
theorem sl_X7_cell : Cond.instanceMethod mX7_cell.1 ∈ gwT ∧ Cond.selects mX7_cell.1.cls mX7_cell.1 mX7_cell.1 ∈ gwT := ⟨mem_gw (inT 896 (by decide +kernel)) rfl, mem_gw (inT 897 (by decide +kernel)) rfl⟩
theorem cd_X7_more : Cond.code mX7_more.1 mX7_more.2.1 mX7_more.2.2.1 mX7_more.2.2.2.1 ∈ gwT := mem_gw (inT 902 (by decide +kernel)) rfl
theorem sl_X7_more : Cond.instanceMethod mX7_more.1 ∈ gwT ∧ Cond.selects mX7_more.1.cls mX7_more.1 mX7_more.1 ∈ gwT := ⟨mem_gw (inT 900 (by decide +kernel)) rfl, mem_gw (inT 901 (by decide +kernel)) rfl⟩
theorem cd_X7_cut : Cond.code mX7_cut.1 mX7_cut.2.1 mX7_cut.2.2.1 mX7_cut.2.2.2.1 ∈ gwT := mem_gw (inT 906 (by decide +kernel)) rfl
theorem sl_X7_cut : Cond.instanceMethod mX7_cut.1 ∈ gwT ∧ Cond.selects mX7_cut.1.cls mX7_cut.1 mX7_cut.1 ∈ gwT := ⟨mem_gw (inT 904 (by decide +kernel)) rfl, mem_gw (inT 905 (by decide +kernel)) rfl⟩
theorem cd_X7_at : Cond.code mX7_at.1 mX7_at.2.1 mX7_at.2.2.1 mX7_at.2.2.2.1 ∈ gwT := mem_gw (inT 910 (by decide +kernel)) rfl
theorem sl_X7_at : Cond.instanceMethod mX7_at.1 ∈ gwT ∧ Cond.selects mX7_at.1.cls mX7_at.1 mX7_at.1 ∈ gwT := ⟨mem_gw (inT 908 (by decide +kernel)) rfl, mem_gw (inT 909 (by decide +kernel)) rfl⟩
theorem cd_X7_lasts : Cond.code mX7_lasts.1 mX7_lasts.2.1 mX7_lasts.2.2.1 mX7_lasts.2.2.2.1 ∈ gwT := mem_gw (inT 994 (by decide +kernel)) rfl
theorem sl_X7_lasts : Cond.static mX7_lasts.1 ∈ gwT := mem_gw (inT 993 (by decide +kernel)) rfl
theorem cd_X7_lastsOf : Cond.code mX7_lastsOf.1 mX7_lastsOf.2.1 mX7_lastsOf.2.2.1 mX7_lastsOf.2.2.2.1 ∈ gwT := mem_gw (inT 1023 (by decide +kernel)) rfl
theorem sl_X7_lastsOf : Cond.instanceMethod mX7_lastsOf.1 ∈ gwT ∧ Cond.selects mX7_lastsOf.1.cls mX7_lastsOf.1 mX7_lastsOf.1 ∈ gwT := ⟨mem_gw (inT 1022 (by decide +kernel)) rfl, mem_gw (inT 54 (by decide +kernel)) rfl⟩
theorem cd_X7_voiceLasts : Cond.code mX7_voiceLasts.1 mX7_voiceLasts.2.1 mX7_voiceLasts.2.2.1 mX7_voiceLasts.2.2.2.1 ∈ gwT := mem_gw (inT 1019 (by decide +kernel)) rfl
theorem sl_X7_voiceLasts : Cond.instanceMethod mX7_voiceLasts.1 ∈ gwT ∧ Cond.selects mX7_voiceLasts.1.cls mX7_voiceLasts.1 mX7_voiceLasts.1 ∈ gwT := ⟨mem_gw (inT 1018 (by decide +kernel)) rfl, mem_gw (inT 53 (by decide +kernel)) rfl⟩
theorem cd_X7_voiceSize : Cond.code mX7_voiceSize.1 mX7_voiceSize.2.1 mX7_voiceSize.2.2.1 mX7_voiceSize.2.2.2.1 ∈ gwT := mem_gw (inT 1039 (by decide +kernel)) rfl
theorem sl_X7_voiceSize : Cond.instanceMethod mX7_voiceSize.1 ∈ gwT ∧ Cond.selects mX7_voiceSize.1.cls mX7_voiceSize.1 mX7_voiceSize.1 ∈ gwT := ⟨mem_gw (inT 1038 (by decide +kernel)) rfl, mem_gw (inT 56 (by decide +kernel)) rfl⟩
theorem cd_X7_voiceFirst : Cond.code mX7_voiceFirst.1 mX7_voiceFirst.2.1 mX7_voiceFirst.2.2.1 mX7_voiceFirst.2.2.2.1 ∈ gwT := mem_gw (inT 1043 (by decide +kernel)) rfl
theorem sl_X7_voiceFirst : Cond.instanceMethod mX7_voiceFirst.1 ∈ gwT ∧ Cond.selects mX7_voiceFirst.1.cls mX7_voiceFirst.1 mX7_voiceFirst.1 ∈ gwT := ⟨mem_gw (inT 1042 (by decide +kernel)) rfl, mem_gw (inT 57 (by decide +kernel)) rfl⟩
theorem cd_X7_canBe : Cond.code mX7_canBe.1 mX7_canBe.2.1 mX7_canBe.2.2.1 mX7_canBe.2.2.2.1 ∈ gwT := mem_gw (inT 991 (by decide +kernel)) rfl
theorem sl_X7_canBe : Cond.instanceMethod mX7_canBe.1 ∈ gwT ∧ Cond.selects mX7_canBe.1.cls mX7_canBe.1 mX7_canBe.1 ∈ gwT := ⟨mem_gw (inT 990 (by decide +kernel)) rfl, mem_gw (inT 50 (by decide +kernel)) rfl⟩
theorem cd_X7_peek : Cond.code mX7_peek.1 mX7_peek.2.1 mX7_peek.2.2.1 mX7_peek.2.2.2.1 ∈ gwT := mem_gw (inT 918 (by decide +kernel)) rfl
theorem sl_X7_peek : Cond.instanceMethod mX7_peek.1 ∈ gwT ∧ Cond.selects mX7_peek.1.cls mX7_peek.1 mX7_peek.1 ∈ gwT := ⟨mem_gw (inT 917 (by decide +kernel)) rfl, mem_gw (inT 34 (by decide +kernel)) rfl⟩
theorem cd_X7_fail : Cond.code mX7_fail.1 mX7_fail.2.1 mX7_fail.2.2.1 mX7_fail.2.2.2.1 ∈ gwT := mem_gw (inT 926 (by decide +kernel)) rfl
theorem sl_X7_fail : Cond.instanceMethod mX7_fail.1 ∈ gwT ∧ Cond.selects mX7_fail.1.cls mX7_fail.1 mX7_fail.1 ∈ gwT := ⟨mem_gw (inT 925 (by decide +kernel)) rfl, mem_gw (inT 36 (by decide +kernel)) rfl⟩
theorem cd_X7_find : Cond.code mX7_find.1 mX7_find.2.1 mX7_find.2.2.1 mX7_find.2.2.2.1 ∈ gwT := mem_gw (inT 941 (by decide +kernel)) rfl
theorem sl_X7_find : Cond.static mX7_find.1 ∈ gwT := mem_gw (inT 940 (by decide +kernel)) rfl
theorem cd_X7_noteOf : Cond.code mX7_noteOf.1 mX7_noteOf.2.1 mX7_noteOf.2.2.1 mX7_noteOf.2.2.2.1 ∈ gwT := mem_gw (inT 949 (by decide +kernel)) rfl
theorem sl_X7_noteOf : Cond.instanceMethod mX7_noteOf.1 ∈ gwT ∧ Cond.selects mX7_noteOf.1.cls mX7_noteOf.1 mX7_noteOf.1 ∈ gwT := ⟨mem_gw (inT 948 (by decide +kernel)) rfl, mem_gw (inT 41 (by decide +kernel)) rfl⟩
theorem cd_X7_signOf : Cond.code mX7_signOf.1 mX7_signOf.2.1 mX7_signOf.2.2.1 mX7_signOf.2.2.2.1 ∈ gwT := mem_gw (inT 952 (by decide +kernel)) rfl
theorem sl_X7_signOf : Cond.static mX7_signOf.1 ∈ gwT := mem_gw (inT 951 (by decide +kernel)) rfl
theorem cd_X7_isNote : Cond.code mX7_isNote.1 mX7_isNote.2.1 mX7_isNote.2.2.1 mX7_isNote.2.2.2.1 ∈ gwT := mem_gw (inT 945 (by decide +kernel)) rfl
theorem sl_X7_isNote : Cond.instanceMethod mX7_isNote.1 ∈ gwT ∧ Cond.selects mX7_isNote.1.cls mX7_isNote.1 mX7_isNote.1 ∈ gwT := ⟨mem_gw (inT 944 (by decide +kernel)) rfl, mem_gw (inT 40 (by decide +kernel)) rfl⟩
theorem cd_X7_isOctave : Cond.code mX7_isOctave.1 mX7_isOctave.2.1 mX7_isOctave.2.2.1 mX7_isOctave.2.2.2.1 ∈ gwT := mem_gw (inT 956 (by decide +kernel)) rfl
theorem sl_X7_isOctave : Cond.instanceMethod mX7_isOctave.1 ∈ gwT ∧ Cond.selects mX7_isOctave.1.cls mX7_isOctave.1 mX7_isOctave.1 ∈ gwT := ⟨mem_gw (inT 955 (by decide +kernel)) rfl, mem_gw (inT 42 (by decide +kernel)) rfl⟩
theorem cd_X7_wantsSign : Cond.code mX7_wantsSign.1 mX7_wantsSign.2.1 mX7_wantsSign.2.2.1 mX7_wantsSign.2.2.2.1 ∈ gwT := mem_gw (inT 975 (by decide +kernel)) rfl
theorem sl_X7_wantsSign : Cond.static mX7_wantsSign.1 ∈ gwT := mem_gw (inT 974 (by decide +kernel)) rfl
theorem cd_X7_begins : Cond.code mX7_begins.1 mX7_begins.2.1 mX7_begins.2.2.1 mX7_begins.2.2.2.1 ∈ gwT := mem_gw (inT 938 (by decide +kernel)) rfl
theorem sl_X7_begins : Cond.instanceMethod mX7_begins.1 ∈ gwT ∧ Cond.selects mX7_begins.1.cls mX7_begins.1 mX7_begins.1 ∈ gwT := ⟨mem_gw (inT 937 (by decide +kernel)) rfl, mem_gw (inT 39 (by decide +kernel)) rfl⟩
theorem cd_X7_ahead : Cond.code mX7_ahead.1 mX7_ahead.2.1 mX7_ahead.2.2.1 mX7_ahead.2.2.2.1 ∈ gwT := mem_gw (inT 964 (by decide +kernel)) rfl
theorem sl_X7_ahead : Cond.instanceMethod mX7_ahead.1 ∈ gwT ∧ Cond.selects mX7_ahead.1.cls mX7_ahead.1 mX7_ahead.1 ∈ gwT := ⟨mem_gw (inT 963 (by decide +kernel)) rfl, mem_gw (inT 44 (by decide +kernel)) rfl⟩
theorem cd_X7_readNote : Cond.code mX7_readNote.1 mX7_readNote.2.1 mX7_readNote.2.2.1 mX7_readNote.2.2.2.1 ∈ gwT := mem_gw (inT 972 (by decide +kernel)) rfl
theorem sl_X7_readNote : Cond.instanceMethod mX7_readNote.1 ∈ gwT ∧ Cond.selects mX7_readNote.1.cls mX7_readNote.1 mX7_readNote.1 ∈ gwT := ⟨mem_gw (inT 971 (by decide +kernel)) rfl, mem_gw (inT 46 (by decide +kernel)) rfl⟩
theorem cd_X7_dotted : Cond.code mX7_dotted.1 mX7_dotted.2.1 mX7_dotted.2.2.1 mX7_dotted.2.2.2.1 ∈ gwT := mem_gw (inT 968 (by decide +kernel)) rfl
theorem sl_X7_dotted : Cond.instanceMethod mX7_dotted.1 ∈ gwT ∧ Cond.selects mX7_dotted.1.cls mX7_dotted.1 mX7_dotted.1 ∈ gwT := ⟨mem_gw (inT 967 (by decide +kernel)) rfl, mem_gw (inT 45 (by decide +kernel)) rfl⟩
theorem cd_X7_intervals : Cond.code mX7_intervals.1 mX7_intervals.2.1 mX7_intervals.2.2.1 mX7_intervals.2.2.2.1 ∈ gwT := mem_gw (inT 979 (by decide +kernel)) rfl
theorem sl_X7_intervals : Cond.instanceMethod mX7_intervals.1 ∈ gwT ∧ Cond.selects mX7_intervals.1.cls mX7_intervals.1 mX7_intervals.1 ∈ gwT := ⟨mem_gw (inT 978 (by decide +kernel)) rfl, mem_gw (inT 47 (by decide +kernel)) rfl⟩
theorem cd_X7_readItem : Cond.code mX7_readItem.1 mX7_readItem.2.1 mX7_readItem.2.2.1 mX7_readItem.2.2.2.1 ∈ gwT := mem_gw (inT 960 (by decide +kernel)) rfl
theorem sl_X7_readItem : Cond.instanceMethod mX7_readItem.1 ∈ gwT ∧ Cond.selects mX7_readItem.1.cls mX7_readItem.1 mX7_readItem.1 ∈ gwT := ⟨mem_gw (inT 959 (by decide +kernel)) rfl, mem_gw (inT 43 (by decide +kernel)) rfl⟩
theorem cd_X7_readSlur : Cond.code mX7_readSlur.1 mX7_readSlur.2.1 mX7_readSlur.2.2.1 mX7_readSlur.2.2.2.1 ∈ gwT := mem_gw (inT 983 (by decide +kernel)) rfl
theorem sl_X7_readSlur : Cond.instanceMethod mX7_readSlur.1 ∈ gwT ∧ Cond.selects mX7_readSlur.1.cls mX7_readSlur.1 mX7_readSlur.1 ∈ gwT := ⟨mem_gw (inT 982 (by decide +kernel)) rfl, mem_gw (inT 48 (by decide +kernel)) rfl⟩
theorem cd_X7_readVoice : Cond.code mX7_readVoice.1 mX7_readVoice.2.1 mX7_readVoice.2.2.1 mX7_readVoice.2.2.2.1 ∈ gwT := mem_gw (inT 930 (by decide +kernel)) rfl
theorem sl_X7_readVoice : Cond.instanceMethod mX7_readVoice.1 ∈ gwT ∧ Cond.selects mX7_readVoice.1.cls mX7_readVoice.1 mX7_readVoice.1 ∈ gwT := ⟨mem_gw (inT 929 (by decide +kernel)) rfl, mem_gw (inT 37 (by decide +kernel)) rfl⟩
theorem cd_X7_full : Cond.code mX7_full.1 mX7_full.2.1 mX7_full.2.2.1 mX7_full.2.2.2.1 ∈ gwT := mem_gw (inT 934 (by decide +kernel)) rfl
theorem sl_X7_full : Cond.instanceMethod mX7_full.1 ∈ gwT ∧ Cond.selects mX7_full.1.cls mX7_full.1 mX7_full.1 ∈ gwT := ⟨mem_gw (inT 933 (by decide +kernel)) rfl, mem_gw (inT 38 (by decide +kernel)) rfl⟩
theorem cd_X7_whole : Cond.code mX7_whole.1 mX7_whole.2.1 mX7_whole.2.2.1 mX7_whole.2.2.2.1 ∈ gwT := mem_gw (inT 987 (by decide +kernel)) rfl
theorem sl_X7_whole : Cond.instanceMethod mX7_whole.1 ∈ gwT ∧ Cond.selects mX7_whole.1.cls mX7_whole.1 mX7_whole.1 ∈ gwT := ⟨mem_gw (inT 986 (by decide +kernel)) rfl, mem_gw (inT 49 (by decide +kernel)) rfl⟩
theorem cd_X7_readBar : Cond.code mX7_readBar.1 mX7_readBar.2.1 mX7_readBar.2.2.1 mX7_readBar.2.2.2.1 ∈ gwT := mem_gw (inT 922 (by decide +kernel)) rfl
theorem sl_X7_readBar : Cond.instanceMethod mX7_readBar.1 ∈ gwT ∧ Cond.selects mX7_readBar.1.cls mX7_readBar.1 mX7_readBar.1 ∈ gwT := ⟨mem_gw (inT 921 (by decide +kernel)) rfl, mem_gw (inT 35 (by decide +kernel)) rfl⟩
theorem cd_X7_read : Cond.code mX7_read.1 mX7_read.2.1 mX7_read.2.2.1 mX7_read.2.2.2.1 ∈ gwT := mem_gw (inT 914 (by decide +kernel)) rfl
theorem sl_X7_read : Cond.instanceMethod mX7_read.1 ∈ gwT ∧ Cond.selects mX7_read.1.cls mX7_read.1 mX7_read.1 ∈ gwT := ⟨mem_gw (inT 912 (by decide +kernel)) rfl, mem_gw (inT 913 (by decide +kernel)) rfl⟩
theorem cd_X7_take : Cond.code mX7_take.1 mX7_take.2.1 mX7_take.2.2.1 mX7_take.2.2.2.1 ∈ gwT := mem_gw (inT 999 (by decide +kernel)) rfl
theorem sl_X7_take : Cond.instanceMethod mX7_take.1 ∈ gwT ∧ Cond.selects mX7_take.1.cls mX7_take.1 mX7_take.1 ∈ gwT := ⟨mem_gw (inT 998 (by decide +kernel)) rfl, mem_gw (inT 51 (by decide +kernel)) rfl⟩
theorem cd_X7_meter : Cond.code mX7_meter.1 mX7_meter.2.1 mX7_meter.2.2.1 mX7_meter.2.2.2.1 ∈ gwT := mem_gw (inT 1003 (by decide +kernel)) rfl
theorem sl_X7_meter : Cond.instanceMethod mX7_meter.1 ∈ gwT ∧ Cond.selects mX7_meter.1.cls mX7_meter.1 mX7_meter.1 ∈ gwT := ⟨mem_gw (inT 1001 (by decide +kernel)) rfl, mem_gw (inT 1002 (by decide +kernel)) rfl⟩
theorem cd_X7_hand : Cond.code mX7_hand.1 mX7_hand.2.1 mX7_hand.2.2.1 mX7_hand.2.2.2.1 ∈ gwT := mem_gw (inT 1007 (by decide +kernel)) rfl
theorem sl_X7_hand : Cond.instanceMethod mX7_hand.1 ∈ gwT ∧ Cond.selects mX7_hand.1.cls mX7_hand.1 mX7_hand.1 ∈ gwT := ⟨mem_gw (inT 1005 (by decide +kernel)) rfl, mem_gw (inT 1006 (by decide +kernel)) rfl⟩
theorem cd_X7_lacks : Cond.code mX7_lacks.1 mX7_lacks.2.1 mX7_lacks.2.2.1 mX7_lacks.2.2.2.1 ∈ gwT := mem_gw (inT 1015 (by decide +kernel)) rfl
theorem sl_X7_lacks : Cond.instanceMethod mX7_lacks.1 ∈ gwT ∧ Cond.selects mX7_lacks.1.cls mX7_lacks.1 mX7_lacks.1 ∈ gwT := ⟨mem_gw (inT 1014 (by decide +kernel)) rfl, mem_gw (inT 52 (by decide +kernel)) rfl⟩
theorem cd_X7_bar : Cond.code mX7_bar.1 mX7_bar.2.1 mX7_bar.2.2.1 mX7_bar.2.2.2.1 ∈ gwT := mem_gw (inT 1011 (by decide +kernel)) rfl
theorem sl_X7_bar : Cond.instanceMethod mX7_bar.1 ∈ gwT ∧ Cond.selects mX7_bar.1.cls mX7_bar.1 mX7_bar.1 ∈ gwT := ⟨mem_gw (inT 1009 (by decide +kernel)) rfl, mem_gw (inT 1010 (by decide +kernel)) rfl⟩
theorem cd_X7_voice : Cond.code mX7_voice.1 mX7_voice.2.1 mX7_voice.2.2.1 mX7_voice.2.2.2.1 ∈ gwT := mem_gw (inT 1027 (by decide +kernel)) rfl
theorem sl_X7_voice : Cond.instanceMethod mX7_voice.1 ∈ gwT ∧ Cond.selects mX7_voice.1.cls mX7_voice.1 mX7_voice.1 ∈ gwT := ⟨mem_gw (inT 1025 (by decide +kernel)) rfl, mem_gw (inT 1026 (by decide +kernel)) rfl⟩
theorem cd_X7_barred : Cond.code mX7_barred.1 mX7_barred.2.1 mX7_barred.2.2.1 mX7_barred.2.2.2.1 ∈ gwT := mem_gw (inT 1035 (by decide +kernel)) rfl
theorem sl_X7_barred : Cond.instanceMethod mX7_barred.1 ∈ gwT ∧ Cond.selects mX7_barred.1.cls mX7_barred.1 mX7_barred.1 ∈ gwT := ⟨mem_gw (inT 1034 (by decide +kernel)) rfl, mem_gw (inT 55 (by decide +kernel)) rfl⟩
theorem cd_X7_put : Cond.code mX7_put.1 mX7_put.2.1 mX7_put.2.2.1 mX7_put.2.2.2.1 ∈ gwT := mem_gw (inT 1047 (by decide +kernel)) rfl
theorem sl_X7_put : Cond.instanceMethod mX7_put.1 ∈ gwT ∧ Cond.selects mX7_put.1.cls mX7_put.1 mX7_put.1 ∈ gwT := ⟨mem_gw (inT 1046 (by decide +kernel)) rfl, mem_gw (inT 58 (by decide +kernel)) rfl⟩
theorem cd_X7_note : Cond.code mX7_note.1 mX7_note.2.1 mX7_note.2.2.1 mX7_note.2.2.2.1 ∈ gwT := mem_gw (inT 1031 (by decide +kernel)) rfl
theorem sl_X7_note : Cond.instanceMethod mX7_note.1 ∈ gwT ∧ Cond.selects mX7_note.1.cls mX7_note.1 mX7_note.1 ∈ gwT := ⟨mem_gw (inT 1029 (by decide +kernel)) rfl, mem_gw (inT 1030 (by decide +kernel)) rfl⟩
theorem cd_X7_rest : Cond.code mX7_rest.1 mX7_rest.2.1 mX7_rest.2.2.1 mX7_rest.2.2.2.1 ∈ gwT := mem_gw (inT 1051 (by decide +kernel)) rfl
theorem sl_X7_rest : Cond.instanceMethod mX7_rest.1 ∈ gwT ∧ Cond.selects mX7_rest.1.cls mX7_rest.1 mX7_rest.1 ∈ gwT := ⟨mem_gw (inT 1049 (by decide +kernel)) rfl, mem_gw (inT 1050 (by decide +kernel)) rfl⟩
theorem cd_X7_interval : Cond.code mX7_interval.1 mX7_interval.2.1 mX7_interval.2.2.1 mX7_interval.2.2.2.1 ∈ gwT := mem_gw (inT 1055 (by decide +kernel)) rfl
theorem sl_X7_interval : Cond.instanceMethod mX7_interval.1 ∈ gwT ∧ Cond.selects mX7_interval.1.cls mX7_interval.1 mX7_interval.1 ∈ gwT := ⟨mem_gw (inT 1053 (by decide +kernel)) rfl, mem_gw (inT 1054 (by decide +kernel)) rfl⟩
theorem cd_X7_tie : Cond.code mX7_tie.1 mX7_tie.2.1 mX7_tie.2.2.1 mX7_tie.2.2.2.1 ∈ gwT := mem_gw (inT 1059 (by decide +kernel)) rfl
theorem sl_X7_tie : Cond.instanceMethod mX7_tie.1 ∈ gwT ∧ Cond.selects mX7_tie.1.cls mX7_tie.1 mX7_tie.1 ∈ gwT := ⟨mem_gw (inT 1057 (by decide +kernel)) rfl, mem_gw (inT 1058 (by decide +kernel)) rfl⟩
theorem cd_X7_slur : Cond.code mX7_slur.1 mX7_slur.2.1 mX7_slur.2.2.1 mX7_slur.2.2.2.1 ∈ gwT := mem_gw (inT 1063 (by decide +kernel)) rfl
theorem sl_X7_slur : Cond.instanceMethod mX7_slur.1 ∈ gwT ∧ Cond.selects mX7_slur.1.cls mX7_slur.1 mX7_slur.1 ∈ gwT := ⟨mem_gw (inT 1061 (by decide +kernel)) rfl, mem_gw (inT 1062 (by decide +kernel)) rfl⟩
theorem cd_X7_isVoice : Cond.code mX7_isVoice.1 mX7_isVoice.2.1 mX7_isVoice.2.2.1 mX7_isVoice.2.2.2.1 ∈ gwT := mem_gw (inT 1103 (by decide +kernel)) rfl
theorem sl_X7_isVoice : Cond.instanceMethod mX7_isVoice.1 ∈ gwT ∧ Cond.selects mX7_isVoice.1.cls mX7_isVoice.1 mX7_isVoice.1 ∈ gwT := ⟨mem_gw (inT 1102 (by decide +kernel)) rfl, mem_gw (inT 65 (by decide +kernel)) rfl⟩
theorem cd_X7_isSigned : Cond.code mX7_isSigned.1 mX7_isSigned.2.1 mX7_isSigned.2.2.1 mX7_isSigned.2.2.2.1 ∈ gwT := mem_gw (inT 1075 (by decide +kernel)) rfl
theorem sl_X7_isSigned : Cond.instanceMethod mX7_isSigned.1 ∈ gwT ∧ Cond.selects mX7_isSigned.1.cls mX7_isSigned.1 mX7_isSigned.1 ∈ gwT := ⟨mem_gw (inT 1074 (by decide +kernel)) rfl, mem_gw (inT 60 (by decide +kernel)) rfl⟩
theorem cd_X7_slurs : Cond.code mX7_slurs.1 mX7_slurs.2.1 mX7_slurs.2.2.1 mX7_slurs.2.2.2.1 ∈ gwT := mem_gw (inT 1071 (by decide +kernel)) rfl
theorem sl_X7_slurs : Cond.instanceMethod mX7_slurs.1 ∈ gwT ∧ Cond.selects mX7_slurs.1.cls mX7_slurs.1 mX7_slurs.1 ∈ gwT := ⟨mem_gw (inT 1070 (by decide +kernel)) rfl, mem_gw (inT 59 (by decide +kernel)) rfl⟩
theorem cd_X7_lay : Cond.code mX7_lay.1 mX7_lay.2.1 mX7_lay.2.2.1 mX7_lay.2.2.2.1 ∈ gwT := mem_gw (inT 1083 (by decide +kernel)) rfl
theorem sl_X7_lay : Cond.instanceMethod mX7_lay.1 ∈ gwT ∧ Cond.selects mX7_lay.1.cls mX7_lay.1 mX7_lay.1 ∈ gwT := ⟨mem_gw (inT 1082 (by decide +kernel)) rfl, mem_gw (inT 62 (by decide +kernel)) rfl⟩
theorem cd_X7_laySign : Cond.code mX7_laySign.1 mX7_laySign.2.1 mX7_laySign.2.2.1 mX7_laySign.2.2.2.1 ∈ gwT := mem_gw (inT 1091 (by decide +kernel)) rfl
theorem sl_X7_laySign : Cond.instanceMethod mX7_laySign.1 ∈ gwT ∧ Cond.selects mX7_laySign.1.cls mX7_laySign.1 mX7_laySign.1 ∈ gwT := ⟨mem_gw (inT 1090 (by decide +kernel)) rfl, mem_gw (inT 64 (by decide +kernel)) rfl⟩
theorem cd_X7_layItem : Cond.code mX7_layItem.1 mX7_layItem.2.1 mX7_layItem.2.2.1 mX7_layItem.2.2.2.1 ∈ gwT := mem_gw (inT 1087 (by decide +kernel)) rfl
theorem sl_X7_layItem : Cond.instanceMethod mX7_layItem.1 ∈ gwT ∧ Cond.selects mX7_layItem.1.cls mX7_layItem.1 mX7_layItem.1 ∈ gwT := ⟨mem_gw (inT 1086 (by decide +kernel)) rfl, mem_gw (inT 63 (by decide +kernel)) rfl⟩
theorem cd_X7_layBar : Cond.code mX7_layBar.1 mX7_layBar.2.1 mX7_layBar.2.2.1 mX7_layBar.2.2.2.1 ∈ gwT := mem_gw (inT 1079 (by decide +kernel)) rfl
theorem sl_X7_layBar : Cond.instanceMethod mX7_layBar.1 ∈ gwT ∧ Cond.selects mX7_layBar.1.cls mX7_layBar.1 mX7_layBar.1 ∈ gwT := ⟨mem_gw (inT 1078 (by decide +kernel)) rfl, mem_gw (inT 61 (by decide +kernel)) rfl⟩
theorem cd_X7_write : Cond.code mX7_write.1 mX7_write.2.1 mX7_write.2.2.1 mX7_write.2.2.2.1 ∈ gwT := mem_gw (inT 1067 (by decide +kernel)) rfl
theorem sl_X7_write : Cond.instanceMethod mX7_write.1 ∈ gwT ∧ Cond.selects mX7_write.1.cls mX7_write.1 mX7_write.1 ∈ gwT := ⟨mem_gw (inT 1065 (by decide +kernel)) rfl, mem_gw (inT 1066 (by decide +kernel)) rfl⟩
theorem cd_X7_wants : Cond.code mX7_wants.1 mX7_wants.2.1 mX7_wants.2.2.1 mX7_wants.2.2.2.1 ∈ gwT := mem_gw (inT 1095 (by decide +kernel)) rfl
theorem sl_X7_wants : Cond.instanceMethod mX7_wants.1 ∈ gwT ∧ Cond.selects mX7_wants.1.cls mX7_wants.1 mX7_wants.1 ∈ gwT := ⟨mem_gw (inT 1093 (by decide +kernel)) rfl, mem_gw (inT 1094 (by decide +kernel)) rfl⟩
theorem cd_X7_ways : Cond.code mX7_ways.1 mX7_ways.2.1 mX7_ways.2.2.1 mX7_ways.2.2.2.1 ∈ gwT := mem_gw (inT 1099 (by decide +kernel)) rfl
theorem sl_X7_ways : Cond.instanceMethod mX7_ways.1 ∈ gwT ∧ Cond.selects mX7_ways.1.cls mX7_ways.1 mX7_ways.1 ∈ gwT := ⟨mem_gw (inT 1097 (by decide +kernel)) rfl, mem_gw (inT 1098 (by decide +kernel)) rfl⟩
theorem cd_X7_signed : Cond.code mX7_signed.1 mX7_signed.2.1 mX7_signed.2.2.1 mX7_signed.2.2.2.1 ∈ gwT := mem_gw (inT 1107 (by decide +kernel)) rfl
theorem sl_X7_signed : Cond.instanceMethod mX7_signed.1 ∈ gwT ∧ Cond.selects mX7_signed.1.cls mX7_signed.1 mX7_signed.1 ∈ gwT := ⟨mem_gw (inT 1105 (by decide +kernel)) rfl, mem_gw (inT 1106 (by decide +kernel)) rfl⟩
theorem cd_X7_barOf : Cond.code mX7_barOf.1 mX7_barOf.2.1 mX7_barOf.2.2.1 mX7_barOf.2.2.2.1 ∈ gwT := mem_gw (inT 1111 (by decide +kernel)) rfl
theorem sl_X7_barOf : Cond.instanceMethod mX7_barOf.1 ∈ gwT ∧ Cond.selects mX7_barOf.1.cls mX7_barOf.1 mX7_barOf.1 ∈ gwT := ⟨mem_gw (inT 1109 (by decide +kernel)) rfl, mem_gw (inT 1110 (by decide +kernel)) rfl⟩
theorem cd_X7_item : Cond.code mX7_item.1 mX7_item.2.1 mX7_item.2.2.1 mX7_item.2.2.2.1 ∈ gwT := mem_gw (inT 1115 (by decide +kernel)) rfl
theorem sl_X7_item : Cond.instanceMethod mX7_item.1 ∈ gwT ∧ Cond.selects mX7_item.1.cls mX7_item.1 mX7_item.1 ∈ gwT := ⟨mem_gw (inT 1113 (by decide +kernel)) rfl, mem_gw (inT 1114 (by decide +kernel)) rfl⟩
theorem cd_X7_loose : Cond.code mX7_loose.1 mX7_loose.2.1 mX7_loose.2.2.1 mX7_loose.2.2.2.1 ∈ gwT := mem_gw (inT 1119 (by decide +kernel)) rfl
theorem sl_X7_loose : Cond.instanceMethod mX7_loose.1 ∈ gwT ∧ Cond.selects mX7_loose.1.cls mX7_loose.1 mX7_loose.1 ∈ gwT := ⟨mem_gw (inT 1117 (by decide +kernel)) rfl, mem_gw (inT 1118 (by decide +kernel)) rfl⟩
theorem cd_X7_told : Cond.code mX7_told.1 mX7_told.2.1 mX7_told.2.2.1 mX7_told.2.2.2.1 ∈ gwT := mem_gw (inT 1123 (by decide +kernel)) rfl
theorem sl_X7_told : Cond.instanceMethod mX7_told.1 ∈ gwT ∧ Cond.selects mX7_told.1.cls mX7_told.1 mX7_told.1 ∈ gwT := ⟨mem_gw (inT 1121 (by decide +kernel)) rfl, mem_gw (inT 1122 (by decide +kernel)) rfl⟩
theorem in_X0 : Cond.initialized RX0 ∈ gwT := mem_gw (inT 69 (by decide +kernel)) rfl
theorem in_X1 : Cond.initialized RX1 ∈ gwT := mem_gw (inT 72 (by decide +kernel)) rfl
theorem in_X2 : Cond.initialized RX2 ∈ gwT := mem_gw (inT 68 (by decide +kernel)) rfl
theorem in_X3 : Cond.initialized RX3 ∈ gwT := mem_gw (inT 71 (by decide +kernel)) rfl
theorem in_X4 : Cond.initialized RX4 ∈ gwT := mem_gw (inT 73 (by decide +kernel)) rfl
theorem in_X5 : Cond.initialized RX5 ∈ gwT := mem_gw (inT 70 (by decide +kernel)) rfl
theorem in_X6 : Cond.initialized RX6 ∈ gwT := mem_gw (inT 67 (by decide +kernel)) rfl
theorem in_X7 : Cond.initialized RX7 ∈ gwT := mem_gw (inT 74 (by decide +kernel)) rfl
theorem lk_X0_3 : Cond.methodLink RX0 3 objectInit ∈ gwT ∧ Cond.instanceMethod objectInit ∈ gwT ∧ Cond.code objectInit ⟨#[0xb1]⟩ 1 none ∈ gwT := ⟨mem_gw (inT 107 (by decide +kernel)) rfl, mem_gw (inT 83 (by decide +kernel)) rfl, mem_gw (inT 84 (by decide +kernel)) rfl⟩
theorem lk_X0_9 : FLK RX0 9 0 0 := FLK.a (inT 108 (by decide +kernel))
theorem lk_X0_15 : FLK RX0 15 0 4 := FLK.a (inT 124 (by decide +kernel))
theorem lk_X0_19 : FLK RX0 19 0 5 := FLK.a (inT 128 (by decide +kernel))
theorem lk_X0_22 : FLK RX0 22 0 6 := FLK.a (inT 133 (by decide +kernel))
theorem lk_X0_25 : FLK RX0 25 0 7 := FLK.a (inT 138 (by decide +kernel))
theorem lk_X0_28 : FLK RX0 28 0 8 := FLK.a (inT 141 (by decide +kernel))
theorem lk_X0_31 : FLK RX0 31 0 9 := FLK.a (inT 144 (by decide +kernel))
theorem lk_X0_34 : FLK RX0 34 0 10 := FLK.a (inT 147 (by decide +kernel))
theorem lk_X0_37 : FLK RX0 37 0 11 := FLK.a (inT 150 (by decide +kernel))
theorem lk_X0_40 : FLK RX0 40 0 12 := FLK.a (inT 154 (by decide +kernel))
theorem lk_X0_43 : FLK RX0 43 0 13 := FLK.a (inT 159 (by decide +kernel))
theorem lk_X0_46 : FLK RX0 46 0 14 := FLK.a (inT 163 (by decide +kernel))
theorem lk_X0_49 : FLK RX0 49 0 15 := FLK.a (inT 167 (by decide +kernel))
theorem lk_X0_52 : FLK RX0 52 0 16 := FLK.a (inT 171 (by decide +kernel))
theorem lk_X0_55 : FLK RX0 55 0 17 := FLK.a (inT 174 (by decide +kernel))
theorem lk_X0_58 : FLK RX0 58 0 1 := FLK.a (inT 111 (by decide +kernel))
theorem lk_X0_61 : FLK RX0 61 0 2 := FLK.a (inT 115 (by decide +kernel))
theorem lk_X0_64 : FLK RX0 64 0 3 := FLK.a (inT 120 (by decide +kernel))
theorem lk_X0_67 : MLK RX0 67 mX0_startVoice 0 := ⟨Or.inl (mem_gw (inT 400 (by decide +kernel)) rfl), in_X0, cd_X0_startVoice, ⟨by decide +kernel, by decide +kernel, by decide +kernel⟩, by decide +kernel⟩
theorem lk_X0_71 : MLK RX0 71 mX0_lastSlot 0 := ⟨Or.inl (mem_gw (inT 437 (by decide +kernel)) rfl), in_X0, cd_X0_lastSlot, ⟨by decide +kernel, by decide +kernel, by decide +kernel⟩, by decide +kernel⟩
theorem lk_X0_75 : MLK RX0 75 mX0_intervalAt 2 := ⟨Or.inl (mem_gw (inT 568 (by decide +kernel)) rfl), in_X0, cd_X0_intervalAt, ⟨by decide +kernel, by decide +kernel, by decide +kernel⟩, by decide +kernel⟩
theorem lk_X0_79 : MLK RX0 79 mX0_intervalPitch 3 := ⟨Or.inl (mem_gw (inT 572 (by decide +kernel)) rfl), in_X0, cd_X0_intervalPitch, ⟨by decide +kernel, by decide +kernel, by decide +kernel⟩, by decide +kernel⟩
theorem lk_X0_83 : MLK RX0 83 mX6_isPitch 1 := ⟨Or.inr ⟨"BrailleCells", mem_nw (inT 573 (by decide +kernel)) rfl⟩, in_X6, cd_X6_isPitch, ⟨by decide +kernel, by decide +kernel, by decide +kernel⟩, by decide +kernel⟩
theorem lk_X0_87 : MLK RX0 87 mX6_lengthOf 3 := ⟨Or.inr ⟨"BrailleCells", mem_nw (inT 513 (by decide +kernel)) rfl⟩, in_X6, cd_X6_lengthOf, ⟨by decide +kernel, by decide +kernel, by decide +kernel⟩, by decide +kernel⟩
theorem lk_X0_90 : MLK RX0 90 mX0_lasts 1 := ⟨Or.inl (mem_gw (inT 590 (by decide +kernel)) rfl), in_X0, cd_X0_lasts, ⟨by decide +kernel, by decide +kernel, by decide +kernel⟩, by decide +kernel⟩
theorem lk_X0_94 : MLK RX0 94 mX0_voiceLasts 1 := ⟨Or.inl (mem_gw (inT 586 (by decide +kernel)) rfl), in_X0, cd_X0_voiceLasts, ⟨by decide +kernel, by decide +kernel, by decide +kernel⟩, by decide +kernel⟩
theorem lk_X0_97 : MLK RX0 97 mX0_isWhole 1 := ⟨Or.inl (mem_gw (inT 582 (by decide +kernel)) rfl), in_X0, cd_X0_isWhole, ⟨by decide +kernel, by decide +kernel, by decide +kernel⟩, by decide +kernel⟩
theorem lk_X0_100 : MLK RX0 100 mX0_isNote 1 := ⟨Or.inl (mem_gw (inT 501 (by decide +kernel)) rfl), in_X0, cd_X0_isNote, ⟨by decide +kernel, by decide +kernel, by decide +kernel⟩, by decide +kernel⟩
theorem lk_X1_3 : Cond.methodLink RX1 3 objectInit ∈ gwT ∧ Cond.instanceMethod objectInit ∈ gwT ∧ Cond.code objectInit ⟨#[0xb1]⟩ 1 none ∈ gwT := ⟨mem_gw (inT 246 (by decide +kernel)) rfl, mem_gw (inT 83 (by decide +kernel)) rfl, mem_gw (inT 84 (by decide +kernel)) rfl⟩
theorem lk_X1_9 : FLK RX1 9 1 0 := FLK.a (inT 247 (by decide +kernel))
theorem lk_X1_15 : FLK RX1 15 1 1 := FLK.a (inT 248 (by decide +kernel))
theorem lk_X1_19 : Cond.methodLink RX1 19 Lib.Math.abs.name ∈ gwT ∧ Cond.static Lib.Math.abs.name ∈ gwT ∧ Cond.initialized "java/lang/Math" ∈ gwT ∧ Cond.code Lib.Math.abs.name Lib.Math.abs.code 1 (some .int) ∈ gwT := ⟨mem_gw (inT 455 (by decide +kernel)) rfl, mem_gw (inT 456 (by decide +kernel)) rfl, mem_gw (inT 75 (by decide +kernel)) rfl, mem_gw (inT 457 (by decide +kernel)) rfl⟩
theorem lk_X1_25 : FLK RX1 25 0 2 := FLK.a (inT 118 (by decide +kernel))
theorem lk_X1_30 : FLK RX1 30 0 4 := FLK.a (inT 126 (by decide +kernel))
theorem lk_X1_34 : MLK RX1 34 mX1_forget 0 := ⟨Or.inl (mem_gw (inT 392 (by decide +kernel)) rfl), in_X1, cd_X1_forget, ⟨by decide +kernel, by decide +kernel, by decide +kernel⟩, by decide +kernel⟩
theorem lk_X1_37 : MLK RX1 37 mX1_isLeap 2 := ⟨Or.inl (mem_gw (inT 452 (by decide +kernel)) rfl), in_X1, cd_X1_isLeap, ⟨by decide +kernel, by decide +kernel, by decide +kernel⟩, by decide +kernel⟩
theorem lk_X2_3 : Cond.methodLink RX2 3 objectInit ∈ gwT ∧ Cond.instanceMethod objectInit ∈ gwT ∧ Cond.code objectInit ⟨#[0xb1]⟩ 1 none ∈ gwT := ⟨mem_gw (inT 90 (by decide +kernel)) rfl, mem_gw (inT 83 (by decide +kernel)) rfl, mem_gw (inT 84 (by decide +kernel)) rfl⟩
theorem lk_X2_9 : FLK RX2 9 2 0 := FLK.a (inT 91 (by decide +kernel))
theorem lk_X2_15 : FLK RX2 15 2 1 := FLK.a (inT 92 (by decide +kernel))
theorem lk_X3_3 : Cond.methodLink RX3 3 objectInit ∈ gwT ∧ Cond.instanceMethod objectInit ∈ gwT ∧ Cond.code objectInit ⟨#[0xb1]⟩ 1 none ∈ gwT := ⟨mem_gw (inT 240 (by decide +kernel)) rfl, mem_gw (inT 83 (by decide +kernel)) rfl, mem_gw (inT 84 (by decide +kernel)) rfl⟩
theorem lk_X3_9 : Cond.classLink RX3 9 (nmC 1) ∈ gwT ∧ Cond.instantiable (nmC 1) (NC 1) ∈ gwT ∧ Cond.initialized (nmC 1) ∈ gwT := ⟨mem_gw (inT 241 (by decide +kernel)) rfl, mem_gw (inT 242 (by decide +kernel)) rfl, in_X1⟩
theorem lk_X3_11 : MLK RX3 11 mX1_init 0 := ⟨Or.inr ⟨"BrailleCells", mem_nw (inT 243 (by decide +kernel)) rfl⟩, in_X1, cd_X1_init, ⟨by decide +kernel, by decide +kernel, by decide +kernel⟩, by decide +kernel⟩
theorem lk_X3_12 : FLK RX3 12 3 1 := FLK.a (inT 256 (by decide +kernel))
theorem lk_X3_18 : FLK RX3 18 3 0 := FLK.a (inT 255 (by decide +kernel))
theorem lk_X3_22 : FLK RX3 22 3 2 := FLK.a (inT 257 (by decide +kernel))
theorem lk_X3_26 : FLK RX3 26 3 3 := FLK.a (inT 258 (by decide +kernel))
theorem lk_X3_30 : FLK RX3 30 3 4 := FLK.a (inT 259 (by decide +kernel))
theorem lk_X3_34 : FLK RX3 34 3 5 := FLK.a (inT 260 (by decide +kernel))
theorem lk_X3_38 : MLK RX3 38 mX3_readHand 0 := ⟨Or.inl (mem_gw (inT 371 (by decide +kernel)) rfl), in_X3, cd_X3_readHand, ⟨by decide +kernel, by decide +kernel, by decide +kernel⟩, by decide +kernel⟩
theorem lk_X3_41 : MLK RX3 41 mX3_beginBar 0 := ⟨Or.inl (mem_gw (inT 384 (by decide +kernel)) rfl), in_X3, cd_X3_beginBar, ⟨by decide +kernel, by decide +kernel, by decide +kernel⟩, by decide +kernel⟩
theorem lk_X3_45 : MLK RX3 45 mX3_readVoice 0 := ⟨Or.inl (mem_gw (inT 404 (by decide +kernel)) rfl), in_X3, cd_X3_readVoice, ⟨by decide +kernel, by decide +kernel, by decide +kernel⟩, by decide +kernel⟩
theorem lk_X3_48 : FLK RX3 48 2 1 := FLK.a (inT 95 (by decide +kernel))
theorem lk_X3_53 : MLK RX3 53 mX3_beginNext 0 := ⟨Or.inl (mem_gw (inT 550 (by decide +kernel)) rfl), in_X3, cd_X3_beginNext, ⟨by decide +kernel, by decide +kernel, by decide +kernel⟩, by decide +kernel⟩
theorem lk_X3_56 : FLK RX3 56 0 2 := FLK.a (inT 117 (by decide +kernel))
theorem lk_X3_61 : MLK RX3 61 mX2_get 1 := ⟨Or.inl (mem_gw (inT 379 (by decide +kernel)) rfl), in_X2, cd_X2_get, ⟨by decide +kernel, by decide +kernel, by decide +kernel⟩, by decide +kernel⟩
theorem lk_X3_65 : MLK RX3 65 mX3_sees 2 := ⟨Or.inl (mem_gw (inT 375 (by decide +kernel)) rfl), in_X3, cd_X3_sees, ⟨by decide +kernel, by decide +kernel, by decide +kernel⟩, by decide +kernel⟩
theorem lk_X3_69 : MLK RX3 69 mX3_peek 0 := ⟨Or.inl (mem_gw (inT 380 (by decide +kernel)) rfl), in_X3, cd_X3_peek, ⟨by decide +kernel, by decide +kernel, by decide +kernel⟩, by decide +kernel⟩
theorem lk_X3_73 : FLK RX3 73 0 1 := FLK.a (inT 112 (by decide +kernel))
theorem lk_X3_76 : MLK RX3 76 mX1_forget 0 := ⟨Or.inl (mem_gw (inT 554 (by decide +kernel)) rfl), in_X1, cd_X1_forget, ⟨by decide +kernel, by decide +kernel, by decide +kernel⟩, by decide +kernel⟩
theorem lk_X3_79 : MLK RX3 79 mX0_lastSlot 0 := ⟨Or.inl (mem_gw (inT 408 (by decide +kernel)) rfl), in_X0, cd_X0_lastSlot, ⟨by decide +kernel, by decide +kernel, by decide +kernel⟩, by decide +kernel⟩
theorem lk_X3_82 : MLK RX3 82 mX0_startVoice 0 := ⟨Or.inl (mem_gw (inT 555 (by decide +kernel)) rfl), in_X0, cd_X0_startVoice, ⟨by decide +kernel, by decide +kernel, by decide +kernel⟩, by decide +kernel⟩
theorem lk_X3_85 : MLK RX3 85 mX1_enterBar 2 := ⟨Or.inl (mem_gw (inT 388 (by decide +kernel)) rfl), in_X1, cd_X1_enterBar, ⟨by decide +kernel, by decide +kernel, by decide +kernel⟩, by decide +kernel⟩
theorem lk_X3_89 : MLK RX3 89 mX0_startBar 1 := ⟨Or.inl (mem_gw (inT 396 (by decide +kernel)) rfl), in_X0, cd_X0_startBar, ⟨by decide +kernel, by decide +kernel, by decide +kernel⟩, by decide +kernel⟩
theorem lk_X3_93 : FLK RX3 93 3 6 := FLK.a (inT 261 (by decide +kernel))
theorem lk_X3_96 : FLK RX3 96 0 3 := FLK.a (inT 122 (by decide +kernel))
theorem lk_X3_99 : MLK RX3 99 mX3_readItem 0 := ⟨Or.inl (mem_gw (inT 412 (by decide +kernel)) rfl), in_X3, cd_X3_readItem, ⟨by decide +kernel, by decide +kernel, by decide +kernel⟩, by decide +kernel⟩
theorem lk_X3_102 : MLK RX3 102 mX3_isAtVoiceEnd 0 := ⟨Or.inl (mem_gw (inT 489 (by decide +kernel)) rfl), in_X3, cd_X3_isAtVoiceEnd, ⟨by decide +kernel, by decide +kernel, by decide +kernel⟩, by decide +kernel⟩
theorem lk_X3_105 : MLK RX3 105 mX3_endVoice 1 := ⟨Or.inl (mem_gw (inT 493 (by decide +kernel)) rfl), in_X3, cd_X3_endVoice, ⟨by decide +kernel, by decide +kernel, by decide +kernel⟩, by decide +kernel⟩
theorem lk_X3_109 : FLK RX3 109 0 5 := FLK.a (inT 131 (by decide +kernel))
theorem lk_X3_113 : MLK RX3 113 mX0_isLoneWholeRest 1 := ⟨Or.inl (mem_gw (inT 497 (by decide +kernel)) rfl), in_X0, cd_X0_isLoneWholeRest, ⟨by decide +kernel, by decide +kernel, by decide +kernel⟩, by decide +kernel⟩
theorem lk_X3_116 : FLK RX3 116 0 12 := FLK.a (inT 157 (by decide +kernel))
theorem lk_X3_119 : FLK RX3 119 0 6 := FLK.a (inT 136 (by decide +kernel))
theorem lk_X3_122 : MLK RX3 122 mX5_settle 3 := ⟨Or.inl (mem_gw (inT 505 (by decide +kernel)) rfl), in_X5, cd_X5_settle, ⟨by decide +kernel, by decide +kernel, by decide +kernel⟩, by decide +kernel⟩
theorem lk_X3_128 : FLK RX3 128 5 0 := FLK.a (inT 219 (by decide +kernel))
theorem lk_X3_131 : Cond.methodLink RX3 131 arraycopyName ∈ gwT ∧ Cond.native arraycopyName ∈ gwT ∧ Cond.static arraycopyName ∈ gwT ∧ Cond.initialized "java/lang/System" ∈ gwT := ⟨mem_gw (inT 547 (by decide +kernel)) rfl, mem_gw (inT 549 (by decide +kernel)) rfl, mem_gw (inT 548 (by decide +kernel)) rfl, mem_gw (inT 76 (by decide +kernel)) rfl⟩
theorem lk_X3_137 : MLK RX3 137 mX3_readSizeSign 0 := ⟨Or.inl (mem_gw (inT 416 (by decide +kernel)) rfl), in_X3, cd_X3_readSizeSign, ⟨by decide +kernel, by decide +kernel, by decide +kernel⟩, by decide +kernel⟩
theorem lk_X3_140 : MLK RX3 140 mX3_readOpen 0 := ⟨Or.inl (mem_gw (inT 420 (by decide +kernel)) rfl), in_X3, cd_X3_readOpen, ⟨by decide +kernel, by decide +kernel, by decide +kernel⟩, by decide +kernel⟩
theorem lk_X3_143 : SLK RX3 143 2 := SLK.b "BrailleCells" (inT 424 (by decide +kernel))
theorem lk_X3_146 : MLK RX3 146 mX6_indexIn 2 := ⟨Or.inr ⟨"BrailleCells", mem_nw (inT 426 (by decide +kernel)) rfl⟩, in_X6, cd_X6_indexIn, ⟨by decide +kernel, by decide +kernel, by decide +kernel⟩, by decide +kernel⟩
theorem lk_X3_150 : MLK RX3 150 mX3_readDots 0 := ⟨Or.inl (mem_gw (inT 429 (by decide +kernel)) rfl), in_X3, cd_X3_readDots, ⟨by decide +kernel, by decide +kernel, by decide +kernel⟩, by decide +kernel⟩
theorem lk_X3_153 : MLK RX3 153 mX0_addItem 5 := ⟨Or.inl (mem_gw (inT 433 (by decide +kernel)) rfl), in_X0, cd_X0_addItem, ⟨by decide +kernel, by decide +kernel, by decide +kernel⟩, by decide +kernel⟩
theorem lk_X3_157 : MLK RX3 157 mX3_readNote 0 := ⟨Or.inl (mem_gw (inT 438 (by decide +kernel)) rfl), in_X3, cd_X3_readNote, ⟨by decide +kernel, by decide +kernel, by decide +kernel⟩, by decide +kernel⟩
theorem lk_X3_160 : MLK RX3 160 mX3_readIntervals 0 := ⟨Or.inl (mem_gw (inT 467 (by decide +kernel)) rfl), in_X3, cd_X3_readIntervals, ⟨by decide +kernel, by decide +kernel, by decide +kernel⟩, by decide +kernel⟩
theorem lk_X3_163 : MLK RX3 163 mX3_readTie 0 := ⟨Or.inl (mem_gw (inT 481 (by decide +kernel)) rfl), in_X3, cd_X3_readTie, ⟨by decide +kernel, by decide +kernel, by decide +kernel⟩, by decide +kernel⟩
theorem lk_X3_166 : MLK RX3 166 mX3_readSlur 0 := ⟨Or.inl (mem_gw (inT 485 (by decide +kernel)) rfl), in_X3, cd_X3_readSlur, ⟨by decide +kernel, by decide +kernel, by decide +kernel⟩, by decide +kernel⟩
theorem lk_X3_169 : SLK RX3 169 4 := SLK.b "BrailleCells" (inT 442 (by decide +kernel))
theorem lk_X3_172 : SLK RX3 172 3 := SLK.b "BrailleCells" (inT 444 (by decide +kernel))
theorem lk_X3_175 : SLK RX3 175 0 := SLK.b "BrailleCells" (inT 446 (by decide +kernel))
theorem lk_X3_178 : FLK RX3 178 1 1 := FLK.a (inT 249 (by decide +kernel))
theorem lk_X3_181 : MLK RX3 181 mX1_nearest 1 := ⟨Or.inl (mem_gw (inT 448 (by decide +kernel)) rfl), in_X1, cd_X1_nearest, ⟨by decide +kernel, by decide +kernel, by decide +kernel⟩, by decide +kernel⟩
theorem lk_X3_184 : MLK RX3 184 mX6_isPitch 1 := ⟨Or.inr ⟨"BrailleCells", mem_nw (inT 458 (by decide +kernel)) rfl⟩, in_X6, cd_X6_isPitch, ⟨by decide +kernel, by decide +kernel, by decide +kernel⟩, by decide +kernel⟩
theorem lk_X3_187 : MLK RX3 187 mX1_heard 1 := ⟨Or.inl (mem_gw (inT 461 (by decide +kernel)) rfl), in_X1, cd_X1_heard, ⟨by decide +kernel, by decide +kernel, by decide +kernel⟩, by decide +kernel⟩
theorem lk_X3_191 : SLK RX3 191 1 := SLK.b "BrailleCells" (inT 465 (by decide +kernel))
theorem lk_X3_194 : SLK RX3 194 5 := SLK.b "BrailleCells" (inT 471 (by decide +kernel))
theorem lk_X3_197 : MLK RX3 197 mX0_intervalPitch 3 := ⟨Or.inl (mem_gw (inT 473 (by decide +kernel)) rfl), in_X0, cd_X0_intervalPitch, ⟨by decide +kernel, by decide +kernel, by decide +kernel⟩, by decide +kernel⟩
theorem lk_X3_201 : MLK RX3 201 mX0_addInterval 2 := ⟨Or.inl (mem_gw (inT 477 (by decide +kernel)) rfl), in_X0, cd_X0_addInterval, ⟨by decide +kernel, by decide +kernel, by decide +kernel⟩, by decide +kernel⟩
theorem lk_X3_205 : FLK RX3 205 0 14 := FLK.a (inT 165 (by decide +kernel))
theorem lk_X3_208 : FLK RX3 208 0 15 := FLK.a (inT 170 (by decide +kernel))
theorem lk_X4_3 : Cond.methodLink RX4 3 objectInit ∈ gwT ∧ Cond.instanceMethod objectInit ∈ gwT ∧ Cond.code objectInit ⟨#[0xb1]⟩ 1 none ∈ gwT := ⟨mem_gw (inT 282 (by decide +kernel)) rfl, mem_gw (inT 83 (by decide +kernel)) rfl, mem_gw (inT 84 (by decide +kernel)) rfl⟩
theorem lk_X4_9 : Cond.classLink RX4 9 (nmC 1) ∈ gwT ∧ Cond.instantiable (nmC 1) (NC 1) ∈ gwT ∧ Cond.initialized (nmC 1) ∈ gwT := ⟨mem_gw (inT 283 (by decide +kernel)) rfl, mem_gw (inT 242 (by decide +kernel)) rfl, in_X1⟩
theorem lk_X4_11 : MLK RX4 11 mX1_init 0 := ⟨Or.inr ⟨"BrailleCells", mem_nw (inT 284 (by decide +kernel)) rfl⟩, in_X1, cd_X1_init, ⟨by decide +kernel, by decide +kernel, by decide +kernel⟩, by decide +kernel⟩
theorem lk_X4_12 : FLK RX4 12 4 1 := FLK.a (inT 286 (by decide +kernel))
theorem lk_X4_18 : FLK RX4 18 4 2 := FLK.a (inT 287 (by decide +kernel))
theorem lk_X4_22 : FLK RX4 22 4 3 := FLK.a (inT 288 (by decide +kernel))
theorem lk_X4_26 : FLK RX4 26 4 0 := FLK.a (inT 285 (by decide +kernel))
theorem lk_X4_30 : FLK RX4 30 4 5 := FLK.a (inT 290 (by decide +kernel))
theorem lk_X4_34 : FLK RX4 34 4 4 := FLK.a (inT 289 (by decide +kernel))
theorem lk_X4_38 : FLK RX4 38 2 1 := FLK.a (inT 94 (by decide +kernel))
theorem lk_X4_44 : MLK RX4 44 mX4_markSlurs 0 := ⟨Or.inl (mem_gw (inT 649 (by decide +kernel)) rfl), in_X4, cd_X4_markSlurs, ⟨by decide +kernel, by decide +kernel, by decide +kernel⟩, by decide +kernel⟩
theorem lk_X4_47 : MLK RX4 47 mX4_markSigns 0 := ⟨Or.inl (mem_gw (inT 661 (by decide +kernel)) rfl), in_X4, cd_X4_markSigns, ⟨by decide +kernel, by decide +kernel, by decide +kernel⟩, by decide +kernel⟩
theorem lk_X4_50 : MLK RX4 50 mX4_putHand 0 := ⟨Or.inl (mem_gw (inT 671 (by decide +kernel)) rfl), in_X4, cd_X4_putHand, ⟨by decide +kernel, by decide +kernel, by decide +kernel⟩, by decide +kernel⟩
theorem lk_X4_53 : FLK RX4 53 0 2 := FLK.a (inT 116 (by decide +kernel))
theorem lk_X4_58 : MLK RX4 58 mX2_put 1 := ⟨Or.inl (mem_gw (inT 679 (by decide +kernel)) rfl), in_X2, cd_X2_put, ⟨by decide +kernel, by decide +kernel, by decide +kernel⟩, by decide +kernel⟩
theorem lk_X4_62 : MLK RX4 62 mX1_enterBar 2 := ⟨Or.inl (mem_gw (inT 680 (by decide +kernel)) rfl), in_X1, cd_X1_enterBar, ⟨by decide +kernel, by decide +kernel, by decide +kernel⟩, by decide +kernel⟩
theorem lk_X4_66 : MLK RX4 66 mX4_putBar 1 := ⟨Or.inl (mem_gw (inT 681 (by decide +kernel)) rfl), in_X4, cd_X4_putBar, ⟨by decide +kernel, by decide +kernel, by decide +kernel⟩, by decide +kernel⟩
theorem lk_X4_69 : MLK RX4 69 mX1_forget 0 := ⟨Or.inl (mem_gw (inT 685 (by decide +kernel)) rfl), in_X1, cd_X1_forget, ⟨by decide +kernel, by decide +kernel, by decide +kernel⟩, by decide +kernel⟩
theorem lk_X4_72 : FLK RX4 72 0 4 := FLK.a (inT 125 (by decide +kernel))
theorem lk_X4_75 : MLK RX4 75 mX5_needsSigns 2 := ⟨Or.inl (mem_gw (inT 665 (by decide +kernel)) rfl), in_X5, cd_X5_needsSigns, ⟨by decide +kernel, by decide +kernel, by decide +kernel⟩, by decide +kernel⟩
theorem lk_X4_81 : FLK RX4 81 0 3 := FLK.a (inT 121 (by decide +kernel))
theorem lk_X4_84 : FLK RX4 84 0 15 := FLK.a (inT 168 (by decide +kernel))
theorem lk_X4_87 : MLK RX4 87 mX4_markRow 2 := ⟨Or.inl (mem_gw (inT 653 (by decide +kernel)) rfl), in_X4, cd_X4_markRow, ⟨by decide +kernel, by decide +kernel, by decide +kernel⟩, by decide +kernel⟩
theorem lk_X4_91 : MLK RX4 91 mX4_isBroken 2 := ⟨Or.inl (mem_gw (inT 657 (by decide +kernel)) rfl), in_X4, cd_X4_isBroken, ⟨by decide +kernel, by decide +kernel, by decide +kernel⟩, by decide +kernel⟩
theorem lk_X4_95 : FLK RX4 95 0 7 := FLK.a (inT 139 (by decide +kernel))
theorem lk_X4_98 : FLK RX4 98 0 8 := FLK.a (inT 142 (by decide +kernel))
theorem lk_X4_101 : FLK RX4 101 0 1 := FLK.a (inT 113 (by decide +kernel))
theorem lk_X4_104 : MLK RX4 104 mX4_putTwo 2 := ⟨Or.inl (mem_gw (inT 675 (by decide +kernel)) rfl), in_X4, cd_X4_putTwo, ⟨by decide +kernel, by decide +kernel, by decide +kernel⟩, by decide +kernel⟩
theorem lk_X4_107 : FLK RX4 107 0 6 := FLK.a (inT 135 (by decide +kernel))
theorem lk_X4_110 : FLK RX4 110 0 5 := FLK.a (inT 130 (by decide +kernel))
theorem lk_X4_113 : FLK RX4 113 0 12 := FLK.a (inT 156 (by decide +kernel))
theorem lk_X4_116 : MLK RX4 116 mX4_putSize 1 := ⟨Or.inl (mem_gw (inT 686 (by decide +kernel)) rfl), in_X4, cd_X4_putSize, ⟨by decide +kernel, by decide +kernel, by decide +kernel⟩, by decide +kernel⟩
theorem lk_X4_119 : MLK RX4 119 mX4_putItem 1 := ⟨Or.inl (mem_gw (inT 690 (by decide +kernel)) rfl), in_X4, cd_X4_putItem, ⟨by decide +kernel, by decide +kernel, by decide +kernel⟩, by decide +kernel⟩
theorem lk_X4_122 : MLK RX4 122 mX0_isNote 1 := ⟨Or.inl (mem_gw (inT 694 (by decide +kernel)) rfl), in_X0, cd_X0_isNote, ⟨by decide +kernel, by decide +kernel, by decide +kernel⟩, by decide +kernel⟩
theorem lk_X4_126 : MLK RX4 126 mX4_putNote 1 := ⟨Or.inl (mem_gw (inT 695 (by decide +kernel)) rfl), in_X4, cd_X4_putNote, ⟨by decide +kernel, by decide +kernel, by decide +kernel⟩, by decide +kernel⟩
theorem lk_X4_129 : SLK RX4 129 2 := SLK.b "BrailleCells" (inT 718 (by decide +kernel))
theorem lk_X4_132 : FLK RX4 132 0 11 := FLK.a (inT 152 (by decide +kernel))
theorem lk_X4_135 : MLK RX4 135 mX4_putDots 1 := ⟨Or.inl (mem_gw (inT 712 (by decide +kernel)) rfl), in_X4, cd_X4_putDots, ⟨by decide +kernel, by decide +kernel, by decide +kernel⟩, by decide +kernel⟩
theorem lk_X4_138 : FLK RX4 138 0 9 := FLK.a (inT 145 (by decide +kernel))
theorem lk_X4_141 : FLK RX4 141 0 10 := FLK.a (inT 148 (by decide +kernel))
theorem lk_X4_144 : MLK RX4 144 mX4_putSign 1 := ⟨Or.inl (mem_gw (inT 699 (by decide +kernel)) rfl), in_X4, cd_X4_putSign, ⟨by decide +kernel, by decide +kernel, by decide +kernel⟩, by decide +kernel⟩
theorem lk_X4_147 : MLK RX4 147 mX1_needsSign 1 := ⟨Or.inl (mem_gw (inT 704 (by decide +kernel)) rfl), in_X1, cd_X1_needsSign, ⟨by decide +kernel, by decide +kernel, by decide +kernel⟩, by decide +kernel⟩
theorem lk_X4_150 : SLK RX4 150 3 := SLK.b "BrailleCells" (inT 708 (by decide +kernel))
theorem lk_X4_153 : MLK RX4 153 mX1_heard 1 := ⟨Or.inl (mem_gw (inT 709 (by decide +kernel)) rfl), in_X1, cd_X1_heard, ⟨by decide +kernel, by decide +kernel, by decide +kernel⟩, by decide +kernel⟩
theorem lk_X4_156 : SLK RX4 156 0 := SLK.b "BrailleCells" (inT 710 (by decide +kernel))
theorem lk_X4_159 : SLK RX4 159 1 := SLK.b "BrailleCells" (inT 711 (by decide +kernel))
theorem lk_X4_162 : FLK RX4 162 0 16 := FLK.a (inT 172 (by decide +kernel))
theorem lk_X4_165 : MLK RX4 165 mX0_intervalAt 2 := ⟨Or.inl (mem_gw (inT 716 (by decide +kernel)) rfl), in_X0, cd_X0_intervalAt, ⟨by decide +kernel, by decide +kernel, by decide +kernel⟩, by decide +kernel⟩
theorem lk_X4_169 : SLK RX4 169 5 := SLK.b "BrailleCells" (inT 717 (by decide +kernel))
theorem lk_X4_172 : FLK RX4 172 0 14 := FLK.a (inT 164 (by decide +kernel))
theorem lk_X4_175 : SLK RX4 175 4 := SLK.b "BrailleCells" (inT 703 (by decide +kernel))
theorem lk_X4_178 : FLK RX4 178 0 13 := FLK.a (inT 161 (by decide +kernel))
theorem lk_X5_5 : Cond.methodLink RX5 5 objectInit ∈ gwT ∧ Cond.instanceMethod objectInit ∈ gwT ∧ Cond.code objectInit ⟨#[0xb1]⟩ 1 none ∈ gwT := ⟨mem_gw (inT 217 (by decide +kernel)) rfl, mem_gw (inT 83 (by decide +kernel)) rfl, mem_gw (inT 84 (by decide +kernel)) rfl⟩
theorem lk_X5_11 : FLK RX5 11 5 0 := FLK.a (inT 218 (by decide +kernel))
theorem lk_X5_15 : FLK RX5 15 5 1 := FLK.a (inT 220 (by decide +kernel))
theorem lk_X5_18 : FLK RX5 18 5 3 := FLK.a (inT 222 (by decide +kernel))
theorem lk_X5_21 : FLK RX5 21 5 4 := FLK.a (inT 223 (by decide +kernel))
theorem lk_X5_24 : FLK RX5 24 0 5 := FLK.a (inT 129 (by decide +kernel))
theorem lk_X5_29 : FLK RX5 29 0 0 := FLK.a (inT 109 (by decide +kernel))
theorem lk_X5_33 : FLK RX5 33 0 6 := FLK.a (inT 134 (by decide +kernel))
theorem lk_X5_36 : MLK RX5 36 mX0_lasts 1 := ⟨Or.inl (mem_gw (inT 509 (by decide +kernel)) rfl), in_X0, cd_X0_lasts, ⟨by decide +kernel, by decide +kernel, by decide +kernel⟩, by decide +kernel⟩
theorem lk_X5_40 : MLK RX5 40 mX5_load 4 := ⟨Or.inl (mem_gw (inT 520 (by decide +kernel)) rfl), in_X5, cd_X5_load, ⟨by decide +kernel, by decide +kernel, by decide +kernel⟩, by decide +kernel⟩
theorem lk_X5_44 : FLK RX5 44 0 12 := FLK.a (inT 155 (by decide +kernel))
theorem lk_X5_47 : MLK RX5 47 mX5_layEnd 2 := ⟨Or.inl (mem_gw (inT 528 (by decide +kernel)) rfl), in_X5, cd_X5_layEnd, ⟨by decide +kernel, by decide +kernel, by decide +kernel⟩, by decide +kernel⟩
theorem lk_X5_51 : FLK RX5 51 5 2 := FLK.a (inT 221 (by decide +kernel))
theorem lk_X5_54 : MLK RX5 54 mX5_layItem 2 := ⟨Or.inl (mem_gw (inT 532 (by decide +kernel)) rfl), in_X5, cd_X5_layItem, ⟨by decide +kernel, by decide +kernel, by decide +kernel⟩, by decide +kernel⟩
theorem lk_X5_57 : MLK RX5 57 mX5_choose 1 := ⟨Or.inl (mem_gw (inT 540 (by decide +kernel)) rfl), in_X5, cd_X5_choose, ⟨by decide +kernel, by decide +kernel, by decide +kernel⟩, by decide +kernel⟩
theorem lk_X5_61 : Cond.methodLink RX5 61 Lib.Math.min.name ∈ gwT ∧ Cond.static Lib.Math.min.name ∈ gwT ∧ Cond.initialized "java/lang/Math" ∈ gwT ∧ Cond.code Lib.Math.min.name Lib.Math.min.code 2 (some .int) ∈ gwT := ⟨mem_gw (inT 524 (by decide +kernel)) rfl, mem_gw (inT 525 (by decide +kernel)) rfl, mem_gw (inT 75 (by decide +kernel)) rfl, mem_gw (inT 526 (by decide +kernel)) rfl⟩
theorem lk_X5_67 : FLK RX5 67 0 11 := FLK.a (inT 151 (by decide +kernel))
theorem lk_X5_70 : FLK RX5 70 0 13 := FLK.a (inT 160 (by decide +kernel))
theorem lk_X5_73 : MLK RX5 73 mX6_lengthOf 3 := ⟨Or.inr ⟨"BrailleCells", mem_nw (inT 527 (by decide +kernel)) rfl⟩, in_X6, cd_X6_lengthOf, ⟨by decide +kernel, by decide +kernel, by decide +kernel⟩, by decide +kernel⟩
theorem lk_X5_77 : MLK RX5 77 mX5_leastBehind 3 := ⟨Or.inl (mem_gw (inT 536 (by decide +kernel)) rfl), in_X5, cd_X5_leastBehind, ⟨by decide +kernel, by decide +kernel, by decide +kernel⟩, by decide +kernel⟩
theorem lk_X5_80 : Cond.methodLink RX5 80 Lib.Math.max.name ∈ gwT ∧ Cond.static Lib.Math.max.name ∈ gwT ∧ Cond.initialized "java/lang/Math" ∈ gwT ∧ Cond.code Lib.Math.max.name Lib.Math.max.code 2 (some .int) ∈ gwT := ⟨mem_gw (inT 544 (by decide +kernel)) rfl, mem_gw (inT 545 (by decide +kernel)) rfl, mem_gw (inT 75 (by decide +kernel)) rfl, mem_gw (inT 546 (by decide +kernel)) rfl⟩
theorem lk_X5_83 : MLK RX5 83 mX0_isLoneWholeRest 1 := ⟨Or.inl (mem_gw (inT 669 (by decide +kernel)) rfl), in_X0, cd_X0_isLoneWholeRest, ⟨by decide +kernel, by decide +kernel, by decide +kernel⟩, by decide +kernel⟩
theorem lk_X5_86 : MLK RX5 86 mX5_settle 3 := ⟨Or.inl (mem_gw (inT 670 (by decide +kernel)) rfl), in_X5, cd_X5_settle, ⟨by decide +kernel, by decide +kernel, by decide +kernel⟩, by decide +kernel⟩
theorem lk_X6_1 : Cond.methodLink RX6 1 objectInit ∈ gwT ∧ Cond.instanceMethod objectInit ∈ gwT ∧ Cond.code objectInit ⟨#[0xb1]⟩ 1 none ∈ gwT := ⟨mem_gw (inT 82 (by decide +kernel)) rfl, mem_gw (inT 83 (by decide +kernel)) rfl, mem_gw (inT 84 (by decide +kernel)) rfl⟩
theorem lk_X6_7 : Cond.classLink RX6 7 (nmC 2) ∈ gwT ∧ Cond.instantiable (nmC 2) (NC 2) ∈ gwT ∧ Cond.initialized (nmC 2) ∈ gwT := ⟨mem_gw (inT 85 (by decide +kernel)) rfl, mem_gw (inT 86 (by decide +kernel)) rfl, in_X2⟩
theorem lk_X6_9 : MLK RX6 9 mX2_init 0 := ⟨Or.inr ⟨"BrailleCells", mem_nw (inT 87 (by decide +kernel)) rfl⟩, in_X2, cd_X2_init, ⟨by decide +kernel, by decide +kernel, by decide +kernel⟩, by decide +kernel⟩
theorem lk_X6_10 : FLK RX6 10 6 0 := FLK.a (inT 305 (by decide +kernel))
theorem lk_X6_16 : FLK RX6 16 6 1 := FLK.a (inT 306 (by decide +kernel))
theorem lk_X6_19 : Cond.classLink RX6 19 (nmC 0) ∈ gwT ∧ Cond.instantiable (nmC 0) (NC 0) ∈ gwT ∧ Cond.initialized (nmC 0) ∈ gwT := ⟨mem_gw (inT 102 (by decide +kernel)) rfl, mem_gw (inT 103 (by decide +kernel)) rfl, in_X0⟩
theorem lk_X6_21 : MLK RX6 21 mX0_init 0 := ⟨Or.inr ⟨"BrailleCells", mem_nw (inT 104 (by decide +kernel)) rfl⟩, in_X0, cd_X0_init, ⟨by decide +kernel, by decide +kernel, by decide +kernel⟩, by decide +kernel⟩
theorem lk_X6_22 : FLK RX6 22 6 2 := FLK.a (inT 307 (by decide +kernel))
theorem lk_X6_26 : FLK RX6 26 6 3 := FLK.a (inT 308 (by decide +kernel))
theorem lk_X6_29 : Cond.classLink RX6 29 (nmC 5) ∈ gwT ∧ Cond.instantiable (nmC 5) (NC 5) ∈ gwT ∧ Cond.initialized (nmC 5) ∈ gwT := ⟨mem_gw (inT 212 (by decide +kernel)) rfl, mem_gw (inT 213 (by decide +kernel)) rfl, in_X5⟩
theorem lk_X6_31 : MLK RX6 31 mX5_init 0 := ⟨Or.inr ⟨"BrailleCells", mem_nw (inT 214 (by decide +kernel)) rfl⟩, in_X5, cd_X5_init, ⟨by decide +kernel, by decide +kernel, by decide +kernel⟩, by decide +kernel⟩
theorem lk_X6_32 : FLK RX6 32 6 4 := FLK.a (inT 309 (by decide +kernel))
theorem lk_X6_36 : Cond.classLink RX6 36 (nmC 3) ∈ gwT ∧ Cond.instantiable (nmC 3) (NC 3) ∈ gwT ∧ Cond.initialized (nmC 3) ∈ gwT := ⟨mem_gw (inT 235 (by decide +kernel)) rfl, mem_gw (inT 236 (by decide +kernel)) rfl, in_X3⟩
theorem lk_X6_38 : MLK RX6 38 mX3_init 1 := ⟨Or.inl (mem_gw (inT 237 (by decide +kernel)) rfl), in_X3, cd_X3_init, ⟨by decide +kernel, by decide +kernel, by decide +kernel⟩, by decide +kernel⟩
theorem lk_X6_41 : FLK RX6 41 6 5 := FLK.a (inT 310 (by decide +kernel))
theorem lk_X6_45 : Cond.classLink RX6 45 (nmC 4) ∈ gwT ∧ Cond.instantiable (nmC 4) (NC 4) ∈ gwT ∧ Cond.initialized (nmC 4) ∈ gwT := ⟨mem_gw (inT 277 (by decide +kernel)) rfl, mem_gw (inT 278 (by decide +kernel)) rfl, in_X4⟩
theorem lk_X6_47 : MLK RX6 47 mX4_init 1 := ⟨Or.inl (mem_gw (inT 279 (by decide +kernel)) rfl), in_X4, cd_X4_init, ⟨by decide +kernel, by decide +kernel, by decide +kernel⟩, by decide +kernel⟩
theorem lk_X6_48 : FLK RX6 48 6 6 := FLK.a (inT 311 (by decide +kernel))
theorem lk_X6_52 : FLK RX6 52 2 1 := FLK.a (inT 93 (by decide +kernel))
theorem lk_X6_56 : MLK RX6 56 mX0_empty 1 := ⟨Or.inl (mem_gw (inT 331 (by decide +kernel)) rfl), in_X0, cd_X0_empty, ⟨by decide +kernel, by decide +kernel, by decide +kernel⟩, by decide +kernel⟩
theorem lk_X6_60 : MLK RX6 60 mX2_put 1 := ⟨Or.inl (mem_gw (inT 339 (by decide +kernel)) rfl), in_X2, cd_X2_put, ⟨by decide +kernel, by decide +kernel, by decide +kernel⟩, by decide +kernel⟩
theorem lk_X6_63 : MLK RX6 63 mX6_byteOf 2 := ⟨Or.inl (mem_gw (inT 347 (by decide +kernel)) rfl), in_X6, cd_X6_byteOf, ⟨by decide +kernel, by decide +kernel, by decide +kernel⟩, by decide +kernel⟩
theorem lk_X6_67 : Cond.constantLong RX6 67 255 ∈ gwT := mem_gw (inT 350 (by decide +kernel)) rfl
theorem lk_X6_69 : MLK RX6 69 mX2_get 1 := ⟨Or.inl (mem_gw (inT 359 (by decide +kernel)) rfl), in_X2, cd_X2_get, ⟨by decide +kernel, by decide +kernel, by decide +kernel⟩, by decide +kernel⟩
theorem lk_X6_73 : FLK RX6 73 0 0 := FLK.a (inT 110 (by decide +kernel))
theorem lk_X6_76 : MLK RX6 76 mX3_run 2 := ⟨Or.inl (mem_gw (inT 367 (by decide +kernel)) rfl), in_X3, cd_X3_run, ⟨by decide +kernel, by decide +kernel, by decide +kernel⟩, by decide +kernel⟩
theorem lk_X6_80 : FLK RX6 80 0 2 := FLK.a (inT 119 (by decide +kernel))
theorem lk_X6_83 : MLK RX6 83 mX0_suitsHand 1 := ⟨Or.inl (mem_gw (inT 564 (by decide +kernel)) rfl), in_X0, cd_X0_suitsHand, ⟨by decide +kernel, by decide +kernel, by decide +kernel⟩, by decide +kernel⟩
theorem lk_X6_87 : FLK RX6 87 0 1 := FLK.a (inT 114 (by decide +kernel))
theorem lk_X6_90 : MLK RX6 90 mX0_endsWhole 0 := ⟨Or.inl (mem_gw (inT 578 (by decide +kernel)) rfl), in_X0, cd_X0_endsWhole, ⟨by decide +kernel, by decide +kernel, by decide +kernel⟩, by decide +kernel⟩
theorem lk_X6_94 : MLK RX6 94 mX0_startBar 1 := ⟨Or.inl (mem_gw (inT 591 (by decide +kernel)) rfl), in_X0, cd_X0_startBar, ⟨by decide +kernel, by decide +kernel, by decide +kernel⟩, by decide +kernel⟩
theorem lk_X6_98 : MLK RX6 98 mX0_lastSlot 0 := ⟨Or.inl (mem_gw (inT 596 (by decide +kernel)) rfl), in_X0, cd_X0_lastSlot, ⟨by decide +kernel, by decide +kernel, by decide +kernel⟩, by decide +kernel⟩
theorem lk_X6_102 : MLK RX6 102 mX0_isWhole 1 := ⟨Or.inl (mem_gw (inT 597 (by decide +kernel)) rfl), in_X0, cd_X0_isWhole, ⟨by decide +kernel, by decide +kernel, by decide +kernel⟩, by decide +kernel⟩
theorem lk_X6_105 : MLK RX6 105 mX0_startVoice 0 := ⟨Or.inl (mem_gw (inT 598 (by decide +kernel)) rfl), in_X0, cd_X0_startVoice, ⟨by decide +kernel, by decide +kernel, by decide +kernel⟩, by decide +kernel⟩
theorem lk_X6_108 : FLK RX6 108 0 4 := FLK.a (inT 127 (by decide +kernel))
theorem lk_X6_112 : MLK RX6 112 mX6_isPitch 1 := ⟨Or.inl (mem_gw (inT 603 (by decide +kernel)) rfl), in_X6, cd_X6_isPitch, ⟨by decide +kernel, by decide +kernel, by decide +kernel⟩, by decide +kernel⟩
theorem lk_X6_115 : MLK RX6 115 mX6_isSign 1 := ⟨Or.inl (mem_gw (inT 604 (by decide +kernel)) rfl), in_X6, cd_X6_isSign, ⟨by decide +kernel, by decide +kernel, by decide +kernel⟩, by decide +kernel⟩
theorem lk_X6_118 : MLK RX6 118 mX6_isKind 1 := ⟨Or.inl (mem_gw (inT 608 (by decide +kernel)) rfl), in_X6, cd_X6_isKind, ⟨by decide +kernel, by decide +kernel, by decide +kernel⟩, by decide +kernel⟩
theorem lk_X6_121 : MLK RX6 121 mX6_isDots 1 := ⟨Or.inl (mem_gw (inT 612 (by decide +kernel)) rfl), in_X6, cd_X6_isDots, ⟨by decide +kernel, by decide +kernel, by decide +kernel⟩, by decide +kernel⟩
theorem lk_X6_124 : MLK RX6 124 mX6_addTimed 5 := ⟨Or.inl (mem_gw (inT 615 (by decide +kernel)) rfl), in_X6, cd_X6_addTimed, ⟨by decide +kernel, by decide +kernel, by decide +kernel⟩, by decide +kernel⟩
theorem lk_X6_128 : MLK RX6 128 mX6_lengthOf 3 := ⟨Or.inl (mem_gw (inT 619 (by decide +kernel)) rfl), in_X6, cd_X6_lengthOf, ⟨by decide +kernel, by decide +kernel, by decide +kernel⟩, by decide +kernel⟩
theorem lk_X6_132 : MLK RX6 132 mX0_voiceLasts 1 := ⟨Or.inl (mem_gw (inT 620 (by decide +kernel)) rfl), in_X0, cd_X0_voiceLasts, ⟨by decide +kernel, by decide +kernel, by decide +kernel⟩, by decide +kernel⟩
theorem lk_X6_135 : FLK RX6 135 0 6 := FLK.a (inT 137 (by decide +kernel))
theorem lk_X6_138 : FLK RX6 138 0 3 := FLK.a (inT 123 (by decide +kernel))
theorem lk_X6_141 : MLK RX6 141 mX0_addItem 5 := ⟨Or.inl (mem_gw (inT 621 (by decide +kernel)) rfl), in_X0, cd_X0_addItem, ⟨by decide +kernel, by decide +kernel, by decide +kernel⟩, by decide +kernel⟩
theorem lk_X6_144 : MLK RX6 144 mX0_isNote 1 := ⟨Or.inl (mem_gw (inT 630 (by decide +kernel)) rfl), in_X0, cd_X0_isNote, ⟨by decide +kernel, by decide +kernel, by decide +kernel⟩, by decide +kernel⟩
theorem lk_X6_147 : MLK RX6 147 mX0_intervalPitch 3 := ⟨Or.inl (mem_gw (inT 631 (by decide +kernel)) rfl), in_X0, cd_X0_intervalPitch, ⟨by decide +kernel, by decide +kernel, by decide +kernel⟩, by decide +kernel⟩
theorem lk_X6_150 : FLK RX6 150 0 16 := FLK.a (inT 173 (by decide +kernel))
theorem lk_X6_153 : MLK RX6 153 mX0_addInterval 2 := ⟨Or.inl (mem_gw (inT 632 (by decide +kernel)) rfl), in_X0, cd_X0_addInterval, ⟨by decide +kernel, by decide +kernel, by decide +kernel⟩, by decide +kernel⟩
theorem lk_X6_157 : FLK RX6 157 0 14 := FLK.a (inT 166 (by decide +kernel))
theorem lk_X6_160 : FLK RX6 160 0 15 := FLK.a (inT 169 (by decide +kernel))
theorem lk_X6_163 : MLK RX6 163 mX4_run 3 := ⟨Or.inl (mem_gw (inT 645 (by decide +kernel)) rfl), in_X4, cd_X4_run, ⟨by decide +kernel, by decide +kernel, by decide +kernel⟩, by decide +kernel⟩
theorem lk_X6_166 : MLK RX6 166 mX1_isLeap 2 := ⟨Or.inl (mem_gw (inT 723 (by decide +kernel)) rfl), in_X1, cd_X1_isLeap, ⟨by decide +kernel, by decide +kernel, by decide +kernel⟩, by decide +kernel⟩
theorem lk_X6_172 : MLK RX6 172 mX0_slotOf 2 := ⟨Or.inl (mem_gw (inT 728 (by decide +kernel)) rfl), in_X0, cd_X0_slotOf, ⟨by decide +kernel, by decide +kernel, by decide +kernel⟩, by decide +kernel⟩
theorem lk_X6_176 : MLK RX6 176 mX5_countWays 2 := ⟨Or.inl (mem_gw (inT 732 (by decide +kernel)) rfl), in_X5, cd_X5_countWays, ⟨by decide +kernel, by decide +kernel, by decide +kernel⟩, by decide +kernel⟩
theorem lk_X6_180 : MLK RX6 180 mX5_needsSigns 2 := ⟨Or.inl (mem_gw (inT 740 (by decide +kernel)) rfl), in_X5, cd_X5_needsSigns, ⟨by decide +kernel, by decide +kernel, by decide +kernel⟩, by decide +kernel⟩
theorem lk_X6_184 : MLK RX6 184 mX0_itemsOfBar 1 := ⟨Or.inl (mem_gw (inT 745 (by decide +kernel)) rfl), in_X0, cd_X0_itemsOfBar, ⟨by decide +kernel, by decide +kernel, by decide +kernel⟩, by decide +kernel⟩
theorem lk_X6_187 : FLK RX6 187 0 5 := FLK.a (inT 132 (by decide +kernel))
theorem lk_X6_190 : FLK RX6 190 0 7 := FLK.a (inT 140 (by decide +kernel))
theorem lk_X6_193 : FLK RX6 193 0 8 := FLK.a (inT 143 (by decide +kernel))
theorem lk_X6_196 : FLK RX6 196 0 9 := FLK.a (inT 146 (by decide +kernel))
theorem lk_X6_199 : FLK RX6 199 0 10 := FLK.a (inT 149 (by decide +kernel))
theorem lk_X6_202 : FLK RX6 202 0 11 := FLK.a (inT 153 (by decide +kernel))
theorem lk_X6_205 : FLK RX6 205 0 12 := FLK.a (inT 158 (by decide +kernel))
theorem lk_X6_208 : FLK RX6 208 0 13 := FLK.a (inT 162 (by decide +kernel))
theorem lk_X6_211 : MLK RX6 211 mX0_lasts 1 := ⟨Or.inl (mem_gw (inT 753 (by decide +kernel)) rfl), in_X0, cd_X0_lasts, ⟨by decide +kernel, by decide +kernel, by decide +kernel⟩, by decide +kernel⟩
theorem lk_X6_214 : MLK RX6 214 mX0_intervalAt 2 := ⟨Or.inl (mem_gw (inT 754 (by decide +kernel)) rfl), in_X0, cd_X0_intervalAt, ⟨by decide +kernel, by decide +kernel, by decide +kernel⟩, by decide +kernel⟩
theorem lk_X6_217 : SLK RX6 217 4 := SLK.a (inT 607 (by decide +kernel))
theorem lk_X6_220 : SLK RX6 220 1 := SLK.a (inT 611 (by decide +kernel))
theorem lk_X6_223 : SLK RX6 223 6 := SLK.a (inT 516 (by decide +kernel))
theorem lk_X6_226 : SLK RX6 226 7 := SLK.a (inT 518 (by decide +kernel))
theorem lk_X7_1 : Cond.methodLink RX7 1 objectInit ∈ gwT ∧ Cond.instanceMethod objectInit ∈ gwT ∧ Cond.code objectInit ⟨#[0xb1]⟩ 1 none ∈ gwT := ⟨mem_gw (inT 768 (by decide +kernel)) rfl, mem_gw (inT 83 (by decide +kernel)) rfl, mem_gw (inT 84 (by decide +kernel)) rfl⟩
theorem lk_X7_7 : FLK RX7 7 7 0 := FLK.a (inT 770 (by decide +kernel))
theorem lk_X7_13 : FLK RX7 13 7 1 := FLK.a (inT 771 (by decide +kernel))
theorem lk_X7_16 : FLK RX7 16 7 2 := FLK.a (inT 772 (by decide +kernel))
theorem lk_X7_19 : FLK RX7 19 7 3 := FLK.a (inT 773 (by decide +kernel))
theorem lk_X7_22 : FLK RX7 22 7 4 := FLK.a (inT 774 (by decide +kernel))
theorem lk_X7_25 : FLK RX7 25 7 5 := FLK.a (inT 775 (by decide +kernel))
theorem lk_X7_28 : FLK RX7 28 7 7 := FLK.a (inT 777 (by decide +kernel))
theorem lk_X7_32 : FLK RX7 32 7 8 := FLK.a (inT 778 (by decide +kernel))
theorem lk_X7_35 : FLK RX7 35 7 9 := FLK.a (inT 779 (by decide +kernel))
theorem lk_X7_38 : FLK RX7 38 7 10 := FLK.a (inT 780 (by decide +kernel))
theorem lk_X7_41 : FLK RX7 41 7 11 := FLK.a (inT 781 (by decide +kernel))
theorem lk_X7_44 : FLK RX7 44 7 12 := FLK.a (inT 782 (by decide +kernel))
theorem lk_X7_47 : FLK RX7 47 7 13 := FLK.a (inT 783 (by decide +kernel))
theorem lk_X7_50 : FLK RX7 50 7 14 := FLK.a (inT 784 (by decide +kernel))
theorem lk_X7_53 : FLK RX7 53 7 15 := FLK.a (inT 785 (by decide +kernel))
theorem lk_X7_56 : FLK RX7 56 7 16 := FLK.a (inT 786 (by decide +kernel))
theorem lk_X7_59 : FLK RX7 59 7 17 := FLK.a (inT 787 (by decide +kernel))
theorem lk_X7_62 : FLK RX7 62 7 18 := FLK.a (inT 788 (by decide +kernel))
theorem lk_X7_65 : FLK RX7 65 7 19 := FLK.a (inT 789 (by decide +kernel))
theorem lk_X7_68 : FLK RX7 68 7 20 := FLK.a (inT 790 (by decide +kernel))
theorem lk_X7_71 : FLK RX7 71 7 21 := FLK.a (inT 791 (by decide +kernel))
theorem lk_X7_74 : FLK RX7 74 7 22 := FLK.a (inT 792 (by decide +kernel))
theorem lk_X7_77 : FLK RX7 77 7 23 := FLK.a (inT 793 (by decide +kernel))
theorem lk_X7_80 : Cond.constant RX7 80 163920 ∈ gwT := mem_gw (inT 769 (by decide +kernel)) rfl
theorem lk_X7_81 : FLK RX7 81 7 29 := FLK.a (inT 799 (by decide +kernel))
theorem lk_X7_84 : FLK RX7 84 7 30 := FLK.a (inT 800 (by decide +kernel))
theorem lk_X7_87 : FLK RX7 87 7 31 := FLK.a (inT 801 (by decide +kernel))
theorem lk_X7_90 : FLK RX7 90 7 32 := FLK.a (inT 802 (by decide +kernel))
theorem lk_X7_93 : FLK RX7 93 7 33 := FLK.a (inT 803 (by decide +kernel))
theorem lk_X7_96 : FLK RX7 96 7 34 := FLK.a (inT 804 (by decide +kernel))
theorem lk_X7_99 : FLK RX7 99 7 35 := FLK.a (inT 805 (by decide +kernel))
theorem lk_X7_102 : FLK RX7 102 7 36 := FLK.a (inT 806 (by decide +kernel))
theorem lk_X7_105 : FLK RX7 105 7 38 := FLK.a (inT 808 (by decide +kernel))
theorem lk_X7_108 : FLK RX7 108 7 6 := FLK.a (inT 776 (by decide +kernel))
theorem lk_X7_111 : MLK RX7 111 mX7_lasts 3 := ⟨Or.inl (mem_gw (inT 992 (by decide +kernel)) rfl), in_X7, cd_X7_lasts, ⟨by decide +kernel, by decide +kernel, by decide +kernel⟩, by decide +kernel⟩
theorem lk_X7_115 : MLK RX7 115 mX7_lastsOf 1 := ⟨Or.inl (mem_gw (inT 1020 (by decide +kernel)) rfl), in_X7, cd_X7_lastsOf, ⟨by decide +kernel, by decide +kernel, by decide +kernel⟩, by decide +kernel⟩
theorem lk_X7_119 : Cond.constant RX7 119 1000000 ∈ gwT := mem_gw (inT 995 (by decide +kernel)) rfl
theorem lk_X7_120 : FLK RX7 120 7 25 := FLK.a (inT 795 (by decide +kernel))
theorem lk_X7_123 : MLK RX7 123 mX7_noteOf 1 := ⟨Or.inl (mem_gw (inT 946 (by decide +kernel)) rfl), in_X7, cd_X7_noteOf, ⟨by decide +kernel, by decide +kernel, by decide +kernel⟩, by decide +kernel⟩
theorem lk_X7_126 : MLK RX7 126 mX7_find 2 := ⟨Or.inl (mem_gw (inT 939 (by decide +kernel)) rfl), in_X7, cd_X7_find, ⟨by decide +kernel, by decide +kernel, by decide +kernel⟩, by decide +kernel⟩
theorem lk_X7_130 : FLK RX7 130 7 24 := FLK.a (inT 794 (by decide +kernel))
theorem lk_X7_133 : MLK RX7 133 mX7_peek 1 := ⟨Or.inl (mem_gw (inT 915 (by decide +kernel)) rfl), in_X7, cd_X7_peek, ⟨by decide +kernel, by decide +kernel, by decide +kernel⟩, by decide +kernel⟩
theorem lk_X7_136 : MLK RX7 136 mX7_isNote 1 := ⟨Or.inl (mem_gw (inT 942 (by decide +kernel)) rfl), in_X7, cd_X7_isNote, ⟨by decide +kernel, by decide +kernel, by decide +kernel⟩, by decide +kernel⟩
theorem lk_X7_140 : MLK RX7 140 mX7_signOf 1 := ⟨Or.inl (mem_gw (inT 950 (by decide +kernel)) rfl), in_X7, cd_X7_signOf, ⟨by decide +kernel, by decide +kernel, by decide +kernel⟩, by decide +kernel⟩
theorem lk_X7_143 : MLK RX7 143 mX7_isOctave 1 := ⟨Or.inl (mem_gw (inT 953 (by decide +kernel)) rfl), in_X7, cd_X7_isOctave, ⟨by decide +kernel, by decide +kernel, by decide +kernel⟩, by decide +kernel⟩
theorem lk_X7_146 : MLK RX7 146 mX7_fail 1 := ⟨Or.inl (mem_gw (inT 923 (by decide +kernel)) rfl), in_X7, cd_X7_fail, ⟨by decide +kernel, by decide +kernel, by decide +kernel⟩, by decide +kernel⟩
theorem lk_X7_150 : FLK RX7 150 7 39 := FLK.a (inT 809 (by decide +kernel))
theorem lk_X7_153 : FLK RX7 153 7 26 := FLK.a (inT 796 (by decide +kernel))
theorem lk_X7_157 : FLK RX7 157 7 27 := FLK.a (inT 797 (by decide +kernel))
theorem lk_X7_160 : FLK RX7 160 7 28 := FLK.a (inT 798 (by decide +kernel))
theorem lk_X7_163 : MLK RX7 163 mX7_wantsSign 2 := ⟨Or.inl (mem_gw (inT 973 (by decide +kernel)) rfl), in_X7, cd_X7_wantsSign, ⟨by decide +kernel, by decide +kernel, by decide +kernel⟩, by decide +kernel⟩
theorem lk_X7_167 : MLK RX7 167 mX7_ahead 0 := ⟨Or.inl (mem_gw (inT 961 (by decide +kernel)) rfl), in_X7, cd_X7_ahead, ⟨by decide +kernel, by decide +kernel, by decide +kernel⟩, by decide +kernel⟩
theorem lk_X7_170 : MLK RX7 170 mX7_dotted 1 := ⟨Or.inl (mem_gw (inT 965 (by decide +kernel)) rfl), in_X7, cd_X7_dotted, ⟨by decide +kernel, by decide +kernel, by decide +kernel⟩, by decide +kernel⟩
theorem lk_X7_173 : MLK RX7 173 mX7_readNote 1 := ⟨Or.inl (mem_gw (inT 969 (by decide +kernel)) rfl), in_X7, cd_X7_readNote, ⟨by decide +kernel, by decide +kernel, by decide +kernel⟩, by decide +kernel⟩
theorem lk_X7_176 : MLK RX7 176 mX7_intervals 1 := ⟨Or.inl (mem_gw (inT 976 (by decide +kernel)) rfl), in_X7, cd_X7_intervals, ⟨by decide +kernel, by decide +kernel, by decide +kernel⟩, by decide +kernel⟩
theorem lk_X7_179 : MLK RX7 179 mX7_readSlur 1 := ⟨Or.inl (mem_gw (inT 980 (by decide +kernel)) rfl), in_X7, cd_X7_readSlur, ⟨by decide +kernel, by decide +kernel, by decide +kernel⟩, by decide +kernel⟩
theorem lk_X7_182 : MLK RX7 182 mX7_full 1 := ⟨Or.inl (mem_gw (inT 931 (by decide +kernel)) rfl), in_X7, cd_X7_full, ⟨by decide +kernel, by decide +kernel, by decide +kernel⟩, by decide +kernel⟩
theorem lk_X7_185 : MLK RX7 185 mX7_begins 1 := ⟨Or.inl (mem_gw (inT 935 (by decide +kernel)) rfl), in_X7, cd_X7_begins, ⟨by decide +kernel, by decide +kernel, by decide +kernel⟩, by decide +kernel⟩
theorem lk_X7_189 : MLK RX7 189 mX7_readItem 2 := ⟨Or.inl (mem_gw (inT 957 (by decide +kernel)) rfl), in_X7, cd_X7_readItem, ⟨by decide +kernel, by decide +kernel, by decide +kernel⟩, by decide +kernel⟩
theorem lk_X7_193 : MLK RX7 193 mX7_whole 2 := ⟨Or.inl (mem_gw (inT 984 (by decide +kernel)) rfl), in_X7, cd_X7_whole, ⟨by decide +kernel, by decide +kernel, by decide +kernel⟩, by decide +kernel⟩
theorem lk_X7_196 : MLK RX7 196 mX7_canBe 2 := ⟨Or.inl (mem_gw (inT 988 (by decide +kernel)) rfl), in_X7, cd_X7_canBe, ⟨by decide +kernel, by decide +kernel, by decide +kernel⟩, by decide +kernel⟩
theorem lk_X7_199 : MLK RX7 199 mX7_readVoice 2 := ⟨Or.inl (mem_gw (inT 927 (by decide +kernel)) rfl), in_X7, cd_X7_readVoice, ⟨by decide +kernel, by decide +kernel, by decide +kernel⟩, by decide +kernel⟩
theorem lk_X7_202 : MLK RX7 202 mX7_readBar 0 := ⟨Or.inl (mem_gw (inT 919 (by decide +kernel)) rfl), in_X7, cd_X7_readBar, ⟨by decide +kernel, by decide +kernel, by decide +kernel⟩, by decide +kernel⟩
theorem lk_X7_205 : MLK RX7 205 mX7_take 1 := ⟨Or.inl (mem_gw (inT 996 (by decide +kernel)) rfl), in_X7, cd_X7_take, ⟨by decide +kernel, by decide +kernel, by decide +kernel⟩, by decide +kernel⟩
theorem lk_X7_208 : MLK RX7 208 mX7_voiceLasts 3 := ⟨Or.inl (mem_gw (inT 1016 (by decide +kernel)) rfl), in_X7, cd_X7_voiceLasts, ⟨by decide +kernel, by decide +kernel, by decide +kernel⟩, by decide +kernel⟩
theorem lk_X7_211 : MLK RX7 211 mX7_lacks 0 := ⟨Or.inl (mem_gw (inT 1012 (by decide +kernel)) rfl), in_X7, cd_X7_lacks, ⟨by decide +kernel, by decide +kernel, by decide +kernel⟩, by decide +kernel⟩
theorem lk_X7_215 : MLK RX7 215 mX7_voiceSize 3 := ⟨Or.inl (mem_gw (inT 1036 (by decide +kernel)) rfl), in_X7, cd_X7_voiceSize, ⟨by decide +kernel, by decide +kernel, by decide +kernel⟩, by decide +kernel⟩
theorem lk_X7_218 : MLK RX7 218 mX7_voiceFirst 3 := ⟨Or.inl (mem_gw (inT 1040 (by decide +kernel)) rfl), in_X7, cd_X7_voiceFirst, ⟨by decide +kernel, by decide +kernel, by decide +kernel⟩, by decide +kernel⟩
theorem lk_X7_221 : MLK RX7 221 mX7_barred 1 := ⟨Or.inl (mem_gw (inT 1032 (by decide +kernel)) rfl), in_X7, cd_X7_barred, ⟨by decide +kernel, by decide +kernel, by decide +kernel⟩, by decide +kernel⟩
theorem lk_X7_224 : MLK RX7 224 mX7_put 5 := ⟨Or.inl (mem_gw (inT 1044 (by decide +kernel)) rfl), in_X7, cd_X7_put, ⟨by decide +kernel, by decide +kernel, by decide +kernel⟩, by decide +kernel⟩
theorem lk_X7_228 : FLK RX7 228 7 37 := FLK.a (inT 807 (by decide +kernel))
theorem lk_X7_231 : MLK RX7 231 mX7_lay 1 := ⟨Or.inl (mem_gw (inT 1080 (by decide +kernel)) rfl), in_X7, cd_X7_lay, ⟨by decide +kernel, by decide +kernel, by decide +kernel⟩, by decide +kernel⟩
theorem lk_X7_234 : MLK RX7 234 mX7_laySign 1 := ⟨Or.inl (mem_gw (inT 1088 (by decide +kernel)) rfl), in_X7, cd_X7_laySign, ⟨by decide +kernel, by decide +kernel, by decide +kernel⟩, by decide +kernel⟩
theorem lk_X7_237 : MLK RX7 237 mX7_layItem 1 := ⟨Or.inl (mem_gw (inT 1084 (by decide +kernel)) rfl), in_X7, cd_X7_layItem, ⟨by decide +kernel, by decide +kernel, by decide +kernel⟩, by decide +kernel⟩
theorem lk_X7_240 : MLK RX7 240 mX7_slurs 0 := ⟨Or.inl (mem_gw (inT 1068 (by decide +kernel)) rfl), in_X7, cd_X7_slurs, ⟨by decide +kernel, by decide +kernel, by decide +kernel⟩, by decide +kernel⟩
theorem lk_X7_243 : MLK RX7 243 mX7_isSigned 2 := ⟨Or.inl (mem_gw (inT 1072 (by decide +kernel)) rfl), in_X7, cd_X7_isSigned, ⟨by decide +kernel, by decide +kernel, by decide +kernel⟩, by decide +kernel⟩
theorem lk_X7_246 : MLK RX7 246 mX7_layBar 1 := ⟨Or.inl (mem_gw (inT 1076 (by decide +kernel)) rfl), in_X7, cd_X7_layBar, ⟨by decide +kernel, by decide +kernel, by decide +kernel⟩, by decide +kernel⟩
theorem lk_X7_249 : MLK RX7 249 mX7_isVoice 2 := ⟨Or.inl (mem_gw (inT 1100 (by decide +kernel)) rfl), in_X7, cd_X7_isVoice, ⟨by decide +kernel, by decide +kernel, by decide +kernel⟩, by decide +kernel⟩
theorem lk_L_7 : Cond.classLink RL 7 (nmC 6) ∈ gwT ∧ Cond.instantiable (nmC 6) (NC 6) ∈ gwT ∧ Cond.initialized (nmC 6) ∈ gwT := ⟨mem_gw (inT 77 (by decide +kernel)) rfl, mem_gw (inT 78 (by decide +kernel)) rfl, in_X6⟩
theorem lk_L_9 : MLK RL 9 mX6_init 0 := ⟨Or.inl (mem_gw (inT 79 (by decide +kernel)) rfl), in_X6, cd_X6_init, ⟨by decide +kernel, by decide +kernel, by decide +kernel⟩, by decide +kernel⟩
theorem lk_L_10 : Cond.classLink RL 10 (nmC 7) ∈ gwT ∧ Cond.instantiable (nmC 7) (NC 7) ∈ gwT ∧ Cond.initialized (nmC 7) ∈ gwT := ⟨mem_gw (inT 763 (by decide +kernel)) rfl, mem_gw (inT 764 (by decide +kernel)) rfl, in_X7⟩
theorem lk_L_12 : MLK RL 12 mX7_init 0 := ⟨Or.inl (mem_gw (inT 765 (by decide +kernel)) rfl), in_X7, cd_X7_init, ⟨by decide +kernel, by decide +kernel, by decide +kernel⟩, by decide +kernel⟩
theorem lk_L_13 : MLK RL 13 mX6_clear 0 := ⟨Or.inl (mem_gw (inT 327 (by decide +kernel)) rfl), in_X6, cd_X6_clear, ⟨by decide +kernel, by decide +kernel, by decide +kernel⟩, by decide +kernel⟩
theorem lk_L_16 : MLK RL 16 mX7_clear 0 := ⟨Or.inl (mem_gw (inT 891 (by decide +kernel)) rfl), in_X7, cd_X7_clear, ⟨by decide +kernel, by decide +kernel, by decide +kernel⟩, by decide +kernel⟩
theorem lk_L_17 : MLK RL 17 mX6_cell 1 := ⟨Or.inl (mem_gw (inT 335 (by decide +kernel)) rfl), in_X6, cd_X6_cell, ⟨by decide +kernel, by decide +kernel, by decide +kernel⟩, by decide +kernel⟩
theorem lk_L_21 : MLK RL 21 mX7_cell 1 := ⟨Or.inl (mem_gw (inT 895 (by decide +kernel)) rfl), in_X7, cd_X7_cell, ⟨by decide +kernel, by decide +kernel, by decide +kernel⟩, by decide +kernel⟩
theorem lk_L_22 : Cond.constantLong RL 22 4294967295 ∈ gwT := mem_gw (inT 1124 (by decide +kernel)) rfl
theorem lk_L_24 : MLK RL 24 mX6_more 1 := ⟨Or.inl (mem_gw (inT 343 (by decide +kernel)) rfl), in_X6, cd_X6_more, ⟨by decide +kernel, by decide +kernel, by decide +kernel⟩, by decide +kernel⟩
theorem lk_L_28 : MLK RL 28 mX7_more 1 := ⟨Or.inl (mem_gw (inT 899 (by decide +kernel)) rfl), in_X7, cd_X7_more, ⟨by decide +kernel, by decide +kernel, by decide +kernel⟩, by decide +kernel⟩
theorem lk_L_29 : MLK RL 29 mX6_cut 1 := ⟨Or.inl (mem_gw (inT 351 (by decide +kernel)) rfl), in_X6, cd_X6_cut, ⟨by decide +kernel, by decide +kernel, by decide +kernel⟩, by decide +kernel⟩
theorem lk_L_32 : MLK RL 32 mX7_cut 1 := ⟨Or.inl (mem_gw (inT 903 (by decide +kernel)) rfl), in_X7, cd_X7_cut, ⟨by decide +kernel, by decide +kernel, by decide +kernel⟩, by decide +kernel⟩
theorem lk_L_33 : MLK RL 33 mX6_at 1 := ⟨Or.inl (mem_gw (inT 355 (by decide +kernel)) rfl), in_X6, cd_X6_at, ⟨by decide +kernel, by decide +kernel, by decide +kernel⟩, by decide +kernel⟩
theorem lk_L_36 : MLK RL 36 mX7_at 1 := ⟨Or.inl (mem_gw (inT 907 (by decide +kernel)) rfl), in_X7, cd_X7_at, ⟨by decide +kernel, by decide +kernel, by decide +kernel⟩, by decide +kernel⟩
theorem lk_L_37 : MLK RL 37 mX6_read 0 := ⟨Or.inl (mem_gw (inT 363 (by decide +kernel)) rfl), in_X6, cd_X6_read, ⟨by decide +kernel, by decide +kernel, by decide +kernel⟩, by decide +kernel⟩
theorem lk_L_41 : MLK RL 41 mX7_read 0 := ⟨Or.inl (mem_gw (inT 911 (by decide +kernel)) rfl), in_X7, cd_X7_read, ⟨by decide +kernel, by decide +kernel, by decide +kernel⟩, by decide +kernel⟩
theorem lk_L_42 : MLK RL 42 mX6_meter 2 := ⟨Or.inl (mem_gw (inT 556 (by decide +kernel)) rfl), in_X6, cd_X6_meter, ⟨by decide +kernel, by decide +kernel, by decide +kernel⟩, by decide +kernel⟩
theorem lk_L_46 : MLK RL 46 mX7_meter 2 := ⟨Or.inl (mem_gw (inT 1000 (by decide +kernel)) rfl), in_X7, cd_X7_meter, ⟨by decide +kernel, by decide +kernel, by decide +kernel⟩, by decide +kernel⟩
theorem lk_L_47 : MLK RL 47 mX6_hand 1 := ⟨Or.inl (mem_gw (inT 560 (by decide +kernel)) rfl), in_X6, cd_X6_hand, ⟨by decide +kernel, by decide +kernel, by decide +kernel⟩, by decide +kernel⟩
theorem lk_L_50 : MLK RL 50 mX7_hand 1 := ⟨Or.inl (mem_gw (inT 1004 (by decide +kernel)) rfl), in_X7, cd_X7_hand, ⟨by decide +kernel, by decide +kernel, by decide +kernel⟩, by decide +kernel⟩
theorem lk_L_51 : MLK RL 51 mX6_bar 1 := ⟨Or.inl (mem_gw (inT 574 (by decide +kernel)) rfl), in_X6, cd_X6_bar, ⟨by decide +kernel, by decide +kernel, by decide +kernel⟩, by decide +kernel⟩
theorem lk_L_55 : MLK RL 55 mX7_bar 1 := ⟨Or.inl (mem_gw (inT 1008 (by decide +kernel)) rfl), in_X7, cd_X7_bar, ⟨by decide +kernel, by decide +kernel, by decide +kernel⟩, by decide +kernel⟩
theorem lk_L_56 : MLK RL 56 mX6_voice 0 := ⟨Or.inl (mem_gw (inT 592 (by decide +kernel)) rfl), in_X6, cd_X6_voice, ⟨by decide +kernel, by decide +kernel, by decide +kernel⟩, by decide +kernel⟩
theorem lk_L_59 : MLK RL 59 mX7_voice 0 := ⟨Or.inl (mem_gw (inT 1024 (by decide +kernel)) rfl), in_X7, cd_X7_voice, ⟨by decide +kernel, by decide +kernel, by decide +kernel⟩, by decide +kernel⟩
theorem lk_L_60 : MLK RL 60 mX6_note 5 := ⟨Or.inl (mem_gw (inT 599 (by decide +kernel)) rfl), in_X6, cd_X6_note, ⟨by decide +kernel, by decide +kernel, by decide +kernel⟩, by decide +kernel⟩
theorem lk_L_64 : MLK RL 64 mX7_note 5 := ⟨Or.inl (mem_gw (inT 1028 (by decide +kernel)) rfl), in_X7, cd_X7_note, ⟨by decide +kernel, by decide +kernel, by decide +kernel⟩, by decide +kernel⟩
theorem lk_L_65 : MLK RL 65 mX6_rest 3 := ⟨Or.inl (mem_gw (inT 622 (by decide +kernel)) rfl), in_X6, cd_X6_rest, ⟨by decide +kernel, by decide +kernel, by decide +kernel⟩, by decide +kernel⟩
theorem lk_L_69 : MLK RL 69 mX7_rest 3 := ⟨Or.inl (mem_gw (inT 1048 (by decide +kernel)) rfl), in_X7, cd_X7_rest, ⟨by decide +kernel, by decide +kernel, by decide +kernel⟩, by decide +kernel⟩
theorem lk_L_70 : MLK RL 70 mX6_interval 2 := ⟨Or.inl (mem_gw (inT 626 (by decide +kernel)) rfl), in_X6, cd_X6_interval, ⟨by decide +kernel, by decide +kernel, by decide +kernel⟩, by decide +kernel⟩
theorem lk_L_73 : MLK RL 73 mX7_interval 2 := ⟨Or.inl (mem_gw (inT 1052 (by decide +kernel)) rfl), in_X7, cd_X7_interval, ⟨by decide +kernel, by decide +kernel, by decide +kernel⟩, by decide +kernel⟩
theorem lk_L_74 : MLK RL 74 mX6_tie 1 := ⟨Or.inl (mem_gw (inT 633 (by decide +kernel)) rfl), in_X6, cd_X6_tie, ⟨by decide +kernel, by decide +kernel, by decide +kernel⟩, by decide +kernel⟩
theorem lk_L_77 : MLK RL 77 mX7_tie 1 := ⟨Or.inl (mem_gw (inT 1056 (by decide +kernel)) rfl), in_X7, cd_X7_tie, ⟨by decide +kernel, by decide +kernel, by decide +kernel⟩, by decide +kernel⟩
theorem lk_L_78 : MLK RL 78 mX6_slur 2 := ⟨Or.inl (mem_gw (inT 637 (by decide +kernel)) rfl), in_X6, cd_X6_slur, ⟨by decide +kernel, by decide +kernel, by decide +kernel⟩, by decide +kernel⟩
theorem lk_L_82 : MLK RL 82 mX7_slur 2 := ⟨Or.inl (mem_gw (inT 1060 (by decide +kernel)) rfl), in_X7, cd_X7_slur, ⟨by decide +kernel, by decide +kernel, by decide +kernel⟩, by decide +kernel⟩
theorem lk_L_83 : MLK RL 83 mX6_write 1 := ⟨Or.inl (mem_gw (inT 641 (by decide +kernel)) rfl), in_X6, cd_X6_write, ⟨by decide +kernel, by decide +kernel, by decide +kernel⟩, by decide +kernel⟩
theorem lk_L_86 : MLK RL 86 mX7_write 1 := ⟨Or.inl (mem_gw (inT 1064 (by decide +kernel)) rfl), in_X7, cd_X7_write, ⟨by decide +kernel, by decide +kernel, by decide +kernel⟩, by decide +kernel⟩
theorem lk_L_87 : MLK RL 87 mX6_wants 2 := ⟨Or.inl (mem_gw (inT 719 (by decide +kernel)) rfl), in_X6, cd_X6_wants, ⟨by decide +kernel, by decide +kernel, by decide +kernel⟩, by decide +kernel⟩
theorem lk_L_90 : MLK RL 90 mX7_wants 2 := ⟨Or.inl (mem_gw (inT 1092 (by decide +kernel)) rfl), in_X7, cd_X7_wants, ⟨by decide +kernel, by decide +kernel, by decide +kernel⟩, by decide +kernel⟩
theorem lk_L_91 : MLK RL 91 mX6_ways 2 := ⟨Or.inl (mem_gw (inT 724 (by decide +kernel)) rfl), in_X6, cd_X6_ways, ⟨by decide +kernel, by decide +kernel, by decide +kernel⟩, by decide +kernel⟩
theorem lk_L_94 : MLK RL 94 mX7_ways 2 := ⟨Or.inl (mem_gw (inT 1096 (by decide +kernel)) rfl), in_X7, cd_X7_ways, ⟨by decide +kernel, by decide +kernel, by decide +kernel⟩, by decide +kernel⟩
theorem lk_L_95 : MLK RL 95 mX6_signed 2 := ⟨Or.inl (mem_gw (inT 736 (by decide +kernel)) rfl), in_X6, cd_X6_signed, ⟨by decide +kernel, by decide +kernel, by decide +kernel⟩, by decide +kernel⟩
theorem lk_L_98 : MLK RL 98 mX7_signed 2 := ⟨Or.inl (mem_gw (inT 1104 (by decide +kernel)) rfl), in_X7, cd_X7_signed, ⟨by decide +kernel, by decide +kernel, by decide +kernel⟩, by decide +kernel⟩
theorem lk_L_99 : MLK RL 99 mX6_barOf 2 := ⟨Or.inl (mem_gw (inT 741 (by decide +kernel)) rfl), in_X6, cd_X6_barOf, ⟨by decide +kernel, by decide +kernel, by decide +kernel⟩, by decide +kernel⟩
theorem lk_L_102 : MLK RL 102 mX7_barOf 2 := ⟨Or.inl (mem_gw (inT 1108 (by decide +kernel)) rfl), in_X7, cd_X7_barOf, ⟨by decide +kernel, by decide +kernel, by decide +kernel⟩, by decide +kernel⟩
theorem lk_L_103 : MLK RL 103 mX6_item 2 := ⟨Or.inl (mem_gw (inT 749 (by decide +kernel)) rfl), in_X6, cd_X6_item, ⟨by decide +kernel, by decide +kernel, by decide +kernel⟩, by decide +kernel⟩
theorem lk_L_106 : MLK RL 106 mX7_item 2 := ⟨Or.inl (mem_gw (inT 1112 (by decide +kernel)) rfl), in_X7, cd_X7_item, ⟨by decide +kernel, by decide +kernel, by decide +kernel⟩, by decide +kernel⟩
theorem lk_L_107 : MLK RL 107 mX6_loose 0 := ⟨Or.inl (mem_gw (inT 755 (by decide +kernel)) rfl), in_X6, cd_X6_loose, ⟨by decide +kernel, by decide +kernel, by decide +kernel⟩, by decide +kernel⟩
theorem lk_L_110 : MLK RL 110 mX7_loose 0 := ⟨Or.inl (mem_gw (inT 1116 (by decide +kernel)) rfl), in_X7, cd_X7_loose, ⟨by decide +kernel, by decide +kernel, by decide +kernel⟩, by decide +kernel⟩
theorem lk_L_111 : MLK RL 111 mX6_told 1 := ⟨Or.inl (mem_gw (inT 759 (by decide +kernel)) rfl), in_X6, cd_X6_told, ⟨by decide +kernel, by decide +kernel, by decide +kernel⟩, by decide +kernel⟩
theorem lk_L_114 : MLK RL 114 mX7_told 1 := ⟨Or.inl (mem_gw (inT 1120 (by decide +kernel)) rfl), in_X7, cd_X7_told, ⟨by decide +kernel, by decide +kernel, by decide +kernel⟩, by decide +kernel⟩
theorem aw_I : Cond.arrayClass .int ∈ gwT := mem_gw (inT 101 (by decide +kernel)) rfl
theorem aw_Z : Cond.arrayClass .boolean ∈ gwT := mem_gw (inT 304 (by decide +kernel)) rfl
end
