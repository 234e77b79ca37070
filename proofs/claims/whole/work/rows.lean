section
-- ===== PART A: goes FIRST, ahead of the names: the tables' words, and 'selects' of the private methods out of them =====
/-- a private method of a class that the tables say can be made, by its rows of tables_1 -/
def lw_okq (q : MethodName × Nat) : Prop := (q.1.cls ≠ "java/lang/invoke/MethodHandle" ∧ q.1.cls ≠ "java/lang/invoke/VarHandle") ∧ Cond.instantiable q.1.cls q.2 ∈ tables_1 ∧ Cond.privateMethod q.1 ∈ tables_1 ∧ Cond.instanceMethod q.1 ∈ tables_1
theorem lw_p0 : lw_okq (⟨"NewspaperMakeup", "saveState", "()V"⟩, 7) := ⟨⟨by decide +kernel, by decide +kernel⟩, List.mem_of_getElem? (i := 15) (by decide +kernel), List.mem_of_getElem? (i := 243) (by decide +kernel), List.mem_of_getElem? (i := 244) (by decide +kernel)⟩
theorem lw_p1 : lw_okq (⟨"NewspaperMakeup", "discardOldest", "()V"⟩, 7) := ⟨⟨by decide +kernel, by decide +kernel⟩, List.mem_of_getElem? (i := 15) (by decide +kernel), List.mem_of_getElem? (i := 247) (by decide +kernel), List.mem_of_getElem? (i := 248) (by decide +kernel)⟩
theorem lw_p2 : lw_okq (⟨"NewspaperMakeup$Edition", "copyPieces", "(LNewspaperMakeup$Edition;II)V"⟩, 12) := ⟨⟨by decide +kernel, by decide +kernel⟩, List.mem_of_getElem? (i := 29) (by decide +kernel), List.mem_of_getElem? (i := 263) (by decide +kernel), List.mem_of_getElem? (i := 264) (by decide +kernel)⟩
theorem lw_p3 : lw_okq (⟨"NewspaperMakeup", "isPage", "(I)Z"⟩, 7) := ⟨⟨by decide +kernel, by decide +kernel⟩, List.mem_of_getElem? (i := 15) (by decide +kernel), List.mem_of_getElem? (i := 278) (by decide +kernel), List.mem_of_getElem? (i := 279) (by decide +kernel)⟩
theorem lw_p4 : lw_okq (⟨"NewspaperMakeup", "isStory", "(I)Z"⟩, 7) := ⟨⟨by decide +kernel, by decide +kernel⟩, List.mem_of_getElem? (i := 15) (by decide +kernel), List.mem_of_getElem? (i := 298) (by decide +kernel), List.mem_of_getElem? (i := 299) (by decide +kernel)⟩
theorem lw_p5 : lw_okq (⟨"NewspaperMakeup$Paper", "goesAhead", "(II)Z"⟩, 11) := ⟨⟨by decide +kernel, by decide +kernel⟩, List.mem_of_getElem? (i := 23) (by decide +kernel), List.mem_of_getElem? (i := 347) (by decide +kernel), List.mem_of_getElem? (i := 348) (by decide +kernel)⟩
theorem lw_p6 : lw_okq (⟨"NewspaperMakeup$Text", "skipSpaces", "()V"⟩, 4) := ⟨⟨by decide +kernel, by decide +kernel⟩, List.mem_of_getElem? (i := 152) (by decide +kernel), List.mem_of_getElem? (i := 379) (by decide +kernel), List.mem_of_getElem? (i := 380) (by decide +kernel)⟩
theorem lw_p7 : lw_okq (⟨"NewspaperMakeup$Text", "isAt", "(IC)Z"⟩, 4) := ⟨⟨by decide +kernel, by decide +kernel⟩, List.mem_of_getElem? (i := 152) (by decide +kernel), List.mem_of_getElem? (i := 383) (by decide +kernel), List.mem_of_getElem? (i := 384) (by decide +kernel)⟩
theorem lw_p8 : lw_okq (⟨"NewspaperMakeup$Text", "hasFailed", "()Z"⟩, 4) := ⟨⟨by decide +kernel, by decide +kernel⟩, List.mem_of_getElem? (i := 152) (by decide +kernel), List.mem_of_getElem? (i := 387) (by decide +kernel), List.mem_of_getElem? (i := 388) (by decide +kernel)⟩
theorem lw_p9 : lw_okq (⟨"NewspaperMakeup$Text", "readStory", "(LNewspaperMakeup$Paper;)V"⟩, 4) := ⟨⟨by decide +kernel, by decide +kernel⟩, List.mem_of_getElem? (i := 152) (by decide +kernel), List.mem_of_getElem? (i := 391) (by decide +kernel), List.mem_of_getElem? (i := 392) (by decide +kernel)⟩
theorem lw_p10 : lw_okq (⟨"NewspaperMakeup$Text", "failAt", "(I)V"⟩, 4) := ⟨⟨by decide +kernel, by decide +kernel⟩, List.mem_of_getElem? (i := 152) (by decide +kernel), List.mem_of_getElem? (i := 395) (by decide +kernel), List.mem_of_getElem? (i := 396) (by decide +kernel)⟩
theorem lw_p11 : lw_okq (⟨"NewspaperMakeup$Text", "readNumber", "(II)I"⟩, 4) := ⟨⟨by decide +kernel, by decide +kernel⟩, List.mem_of_getElem? (i := 152) (by decide +kernel), List.mem_of_getElem? (i := 399) (by decide +kernel), List.mem_of_getElem? (i := 400) (by decide +kernel)⟩
theorem lw_p12 : lw_okq (⟨"NewspaperMakeup$Text", "isDigitAt", "(I)Z"⟩, 4) := ⟨⟨by decide +kernel, by decide +kernel⟩, List.mem_of_getElem? (i := 152) (by decide +kernel), List.mem_of_getElem? (i := 403) (by decide +kernel), List.mem_of_getElem? (i := 404) (by decide +kernel)⟩
theorem lw_p13 : lw_okq (⟨"NewspaperMakeup$Text", "readSign", "(C)V"⟩, 4) := ⟨⟨by decide +kernel, by decide +kernel⟩, List.mem_of_getElem? (i := 152) (by decide +kernel), List.mem_of_getElem? (i := 408) (by decide +kernel), List.mem_of_getElem? (i := 409) (by decide +kernel)⟩
theorem lw_p14 : lw_okq (⟨"NewspaperMakeup$Text", "readParagraphs", "(LNewspaperMakeup$Paper;I)V"⟩, 4) := ⟨⟨by decide +kernel, by decide +kernel⟩, List.mem_of_getElem? (i := 152) (by decide +kernel), List.mem_of_getElem? (i := 413) (by decide +kernel), List.mem_of_getElem? (i := 414) (by decide +kernel)⟩
theorem lw_p15 : lw_okq (⟨"NewspaperMakeup$Maker", "putInOrder", "(LNewspaperMakeup$Paper;)I"⟩, 2) := ⟨⟨by decide +kernel, by decide +kernel⟩, List.mem_of_getElem? (i := 172) (by decide +kernel), List.mem_of_getElem? (i := 440) (by decide +kernel), List.mem_of_getElem? (i := 441) (by decide +kernel)⟩
def lw_privs_1 : List (MethodName × Nat) := [(⟨"NewspaperMakeup", "saveState", "()V"⟩, 7), (⟨"NewspaperMakeup", "discardOldest", "()V"⟩, 7), (⟨"NewspaperMakeup$Edition", "copyPieces", "(LNewspaperMakeup$Edition;II)V"⟩, 12), (⟨"NewspaperMakeup", "isPage", "(I)Z"⟩, 7), (⟨"NewspaperMakeup", "isStory", "(I)Z"⟩, 7), (⟨"NewspaperMakeup$Paper", "goesAhead", "(II)Z"⟩, 11), (⟨"NewspaperMakeup$Text", "skipSpaces", "()V"⟩, 4), (⟨"NewspaperMakeup$Text", "isAt", "(IC)Z"⟩, 4), (⟨"NewspaperMakeup$Text", "hasFailed", "()Z"⟩, 4), (⟨"NewspaperMakeup$Text", "readStory", "(LNewspaperMakeup$Paper;)V"⟩, 4), (⟨"NewspaperMakeup$Text", "failAt", "(I)V"⟩, 4), (⟨"NewspaperMakeup$Text", "readNumber", "(II)I"⟩, 4), (⟨"NewspaperMakeup$Text", "isDigitAt", "(I)Z"⟩, 4), (⟨"NewspaperMakeup$Text", "readSign", "(C)V"⟩, 4), (⟨"NewspaperMakeup$Text", "readParagraphs", "(LNewspaperMakeup$Paper;I)V"⟩, 4), (⟨"NewspaperMakeup$Maker", "putInOrder", "(LNewspaperMakeup$Paper;)I"⟩, 2)]
theorem lw_r1 : ∀ q ∈ lw_privs_1, lw_okq q := List.forall_mem_cons.mpr ⟨lw_p0, List.forall_mem_cons.mpr ⟨lw_p1, List.forall_mem_cons.mpr ⟨lw_p2, List.forall_mem_cons.mpr ⟨lw_p3, List.forall_mem_cons.mpr ⟨lw_p4, List.forall_mem_cons.mpr ⟨lw_p5, List.forall_mem_cons.mpr ⟨lw_p6, List.forall_mem_cons.mpr ⟨lw_p7, List.forall_mem_cons.mpr ⟨lw_p8, List.forall_mem_cons.mpr ⟨lw_p9, List.forall_mem_cons.mpr ⟨lw_p10, List.forall_mem_cons.mpr ⟨lw_p11, List.forall_mem_cons.mpr ⟨lw_p12, List.forall_mem_cons.mpr ⟨lw_p13, List.forall_mem_cons.mpr ⟨lw_p14, List.forall_mem_cons.mpr ⟨lw_p15, fun _ h => absurd h List.not_mem_nil⟩⟩⟩⟩⟩⟩⟩⟩⟩⟩⟩⟩⟩⟩⟩⟩
theorem lw_p16 : lw_okq (⟨"NewspaperMakeup$Maker", "staysInPlace", "(LNewspaperMakeup$Paper;I)Z"⟩, 2) := ⟨⟨by decide +kernel, by decide +kernel⟩, List.mem_of_getElem? (i := 172) (by decide +kernel), List.mem_of_getElem? (i := 445) (by decide +kernel), List.mem_of_getElem? (i := 446) (by decide +kernel)⟩
theorem lw_p17 : lw_okq (⟨"NewspaperMakeup$Maker", "placeAnew", "(LNewspaperMakeup$Paper;LNewspaperMakeup$Edition;I)V"⟩, 2) := ⟨⟨by decide +kernel, by decide +kernel⟩, List.mem_of_getElem? (i := 172) (by decide +kernel), List.mem_of_getElem? (i := 464) (by decide +kernel), List.mem_of_getElem? (i := 465) (by decide +kernel)⟩
theorem lw_p18 : lw_okq (⟨"NewspaperMakeup$Maker", "placeNextPiece", "(LNewspaperMakeup$Paper;LNewspaperMakeup$Edition;II)I"⟩, 2) := ⟨⟨by decide +kernel, by decide +kernel⟩, List.mem_of_getElem? (i := 172) (by decide +kernel), List.mem_of_getElem? (i := 468) (by decide +kernel), List.mem_of_getElem? (i := 469) (by decide +kernel)⟩
theorem lw_p19 : lw_okq (⟨"NewspaperMakeup$Maker", "placeInFirstGap", "(LNewspaperMakeup$Paper;LNewspaperMakeup$Edition;III)Z"⟩, 2) := ⟨⟨by decide +kernel, by decide +kernel⟩, List.mem_of_getElem? (i := 172) (by decide +kernel), List.mem_of_getElem? (i := 472) (by decide +kernel), List.mem_of_getElem? (i := 473) (by decide +kernel)⟩
theorem lw_p20 : lw_okq (⟨"NewspaperMakeup$Sheet", "startsOfRoom", "(JI)J"⟩, 4) := ⟨⟨by decide +kernel, by decide +kernel⟩, List.mem_of_getElem? (i := 178) (by decide +kernel), List.mem_of_getElem? (i := 490) (by decide +kernel), List.mem_of_getElem? (i := 491) (by decide +kernel)⟩
theorem lw_p21 : lw_okq (⟨"NewspaperMakeup", "hasEdition", "()Z"⟩, 7) := ⟨⟨by decide +kernel, by decide +kernel⟩, List.mem_of_getElem? (i := 15) (by decide +kernel), List.mem_of_getElem? (i := 528) (by decide +kernel), List.mem_of_getElem? (i := 529) (by decide +kernel)⟩
theorem lw_p22 : lw_okq (⟨"NewspaperMakeupModel", "of", "(II)I"⟩, 11) := ⟨⟨by decide +kernel, by decide +kernel⟩, List.mem_of_getElem? (i := 609) (by decide +kernel), List.mem_of_getElem? (i := 661) (by decide +kernel), List.mem_of_getElem? (i := 662) (by decide +kernel)⟩
theorem lw_p23 : lw_okq (⟨"NewspaperMakeupModel", "notes", "()V"⟩, 11) := ⟨⟨by decide +kernel, by decide +kernel⟩, List.mem_of_getElem? (i := 609) (by decide +kernel), List.mem_of_getElem? (i := 665) (by decide +kernel), List.mem_of_getElem? (i := 666) (by decide +kernel)⟩
theorem lw_p24 : lw_okq (⟨"NewspaperMakeupModel", "puts", "(III)V"⟩, 11) := ⟨⟨by decide +kernel, by decide +kernel⟩, List.mem_of_getElem? (i := 609) (by decide +kernel), List.mem_of_getElem? (i := 669) (by decide +kernel), List.mem_of_getElem? (i := 670) (by decide +kernel)⟩
theorem lw_p25 : lw_okq (⟨"NewspaperMakeupModel", "isPage", "(I)Z"⟩, 11) := ⟨⟨by decide +kernel, by decide +kernel⟩, List.mem_of_getElem? (i := 609) (by decide +kernel), List.mem_of_getElem? (i := 677) (by decide +kernel), List.mem_of_getElem? (i := 678) (by decide +kernel)⟩
theorem lw_p26 : lw_okq (⟨"NewspaperMakeupModel", "adds", "(II)I"⟩, 11) := ⟨⟨by decide +kernel, by decide +kernel⟩, List.mem_of_getElem? (i := 609) (by decide +kernel), List.mem_of_getElem? (i := 681) (by decide +kernel), List.mem_of_getElem? (i := 682) (by decide +kernel)⟩
theorem lw_p27 : lw_okq (⟨"NewspaperMakeupModel", "lengthens", "(II)V"⟩, 11) := ⟨⟨by decide +kernel, by decide +kernel⟩, List.mem_of_getElem? (i := 609) (by decide +kernel), List.mem_of_getElem? (i := 685) (by decide +kernel), List.mem_of_getElem? (i := 686) (by decide +kernel)⟩
theorem lw_p28 : lw_okq (⟨"NewspaperMakeupModel", "isStory", "(I)Z"⟩, 11) := ⟨⟨by decide +kernel, by decide +kernel⟩, List.mem_of_getElem? (i := 609) (by decide +kernel), List.mem_of_getElem? (i := 693) (by decide +kernel), List.mem_of_getElem? (i := 694) (by decide +kernel)⟩
theorem lw_p29 : lw_okq (⟨"NewspaperMakeupModel", "turns", "(II)I"⟩, 11) := ⟨⟨by decide +kernel, by decide +kernel⟩, List.mem_of_getElem? (i := 609) (by decide +kernel), List.mem_of_getElem? (i := 713) (by decide +kernel), List.mem_of_getElem? (i := 714) (by decide +kernel)⟩
theorem lw_p30 : lw_okq (⟨"NewspaperMakeupModel", "alive", "()I"⟩, 11) := ⟨⟨by decide +kernel, by decide +kernel⟩, List.mem_of_getElem? (i := 609) (by decide +kernel), List.mem_of_getElem? (i := 717) (by decide +kernel), List.mem_of_getElem? (i := 718) (by decide +kernel)⟩
theorem lw_p31 : lw_okq (⟨"NewspaperMakeupModel", "lines", "(III)I"⟩, 11) := ⟨⟨by decide +kernel, by decide +kernel⟩, List.mem_of_getElem? (i := 609) (by decide +kernel), List.mem_of_getElem? (i := 729) (by decide +kernel), List.mem_of_getElem? (i := 730) (by decide +kernel)⟩
def lw_privs_2 : List (MethodName × Nat) := [(⟨"NewspaperMakeup$Maker", "staysInPlace", "(LNewspaperMakeup$Paper;I)Z"⟩, 2), (⟨"NewspaperMakeup$Maker", "placeAnew", "(LNewspaperMakeup$Paper;LNewspaperMakeup$Edition;I)V"⟩, 2), (⟨"NewspaperMakeup$Maker", "placeNextPiece", "(LNewspaperMakeup$Paper;LNewspaperMakeup$Edition;II)I"⟩, 2), (⟨"NewspaperMakeup$Maker", "placeInFirstGap", "(LNewspaperMakeup$Paper;LNewspaperMakeup$Edition;III)Z"⟩, 2), (⟨"NewspaperMakeup$Sheet", "startsOfRoom", "(JI)J"⟩, 4), (⟨"NewspaperMakeup", "hasEdition", "()Z"⟩, 7), (⟨"NewspaperMakeupModel", "of", "(II)I"⟩, 11), (⟨"NewspaperMakeupModel", "notes", "()V"⟩, 11), (⟨"NewspaperMakeupModel", "puts", "(III)V"⟩, 11), (⟨"NewspaperMakeupModel", "isPage", "(I)Z"⟩, 11), (⟨"NewspaperMakeupModel", "adds", "(II)I"⟩, 11), (⟨"NewspaperMakeupModel", "lengthens", "(II)V"⟩, 11), (⟨"NewspaperMakeupModel", "isStory", "(I)Z"⟩, 11), (⟨"NewspaperMakeupModel", "turns", "(II)I"⟩, 11), (⟨"NewspaperMakeupModel", "alive", "()I"⟩, 11), (⟨"NewspaperMakeupModel", "lines", "(III)I"⟩, 11)]
theorem lw_r2 : ∀ q ∈ lw_privs_2, lw_okq q := List.forall_mem_cons.mpr ⟨lw_p16, List.forall_mem_cons.mpr ⟨lw_p17, List.forall_mem_cons.mpr ⟨lw_p18, List.forall_mem_cons.mpr ⟨lw_p19, List.forall_mem_cons.mpr ⟨lw_p20, List.forall_mem_cons.mpr ⟨lw_p21, List.forall_mem_cons.mpr ⟨lw_p22, List.forall_mem_cons.mpr ⟨lw_p23, List.forall_mem_cons.mpr ⟨lw_p24, List.forall_mem_cons.mpr ⟨lw_p25, List.forall_mem_cons.mpr ⟨lw_p26, List.forall_mem_cons.mpr ⟨lw_p27, List.forall_mem_cons.mpr ⟨lw_p28, List.forall_mem_cons.mpr ⟨lw_p29, List.forall_mem_cons.mpr ⟨lw_p30, List.forall_mem_cons.mpr ⟨lw_p31, fun _ h => absurd h List.not_mem_nil⟩⟩⟩⟩⟩⟩⟩⟩⟩⟩⟩⟩⟩⟩⟩⟩
theorem lw_p32 : lw_okq (⟨"NewspaperMakeupModel", "ahead", "(I)I"⟩, 11) := ⟨⟨by decide +kernel, by decide +kernel⟩, List.mem_of_getElem? (i := 609) (by decide +kernel), List.mem_of_getElem? (i := 733) (by decide +kernel), List.mem_of_getElem? (i := 734) (by decide +kernel)⟩
theorem lw_p33 : lw_okq (⟨"NewspaperMakeupModel", "isAhead", "(II)Z"⟩, 11) := ⟨⟨by decide +kernel, by decide +kernel⟩, List.mem_of_getElem? (i := 609) (by decide +kernel), List.mem_of_getElem? (i := 737) (by decide +kernel), List.mem_of_getElem? (i := 738) (by decide +kernel)⟩
theorem lw_p34 : lw_okq (⟨"NewspaperMakeupModel", "here", "()I"⟩, 11) := ⟨⟨by decide +kernel, by decide +kernel⟩, List.mem_of_getElem? (i := 609) (by decide +kernel), List.mem_of_getElem? (i := 761) (by decide +kernel), List.mem_of_getElem? (i := 762) (by decide +kernel)⟩
theorem lw_p35 : lw_okq (⟨"NewspaperMakeupModel", "readsStory", "()Z"⟩, 11) := ⟨⟨by decide +kernel, by decide +kernel⟩, List.mem_of_getElem? (i := 609) (by decide +kernel), List.mem_of_getElem? (i := 765) (by decide +kernel), List.mem_of_getElem? (i := 766) (by decide +kernel)⟩
theorem lw_p36 : lw_okq (⟨"NewspaperMakeupModel", "reads", "(II)Z"⟩, 11) := ⟨⟨by decide +kernel, by decide +kernel⟩, List.mem_of_getElem? (i := 609) (by decide +kernel), List.mem_of_getElem? (i := 769) (by decide +kernel), List.mem_of_getElem? (i := 770) (by decide +kernel)⟩
theorem lw_p37 : lw_okq (⟨"NewspaperMakeupModel", "isDigit", "()Z"⟩, 11) := ⟨⟨by decide +kernel, by decide +kernel⟩, List.mem_of_getElem? (i := 609) (by decide +kernel), List.mem_of_getElem? (i := 773) (by decide +kernel), List.mem_of_getElem? (i := 774) (by decide +kernel)⟩
theorem lw_p38 : lw_okq (⟨"NewspaperMakeupModel", "takes", "(I)Z"⟩, 11) := ⟨⟨by decide +kernel, by decide +kernel⟩, List.mem_of_getElem? (i := 609) (by decide +kernel), List.mem_of_getElem? (i := 777) (by decide +kernel), List.mem_of_getElem? (i := 778) (by decide +kernel)⟩
theorem lw_p39 : lw_okq (⟨"NewspaperMakeupModel", "exchanges", "()V"⟩, 11) := ⟨⟨by decide +kernel, by decide +kernel⟩, List.mem_of_getElem? (i := 609) (by decide +kernel), List.mem_of_getElem? (i := 781) (by decide +kernel), List.mem_of_getElem? (i := 782) (by decide +kernel)⟩
theorem lw_p40 : lw_okq (⟨"NewspaperMakeupModel", "makes", "()I"⟩, 11) := ⟨⟨by decide +kernel, by decide +kernel⟩, List.mem_of_getElem? (i := 609) (by decide +kernel), List.mem_of_getElem? (i := 789) (by decide +kernel), List.mem_of_getElem? (i := 790) (by decide +kernel)⟩
theorem lw_p41 : lw_okq (⟨"NewspaperMakeupModel", "stays", "(I)Z"⟩, 11) := ⟨⟨by decide +kernel, by decide +kernel⟩, List.mem_of_getElem? (i := 609) (by decide +kernel), List.mem_of_getElem? (i := 793) (by decide +kernel), List.mem_of_getElem? (i := 794) (by decide +kernel)⟩
theorem lw_p42 : lw_okq (⟨"NewspaperMakeupModel", "prints", "(IIIIII)V"⟩, 11) := ⟨⟨by decide +kernel, by decide +kernel⟩, List.mem_of_getElem? (i := 609) (by decide +kernel), List.mem_of_getElem? (i := 800) (by decide +kernel), List.mem_of_getElem? (i := 801) (by decide +kernel)⟩
theorem lw_p43 : lw_okq (⟨"NewspaperMakeupModel", "marks", "(IIIIZ)V"⟩, 11) := ⟨⟨by decide +kernel, by decide +kernel⟩, List.mem_of_getElem? (i := 609) (by decide +kernel), List.mem_of_getElem? (i := 804) (by decide +kernel), List.mem_of_getElem? (i := 805) (by decide +kernel)⟩
theorem lw_p44 : lw_okq (⟨"NewspaperMakeupModel", "places", "(I)Z"⟩, 11) := ⟨⟨by decide +kernel, by decide +kernel⟩, List.mem_of_getElem? (i := 609) (by decide +kernel), List.mem_of_getElem? (i := 808) (by decide +kernel), List.mem_of_getElem? (i := 809) (by decide +kernel)⟩
theorem lw_p45 : lw_okq (⟨"NewspaperMakeupModel", "gap", "(II)I"⟩, 11) := ⟨⟨by decide +kernel, by decide +kernel⟩, List.mem_of_getElem? (i := 609) (by decide +kernel), List.mem_of_getElem? (i := 812) (by decide +kernel), List.mem_of_getElem? (i := 813) (by decide +kernel)⟩
theorem lw_p46 : lw_okq (⟨"NewspaperMakeupModel", "continues", "(III)Z"⟩, 11) := ⟨⟨by decide +kernel, by decide +kernel⟩, List.mem_of_getElem? (i := 609) (by decide +kernel), List.mem_of_getElem? (i := 816) (by decide +kernel), List.mem_of_getElem? (i := 817) (by decide +kernel)⟩
theorem lw_p47 : lw_okq (⟨"NewspaperMakeupModel", "pageFor", "(III)I"⟩, 11) := ⟨⟨by decide +kernel, by decide +kernel⟩, List.mem_of_getElem? (i := 609) (by decide +kernel), List.mem_of_getElem? (i := 820) (by decide +kernel), List.mem_of_getElem? (i := 821) (by decide +kernel)⟩
def lw_privs_3 : List (MethodName × Nat) := [(⟨"NewspaperMakeupModel", "ahead", "(I)I"⟩, 11), (⟨"NewspaperMakeupModel", "isAhead", "(II)Z"⟩, 11), (⟨"NewspaperMakeupModel", "here", "()I"⟩, 11), (⟨"NewspaperMakeupModel", "readsStory", "()Z"⟩, 11), (⟨"NewspaperMakeupModel", "reads", "(II)Z"⟩, 11), (⟨"NewspaperMakeupModel", "isDigit", "()Z"⟩, 11), (⟨"NewspaperMakeupModel", "takes", "(I)Z"⟩, 11), (⟨"NewspaperMakeupModel", "exchanges", "()V"⟩, 11), (⟨"NewspaperMakeupModel", "makes", "()I"⟩, 11), (⟨"NewspaperMakeupModel", "stays", "(I)Z"⟩, 11), (⟨"NewspaperMakeupModel", "prints", "(IIIIII)V"⟩, 11), (⟨"NewspaperMakeupModel", "marks", "(IIIIZ)V"⟩, 11), (⟨"NewspaperMakeupModel", "places", "(I)Z"⟩, 11), (⟨"NewspaperMakeupModel", "gap", "(II)I"⟩, 11), (⟨"NewspaperMakeupModel", "continues", "(III)Z"⟩, 11), (⟨"NewspaperMakeupModel", "pageFor", "(III)I"⟩, 11)]
theorem lw_r3 : ∀ q ∈ lw_privs_3, lw_okq q := List.forall_mem_cons.mpr ⟨lw_p32, List.forall_mem_cons.mpr ⟨lw_p33, List.forall_mem_cons.mpr ⟨lw_p34, List.forall_mem_cons.mpr ⟨lw_p35, List.forall_mem_cons.mpr ⟨lw_p36, List.forall_mem_cons.mpr ⟨lw_p37, List.forall_mem_cons.mpr ⟨lw_p38, List.forall_mem_cons.mpr ⟨lw_p39, List.forall_mem_cons.mpr ⟨lw_p40, List.forall_mem_cons.mpr ⟨lw_p41, List.forall_mem_cons.mpr ⟨lw_p42, List.forall_mem_cons.mpr ⟨lw_p43, List.forall_mem_cons.mpr ⟨lw_p44, List.forall_mem_cons.mpr ⟨lw_p45, List.forall_mem_cons.mpr ⟨lw_p46, List.forall_mem_cons.mpr ⟨lw_p47, fun _ h => absurd h List.not_mem_nil⟩⟩⟩⟩⟩⟩⟩⟩⟩⟩⟩⟩⟩⟩⟩⟩
theorem lw_p48 : lw_okq (⟨"NewspaperMakeupModel", "takesBack", "(I)V"⟩, 11) := ⟨⟨by decide +kernel, by decide +kernel⟩, List.mem_of_getElem? (i := 609) (by decide +kernel), List.mem_of_getElem? (i := 824) (by decide +kernel), List.mem_of_getElem? (i := 825) (by decide +kernel)⟩
theorem lw_p49 : lw_okq (⟨"NewspaperMakeupModel", "moves", "(I)Z"⟩, 11) := ⟨⟨by decide +kernel, by decide +kernel⟩, List.mem_of_getElem? (i := 609) (by decide +kernel), List.mem_of_getElem? (i := 828) (by decide +kernel), List.mem_of_getElem? (i := 829) (by decide +kernel)⟩
theorem lw_p50 : lw_okq (⟨"NewspaperMakeupModel", "sum", "(I)I"⟩, 11) := ⟨⟨by decide +kernel, by decide +kernel⟩, List.mem_of_getElem? (i := 609) (by decide +kernel), List.mem_of_getElem? (i := 836) (by decide +kernel), List.mem_of_getElem? (i := 837) (by decide +kernel)⟩
theorem lw_p51 : lw_okq (⟨"NewspaperMakeupModel", "printed", "(II)I"⟩, 11) := ⟨⟨by decide +kernel, by decide +kernel⟩, List.mem_of_getElem? (i := 609) (by decide +kernel), List.mem_of_getElem? (i := 840) (by decide +kernel), List.mem_of_getElem? (i := 841) (by decide +kernel)⟩
theorem lw_p52 : lw_okq (⟨"NewspaperMakeupModel", "owner", "(III)I"⟩, 11) := ⟨⟨by decide +kernel, by decide +kernel⟩, List.mem_of_getElem? (i := 609) (by decide +kernel), List.mem_of_getElem? (i := 856) (by decide +kernel), List.mem_of_getElem? (i := 857) (by decide +kernel)⟩
theorem lw_p53 : lw_okq (⟨"NewspaperMakeupModel", "freeLines", "()I"⟩, 11) := ⟨⟨by decide +kernel, by decide +kernel⟩, List.mem_of_getElem? (i := 609) (by decide +kernel), List.mem_of_getElem? (i := 872) (by decide +kernel), List.mem_of_getElem? (i := 873) (by decide +kernel)⟩
theorem lw_p54 : lw_okq (⟨"NewspaperMakeupModel", "keeps", "()V"⟩, 11) := ⟨⟨by decide +kernel, by decide +kernel⟩, List.mem_of_getElem? (i := 609) (by decide +kernel), List.mem_of_getElem? (i := 880) (by decide +kernel), List.mem_of_getElem? (i := 881) (by decide +kernel)⟩
theorem lw_p55 : lw_okq (⟨"NewspaperMakeupModel", "restores", "()V"⟩, 11) := ⟨⟨by decide +kernel, by decide +kernel⟩, List.mem_of_getElem? (i := 609) (by decide +kernel), List.mem_of_getElem? (i := 884) (by decide +kernel), List.mem_of_getElem? (i := 885) (by decide +kernel)⟩
def lw_privs_4 : List (MethodName × Nat) := [(⟨"NewspaperMakeupModel", "takesBack", "(I)V"⟩, 11), (⟨"NewspaperMakeupModel", "moves", "(I)Z"⟩, 11), (⟨"NewspaperMakeupModel", "sum", "(I)I"⟩, 11), (⟨"NewspaperMakeupModel", "printed", "(II)I"⟩, 11), (⟨"NewspaperMakeupModel", "owner", "(III)I"⟩, 11), (⟨"NewspaperMakeupModel", "freeLines", "()I"⟩, 11), (⟨"NewspaperMakeupModel", "keeps", "()V"⟩, 11), (⟨"NewspaperMakeupModel", "restores", "()V"⟩, 11)]
theorem lw_r4 : ∀ q ∈ lw_privs_4, lw_okq q := List.forall_mem_cons.mpr ⟨lw_p48, List.forall_mem_cons.mpr ⟨lw_p49, List.forall_mem_cons.mpr ⟨lw_p50, List.forall_mem_cons.mpr ⟨lw_p51, List.forall_mem_cons.mpr ⟨lw_p52, List.forall_mem_cons.mpr ⟨lw_p53, List.forall_mem_cons.mpr ⟨lw_p54, List.forall_mem_cons.mpr ⟨lw_p55, fun _ h => absurd h List.not_mem_nil⟩⟩⟩⟩⟩⟩⟩⟩
def lw_privs : List (MethodName × Nat) := lw_privs_1 ++ (lw_privs_2 ++ (lw_privs_3 ++ (lw_privs_4)))
def lw_tbl : List Cond := k2_sels lw_privs ++ tables_1
theorem lw_privs_ok : ∀ q ∈ lw_privs, lw_okq q := by
  show ∀ q ∈ lw_privs_1 ++ (lw_privs_2 ++ (lw_privs_3 ++ (lw_privs_4))), lw_okq q
  exact List.forall_mem_append.mpr ⟨lw_r1, List.forall_mem_append.mpr ⟨lw_r2, List.forall_mem_append.mpr ⟨lw_r3, lw_r4⟩⟩⟩
-- ===== end of PART A; then your names; then what follows =====
-- names of NAMES.whole
/-! ===== BEGIN words of one list among another's, by their places ===== -/
theorem goodIn_r {big : List Cond} (ws : List Cond) (ps : List Nat) (hp : ws = ps.filterMap (fun i => big[i]?)) (h : ws.all goodWord = true) : GoodIn big ws := by
  intro w hw
  have h1 := List.all_eq_true.mp h w hw
  rw [hp] at hw
  obtain ⟨i, -, hi⟩ := List.mem_filterMap.mp hw
  have hm : w ∈ big := by first | exact List.mem_of_getElem? hi | exact List.getElem?_mem hi
  exact ⟨hm, good_of_word h1⟩
theorem goodIn_app {big a b : List Cond} (ha : GoodIn big a) (hb : GoodIn big b) : GoodIn big (a ++ b) := fun w h => (List.mem_append.mp h).elim (ha w) (hb w)
theorem goodIn_ca {big a b : List Cond} {c : Cond} (ha : GoodIn big (c :: a)) (hb : GoodIn big b) : GoodIn big (c :: (a ++ b)) := fun w h => (List.mem_cons.mp h).elim (fun e => ha w (List.mem_cons.mpr (Or.inl e))) (fun h => (List.mem_append.mp h).elim (fun h => ha w (List.mem_cons.mpr (Or.inr h))) (hb w))
theorem goodIn_sub {big ws : List Cond} (hm : ∀ w ∈ ws, w ∈ big) (h : ws.all goodWord = true) : GoodIn big ws := fun w hw => ⟨hm w hw, good_of_word (List.all_eq_true.mp h w hw)⟩
/-! ===== END ===== -/

/-! ===== BEGIN printed: names, fields, word lists, decode rows ===== -/
def RX0 : String := "NewspaperMakeup$Edition"
def TX0 : u_T := fun k => match k with
  | 0 => ("NewspaperMakeup$Edition", "number", "I", false)
  | 1 => ("NewspaperMakeup$Edition", "pages", "I", false)
  | 2 => ("NewspaperMakeup$Edition", "columns", "I", false)
  | 3 => ("NewspaperMakeup$Edition", "lines", "I", false)
  | 4 => ("NewspaperMakeup$Edition", "pieceCount", "[I", true)
  | 5 => ("NewspaperMakeup$Edition", "moved", "[Z", true)
  | 6 => ("NewspaperMakeup$Edition", "page", "[I", true)
  | 7 => ("NewspaperMakeup$Edition", "column", "[I", true)
  | 8 => ("NewspaperMakeup$Edition", "top", "[I", true)
  | 9 => ("NewspaperMakeup$Edition", "size", "[I", true)
  | 10 => ("NewspaperMakeup$Edition", "first", "[I", true)
  | _ => ("NewspaperMakeup$Edition", "paragraphs", "[I", true)
def tyX0 : Nat → FieldType := fun k => match k with
  | 0 => .int
  | 1 => .int
  | 2 => .int
  | 3 => .int
  | 4 => .array .int
  | 5 => .array .boolean
  | 6 => .array .int
  | 7 => .array .int
  | 8 => .array .int
  | 9 => .array .int
  | 10 => .array .int
  | _ => .array .int
abbrev wsX00 : List Cond := u_ws RX0 TX0 12
theorem nmX0 : ∀ a, a < 12 → ∀ b, b < 12 → a ≠ b → (TX0 a).2.1 ≠ (TX0 b).2.1 := by decide +kernel
theorem tyX0_ok : ∀ k, k < 12 → parseFieldDescriptor (TX0 k).2.2.1 = some (tyX0 k) := by decide +kernel
abbrev cX0_init : ByteArray := prog_2_method_1_code
def yX0_init : MethodName := ⟨RX0, "<init>", "()V"⟩
abbrev cX0_copyFrom : ByteArray := prog_2_method_2_code
def yX0_copyFrom : MethodName := ⟨RX0, "copyFrom", "(LNewspaperMakeup$Edition;)V"⟩
abbrev cX0_copyPieces : ByteArray := prog_2_method_3_code
def yX0_copyPieces : MethodName := ⟨RX0, "copyPieces", "(LNewspaperMakeup$Edition;II)V"⟩
abbrev cX0_beginFor : ByteArray := prog_2_method_4_code
def yX0_beginFor : MethodName := ⟨RX0, "beginFor", "(LNewspaperMakeup$Paper;)V"⟩
abbrev cX0_keepPieces : ByteArray := prog_2_method_5_code
def yX0_keepPieces : MethodName := ⟨RX0, "keepPieces", "(LNewspaperMakeup$Edition;I)V"⟩
abbrev cX0_addPiece : ByteArray := prog_2_method_6_code
def yX0_addPiece : MethodName := ⟨RX0, "addPiece", "(IIIIII)V"⟩
abbrev cX0_isPrinted : ByteArray := prog_2_method_7_code
def yX0_isPrinted : MethodName := ⟨RX0, "isPrinted", "(I)Z"⟩
abbrev cX0_hasPieceOn : ByteArray := prog_2_method_8_code
def yX0_hasPieceOn : MethodName := ⟨RX0, "hasPieceOn", "(II)Z"⟩
abbrev cX0_isMovedSince : ByteArray := prog_2_method_9_code
def yX0_isMovedSince : MethodName := ⟨RX0, "isMovedSince", "(LNewspaperMakeup$Edition;I)Z"⟩
abbrev cX0_printedStories : ByteArray := prog_2_method_10_code
def yX0_printedStories : MethodName := ⟨RX0, "printedStories", "()I"⟩
abbrev cX0_heldOverStories : ByteArray := prog_2_method_11_code
def yX0_heldOverStories : MethodName := ⟨RX0, "heldOverStories", "()I"⟩
abbrev cX0_movedStories : ByteArray := prog_2_method_12_code
def yX0_movedStories : MethodName := ⟨RX0, "movedStories", "()I"⟩
abbrev cX0_allPieces : ByteArray := prog_2_method_13_code
def yX0_allPieces : MethodName := ⟨RX0, "allPieces", "()I"⟩
abbrev cX0_jumpLines : ByteArray := prog_2_method_14_code
def yX0_jumpLines : MethodName := ⟨RX0, "jumpLines", "()I"⟩
abbrev cX0_freeLines : ByteArray := prog_2_method_15_code
def yX0_freeLines : MethodName := ⟨RX0, "freeLines", "()I"⟩
abbrev cX0_propertyOf : ByteArray := prog_2_method_16_code
def yX0_propertyOf : MethodName := ⟨RX0, "propertyOf", "(III)I"⟩
abbrev cX0_storyOnLine : ByteArray := prog_2_method_17_code
def yX0_storyOnLine : MethodName := ⟨RX0, "storyOnLine", "(III)I"⟩
def RX1 : String := "NewspaperMakeup$Maker"
def TX1 : u_T := fun k => match k with
  | 0 => ("NewspaperMakeup$Maker", "sheet", "LNewspaperMakeup$Sheet;", true)
  | _ => ("NewspaperMakeup$Maker", "order", "[I", true)
def tyX1 : Nat → FieldType := fun k => match k with
  | 0 => .object "NewspaperMakeup$Sheet"
  | _ => .array .int
abbrev wsX10 : List Cond := u_ws RX1 TX1 2
theorem nmX1 : ∀ a, a < 2 → ∀ b, b < 2 → a ≠ b → (TX1 a).2.1 ≠ (TX1 b).2.1 := by decide +kernel
theorem tyX1_ok : ∀ k, k < 2 → parseFieldDescriptor (TX1 k).2.2.1 = some (tyX1 k) := by decide +kernel
abbrev cX1_init : ByteArray := prog_3_method_1_code
def yX1_init : MethodName := ⟨RX1, "<init>", "()V"⟩
abbrev cX1_plan : ByteArray := prog_3_method_2_code
def yX1_plan : MethodName := ⟨RX1, "plan", "(LNewspaperMakeup$Paper;LNewspaperMakeup$Edition;)V"⟩
abbrev cX1_longestGapOn : ByteArray := prog_3_method_3_code
def yX1_longestGapOn : MethodName := ⟨RX1, "longestGapOn", "(LNewspaperMakeup$Edition;I)I"⟩
abbrev cX1_putInOrder : ByteArray := prog_3_method_4_code
def yX1_putInOrder : MethodName := ⟨RX1, "putInOrder", "(LNewspaperMakeup$Paper;)I"⟩
abbrev cX1_staysInPlace : ByteArray := prog_3_method_5_code
def yX1_staysInPlace : MethodName := ⟨RX1, "staysInPlace", "(LNewspaperMakeup$Paper;I)Z"⟩
abbrev cX1_placeAnew : ByteArray := prog_3_method_6_code
def yX1_placeAnew : MethodName := ⟨RX1, "placeAnew", "(LNewspaperMakeup$Paper;LNewspaperMakeup$Edition;I)V"⟩
abbrev cX1_placeNextPiece : ByteArray := prog_3_method_7_code
def yX1_placeNextPiece : MethodName := ⟨RX1, "placeNextPiece", "(LNewspaperMakeup$Paper;LNewspaperMakeup$Edition;II)I"⟩
abbrev cX1_placeInFirstGap : ByteArray := prog_3_method_8_code
def yX1_placeInFirstGap : MethodName := ⟨RX1, "placeInFirstGap", "(LNewspaperMakeup$Paper;LNewspaperMakeup$Edition;III)Z"⟩
def RX2 : String := "NewspaperMakeup$Paper"
def TX2 : u_T := fun k => match k with
  | 0 => ("NewspaperMakeup$Paper", "pages", "I", false)
  | 1 => ("NewspaperMakeup$Paper", "columns", "I", false)
  | 2 => ("NewspaperMakeup$Paper", "lines", "I", false)
  | 3 => ("NewspaperMakeup$Paper", "storyCount", "I", false)
  | 4 => ("NewspaperMakeup$Paper", "rank", "[I", true)
  | 5 => ("NewspaperMakeup$Paper", "home", "[I", true)
  | 6 => ("NewspaperMakeup$Paper", "paragraphCount", "[I", true)
  | 7 => ("NewspaperMakeup$Paper", "paragraphLines", "[I", true)
  | 8 => ("NewspaperMakeup$Paper", "alive", "[Z", true)
  | 9 => ("NewspaperMakeup$Paper", "changed", "[Z", true)
  | _ => ("NewspaperMakeup$Paper", "latest", "LNewspaperMakeup$Edition;", true)
def tyX2 : Nat → FieldType := fun k => match k with
  | 0 => .int
  | 1 => .int
  | 2 => .int
  | 3 => .int
  | 4 => .array .int
  | 5 => .array .int
  | 6 => .array .int
  | 7 => .array .int
  | 8 => .array .boolean
  | 9 => .array .boolean
  | _ => .object "NewspaperMakeup$Edition"
abbrev wsX20 : List Cond := u_ws RX2 TX2 11
theorem nmX2 : ∀ a, a < 11 → ∀ b, b < 11 → a ≠ b → (TX2 a).2.1 ≠ (TX2 b).2.1 := by decide +kernel
theorem tyX2_ok : ∀ k, k < 11 → parseFieldDescriptor (TX2 k).2.2.1 = some (tyX2 k) := by decide +kernel
abbrev cX2_init : ByteArray := prog_4_method_1_code
def yX2_init : MethodName := ⟨RX2, "<init>", "()V"⟩
abbrev cX2_copyFrom : ByteArray := prog_4_method_2_code
def yX2_copyFrom : MethodName := ⟨RX2, "copyFrom", "(LNewspaperMakeup$Paper;)V"⟩
abbrev cX2_changePages : ByteArray := prog_4_method_3_code
def yX2_changePages : MethodName := ⟨RX2, "changePages", "(III)V"⟩
abbrev cX2_highestHome : ByteArray := prog_4_method_4_code
def yX2_highestHome : MethodName := ⟨RX2, "highestHome", "()I"⟩
abbrev cX2_appendStory : ByteArray := prog_4_method_5_code
def yX2_appendStory : MethodName := ⟨RX2, "appendStory", "(II)I"⟩
abbrev cX2_appendParagraph : ByteArray := prog_4_method_6_code
def yX2_appendParagraph : MethodName := ⟨RX2, "appendParagraph", "(II)V"⟩
abbrev cX2_changeParagraph : ByteArray := prog_4_method_7_code
def yX2_changeParagraph : MethodName := ⟨RX2, "changeParagraph", "(III)V"⟩
abbrev cX2_removeParagraph : ByteArray := prog_4_method_8_code
def yX2_removeParagraph : MethodName := ⟨RX2, "removeParagraph", "(II)V"⟩
abbrev cX2_forgetChanges : ByteArray := prog_4_method_9_code
def yX2_forgetChanges : MethodName := ⟨RX2, "forgetChanges", "()V"⟩
abbrev cX2_linesOf : ByteArray := prog_4_method_10_code
def yX2_linesOf : MethodName := ⟨RX2, "linesOf", "(II)I"⟩
abbrev cX2_linesOfParagraphs : ByteArray := prog_4_method_11_code
def yX2_linesOfParagraphs : MethodName := ⟨RX2, "linesOfParagraphs", "(III)I"⟩
abbrev cX2_sizeOfPiece : ByteArray := prog_4_method_12_code
def yX2_sizeOfPiece : MethodName := ⟨RX2, "sizeOfPiece", "(III)I"⟩
abbrev cX2_aliveCount : ByteArray := prog_4_method_13_code
def yX2_aliveCount : MethodName := ⟨RX2, "aliveCount", "()I"⟩
abbrev cX2_aliveAheadOf : ByteArray := prog_4_method_14_code
def yX2_aliveAheadOf : MethodName := ⟨RX2, "aliveAheadOf", "(I)I"⟩
abbrev cX2_goesAhead : ByteArray := prog_4_method_15_code
def yX2_goesAhead : MethodName := ⟨RX2, "goesAhead", "(II)Z"⟩
def RX3 : String := "NewspaperMakeup$Sheet"
def TX3 : u_T := fun k => match k with
  | 0 => ("NewspaperMakeup$Sheet", "columns", "I", false)
  | 1 => ("NewspaperMakeup$Sheet", "lines", "I", false)
  | 2 => ("NewspaperMakeup$Sheet", "allLines", "J", false)
  | _ => ("NewspaperMakeup$Sheet", "taken", "[J", true)
def tyX3 : Nat → FieldType := fun k => match k with
  | 0 => .int
  | 1 => .int
  | 2 => .long
  | _ => .array .long
abbrev wsX30 : List Cond := u_ws RX3 TX3 4
theorem nmX3 : ∀ a, a < 4 → ∀ b, b < 4 → a ≠ b → (TX3 a).2.1 ≠ (TX3 b).2.1 := by decide +kernel
theorem tyX3_ok : ∀ k, k < 4 → parseFieldDescriptor (TX3 k).2.2.1 = some (tyX3 k) := by decide +kernel
abbrev cX3_init : ByteArray := prog_5_method_1_code
def yX3_init : MethodName := ⟨RX3, "<init>", "()V"⟩
abbrev cX3_makeBlank : ByteArray := prog_5_method_2_code
def yX3_makeBlank : MethodName := ⟨RX3, "makeBlank", "(II)V"⟩
abbrev cX3_hasPlaceFor : ByteArray := prog_5_method_3_code
def yX3_hasPlaceFor : MethodName := ⟨RX3, "hasPlaceFor", "(LNewspaperMakeup$Edition;I)Z"⟩
abbrev cX3_takeLinesOf : ByteArray := prog_5_method_4_code
def yX3_takeLinesOf : MethodName := ⟨RX3, "takeLinesOf", "(LNewspaperMakeup$Edition;I)V"⟩
abbrev cX3_firstGapOn : ByteArray := prog_5_method_5_code
def yX3_firstGapOn : MethodName := ⟨RX3, "firstGapOn", "(II)I"⟩
abbrev cX3_longestGapOn : ByteArray := prog_5_method_6_code
def yX3_longestGapOn : MethodName := ⟨RX3, "longestGapOn", "(I)I"⟩
abbrev cX3_startsOfRoom : ByteArray := prog_5_method_7_code
def yX3_startsOfRoom : MethodName := ⟨RX3, "startsOfRoom", "(JI)J"⟩
abbrev cX3_columnOf : ByteArray := prog_5_method_8_code
def yX3_columnOf : MethodName := ⟨RX3, "columnOf", "(LNewspaperMakeup$Edition;I)I"⟩
abbrev cX3_bitsOf : ByteArray := prog_5_method_9_code
def yX3_bitsOf : MethodName := ⟨RX3, "bitsOf", "(II)J"⟩
def RX4 : String := "NewspaperMakeup$Text"
def TX4 : u_T := fun k => match k with
  | 0 => ("NewspaperMakeup$Text", "length", "I", false)
  | 1 => ("NewspaperMakeup$Text", "characters", "[I", true)
  | 2 => ("NewspaperMakeup$Text", "place", "I", false)
  | _ => ("NewspaperMakeup$Text", "wrong", "I", false)
def tyX4 : Nat → FieldType := fun k => match k with
  | 0 => .int
  | 1 => .array .int
  | 2 => .int
  | _ => .int
abbrev wsX40 : List Cond := u_ws RX4 TX4 4
theorem nmX4 : ∀ a, a < 4 → ∀ b, b < 4 → a ≠ b → (TX4 a).2.1 ≠ (TX4 b).2.1 := by decide +kernel
theorem tyX4_ok : ∀ k, k < 4 → parseFieldDescriptor (TX4 k).2.2.1 = some (tyX4 k) := by decide +kernel
abbrev cX4_init : ByteArray := prog_6_method_1_code
def yX4_init : MethodName := ⟨RX4, "<init>", "()V"⟩
abbrev cX4_append : ByteArray := prog_6_method_2_code
def yX4_append : MethodName := ⟨RX4, "append", "(I)V"⟩
abbrev cX4_readStories : ByteArray := prog_6_method_3_code
def yX4_readStories : MethodName := ⟨RX4, "readStories", "(LNewspaperMakeup$Paper;)I"⟩
abbrev cX4_readStory : ByteArray := prog_6_method_4_code
def yX4_readStory : MethodName := ⟨RX4, "readStory", "(LNewspaperMakeup$Paper;)V"⟩
abbrev cX4_readParagraphs : ByteArray := prog_6_method_5_code
def yX4_readParagraphs : MethodName := ⟨RX4, "readParagraphs", "(LNewspaperMakeup$Paper;I)V"⟩
abbrev cX4_readNumber : ByteArray := prog_6_method_6_code
def yX4_readNumber : MethodName := ⟨RX4, "readNumber", "(II)I"⟩
abbrev cX4_readSign : ByteArray := prog_6_method_7_code
def yX4_readSign : MethodName := ⟨RX4, "readSign", "(C)V"⟩
abbrev cX4_skipSpaces : ByteArray := prog_6_method_8_code
def yX4_skipSpaces : MethodName := ⟨RX4, "skipSpaces", "()V"⟩
abbrev cX4_isAt : ByteArray := prog_6_method_9_code
def yX4_isAt : MethodName := ⟨RX4, "isAt", "(IC)Z"⟩
abbrev cX4_isDigitAt : ByteArray := prog_6_method_10_code
def yX4_isDigitAt : MethodName := ⟨RX4, "isDigitAt", "(I)Z"⟩
abbrev cX4_failAt : ByteArray := prog_6_method_11_code
def yX4_failAt : MethodName := ⟨RX4, "failAt", "(I)V"⟩
abbrev cX4_hasFailed : ByteArray := prog_6_method_12_code
def yX4_hasFailed : MethodName := ⟨RX4, "hasFailed", "()Z"⟩
def RX5 : String := "NewspaperMakeup"
def TX5 : u_T := fun k => match k with
  | 0 => ("NewspaperMakeup", "now", "LNewspaperMakeup$Paper;", true)
  | 1 => ("NewspaperMakeup", "trial", "LNewspaperMakeup$Paper;", true)
  | 2 => ("NewspaperMakeup", "saved", "[LNewspaperMakeup$Paper;", true)
  | 3 => ("NewspaperMakeup", "savedCount", "I", false)
  | 4 => ("NewspaperMakeup", "text", "LNewspaperMakeup$Text;", true)
  | 5 => ("NewspaperMakeup", "maker", "LNewspaperMakeup$Maker;", true)
  | _ => ("NewspaperMakeup", "planned", "LNewspaperMakeup$Edition;", true)
def tyX5 : Nat → FieldType := fun k => match k with
  | 0 => .object "NewspaperMakeup$Paper"
  | 1 => .object "NewspaperMakeup$Paper"
  | 2 => .array (.object "NewspaperMakeup$Paper")
  | 3 => .int
  | 4 => .object "NewspaperMakeup$Text"
  | 5 => .object "NewspaperMakeup$Maker"
  | _ => .object "NewspaperMakeup$Edition"
abbrev wsX50 : List Cond := u_ws RX5 TX5 7
theorem nmX5 : ∀ a, a < 7 → ∀ b, b < 7 → a ≠ b → (TX5 a).2.1 ≠ (TX5 b).2.1 := by decide +kernel
theorem tyX5_ok : ∀ k, k < 7 → parseFieldDescriptor (TX5 k).2.2.1 = some (tyX5 k) := by decide +kernel
abbrev cX5_init : ByteArray := prog_1_method_1_code
def yX5_init : MethodName := ⟨RX5, "<init>", "()V"⟩
abbrev cX5_setPages : ByteArray := prog_1_method_2_code
def yX5_setPages : MethodName := ⟨RX5, "setPages", "(III)I"⟩
abbrev cX5_addStory : ByteArray := prog_1_method_3_code
def yX5_addStory : MethodName := ⟨RX5, "addStory", "(III)I"⟩
abbrev cX5_setRank : ByteArray := prog_1_method_4_code
def yX5_setRank : MethodName := ⟨RX5, "setRank", "(II)I"⟩
abbrev cX5_setHome : ByteArray := prog_1_method_5_code
def yX5_setHome : MethodName := ⟨RX5, "setHome", "(II)I"⟩
abbrev cX5_addParagraph : ByteArray := prog_1_method_6_code
def yX5_addParagraph : MethodName := ⟨RX5, "addParagraph", "(II)I"⟩
abbrev cX5_setParagraph : ByteArray := prog_1_method_7_code
def yX5_setParagraph : MethodName := ⟨RX5, "setParagraph", "(III)I"⟩
abbrev cX5_kill : ByteArray := prog_1_method_8_code
def yX5_kill : MethodName := ⟨RX5, "kill", "(I)I"⟩
abbrev cX5_revive : ByteArray := prog_1_method_9_code
def yX5_revive : MethodName := ⟨RX5, "revive", "(I)I"⟩
abbrev cX5_story : ByteArray := prog_1_method_10_code
def yX5_story : MethodName := ⟨RX5, "story", "(II)I"⟩
abbrev cX5_paragraph : ByteArray := prog_1_method_11_code
def yX5_paragraph : MethodName := ⟨RX5, "paragraph", "(II)I"⟩
abbrev cX5_count : ByteArray := prog_1_method_12_code
def yX5_count : MethodName := ⟨RX5, "count", "(I)I"⟩
abbrev cX5_appendCharacter : ByteArray := prog_1_method_13_code
def yX5_appendCharacter : MethodName := ⟨RX5, "appendCharacter", "(I)I"⟩
abbrev cX5_clearText : ByteArray := prog_1_method_14_code
def yX5_clearText : MethodName := ⟨RX5, "clearText", "()I"⟩
abbrev cX5_load : ByteArray := prog_1_method_15_code
def yX5_load : MethodName := ⟨RX5, "load", "()I"⟩
abbrev cX5_make : ByteArray := prog_1_method_16_code
def yX5_make : MethodName := ⟨RX5, "make", "()I"⟩
abbrev cX5_edition : ByteArray := prog_1_method_17_code
def yX5_edition : MethodName := ⟨RX5, "edition", "(I)I"⟩
abbrev cX5_pieces : ByteArray := prog_1_method_18_code
def yX5_pieces : MethodName := ⟨RX5, "pieces", "(I)I"⟩
abbrev cX5_piece : ByteArray := prog_1_method_19_code
def yX5_piece : MethodName := ⟨RX5, "piece", "(III)I"⟩
abbrev cX5_at : ByteArray := prog_1_method_20_code
def yX5_at : MethodName := ⟨RX5, "at", "(III)I"⟩
abbrev cX5_longestGap : ByteArray := prog_1_method_21_code
def yX5_longestGap : MethodName := ⟨RX5, "longestGap", "(I)I"⟩
abbrev cX5_wasMoved : ByteArray := prog_1_method_22_code
def yX5_wasMoved : MethodName := ⟨RX5, "wasMoved", "(I)I"⟩
abbrev cX5_next : ByteArray := prog_1_method_23_code
def yX5_next : MethodName := ⟨RX5, "next", "(I)I"⟩
abbrev cX5_piecesWith : ByteArray := prog_1_method_24_code
def yX5_piecesWith : MethodName := ⟨RX5, "piecesWith", "(II)I"⟩
abbrev cX5_roomFor : ByteArray := prog_1_method_25_code
def yX5_roomFor : MethodName := ⟨RX5, "roomFor", "(I)I"⟩
abbrev cX5_undo : ByteArray := prog_1_method_26_code
def yX5_undo : MethodName := ⟨RX5, "undo", "()I"⟩
abbrev cX5_saveState : ByteArray := prog_1_method_27_code
def yX5_saveState : MethodName := ⟨RX5, "saveState", "()V"⟩
abbrev cX5_discardOldest : ByteArray := prog_1_method_28_code
def yX5_discardOldest : MethodName := ⟨RX5, "discardOldest", "()V"⟩
abbrev cX5_isStory : ByteArray := prog_1_method_29_code
def yX5_isStory : MethodName := ⟨RX5, "isStory", "(I)Z"⟩
abbrev cX5_isPage : ByteArray := prog_1_method_30_code
def yX5_isPage : MethodName := ⟨RX5, "isPage", "(I)Z"⟩
abbrev cX5_hasEdition : ByteArray := prog_1_method_31_code
def yX5_hasEdition : MethodName := ⟨RX5, "hasEdition", "()Z"⟩
abbrev cX5_isRank : ByteArray := prog_1_method_32_code
def yX5_isRank : MethodName := ⟨RX5, "isRank", "(I)Z"⟩
abbrev cX5_isWithin : ByteArray := prog_1_method_33_code
def yX5_isWithin : MethodName := ⟨RX5, "isWithin", "(III)Z"⟩
def RX6 : String := "NewspaperMakeupModel"
def TX6 : u_T := fun k => match k with
  | 0 => ("NewspaperMakeupModel", "s", "[I", true)
  | 1 => ("NewspaperMakeupModel", "past", "[I", true)
  | 2 => ("NewspaperMakeupModel", "pasts", "I", false)
  | 3 => ("NewspaperMakeupModel", "text", "[B", true)
  | 4 => ("NewspaperMakeupModel", "typed", "I", false)
  | 5 => ("NewspaperMakeupModel", "kept", "[I", true)
  | 6 => ("NewspaperMakeupModel", "next", "I", false)
  | 7 => ("NewspaperMakeupModel", "number", "I", false)
  | 8 => ("NewspaperMakeupModel", "before", "[I", true)
  | 9 => ("NewspaperMakeupModel", "taken", "[Z", true)
  | _ => ("NewspaperMakeupModel", "fresh", "[I", true)
def tyX6 : Nat → FieldType := fun k => match k with
  | 0 => .array .int
  | 1 => .array .int
  | 2 => .int
  | 3 => .array .byte
  | 4 => .int
  | 5 => .array .int
  | 6 => .int
  | 7 => .int
  | 8 => .array .int
  | 9 => .array .boolean
  | _ => .array .int
abbrev wsX60 : List Cond := u_ws RX6 TX6 11
theorem nmX6 : ∀ a, a < 11 → ∀ b, b < 11 → a ≠ b → (TX6 a).2.1 ≠ (TX6 b).2.1 := by decide +kernel
theorem tyX6_ok : ∀ k, k < 11 → parseFieldDescriptor (TX6 k).2.2.1 = some (tyX6 k) := by decide +kernel
abbrev cX6_init : ByteArray := prog_8_method_1_code
def yX6_init : MethodName := ⟨RX6, "<init>", "()V"⟩
abbrev cX6_in : ByteArray := prog_8_method_3_code
def yX6_in : MethodName := ⟨RX6, "in", "(III)Z"⟩
abbrev cX6_notes : ByteArray := prog_8_method_4_code
def yX6_notes : MethodName := ⟨RX6, "notes", "()V"⟩
abbrev cX6_undo : ByteArray := prog_8_method_5_code
def yX6_undo : MethodName := ⟨RX6, "undo", "()I"⟩
abbrev cX6_keeps : ByteArray := prog_8_method_6_code
def yX6_keeps : MethodName := ⟨RX6, "keeps", "()V"⟩
abbrev cX6_restores : ByteArray := prog_8_method_7_code
def yX6_restores : MethodName := ⟨RX6, "restores", "()V"⟩
abbrev cX6_isStory : ByteArray := prog_8_method_8_code
def yX6_isStory : MethodName := ⟨RX6, "isStory", "(I)Z"⟩
abbrev cX6_of : ByteArray := prog_8_method_9_code
def yX6_of : MethodName := ⟨RX6, "of", "(II)I"⟩
abbrev cX6_puts : ByteArray := prog_8_method_10_code
def yX6_puts : MethodName := ⟨RX6, "puts", "(III)V"⟩
abbrev cX6_isPage : ByteArray := prog_8_method_11_code
def yX6_isPage : MethodName := ⟨RX6, "isPage", "(I)Z"⟩
abbrev cX6_setPages : ByteArray := prog_8_method_12_code
def yX6_setPages : MethodName := ⟨RX6, "setPages", "(III)I"⟩
abbrev cX6_adds : ByteArray := prog_8_method_13_code
def yX6_adds : MethodName := ⟨RX6, "adds", "(II)I"⟩
abbrev cX6_lengthens : ByteArray := prog_8_method_14_code
def yX6_lengthens : MethodName := ⟨RX6, "lengthens", "(II)V"⟩
abbrev cX6_addStory : ByteArray := prog_8_method_15_code
def yX6_addStory : MethodName := ⟨RX6, "addStory", "(III)I"⟩
abbrev cX6_setRank : ByteArray := prog_8_method_16_code
def yX6_setRank : MethodName := ⟨RX6, "setRank", "(II)I"⟩
abbrev cX6_setHome : ByteArray := prog_8_method_17_code
def yX6_setHome : MethodName := ⟨RX6, "setHome", "(II)I"⟩
abbrev cX6_addParagraph : ByteArray := prog_8_method_18_code
def yX6_addParagraph : MethodName := ⟨RX6, "addParagraph", "(II)I"⟩
abbrev cX6_setParagraph : ByteArray := prog_8_method_19_code
def yX6_setParagraph : MethodName := ⟨RX6, "setParagraph", "(III)I"⟩
abbrev cX6_alive : ByteArray := prog_8_method_20_code
def yX6_alive : MethodName := ⟨RX6, "alive", "()I"⟩
abbrev cX6_turns : ByteArray := prog_8_method_21_code
def yX6_turns : MethodName := ⟨RX6, "turns", "(II)I"⟩
abbrev cX6_kill : ByteArray := prog_8_method_22_code
def yX6_kill : MethodName := ⟨RX6, "kill", "(I)I"⟩
abbrev cX6_revive : ByteArray := prog_8_method_23_code
def yX6_revive : MethodName := ⟨RX6, "revive", "(I)I"⟩
abbrev cX6_isAhead : ByteArray := prog_8_method_24_code
def yX6_isAhead : MethodName := ⟨RX6, "isAhead", "(II)Z"⟩
abbrev cX6_ahead : ByteArray := prog_8_method_25_code
def yX6_ahead : MethodName := ⟨RX6, "ahead", "(I)I"⟩
abbrev cX6_lines : ByteArray := prog_8_method_26_code
def yX6_lines : MethodName := ⟨RX6, "lines", "(III)I"⟩
abbrev cX6_story : ByteArray := prog_8_method_27_code
def yX6_story : MethodName := ⟨RX6, "story", "(II)I"⟩
abbrev cX6_paragraph : ByteArray := prog_8_method_28_code
def yX6_paragraph : MethodName := ⟨RX6, "paragraph", "(II)I"⟩
abbrev cX6_count : ByteArray := prog_8_method_29_code
def yX6_count : MethodName := ⟨RX6, "count", "(I)I"⟩
abbrev cX6_appendCharacter : ByteArray := prog_8_method_30_code
def yX6_appendCharacter : MethodName := ⟨RX6, "appendCharacter", "(I)I"⟩
abbrev cX6_clearText : ByteArray := prog_8_method_31_code
def yX6_clearText : MethodName := ⟨RX6, "clearText", "()I"⟩
abbrev cX6_here : ByteArray := prog_8_method_32_code
def yX6_here : MethodName := ⟨RX6, "here", "()I"⟩
abbrev cX6_isDigit : ByteArray := prog_8_method_33_code
def yX6_isDigit : MethodName := ⟨RX6, "isDigit", "()Z"⟩
abbrev cX6_reads : ByteArray := prog_8_method_34_code
def yX6_reads : MethodName := ⟨RX6, "reads", "(II)Z"⟩
abbrev cX6_takes : ByteArray := prog_8_method_35_code
def yX6_takes : MethodName := ⟨RX6, "takes", "(I)Z"⟩
abbrev cX6_readsStory : ByteArray := prog_8_method_36_code
def yX6_readsStory : MethodName := ⟨RX6, "readsStory", "()Z"⟩
abbrev cX6_exchanges : ByteArray := prog_8_method_37_code
def yX6_exchanges : MethodName := ⟨RX6, "exchanges", "()V"⟩
abbrev cX6_load : ByteArray := prog_8_method_38_code
def yX6_load : MethodName := ⟨RX6, "load", "()I"⟩
abbrev cX6_lineAt : ByteArray := prog_8_method_39_code
def yX6_lineAt : MethodName := ⟨RX6, "lineAt", "(III)I"⟩
abbrev cX6_gap : ByteArray := prog_8_method_40_code
def yX6_gap : MethodName := ⟨RX6, "gap", "(II)I"⟩
abbrev cX6_marks : ByteArray := prog_8_method_41_code
def yX6_marks : MethodName := ⟨RX6, "marks", "(IIIIZ)V"⟩
abbrev cX6_prints : ByteArray := prog_8_method_42_code
def yX6_prints : MethodName := ⟨RX6, "prints", "(IIIIII)V"⟩
abbrev cX6_stays : ByteArray := prog_8_method_43_code
def yX6_stays : MethodName := ⟨RX6, "stays", "(I)Z"⟩
abbrev cX6_pageFor : ByteArray := prog_8_method_44_code
def yX6_pageFor : MethodName := ⟨RX6, "pageFor", "(III)I"⟩
abbrev cX6_continues : ByteArray := prog_8_method_45_code
def yX6_continues : MethodName := ⟨RX6, "continues", "(III)Z"⟩
abbrev cX6_places : ByteArray := prog_8_method_46_code
def yX6_places : MethodName := ⟨RX6, "places", "(I)Z"⟩
abbrev cX6_takesBack : ByteArray := prog_8_method_47_code
def yX6_takesBack : MethodName := ⟨RX6, "takesBack", "(I)V"⟩
abbrev cX6_moves : ByteArray := prog_8_method_48_code
def yX6_moves : MethodName := ⟨RX6, "moves", "(I)Z"⟩
abbrev cX6_makes : ByteArray := prog_8_method_49_code
def yX6_makes : MethodName := ⟨RX6, "makes", "()I"⟩
abbrev cX6_make : ByteArray := prog_8_method_50_code
def yX6_make : MethodName := ⟨RX6, "make", "()I"⟩
abbrev cX6_printed : ByteArray := prog_8_method_51_code
def yX6_printed : MethodName := ⟨RX6, "printed", "(II)I"⟩
abbrev cX6_sum : ByteArray := prog_8_method_52_code
def yX6_sum : MethodName := ⟨RX6, "sum", "(I)I"⟩
abbrev cX6_edition : ByteArray := prog_8_method_53_code
def yX6_edition : MethodName := ⟨RX6, "edition", "(I)I"⟩
abbrev cX6_pieces : ByteArray := prog_8_method_54_code
def yX6_pieces : MethodName := ⟨RX6, "pieces", "(I)I"⟩
abbrev cX6_piece : ByteArray := prog_8_method_55_code
def yX6_piece : MethodName := ⟨RX6, "piece", "(III)I"⟩
abbrev cX6_owner : ByteArray := prog_8_method_56_code
def yX6_owner : MethodName := ⟨RX6, "owner", "(III)I"⟩
abbrev cX6_at : ByteArray := prog_8_method_57_code
def yX6_at : MethodName := ⟨RX6, "at", "(III)I"⟩
abbrev cX6_longestGap : ByteArray := prog_8_method_58_code
def yX6_longestGap : MethodName := ⟨RX6, "longestGap", "(I)I"⟩
abbrev cX6_wasMoved : ByteArray := prog_8_method_59_code
def yX6_wasMoved : MethodName := ⟨RX6, "wasMoved", "(I)I"⟩
abbrev cX6_freeLines : ByteArray := prog_8_method_60_code
def yX6_freeLines : MethodName := ⟨RX6, "freeLines", "()I"⟩
abbrev cX6_next : ByteArray := prog_8_method_61_code
def yX6_next : MethodName := ⟨RX6, "next", "(I)I"⟩
abbrev cX6_piecesWith : ByteArray := prog_8_method_62_code
def yX6_piecesWith : MethodName := ⟨RX6, "piecesWith", "(II)I"⟩
abbrev cX6_roomFor : ByteArray := prog_8_method_63_code
def yX6_roomFor : MethodName := ⟨RX6, "roomFor", "(I)I"⟩
def RJx145de : String := "java/io/Serializable"
def TJx145de : u_T := fun k => match k with
  | _ => ("", "", "", false)
def tyJx145de : Nat → FieldType := fun k => match k with
  | _ => .int
abbrev wsJx145de0 : List Cond := u_ws RJx145de TJx145de 0
theorem nmJx145de : ∀ a, a < 0 → ∀ b, b < 0 → a ≠ b → (TJx145de a).2.1 ≠ (TJx145de b).2.1 := by decide +kernel
theorem tyJx145de_ok : ∀ k, k < 0 → parseFieldDescriptor (TJx145de k).2.2.1 = some (tyJx145de k) := by decide +kernel
def RJxb160c : String := "java/lang/Comparable"
def TJxb160c : u_T := fun k => match k with
  | _ => ("", "", "", false)
def tyJxb160c : Nat → FieldType := fun k => match k with
  | _ => .int
abbrev wsJxb160c0 : List Cond := u_ws RJxb160c TJxb160c 0
theorem nmJxb160c : ∀ a, a < 0 → ∀ b, b < 0 → a ≠ b → (TJxb160c a).2.1 ≠ (TJxb160c b).2.1 := by decide +kernel
theorem tyJxb160c_ok : ∀ k, k < 0 → parseFieldDescriptor (TJxb160c k).2.2.1 = some (tyJxb160c k) := by decide +kernel
def RJ6 : String := "java/lang/Integer"
def TJ6 : u_T := fun k => match k with
  | _ => ("", "", "", false)
def tyJ6 : Nat → FieldType := fun k => match k with
  | _ => .int
abbrev wsJ60 : List Cond := u_ws RJ6 TJ6 0
theorem nmJ6 : ∀ a, a < 0 → ∀ b, b < 0 → a ≠ b → (TJ6 a).2.1 ≠ (TJ6 b).2.1 := by decide +kernel
theorem tyJ6_ok : ∀ k, k < 0 → parseFieldDescriptor (TJ6 k).2.2.1 = some (tyJ6 k) := by decide +kernel
abbrev cJ6_numberOfTrailingZeros_0f7a4 : ByteArray := prog_9_method_48_code
def yJ6_numberOfTrailingZeros_0f7a4 : MethodName := ⟨RJ6, "numberOfTrailingZeros", "(I)I"⟩
def RJ13 : String := "java/lang/Long"
def TJ13 : u_T := fun k => match k with
  | _ => ("", "", "", false)
def tyJ13 : Nat → FieldType := fun k => match k with
  | _ => .int
abbrev wsJ130 : List Cond := u_ws RJ13 TJ13 0
theorem nmJ13 : ∀ a, a < 0 → ∀ b, b < 0 → a ≠ b → (TJ13 a).2.1 ≠ (TJ13 b).2.1 := by decide +kernel
theorem tyJ13_ok : ∀ k, k < 0 → parseFieldDescriptor (TJ13 k).2.2.1 = some (tyJ13 k) := by decide +kernel
abbrev cJ13_numberOfTrailingZeros_95d88 : ByteArray := prog_10_method_49_code
def yJ13_numberOfTrailingZeros_95d88 : MethodName := ⟨RJ13, "numberOfTrailingZeros", "(J)I"⟩
def RJ9 : String := "java/lang/Math"
def TJ9 : u_T := fun k => match k with
  | _ => ("", "", "", false)
def tyJ9 : Nat → FieldType := fun k => match k with
  | _ => .int
abbrev wsJ90 : List Cond := u_ws RJ9 TJ9 0
theorem nmJ9 : ∀ a, a < 0 → ∀ b, b < 0 → a ≠ b → (TJ9 a).2.1 ≠ (TJ9 b).2.1 := by decide +kernel
theorem tyJ9_ok : ∀ k, k < 0 → parseFieldDescriptor (TJ9 k).2.2.1 = some (tyJ9 k) := by decide +kernel
abbrev cJ9_max_7cf53 : ByteArray := prog_11_method_65_code
def yJ9_max_7cf53 : MethodName := ⟨RJ9, "max", "(II)I"⟩
def RJxd2413 : String := "java/lang/Number"
def TJxd2413 : u_T := fun k => match k with
  | _ => ("", "", "", false)
def tyJxd2413 : Nat → FieldType := fun k => match k with
  | _ => .int
abbrev wsJxd24130 : List Cond := u_ws RJxd2413 TJxd2413 0
theorem nmJxd2413 : ∀ a, a < 0 → ∀ b, b < 0 → a ≠ b → (TJxd2413 a).2.1 ≠ (TJxd2413 b).2.1 := by decide +kernel
theorem tyJxd2413_ok : ∀ k, k < 0 → parseFieldDescriptor (TJxd2413 k).2.2.1 = some (tyJxd2413 k) := by decide +kernel
def RJ10 : String := "java/lang/System"
def TJ10 : u_T := fun k => match k with
  | _ => ("", "", "", false)
def tyJ10 : Nat → FieldType := fun k => match k with
  | _ => .int
abbrev wsJ100 : List Cond := u_ws RJ10 TJ10 0
theorem nmJ10 : ∀ a, a < 0 → ∀ b, b < 0 → a ≠ b → (TJ10 a).2.1 ≠ (TJ10 b).2.1 := by decide +kernel
theorem tyJ10_ok : ∀ k, k < 0 → parseFieldDescriptor (TJ10 k).2.2.1 = some (tyJ10 k) := by decide +kernel
def RJxfd54e : String := "java/lang/constant/Constable"
def TJxfd54e : u_T := fun k => match k with
  | _ => ("", "", "", false)
def tyJxfd54e : Nat → FieldType := fun k => match k with
  | _ => .int
abbrev wsJxfd54e0 : List Cond := u_ws RJxfd54e TJxfd54e 0
theorem nmJxfd54e : ∀ a, a < 0 → ∀ b, b < 0 → a ≠ b → (TJxfd54e a).2.1 ≠ (TJxfd54e b).2.1 := by decide +kernel
theorem tyJxfd54e_ok : ∀ k, k < 0 → parseFieldDescriptor (TJxfd54e k).2.2.1 = some (tyJxfd54e k) := by decide +kernel
def RJx3cf43 : String := "java/lang/constant/ConstantDesc"
def TJx3cf43 : u_T := fun k => match k with
  | _ => ("", "", "", false)
def tyJx3cf43 : Nat → FieldType := fun k => match k with
  | _ => .int
abbrev wsJx3cf430 : List Cond := u_ws RJx3cf43 TJx3cf43 0
theorem nmJx3cf43 : ∀ a, a < 0 → ∀ b, b < 0 → a ≠ b → (TJx3cf43 a).2.1 ≠ (TJx3cf43 b).2.1 := by decide +kernel
theorem tyJx3cf43_ok : ∀ k, k < 0 → parseFieldDescriptor (TJx3cf43 k).2.2.1 = some (tyJx3cf43 k) := by decide +kernel
def RJ7 : String := "java/util/Arrays"
def TJ7 : u_T := fun k => match k with
  | _ => ("", "", "", false)
def tyJ7 : Nat → FieldType := fun k => match k with
  | _ => .int
abbrev wsJ70 : List Cond := u_ws RJ7 TJ7 0
theorem nmJ7 : ∀ a, a < 0 → ∀ b, b < 0 → a ≠ b → (TJ7 a).2.1 ≠ (TJ7 b).2.1 := by decide +kernel
theorem tyJ7_ok : ∀ k, k < 0 → parseFieldDescriptor (TJ7 k).2.2.1 = some (tyJ7 k) := by decide +kernel
abbrev cJ7_fill_d0a16 : ByteArray := prog_14_method_101_code
def yJ7_fill_d0a16 : MethodName := ⟨RJ7, "fill", "([JJ)V"⟩
abbrev cJ7_fill_53178 : ByteArray := prog_14_method_103_code
def yJ7_fill_53178 : MethodName := ⟨RJ7, "fill", "([II)V"⟩
def RL : String := "NewspaperMakeupLaw"
abbrev cL_law : ByteArray := code
def yL_law : MethodName := ⟨RL, "law", "([I)Z"⟩
abbrev vwCl : List vw_C := [(RX0, TX0, 12), (RX1, TX1, 2), (RX2, TX2, 11), (RX3, TX3, 4), (RX4, TX4, 4), (RX5, TX5, 7), (RX6, TX6, 11)]
end
section
def WS : List Cond := lw_tbl.filter goodWord
theorem ws_good : GoodIn WS WS := fun _ h => ⟨h, good_of_word (List.mem_filter.mp h).2⟩
theorem ws_tbl : ∀ w ∈ WS, w ∈ lw_tbl := fun _ h => (List.mem_filter.mp h).1
theorem mt1 {i : Nat} {w : Cond} (h : tables_1_1[i]? = some w) (g : goodWord w = true) : w ∈ WS := List.mem_filter.mpr ⟨List.mem_append_right _ (List.mem_append_left _ (List.mem_of_getElem? h)), g⟩
theorem mn1 {i : Nat} {w : Cond} (h : tables_1_1[i]? = some w) : w ∈ lw_tbl := List.mem_append_right _ (List.mem_append_left _ (List.mem_of_getElem? h))
theorem mt2 {i : Nat} {w : Cond} (h : tables_1_2[i]? = some w) (g : goodWord w = true) : w ∈ WS := List.mem_filter.mpr ⟨List.mem_append_right _ (List.mem_append_right _ (List.mem_append_left _ (List.mem_of_getElem? h))), g⟩
theorem mn2 {i : Nat} {w : Cond} (h : tables_1_2[i]? = some w) : w ∈ lw_tbl := List.mem_append_right _ (List.mem_append_right _ (List.mem_append_left _ (List.mem_of_getElem? h)))
theorem mt3 {i : Nat} {w : Cond} (h : tables_1_3[i]? = some w) (g : goodWord w = true) : w ∈ WS := List.mem_filter.mpr ⟨List.mem_append_right _ (List.mem_append_right _ (List.mem_append_right _ (List.mem_append_left _ (List.mem_of_getElem? h)))), g⟩
theorem mn3 {i : Nat} {w : Cond} (h : tables_1_3[i]? = some w) : w ∈ lw_tbl := List.mem_append_right _ (List.mem_append_right _ (List.mem_append_right _ (List.mem_append_left _ (List.mem_of_getElem? h))))
theorem mt4 {i : Nat} {w : Cond} (h : tables_1_4[i]? = some w) (g : goodWord w = true) : w ∈ WS := List.mem_filter.mpr ⟨List.mem_append_right _ (List.mem_append_right _ (List.mem_append_right _ (List.mem_append_right _ (List.mem_of_getElem? h)))), g⟩
theorem mn4 {i : Nat} {w : Cond} (h : tables_1_4[i]? = some w) : w ∈ lw_tbl := List.mem_append_right _ (List.mem_append_right _ (List.mem_append_right _ (List.mem_append_right _ (List.mem_of_getElem? h))))
theorem ms {i : Nat} {q : MethodName × Nat} {w : Cond} (h : lw_privs[i]? = some q) (e : Cond.selects q.1.cls q.1 q.1 = w) (g : goodWord w = true) : w ∈ WS := List.mem_filter.mpr ⟨List.mem_append_left _ (List.mem_map.mpr ⟨q, List.mem_of_getElem? h, e⟩), g⟩
def oN (o : Nat) : String := [RX0, RX1, RX2, RX3, RX4, RX5, RX6, RL, RJ6, RJ13, RJ9, RJ7].getD o ""
abbrev mRow : Type := MethodName × ByteArray × Nat × Option FieldType × Nat
def mtab_0 : List mRow := [(yL_law, cL_law, 4, (some .boolean), 7),
  (yX0_copyFrom, cX0_copyFrom, 2, none, 0),
  (yX0_copyPieces, cX0_copyPieces, 4, none, 0),
  (yX0_beginFor, cX0_beginFor, 3, none, 0),
  (yX0_keepPieces, cX0_keepPieces, 3, none, 0),
  (yX0_addPiece, cX0_addPiece, 8, none, 0),
  (yX0_isPrinted, cX0_isPrinted, 2, (some .boolean), 0),
  (yX0_hasPieceOn, cX0_hasPieceOn, 5, (some .boolean), 0),
  (yX0_isMovedSince, cX0_isMovedSince, 5, (some .boolean), 0),
  (yX0_printedStories, cX0_printedStories, 3, (some .int), 0),
  (yX0_heldOverStories, cX0_heldOverStories, 3, (some .int), 0),
  (yX0_movedStories, cX0_movedStories, 3, (some .int), 0),
  (yX0_allPieces, cX0_allPieces, 3, (some .int), 0),
  (yX0_jumpLines, cX0_jumpLines, 1, (some .int), 0),
  (yX0_freeLines, cX0_freeLines, 5, (some .int), 0),
  (yX0_propertyOf, cX0_propertyOf, 5, (some .int), 0),
  (yX0_storyOnLine, cX0_storyOnLine, 7, (some .int), 0),
  (yX1_plan, cX1_plan, 6, none, 1),
  (yX1_longestGapOn, cX1_longestGapOn, 4, (some .int), 1),
  (yX1_putInOrder, cX1_putInOrder, 4, (some .int), 1),
  (yX1_staysInPlace, cX1_staysInPlace, 3, (some .boolean), 1),
  (yX1_placeAnew, cX1_placeAnew, 8, none, 1),
  (yX1_placeNextPiece, cX1_placeNextPiece, 9, (some .int), 1),
  (yX1_placeInFirstGap, cX1_placeInFirstGap, 11, (some .boolean), 1),
  (yX2_copyFrom, cX2_copyFrom, 2, none, 2),
  (yX2_changePages, cX2_changePages, 5, none, 2),
  (yX2_highestHome, cX2_highestHome, 3, (some .int), 2),
  (yX2_appendStory, cX2_appendStory, 4, (some .int), 2),
  (yX2_appendParagraph, cX2_appendParagraph, 4, none, 2),
  (yX2_changeParagraph, cX2_changeParagraph, 4, none, 2),
  (yX2_removeParagraph, cX2_removeParagraph, 5, none, 2),
  (yX2_forgetChanges, cX2_forgetChanges, 2, none, 2),
  (yX2_linesOf, cX2_linesOf, 3, (some .int), 2),
  (yX2_linesOfParagraphs, cX2_linesOfParagraphs, 7, (some .int), 2),
  (yX2_sizeOfPiece, cX2_sizeOfPiece, 5, (some .int), 2),
  (yX2_aliveCount, cX2_aliveCount, 3, (some .int), 2),
  (yX2_aliveAheadOf, cX2_aliveAheadOf, 4, (some .int), 2),
  (yX2_goesAhead, cX2_goesAhead, 3, (some .boolean), 2),
  (yX3_makeBlank, cX3_makeBlank, 3, none, 3),
  (yX3_hasPlaceFor, cX3_hasPlaceFor, 7, (some .boolean), 3)]
def mtab_1 : List mRow := [(yX3_takeLinesOf, cX3_takeLinesOf, 5, none, 3),
  (yX3_firstGapOn, cX3_firstGapOn, 6, (some .int), 3),
  (yX3_longestGapOn, cX3_longestGapOn, 3, (some .int), 3),
  (yX3_startsOfRoom, cX3_startsOfRoom, 7, (some .long), 3),
  (yX3_columnOf, cX3_columnOf, 2, (some .int), 3),
  (yX3_bitsOf, cX3_bitsOf, 2, (some .long), 3),
  (yX4_append, cX4_append, 2, none, 4),
  (yX4_readStories, cX4_readStories, 3, (some .int), 4),
  (yX4_readStory, cX4_readStory, 4, none, 4),
  (yX4_readParagraphs, cX4_readParagraphs, 5, none, 4),
  (yX4_readNumber, cX4_readNumber, 6, (some .int), 4),
  (yX4_readSign, cX4_readSign, 2, none, 4),
  (yX4_skipSpaces, cX4_skipSpaces, 1, none, 4),
  (yX4_isAt, cX4_isAt, 3, (some .boolean), 4),
  (yX4_isDigitAt, cX4_isDigitAt, 2, (some .boolean), 4),
  (yX4_failAt, cX4_failAt, 2, none, 4),
  (yX4_hasFailed, cX4_hasFailed, 1, (some .boolean), 4),
  (yX5_setPages, cX5_setPages, 4, (some .int), 5),
  (yX5_addStory, cX5_addStory, 5, (some .int), 5),
  (yX5_setRank, cX5_setRank, 4, (some .int), 5),
  (yX5_setHome, cX5_setHome, 4, (some .int), 5),
  (yX5_addParagraph, cX5_addParagraph, 3, (some .int), 5),
  (yX5_setParagraph, cX5_setParagraph, 5, (some .int), 5),
  (yX5_kill, cX5_kill, 2, (some .int), 5),
  (yX5_revive, cX5_revive, 2, (some .int), 5),
  (yX5_story, cX5_story, 3, (some .int), 5),
  (yX5_paragraph, cX5_paragraph, 3, (some .int), 5),
  (yX5_count, cX5_count, 2, (some .int), 5),
  (yX5_appendCharacter, cX5_appendCharacter, 2, (some .int), 5),
  (yX5_clearText, cX5_clearText, 2, (some .int), 5),
  (yX5_load, cX5_load, 3, (some .int), 5),
  (yX5_make, cX5_make, 1, (some .int), 5),
  (yX5_edition, cX5_edition, 2, (some .int), 5),
  (yX5_pieces, cX5_pieces, 3, (some .int), 5),
  (yX5_piece, cX5_piece, 4, (some .int), 5),
  (yX5_at, cX5_at, 5, (some .int), 5),
  (yX5_longestGap, cX5_longestGap, 2, (some .int), 5),
  (yX5_wasMoved, cX5_wasMoved, 2, (some .int), 5),
  (yX5_next, cX5_next, 2, (some .int), 5),
  (yX5_piecesWith, cX5_piecesWith, 3, (some .int), 5)]
def mtab_2 : List mRow := [(yX5_roomFor, cX5_roomFor, 4, (some .int), 5),
  (yX5_undo, cX5_undo, 1, (some .int), 5),
  (yX5_saveState, cX5_saveState, 1, none, 5),
  (yX5_discardOldest, cX5_discardOldest, 3, none, 5),
  (yX5_isStory, cX5_isStory, 2, (some .boolean), 5),
  (yX5_isPage, cX5_isPage, 2, (some .boolean), 5),
  (yX5_hasEdition, cX5_hasEdition, 1, (some .boolean), 5),
  (yX5_isRank, cX5_isRank, 1, (some .boolean), 5),
  (yX5_isWithin, cX5_isWithin, 3, (some .boolean), 5),
  (yX6_in, cX6_in, 3, (some .boolean), 6),
  (yX6_notes, cX6_notes, 2, none, 6),
  (yX6_undo, cX6_undo, 2, (some .int), 6),
  (yX6_keeps, cX6_keeps, 2, none, 6),
  (yX6_restores, cX6_restores, 2, none, 6),
  (yX6_isStory, cX6_isStory, 2, (some .boolean), 6),
  (yX6_of, cX6_of, 3, (some .int), 6),
  (yX6_puts, cX6_puts, 4, none, 6),
  (yX6_isPage, cX6_isPage, 2, (some .boolean), 6),
  (yX6_setPages, cX6_setPages, 5, (some .int), 6),
  (yX6_adds, cX6_adds, 5, (some .int), 6),
  (yX6_lengthens, cX6_lengthens, 3, none, 6),
  (yX6_addStory, cX6_addStory, 5, (some .int), 6),
  (yX6_setRank, cX6_setRank, 4, (some .int), 6),
  (yX6_setHome, cX6_setHome, 4, (some .int), 6),
  (yX6_addParagraph, cX6_addParagraph, 3, (some .int), 6),
  (yX6_setParagraph, cX6_setParagraph, 6, (some .int), 6),
  (yX6_alive, cX6_alive, 3, (some .int), 6),
  (yX6_turns, cX6_turns, 3, (some .int), 6),
  (yX6_kill, cX6_kill, 2, (some .int), 6),
  (yX6_revive, cX6_revive, 2, (some .int), 6),
  (yX6_isAhead, cX6_isAhead, 3, (some .boolean), 6),
  (yX6_ahead, cX6_ahead, 4, (some .int), 6),
  (yX6_lines, cX6_lines, 6, (some .int), 6),
  (yX6_story, cX6_story, 3, (some .int), 6),
  (yX6_paragraph, cX6_paragraph, 3, (some .int), 6),
  (yX6_count, cX6_count, 2, (some .int), 6),
  (yX6_appendCharacter, cX6_appendCharacter, 2, (some .int), 6),
  (yX6_clearText, cX6_clearText, 2, (some .int), 6),
  (yX6_here, cX6_here, 1, (some .int), 6),
  (yX6_isDigit, cX6_isDigit, 1, (some .boolean), 6)]
def mtab_3 : List mRow := [(yX6_reads, cX6_reads, 6, (some .boolean), 6),
  (yX6_takes, cX6_takes, 3, (some .boolean), 6),
  (yX6_readsStory, cX6_readsStory, 5, (some .boolean), 6),
  (yX6_exchanges, cX6_exchanges, 3, none, 6),
  (yX6_load, cX6_load, 3, (some .int), 6),
  (yX6_lineAt, cX6_lineAt, 3, (some .int), 6),
  (yX6_gap, cX6_gap, 6, (some .int), 6),
  (yX6_marks, cX6_marks, 7, none, 6),
  (yX6_prints, cX6_prints, 8, none, 6),
  (yX6_stays, cX6_stays, 8, (some .boolean), 6),
  (yX6_pageFor, cX6_pageFor, 6, (some .int), 6),
  (yX6_continues, cX6_continues, 12, (some .boolean), 6),
  (yX6_places, cX6_places, 6, (some .boolean), 6),
  (yX6_takesBack, cX6_takesBack, 4, none, 6),
  (yX6_moves, cX6_moves, 8, (some .boolean), 6),
  (yX6_makes, cX6_makes, 5, (some .int), 6),
  (yX6_make, cX6_make, 3, (some .int), 6),
  (yX6_printed, cX6_printed, 3, (some .int), 6),
  (yX6_sum, cX6_sum, 6, (some .int), 6),
  (yX6_edition, cX6_edition, 2, (some .int), 6),
  (yX6_pieces, cX6_pieces, 2, (some .int), 6),
  (yX6_piece, cX6_piece, 6, (some .int), 6),
  (yX6_owner, cX6_owner, 8, (some .int), 6),
  (yX6_at, cX6_at, 5, (some .int), 6),
  (yX6_longestGap, cX6_longestGap, 6, (some .int), 6),
  (yX6_wasMoved, cX6_wasMoved, 2, (some .int), 6),
  (yX6_freeLines, cX6_freeLines, 5, (some .int), 6),
  (yX6_next, cX6_next, 5, (some .int), 6),
  (yX6_piecesWith, cX6_piecesWith, 4, (some .int), 6),
  (yX6_roomFor, cX6_roomFor, 5, (some .int), 6),
  (yJ6_numberOfTrailingZeros_0f7a4, cJ6_numberOfTrailingZeros_0f7a4, 2, (some .int), 8),
  (yJ13_numberOfTrailingZeros_95d88, cJ13_numberOfTrailingZeros_95d88, 3, (some .int), 9),
  (yJ9_max_7cf53, cJ9_max_7cf53, 2, (some .int), 10),
  (yJ7_fill_d0a16, cJ7_fill_d0a16, 5, none, 11),
  (yJ7_fill_53178, cJ7_fill_53178, 4, none, 11)]
def mtab : List mRow := mtab_0 ++ (mtab_1 ++ (mtab_2 ++ (mtab_3)))
def mR (k : Nat) : mRow := mtab.getD k (yL_law, cL_law, 0, none, 99)
def yN (k : Nat) : MethodName := (mR k).1
def cN (k : Nat) : ByteArray := (mR k).2.1
def mL (k : Nat) : Nat := (mR k).2.2.1
def rT (k : Nat) : Option FieldType := (mR k).2.2.2.1
def oI (k : Nat) : Nat := (mR k).2.2.2.2
def okI (k : Nat) : Prop := Cond.instanceMethod (yN k) ∈ WS ∧ Cond.selects (oN (oI k)) (yN k) (yN k) ∈ WS ∧ Cond.initialized (oN (oI k)) ∈ WS ∧ Cond.code (yN k) (cN k) (mL k) (rT k) ∈ WS ∧ (yN k).cls = oN (oI k) ∧ oI k < 7
def okS (k : Nat) : Prop := Cond.static (yN k) ∈ WS ∧ Cond.initialized (oN (oI k)) ∈ WS ∧ Cond.code (yN k) (cN k) (mL k) (rT k) ∈ WS ∧ (yN k).cls = oN (oI k)
theorem okI_1 : okI 1 := ⟨mt2 (i := 18) (by decide +kernel) rfl, mt2 (i := 19) (by decide +kernel) rfl, mt1 (i := 3) (by decide +kernel) rfl, mt2 (i := 20) (by decide +kernel) rfl, by decide +kernel, by decide +kernel⟩
theorem okI_2 : okI 2 := ⟨mt2 (i := 24) (by decide +kernel) rfl, ms (i := 2) (q := (yX0_copyPieces, 12)) (by decide +kernel) rfl rfl, mt1 (i := 3) (by decide +kernel) rfl, mt2 (i := 25) (by decide +kernel) rfl, by decide +kernel, by decide +kernel⟩
theorem okI_3 : okI 3 := ⟨mt2 (i := 186) (by decide +kernel) rfl, mt2 (i := 187) (by decide +kernel) rfl, mt1 (i := 3) (by decide +kernel) rfl, mt2 (i := 188) (by decide +kernel) rfl, by decide +kernel, by decide +kernel⟩
theorem okI_4 : okI 4 := ⟨mt2 (i := 220) (by decide +kernel) rfl, mt2 (i := 221) (by decide +kernel) rfl, mt1 (i := 3) (by decide +kernel) rfl, mt2 (i := 222) (by decide +kernel) rfl, by decide +kernel, by decide +kernel⟩
theorem okI_5 : okI 5 := ⟨mt3 (i := 22) (by decide +kernel) rfl, mt3 (i := 23) (by decide +kernel) rfl, mt1 (i := 3) (by decide +kernel) rfl, mt3 (i := 24) (by decide +kernel) rfl, by decide +kernel, by decide +kernel⟩
theorem okI_6 : okI 6 := ⟨mt2 (i := 209) (by decide +kernel) rfl, mt2 (i := 210) (by decide +kernel) rfl, mt1 (i := 3) (by decide +kernel) rfl, mt2 (i := 211) (by decide +kernel) rfl, by decide +kernel, by decide +kernel⟩
theorem okI_7 : okI 7 := ⟨mt3 (i := 1) (by decide +kernel) rfl, mt3 (i := 2) (by decide +kernel) rfl, mt1 (i := 3) (by decide +kernel) rfl, mt3 (i := 3) (by decide +kernel) rfl, by decide +kernel, by decide +kernel⟩
theorem okI_8 : okI 8 := ⟨mt3 (i := 30) (by decide +kernel) rfl, mt3 (i := 31) (by decide +kernel) rfl, mt1 (i := 3) (by decide +kernel) rfl, mt3 (i := 32) (by decide +kernel) rfl, by decide +kernel, by decide +kernel⟩
theorem okI_9 : okI 9 := ⟨mt3 (i := 52) (by decide +kernel) rfl, mt3 (i := 53) (by decide +kernel) rfl, mt1 (i := 3) (by decide +kernel) rfl, mt3 (i := 54) (by decide +kernel) rfl, by decide +kernel, by decide +kernel⟩
theorem okI_10 : okI 10 := ⟨mt3 (i := 40) (by decide +kernel) rfl, mt3 (i := 41) (by decide +kernel) rfl, mt1 (i := 3) (by decide +kernel) rfl, mt3 (i := 42) (by decide +kernel) rfl, by decide +kernel, by decide +kernel⟩
theorem okI_11 : okI 11 := ⟨mt3 (i := 56) (by decide +kernel) rfl, mt3 (i := 57) (by decide +kernel) rfl, mt1 (i := 3) (by decide +kernel) rfl, mt3 (i := 58) (by decide +kernel) rfl, by decide +kernel, by decide +kernel⟩
theorem okI_12 : okI 12 := ⟨mt3 (i := 60) (by decide +kernel) rfl, mt3 (i := 61) (by decide +kernel) rfl, mt1 (i := 3) (by decide +kernel) rfl, mt3 (i := 62) (by decide +kernel) rfl, by decide +kernel, by decide +kernel⟩
theorem okI_13 : okI 13 := ⟨mt3 (i := 65) (by decide +kernel) rfl, mt3 (i := 66) (by decide +kernel) rfl, mt1 (i := 3) (by decide +kernel) rfl, mt3 (i := 67) (by decide +kernel) rfl, by decide +kernel, by decide +kernel⟩
theorem okI_14 : okI 14 := ⟨mt3 (i := 71) (by decide +kernel) rfl, mt3 (i := 72) (by decide +kernel) rfl, mt1 (i := 3) (by decide +kernel) rfl, mt3 (i := 73) (by decide +kernel) rfl, by decide +kernel, by decide +kernel⟩
theorem okI_15 : okI 15 := ⟨mt3 (i := 83) (by decide +kernel) rfl, mt3 (i := 84) (by decide +kernel) rfl, mt1 (i := 3) (by decide +kernel) rfl, mt3 (i := 85) (by decide +kernel) rfl, by decide +kernel, by decide +kernel⟩
theorem okI_16 : okI 16 := ⟨mt3 (i := 91) (by decide +kernel) rfl, mt3 (i := 92) (by decide +kernel) rfl, mt1 (i := 3) (by decide +kernel) rfl, mt3 (i := 93) (by decide +kernel) rfl, by decide +kernel, by decide +kernel⟩
theorem okI_17 : okI 17 := ⟨mt2 (i := 182) (by decide +kernel) rfl, mt2 (i := 183) (by decide +kernel) rfl, mt1 (i := 6) (by decide +kernel) rfl, mt2 (i := 184) (by decide +kernel) rfl, by decide +kernel, by decide +kernel⟩
theorem okI_18 : okI 18 := ⟨mt3 (i := 99) (by decide +kernel) rfl, mt3 (i := 100) (by decide +kernel) rfl, mt1 (i := 6) (by decide +kernel) rfl, mt3 (i := 101) (by decide +kernel) rfl, by decide +kernel, by decide +kernel⟩
theorem okI_19 : okI 19 := ⟨mt2 (i := 201) (by decide +kernel) rfl, ms (i := 15) (q := (yX1_putInOrder, 2)) (by decide +kernel) rfl rfl, mt1 (i := 6) (by decide +kernel) rfl, mt2 (i := 202) (by decide +kernel) rfl, by decide +kernel, by decide +kernel⟩
theorem okI_20 : okI 20 := ⟨mt2 (i := 206) (by decide +kernel) rfl, ms (i := 16) (q := (yX1_staysInPlace, 2)) (by decide +kernel) rfl rfl, mt1 (i := 6) (by decide +kernel) rfl, mt2 (i := 207) (by decide +kernel) rfl, by decide +kernel, by decide +kernel⟩
theorem okI_21 : okI 21 := ⟨mt2 (i := 225) (by decide +kernel) rfl, ms (i := 17) (q := (yX1_placeAnew, 2)) (by decide +kernel) rfl rfl, mt1 (i := 6) (by decide +kernel) rfl, mt2 (i := 226) (by decide +kernel) rfl, by decide +kernel, by decide +kernel⟩
theorem okI_22 : okI 22 := ⟨mt2 (i := 229) (by decide +kernel) rfl, ms (i := 18) (q := (yX1_placeNextPiece, 2)) (by decide +kernel) rfl rfl, mt1 (i := 6) (by decide +kernel) rfl, mt2 (i := 230) (by decide +kernel) rfl, by decide +kernel, by decide +kernel⟩
theorem okI_23 : okI 23 := ⟨mt2 (i := 233) (by decide +kernel) rfl, ms (i := 19) (q := (yX1_placeInFirstGap, 2)) (by decide +kernel) rfl rfl, mt1 (i := 6) (by decide +kernel) rfl, mt2 (i := 234) (by decide +kernel) rfl, by decide +kernel, by decide +kernel⟩
theorem okI_24 : okI 24 := ⟨mt2 (i := 11) (by decide +kernel) rfl, mt2 (i := 12) (by decide +kernel) rfl, mt1 (i := 2) (by decide +kernel) rfl, mt2 (i := 13) (by decide +kernel) rfl, by decide +kernel, by decide +kernel⟩
theorem okI_25 : okI 25 := ⟨mt2 (i := 27) (by decide +kernel) rfl, mt2 (i := 28) (by decide +kernel) rfl, mt1 (i := 2) (by decide +kernel) rfl, mt2 (i := 29) (by decide +kernel) rfl, by decide +kernel, by decide +kernel⟩
theorem okI_26 : okI 26 := ⟨mt1 (i := 236) (by decide +kernel) rfl, mt1 (i := 237) (by decide +kernel) rfl, mt1 (i := 2) (by decide +kernel) rfl, mt1 (i := 238) (by decide +kernel) rfl, by decide +kernel, by decide +kernel⟩
theorem okI_27 : okI 27 := ⟨mt2 (i := 42) (by decide +kernel) rfl, mt2 (i := 43) (by decide +kernel) rfl, mt1 (i := 2) (by decide +kernel) rfl, mt2 (i := 44) (by decide +kernel) rfl, by decide +kernel, by decide +kernel⟩
theorem okI_28 : okI 28 := ⟨mt2 (i := 46) (by decide +kernel) rfl, mt2 (i := 47) (by decide +kernel) rfl, mt1 (i := 2) (by decide +kernel) rfl, mt2 (i := 48) (by decide +kernel) rfl, by decide +kernel, by decide +kernel⟩
theorem okI_29 : okI 29 := ⟨mt2 (i := 50) (by decide +kernel) rfl, mt2 (i := 51) (by decide +kernel) rfl, mt1 (i := 2) (by decide +kernel) rfl, mt2 (i := 52) (by decide +kernel) rfl, by decide +kernel, by decide +kernel⟩
theorem okI_30 : okI 30 := ⟨mt2 (i := 78) (by decide +kernel) rfl, mt2 (i := 79) (by decide +kernel) rfl, mt1 (i := 2) (by decide +kernel) rfl, mt2 (i := 80) (by decide +kernel) rfl, by decide +kernel, by decide +kernel⟩
theorem okI_31 : okI 31 := ⟨mt3 (i := 36) (by decide +kernel) rfl, mt3 (i := 37) (by decide +kernel) rfl, mt1 (i := 2) (by decide +kernel) rfl, mt3 (i := 38) (by decide +kernel) rfl, by decide +kernel, by decide +kernel⟩
theorem okI_32 : okI 32 := ⟨mt2 (i := 74) (by decide +kernel) rfl, mt2 (i := 75) (by decide +kernel) rfl, mt1 (i := 2) (by decide +kernel) rfl, mt2 (i := 76) (by decide +kernel) rfl, by decide +kernel, by decide +kernel⟩
theorem okI_33 : okI 33 := ⟨mt2 (i := 99) (by decide +kernel) rfl, mt2 (i := 100) (by decide +kernel) rfl, mt1 (i := 2) (by decide +kernel) rfl, mt2 (i := 101) (by decide +kernel) rfl, by decide +kernel, by decide +kernel⟩
theorem okI_34 : okI 34 := ⟨mt2 (i := 236) (by decide +kernel) rfl, mt2 (i := 237) (by decide +kernel) rfl, mt1 (i := 2) (by decide +kernel) rfl, mt2 (i := 238) (by decide +kernel) rfl, by decide +kernel, by decide +kernel⟩
theorem okI_35 : okI 35 := ⟨mt2 (i := 87) (by decide +kernel) rfl, mt2 (i := 88) (by decide +kernel) rfl, mt1 (i := 2) (by decide +kernel) rfl, mt2 (i := 89) (by decide +kernel) rfl, by decide +kernel, by decide +kernel⟩
theorem okI_36 : okI 36 := ⟨mt2 (i := 103) (by decide +kernel) rfl, mt2 (i := 104) (by decide +kernel) rfl, mt1 (i := 2) (by decide +kernel) rfl, mt2 (i := 105) (by decide +kernel) rfl, by decide +kernel, by decide +kernel⟩
theorem okI_37 : okI 37 := ⟨mt2 (i := 108) (by decide +kernel) rfl, ms (i := 5) (q := (yX2_goesAhead, 11)) (by decide +kernel) rfl rfl, mt1 (i := 2) (by decide +kernel) rfl, mt2 (i := 109) (by decide +kernel) rfl, by decide +kernel, by decide +kernel⟩
theorem okI_38 : okI 38 := ⟨mt2 (i := 190) (by decide +kernel) rfl, mt2 (i := 191) (by decide +kernel) rfl, mt1 (i := 7) (by decide +kernel) rfl, mt2 (i := 192) (by decide +kernel) rfl, by decide +kernel, by decide +kernel⟩
theorem okI_39 : okI 39 := ⟨mt2 (i := 213) (by decide +kernel) rfl, mt2 (i := 214) (by decide +kernel) rfl, mt1 (i := 7) (by decide +kernel) rfl, mt2 (i := 215) (by decide +kernel) rfl, by decide +kernel, by decide +kernel⟩
theorem okI_40 : okI 40 := ⟨mt3 (i := 26) (by decide +kernel) rfl, mt3 (i := 27) (by decide +kernel) rfl, mt1 (i := 7) (by decide +kernel) rfl, mt3 (i := 28) (by decide +kernel) rfl, by decide +kernel, by decide +kernel⟩
theorem okI_41 : okI 41 := ⟨mt3 (i := 5) (by decide +kernel) rfl, mt3 (i := 6) (by decide +kernel) rfl, mt1 (i := 7) (by decide +kernel) rfl, mt3 (i := 7) (by decide +kernel) rfl, by decide +kernel, by decide +kernel⟩
theorem okI_42 : okI 42 := ⟨mt3 (i := 103) (by decide +kernel) rfl, mt3 (i := 104) (by decide +kernel) rfl, mt1 (i := 7) (by decide +kernel) rfl, mt3 (i := 105) (by decide +kernel) rfl, by decide +kernel, by decide +kernel⟩
theorem okI_43 : okI 43 := ⟨mt3 (i := 11) (by decide +kernel) rfl, ms (i := 20) (q := (yX3_startsOfRoom, 4)) (by decide +kernel) rfl rfl, mt1 (i := 7) (by decide +kernel) rfl, mt3 (i := 12) (by decide +kernel) rfl, by decide +kernel, by decide +kernel⟩
theorem okI_46 : okI 46 := ⟨mt2 (i := 123) (by decide +kernel) rfl, mt2 (i := 124) (by decide +kernel) rfl, mt1 (i := 5) (by decide +kernel) rfl, mt2 (i := 125) (by decide +kernel) rfl, by decide +kernel, by decide +kernel⟩
theorem okI_47 : okI 47 := ⟨mt2 (i := 135) (by decide +kernel) rfl, mt2 (i := 136) (by decide +kernel) rfl, mt1 (i := 5) (by decide +kernel) rfl, mt2 (i := 137) (by decide +kernel) rfl, by decide +kernel, by decide +kernel⟩
theorem okI_48 : okI 48 := ⟨mt2 (i := 152) (by decide +kernel) rfl, ms (i := 9) (q := (yX4_readStory, 4)) (by decide +kernel) rfl rfl, mt1 (i := 5) (by decide +kernel) rfl, mt2 (i := 153) (by decide +kernel) rfl, by decide +kernel, by decide +kernel⟩
theorem okI_49 : okI 49 := ⟨mt2 (i := 174) (by decide +kernel) rfl, ms (i := 14) (q := (yX4_readParagraphs, 4)) (by decide +kernel) rfl rfl, mt1 (i := 5) (by decide +kernel) rfl, mt2 (i := 175) (by decide +kernel) rfl, by decide +kernel, by decide +kernel⟩
theorem okI_50 : okI 50 := ⟨mt2 (i := 160) (by decide +kernel) rfl, ms (i := 11) (q := (yX4_readNumber, 4)) (by decide +kernel) rfl rfl, mt1 (i := 5) (by decide +kernel) rfl, mt2 (i := 161) (by decide +kernel) rfl, by decide +kernel, by decide +kernel⟩
theorem okI_51 : okI 51 := ⟨mt2 (i := 169) (by decide +kernel) rfl, ms (i := 13) (q := (yX4_readSign, 4)) (by decide +kernel) rfl rfl, mt1 (i := 5) (by decide +kernel) rfl, mt2 (i := 170) (by decide +kernel) rfl, by decide +kernel, by decide +kernel⟩
theorem okI_52 : okI 52 := ⟨mt2 (i := 140) (by decide +kernel) rfl, ms (i := 6) (q := (yX4_skipSpaces, 4)) (by decide +kernel) rfl rfl, mt1 (i := 5) (by decide +kernel) rfl, mt2 (i := 141) (by decide +kernel) rfl, by decide +kernel, by decide +kernel⟩
theorem okI_53 : okI 53 := ⟨mt2 (i := 144) (by decide +kernel) rfl, ms (i := 7) (q := (yX4_isAt, 4)) (by decide +kernel) rfl rfl, mt1 (i := 5) (by decide +kernel) rfl, mt2 (i := 145) (by decide +kernel) rfl, by decide +kernel, by decide +kernel⟩
theorem okI_54 : okI 54 := ⟨mt2 (i := 164) (by decide +kernel) rfl, ms (i := 12) (q := (yX4_isDigitAt, 4)) (by decide +kernel) rfl rfl, mt1 (i := 5) (by decide +kernel) rfl, mt2 (i := 165) (by decide +kernel) rfl, by decide +kernel, by decide +kernel⟩
theorem okI_55 : okI 55 := ⟨mt2 (i := 156) (by decide +kernel) rfl, ms (i := 10) (q := (yX4_failAt, 4)) (by decide +kernel) rfl rfl, mt1 (i := 5) (by decide +kernel) rfl, mt2 (i := 157) (by decide +kernel) rfl, by decide +kernel, by decide +kernel⟩
theorem okI_56 : okI 56 := ⟨mt2 (i := 148) (by decide +kernel) rfl, ms (i := 8) (q := (yX4_hasFailed, 4)) (by decide +kernel) rfl rfl, mt1 (i := 5) (by decide +kernel) rfl, mt2 (i := 149) (by decide +kernel) rfl, by decide +kernel, by decide +kernel⟩
theorem okI_57 : okI 57 := ⟨mt1 (i := 229) (by decide +kernel) rfl, mt1 (i := 230) (by decide +kernel) rfl, mt1 (i := 1) (by decide +kernel) rfl, mt1 (i := 231) (by decide +kernel) rfl, by decide +kernel, by decide +kernel⟩
theorem okI_58 : okI 58 := ⟨mt2 (i := 31) (by decide +kernel) rfl, mt2 (i := 32) (by decide +kernel) rfl, mt1 (i := 1) (by decide +kernel) rfl, mt2 (i := 33) (by decide +kernel) rfl, by decide +kernel, by decide +kernel⟩
theorem okI_59 : okI 59 := ⟨mt2 (i := 54) (by decide +kernel) rfl, mt2 (i := 55) (by decide +kernel) rfl, mt1 (i := 1) (by decide +kernel) rfl, mt2 (i := 56) (by decide +kernel) rfl, by decide +kernel, by decide +kernel⟩
theorem okI_60 : okI 60 := ⟨mt2 (i := 62) (by decide +kernel) rfl, mt2 (i := 63) (by decide +kernel) rfl, mt1 (i := 1) (by decide +kernel) rfl, mt2 (i := 64) (by decide +kernel) rfl, by decide +kernel, by decide +kernel⟩
theorem okI_61 : okI 61 := ⟨mt2 (i := 66) (by decide +kernel) rfl, mt2 (i := 67) (by decide +kernel) rfl, mt1 (i := 1) (by decide +kernel) rfl, mt2 (i := 68) (by decide +kernel) rfl, by decide +kernel, by decide +kernel⟩
theorem okI_62 : okI 62 := ⟨mt2 (i := 70) (by decide +kernel) rfl, mt2 (i := 71) (by decide +kernel) rfl, mt1 (i := 1) (by decide +kernel) rfl, mt2 (i := 72) (by decide +kernel) rfl, by decide +kernel, by decide +kernel⟩
theorem okI_63 : okI 63 := ⟨mt2 (i := 83) (by decide +kernel) rfl, mt2 (i := 84) (by decide +kernel) rfl, mt1 (i := 1) (by decide +kernel) rfl, mt2 (i := 85) (by decide +kernel) rfl, by decide +kernel, by decide +kernel⟩
theorem okI_64 : okI 64 := ⟨mt2 (i := 91) (by decide +kernel) rfl, mt2 (i := 92) (by decide +kernel) rfl, mt1 (i := 1) (by decide +kernel) rfl, mt2 (i := 93) (by decide +kernel) rfl, by decide +kernel, by decide +kernel⟩
theorem okI_65 : okI 65 := ⟨mt2 (i := 95) (by decide +kernel) rfl, mt2 (i := 96) (by decide +kernel) rfl, mt1 (i := 1) (by decide +kernel) rfl, mt2 (i := 97) (by decide +kernel) rfl, by decide +kernel, by decide +kernel⟩
theorem okI_66 : okI 66 := ⟨mt2 (i := 111) (by decide +kernel) rfl, mt2 (i := 112) (by decide +kernel) rfl, mt1 (i := 1) (by decide +kernel) rfl, mt2 (i := 113) (by decide +kernel) rfl, by decide +kernel, by decide +kernel⟩
theorem okI_67 : okI 67 := ⟨mt2 (i := 115) (by decide +kernel) rfl, mt2 (i := 116) (by decide +kernel) rfl, mt1 (i := 1) (by decide +kernel) rfl, mt2 (i := 117) (by decide +kernel) rfl, by decide +kernel, by decide +kernel⟩
theorem okI_68 : okI 68 := ⟨mt2 (i := 119) (by decide +kernel) rfl, mt2 (i := 120) (by decide +kernel) rfl, mt1 (i := 1) (by decide +kernel) rfl, mt2 (i := 121) (by decide +kernel) rfl, by decide +kernel, by decide +kernel⟩
theorem okI_69 : okI 69 := ⟨mt2 (i := 127) (by decide +kernel) rfl, mt2 (i := 128) (by decide +kernel) rfl, mt1 (i := 1) (by decide +kernel) rfl, mt2 (i := 129) (by decide +kernel) rfl, by decide +kernel, by decide +kernel⟩
theorem okI_70 : okI 70 := ⟨mt2 (i := 131) (by decide +kernel) rfl, mt2 (i := 132) (by decide +kernel) rfl, mt1 (i := 1) (by decide +kernel) rfl, mt2 (i := 133) (by decide +kernel) rfl, by decide +kernel, by decide +kernel⟩
theorem okI_71 : okI 71 := ⟨mt2 (i := 178) (by decide +kernel) rfl, mt2 (i := 179) (by decide +kernel) rfl, mt1 (i := 1) (by decide +kernel) rfl, mt2 (i := 180) (by decide +kernel) rfl, by decide +kernel, by decide +kernel⟩
theorem okI_72 : okI 72 := ⟨mt3 (i := 44) (by decide +kernel) rfl, mt3 (i := 45) (by decide +kernel) rfl, mt1 (i := 1) (by decide +kernel) rfl, mt3 (i := 46) (by decide +kernel) rfl, by decide +kernel, by decide +kernel⟩
theorem okI_73 : okI 73 := ⟨mt3 (i := 75) (by decide +kernel) rfl, mt3 (i := 76) (by decide +kernel) rfl, mt1 (i := 1) (by decide +kernel) rfl, mt3 (i := 77) (by decide +kernel) rfl, by decide +kernel, by decide +kernel⟩
theorem okI_74 : okI 74 := ⟨mt3 (i := 79) (by decide +kernel) rfl, mt3 (i := 80) (by decide +kernel) rfl, mt1 (i := 1) (by decide +kernel) rfl, mt3 (i := 81) (by decide +kernel) rfl, by decide +kernel, by decide +kernel⟩
theorem okI_75 : okI 75 := ⟨mt3 (i := 87) (by decide +kernel) rfl, mt3 (i := 88) (by decide +kernel) rfl, mt1 (i := 1) (by decide +kernel) rfl, mt3 (i := 89) (by decide +kernel) rfl, by decide +kernel, by decide +kernel⟩
theorem okI_76 : okI 76 := ⟨mt3 (i := 95) (by decide +kernel) rfl, mt3 (i := 96) (by decide +kernel) rfl, mt1 (i := 1) (by decide +kernel) rfl, mt3 (i := 97) (by decide +kernel) rfl, by decide +kernel, by decide +kernel⟩
theorem okI_77 : okI 77 := ⟨mt3 (i := 108) (by decide +kernel) rfl, mt3 (i := 109) (by decide +kernel) rfl, mt1 (i := 1) (by decide +kernel) rfl, mt3 (i := 110) (by decide +kernel) rfl, by decide +kernel, by decide +kernel⟩
theorem okI_78 : okI 78 := ⟨mt3 (i := 113) (by decide +kernel) rfl, mt3 (i := 114) (by decide +kernel) rfl, mt1 (i := 1) (by decide +kernel) rfl, mt3 (i := 115) (by decide +kernel) rfl, by decide +kernel, by decide +kernel⟩
theorem okI_79 : okI 79 := ⟨mt3 (i := 117) (by decide +kernel) rfl, mt3 (i := 118) (by decide +kernel) rfl, mt1 (i := 1) (by decide +kernel) rfl, mt3 (i := 119) (by decide +kernel) rfl, by decide +kernel, by decide +kernel⟩
theorem okI_80 : okI 80 := ⟨mt3 (i := 121) (by decide +kernel) rfl, mt3 (i := 122) (by decide +kernel) rfl, mt1 (i := 1) (by decide +kernel) rfl, mt3 (i := 123) (by decide +kernel) rfl, by decide +kernel, by decide +kernel⟩
theorem okI_81 : okI 81 := ⟨mt3 (i := 125) (by decide +kernel) rfl, mt3 (i := 126) (by decide +kernel) rfl, mt1 (i := 1) (by decide +kernel) rfl, mt3 (i := 127) (by decide +kernel) rfl, by decide +kernel, by decide +kernel⟩
theorem okI_82 : okI 82 := ⟨mt2 (i := 4) (by decide +kernel) rfl, ms (i := 0) (q := (yX5_saveState, 7)) (by decide +kernel) rfl rfl, mt1 (i := 1) (by decide +kernel) rfl, mt2 (i := 5) (by decide +kernel) rfl, by decide +kernel, by decide +kernel⟩
theorem okI_83 : okI 83 := ⟨mt2 (i := 8) (by decide +kernel) rfl, ms (i := 1) (q := (yX5_discardOldest, 7)) (by decide +kernel) rfl rfl, mt1 (i := 1) (by decide +kernel) rfl, mt2 (i := 9) (by decide +kernel) rfl, by decide +kernel, by decide +kernel⟩
theorem okI_84 : okI 84 := ⟨mt2 (i := 59) (by decide +kernel) rfl, ms (i := 4) (q := (yX5_isStory, 7)) (by decide +kernel) rfl rfl, mt1 (i := 1) (by decide +kernel) rfl, mt2 (i := 60) (by decide +kernel) rfl, by decide +kernel, by decide +kernel⟩
theorem okI_85 : okI 85 := ⟨mt2 (i := 39) (by decide +kernel) rfl, ms (i := 3) (q := (yX5_isPage, 7)) (by decide +kernel) rfl rfl, mt1 (i := 1) (by decide +kernel) rfl, mt2 (i := 40) (by decide +kernel) rfl, by decide +kernel, by decide +kernel⟩
theorem okI_86 : okI 86 := ⟨mt3 (i := 49) (by decide +kernel) rfl, ms (i := 21) (q := (yX5_hasEdition, 7)) (by decide +kernel) rfl rfl, mt1 (i := 1) (by decide +kernel) rfl, mt3 (i := 50) (by decide +kernel) rfl, by decide +kernel, by decide +kernel⟩
theorem okI_90 : okI 90 := ⟨mt3 (i := 186) (by decide +kernel) rfl, ms (i := 23) (q := (yX6_notes, 11)) (by decide +kernel) rfl rfl, mt1 (i := 8) (by decide +kernel) rfl, mt3 (i := 187) (by decide +kernel) rfl, by decide +kernel, by decide +kernel⟩
theorem okI_91 : okI 91 := ⟨mt3 (i := 170) (by decide +kernel) rfl, mt3 (i := 171) (by decide +kernel) rfl, mt1 (i := 8) (by decide +kernel) rfl, mt3 (i := 172) (by decide +kernel) rfl, by decide +kernel, by decide +kernel⟩
theorem okI_92 : okI 92 := ⟨mt4 (i := 161) (by decide +kernel) rfl, ms (i := 54) (q := (yX6_keeps, 11)) (by decide +kernel) rfl rfl, mt1 (i := 8) (by decide +kernel) rfl, mt4 (i := 162) (by decide +kernel) rfl, by decide +kernel, by decide +kernel⟩
theorem okI_93 : okI 93 := ⟨mt4 (i := 165) (by decide +kernel) rfl, ms (i := 55) (q := (yX6_restores, 11)) (by decide +kernel) rfl rfl, mt1 (i := 8) (by decide +kernel) rfl, mt4 (i := 166) (by decide +kernel) rfl, by decide +kernel, by decide +kernel⟩
theorem okI_94 : okI 94 := ⟨mt3 (i := 214) (by decide +kernel) rfl, ms (i := 28) (q := (yX6_isStory, 11)) (by decide +kernel) rfl rfl, mt1 (i := 8) (by decide +kernel) rfl, mt3 (i := 215) (by decide +kernel) rfl, by decide +kernel, by decide +kernel⟩
theorem okI_95 : okI 95 := ⟨mt3 (i := 182) (by decide +kernel) rfl, ms (i := 22) (q := (yX6_of, 11)) (by decide +kernel) rfl rfl, mt1 (i := 8) (by decide +kernel) rfl, mt3 (i := 183) (by decide +kernel) rfl, by decide +kernel, by decide +kernel⟩
theorem okI_96 : okI 96 := ⟨mt3 (i := 190) (by decide +kernel) rfl, ms (i := 24) (q := (yX6_puts, 11)) (by decide +kernel) rfl rfl, mt1 (i := 8) (by decide +kernel) rfl, mt3 (i := 191) (by decide +kernel) rfl, by decide +kernel, by decide +kernel⟩
theorem okI_97 : okI 97 := ⟨mt3 (i := 198) (by decide +kernel) rfl, ms (i := 25) (q := (yX6_isPage, 11)) (by decide +kernel) rfl rfl, mt1 (i := 8) (by decide +kernel) rfl, mt3 (i := 199) (by decide +kernel) rfl, by decide +kernel, by decide +kernel⟩
theorem okI_98 : okI 98 := ⟨mt3 (i := 174) (by decide +kernel) rfl, mt3 (i := 175) (by decide +kernel) rfl, mt1 (i := 8) (by decide +kernel) rfl, mt3 (i := 176) (by decide +kernel) rfl, by decide +kernel, by decide +kernel⟩
theorem okI_99 : okI 99 := ⟨mt3 (i := 202) (by decide +kernel) rfl, ms (i := 26) (q := (yX6_adds, 11)) (by decide +kernel) rfl rfl, mt1 (i := 8) (by decide +kernel) rfl, mt3 (i := 203) (by decide +kernel) rfl, by decide +kernel, by decide +kernel⟩
theorem okI_100 : okI 100 := ⟨mt3 (i := 206) (by decide +kernel) rfl, ms (i := 27) (q := (yX6_lengthens, 11)) (by decide +kernel) rfl rfl, mt1 (i := 8) (by decide +kernel) rfl, mt3 (i := 207) (by decide +kernel) rfl, by decide +kernel, by decide +kernel⟩
theorem okI_101 : okI 101 := ⟨mt3 (i := 193) (by decide +kernel) rfl, mt3 (i := 194) (by decide +kernel) rfl, mt1 (i := 8) (by decide +kernel) rfl, mt3 (i := 195) (by decide +kernel) rfl, by decide +kernel, by decide +kernel⟩
theorem okI_102 : okI 102 := ⟨mt3 (i := 209) (by decide +kernel) rfl, mt3 (i := 210) (by decide +kernel) rfl, mt1 (i := 8) (by decide +kernel) rfl, mt3 (i := 211) (by decide +kernel) rfl, by decide +kernel, by decide +kernel⟩
theorem okI_103 : okI 103 := ⟨mt3 (i := 217) (by decide +kernel) rfl, mt3 (i := 218) (by decide +kernel) rfl, mt1 (i := 8) (by decide +kernel) rfl, mt3 (i := 219) (by decide +kernel) rfl, by decide +kernel, by decide +kernel⟩
theorem okI_104 : okI 104 := ⟨mt3 (i := 221) (by decide +kernel) rfl, mt3 (i := 222) (by decide +kernel) rfl, mt1 (i := 8) (by decide +kernel) rfl, mt3 (i := 223) (by decide +kernel) rfl, by decide +kernel, by decide +kernel⟩
theorem okI_105 : okI 105 := ⟨mt3 (i := 225) (by decide +kernel) rfl, mt3 (i := 226) (by decide +kernel) rfl, mt1 (i := 8) (by decide +kernel) rfl, mt3 (i := 227) (by decide +kernel) rfl, by decide +kernel, by decide +kernel⟩
theorem okI_106 : okI 106 := ⟨mt3 (i := 238) (by decide +kernel) rfl, ms (i := 30) (q := (yX6_alive, 11)) (by decide +kernel) rfl rfl, mt1 (i := 8) (by decide +kernel) rfl, mt3 (i := 239) (by decide +kernel) rfl, by decide +kernel, by decide +kernel⟩
theorem okI_107 : okI 107 := ⟨mt3 (i := 234) (by decide +kernel) rfl, ms (i := 29) (q := (yX6_turns, 11)) (by decide +kernel) rfl rfl, mt1 (i := 8) (by decide +kernel) rfl, mt3 (i := 235) (by decide +kernel) rfl, by decide +kernel, by decide +kernel⟩
theorem okI_108 : okI 108 := ⟨mt3 (i := 229) (by decide +kernel) rfl, mt3 (i := 230) (by decide +kernel) rfl, mt1 (i := 8) (by decide +kernel) rfl, mt3 (i := 231) (by decide +kernel) rfl, by decide +kernel, by decide +kernel⟩
theorem okI_109 : okI 109 := ⟨mt4 (i := 1) (by decide +kernel) rfl, mt4 (i := 2) (by decide +kernel) rfl, mt1 (i := 8) (by decide +kernel) rfl, mt4 (i := 3) (by decide +kernel) rfl, by decide +kernel, by decide +kernel⟩
theorem okI_110 : okI 110 := ⟨mt4 (i := 18) (by decide +kernel) rfl, ms (i := 33) (q := (yX6_isAhead, 11)) (by decide +kernel) rfl rfl, mt1 (i := 8) (by decide +kernel) rfl, mt4 (i := 19) (by decide +kernel) rfl, by decide +kernel, by decide +kernel⟩
theorem okI_111 : okI 111 := ⟨mt4 (i := 14) (by decide +kernel) rfl, ms (i := 32) (q := (yX6_ahead, 11)) (by decide +kernel) rfl rfl, mt1 (i := 8) (by decide +kernel) rfl, mt4 (i := 15) (by decide +kernel) rfl, by decide +kernel, by decide +kernel⟩
theorem okI_112 : okI 112 := ⟨mt4 (i := 10) (by decide +kernel) rfl, ms (i := 31) (q := (yX6_lines, 11)) (by decide +kernel) rfl rfl, mt1 (i := 8) (by decide +kernel) rfl, mt4 (i := 11) (by decide +kernel) rfl, by decide +kernel, by decide +kernel⟩
theorem okI_113 : okI 113 := ⟨mt4 (i := 5) (by decide +kernel) rfl, mt4 (i := 6) (by decide +kernel) rfl, mt1 (i := 8) (by decide +kernel) rfl, mt4 (i := 7) (by decide +kernel) rfl, by decide +kernel, by decide +kernel⟩
theorem okI_114 : okI 114 := ⟨mt4 (i := 21) (by decide +kernel) rfl, mt4 (i := 22) (by decide +kernel) rfl, mt1 (i := 8) (by decide +kernel) rfl, mt4 (i := 23) (by decide +kernel) rfl, by decide +kernel, by decide +kernel⟩
theorem okI_115 : okI 115 := ⟨mt4 (i := 25) (by decide +kernel) rfl, mt4 (i := 26) (by decide +kernel) rfl, mt1 (i := 8) (by decide +kernel) rfl, mt4 (i := 27) (by decide +kernel) rfl, by decide +kernel, by decide +kernel⟩
theorem okI_116 : okI 116 := ⟨mt4 (i := 29) (by decide +kernel) rfl, mt4 (i := 30) (by decide +kernel) rfl, mt1 (i := 8) (by decide +kernel) rfl, mt4 (i := 31) (by decide +kernel) rfl, by decide +kernel, by decide +kernel⟩
theorem okI_117 : okI 117 := ⟨mt4 (i := 33) (by decide +kernel) rfl, mt4 (i := 34) (by decide +kernel) rfl, mt1 (i := 8) (by decide +kernel) rfl, mt4 (i := 35) (by decide +kernel) rfl, by decide +kernel, by decide +kernel⟩
theorem okI_118 : okI 118 := ⟨mt4 (i := 42) (by decide +kernel) rfl, ms (i := 34) (q := (yX6_here, 11)) (by decide +kernel) rfl rfl, mt1 (i := 8) (by decide +kernel) rfl, mt4 (i := 43) (by decide +kernel) rfl, by decide +kernel, by decide +kernel⟩
theorem okI_119 : okI 119 := ⟨mt4 (i := 54) (by decide +kernel) rfl, ms (i := 37) (q := (yX6_isDigit, 11)) (by decide +kernel) rfl rfl, mt1 (i := 8) (by decide +kernel) rfl, mt4 (i := 55) (by decide +kernel) rfl, by decide +kernel, by decide +kernel⟩
theorem okI_120 : okI 120 := ⟨mt4 (i := 50) (by decide +kernel) rfl, ms (i := 36) (q := (yX6_reads, 11)) (by decide +kernel) rfl rfl, mt1 (i := 8) (by decide +kernel) rfl, mt4 (i := 51) (by decide +kernel) rfl, by decide +kernel, by decide +kernel⟩
theorem okI_121 : okI 121 := ⟨mt4 (i := 58) (by decide +kernel) rfl, ms (i := 38) (q := (yX6_takes, 11)) (by decide +kernel) rfl rfl, mt1 (i := 8) (by decide +kernel) rfl, mt4 (i := 59) (by decide +kernel) rfl, by decide +kernel, by decide +kernel⟩
theorem okI_122 : okI 122 := ⟨mt4 (i := 46) (by decide +kernel) rfl, ms (i := 35) (q := (yX6_readsStory, 11)) (by decide +kernel) rfl rfl, mt1 (i := 8) (by decide +kernel) rfl, mt4 (i := 47) (by decide +kernel) rfl, by decide +kernel, by decide +kernel⟩
theorem okI_123 : okI 123 := ⟨mt4 (i := 62) (by decide +kernel) rfl, ms (i := 39) (q := (yX6_exchanges, 11)) (by decide +kernel) rfl rfl, mt1 (i := 8) (by decide +kernel) rfl, mt4 (i := 63) (by decide +kernel) rfl, by decide +kernel, by decide +kernel⟩
theorem okI_124 : okI 124 := ⟨mt4 (i := 37) (by decide +kernel) rfl, mt4 (i := 38) (by decide +kernel) rfl, mt1 (i := 8) (by decide +kernel) rfl, mt4 (i := 39) (by decide +kernel) rfl, by decide +kernel, by decide +kernel⟩
theorem okI_126 : okI 126 := ⟨mt4 (i := 93) (by decide +kernel) rfl, ms (i := 45) (q := (yX6_gap, 11)) (by decide +kernel) rfl rfl, mt1 (i := 8) (by decide +kernel) rfl, mt4 (i := 94) (by decide +kernel) rfl, by decide +kernel, by decide +kernel⟩
theorem okI_127 : okI 127 := ⟨mt4 (i := 85) (by decide +kernel) rfl, ms (i := 43) (q := (yX6_marks, 11)) (by decide +kernel) rfl rfl, mt1 (i := 8) (by decide +kernel) rfl, mt4 (i := 86) (by decide +kernel) rfl, by decide +kernel, by decide +kernel⟩
theorem okI_128 : okI 128 := ⟨mt4 (i := 81) (by decide +kernel) rfl, ms (i := 42) (q := (yX6_prints, 11)) (by decide +kernel) rfl rfl, mt1 (i := 8) (by decide +kernel) rfl, mt4 (i := 82) (by decide +kernel) rfl, by decide +kernel, by decide +kernel⟩
theorem okI_129 : okI 129 := ⟨mt4 (i := 74) (by decide +kernel) rfl, ms (i := 41) (q := (yX6_stays, 11)) (by decide +kernel) rfl rfl, mt1 (i := 8) (by decide +kernel) rfl, mt4 (i := 75) (by decide +kernel) rfl, by decide +kernel, by decide +kernel⟩
theorem okI_130 : okI 130 := ⟨mt4 (i := 101) (by decide +kernel) rfl, ms (i := 47) (q := (yX6_pageFor, 11)) (by decide +kernel) rfl rfl, mt1 (i := 8) (by decide +kernel) rfl, mt4 (i := 102) (by decide +kernel) rfl, by decide +kernel, by decide +kernel⟩
theorem okI_131 : okI 131 := ⟨mt4 (i := 97) (by decide +kernel) rfl, ms (i := 46) (q := (yX6_continues, 11)) (by decide +kernel) rfl rfl, mt1 (i := 8) (by decide +kernel) rfl, mt4 (i := 98) (by decide +kernel) rfl, by decide +kernel, by decide +kernel⟩
theorem okI_132 : okI 132 := ⟨mt4 (i := 89) (by decide +kernel) rfl, ms (i := 44) (q := (yX6_places, 11)) (by decide +kernel) rfl rfl, mt1 (i := 8) (by decide +kernel) rfl, mt4 (i := 90) (by decide +kernel) rfl, by decide +kernel, by decide +kernel⟩
theorem okI_133 : okI 133 := ⟨mt4 (i := 105) (by decide +kernel) rfl, ms (i := 48) (q := (yX6_takesBack, 11)) (by decide +kernel) rfl rfl, mt1 (i := 8) (by decide +kernel) rfl, mt4 (i := 106) (by decide +kernel) rfl, by decide +kernel, by decide +kernel⟩
theorem okI_134 : okI 134 := ⟨mt4 (i := 109) (by decide +kernel) rfl, ms (i := 49) (q := (yX6_moves, 11)) (by decide +kernel) rfl rfl, mt1 (i := 8) (by decide +kernel) rfl, mt4 (i := 110) (by decide +kernel) rfl, by decide +kernel, by decide +kernel⟩
theorem okI_135 : okI 135 := ⟨mt4 (i := 70) (by decide +kernel) rfl, ms (i := 40) (q := (yX6_makes, 11)) (by decide +kernel) rfl rfl, mt1 (i := 8) (by decide +kernel) rfl, mt4 (i := 71) (by decide +kernel) rfl, by decide +kernel, by decide +kernel⟩
theorem okI_136 : okI 136 := ⟨mt4 (i := 65) (by decide +kernel) rfl, mt4 (i := 66) (by decide +kernel) rfl, mt1 (i := 8) (by decide +kernel) rfl, mt4 (i := 67) (by decide +kernel) rfl, by decide +kernel, by decide +kernel⟩
theorem okI_137 : okI 137 := ⟨mt4 (i := 121) (by decide +kernel) rfl, ms (i := 51) (q := (yX6_printed, 11)) (by decide +kernel) rfl rfl, mt1 (i := 8) (by decide +kernel) rfl, mt4 (i := 122) (by decide +kernel) rfl, by decide +kernel, by decide +kernel⟩
theorem okI_138 : okI 138 := ⟨mt4 (i := 117) (by decide +kernel) rfl, ms (i := 50) (q := (yX6_sum, 11)) (by decide +kernel) rfl rfl, mt1 (i := 8) (by decide +kernel) rfl, mt4 (i := 118) (by decide +kernel) rfl, by decide +kernel, by decide +kernel⟩
theorem okI_139 : okI 139 := ⟨mt4 (i := 112) (by decide +kernel) rfl, mt4 (i := 113) (by decide +kernel) rfl, mt1 (i := 8) (by decide +kernel) rfl, mt4 (i := 114) (by decide +kernel) rfl, by decide +kernel, by decide +kernel⟩
theorem okI_140 : okI 140 := ⟨mt4 (i := 124) (by decide +kernel) rfl, mt4 (i := 125) (by decide +kernel) rfl, mt1 (i := 8) (by decide +kernel) rfl, mt4 (i := 126) (by decide +kernel) rfl, by decide +kernel, by decide +kernel⟩
theorem okI_141 : okI 141 := ⟨mt4 (i := 128) (by decide +kernel) rfl, mt4 (i := 129) (by decide +kernel) rfl, mt1 (i := 8) (by decide +kernel) rfl, mt4 (i := 130) (by decide +kernel) rfl, by decide +kernel, by decide +kernel⟩
theorem okI_142 : okI 142 := ⟨mt4 (i := 137) (by decide +kernel) rfl, ms (i := 52) (q := (yX6_owner, 11)) (by decide +kernel) rfl rfl, mt1 (i := 8) (by decide +kernel) rfl, mt4 (i := 138) (by decide +kernel) rfl, by decide +kernel, by decide +kernel⟩
theorem okI_143 : okI 143 := ⟨mt4 (i := 132) (by decide +kernel) rfl, mt4 (i := 133) (by decide +kernel) rfl, mt1 (i := 8) (by decide +kernel) rfl, mt4 (i := 134) (by decide +kernel) rfl, by decide +kernel, by decide +kernel⟩
theorem okI_144 : okI 144 := ⟨mt4 (i := 140) (by decide +kernel) rfl, mt4 (i := 141) (by decide +kernel) rfl, mt1 (i := 8) (by decide +kernel) rfl, mt4 (i := 142) (by decide +kernel) rfl, by decide +kernel, by decide +kernel⟩
theorem okI_145 : okI 145 := ⟨mt4 (i := 144) (by decide +kernel) rfl, mt4 (i := 145) (by decide +kernel) rfl, mt1 (i := 8) (by decide +kernel) rfl, mt4 (i := 146) (by decide +kernel) rfl, by decide +kernel, by decide +kernel⟩
theorem okI_146 : okI 146 := ⟨mt4 (i := 153) (by decide +kernel) rfl, ms (i := 53) (q := (yX6_freeLines, 11)) (by decide +kernel) rfl rfl, mt1 (i := 8) (by decide +kernel) rfl, mt4 (i := 154) (by decide +kernel) rfl, by decide +kernel, by decide +kernel⟩
theorem okI_147 : okI 147 := ⟨mt4 (i := 148) (by decide +kernel) rfl, mt4 (i := 149) (by decide +kernel) rfl, mt1 (i := 8) (by decide +kernel) rfl, mt4 (i := 150) (by decide +kernel) rfl, by decide +kernel, by decide +kernel⟩
theorem okI_148 : okI 148 := ⟨mt4 (i := 156) (by decide +kernel) rfl, mt4 (i := 157) (by decide +kernel) rfl, mt1 (i := 8) (by decide +kernel) rfl, mt4 (i := 158) (by decide +kernel) rfl, by decide +kernel, by decide +kernel⟩
theorem okI_149 : okI 149 := ⟨mt4 (i := 168) (by decide +kernel) rfl, mt4 (i := 169) (by decide +kernel) rfl, mt1 (i := 8) (by decide +kernel) rfl, mt4 (i := 170) (by decide +kernel) rfl, by decide +kernel, by decide +kernel⟩
theorem okS_44 : okS 44 := ⟨mt2 (i := 217) (by decide +kernel) rfl, mt1 (i := 7) (by decide +kernel) rfl, mt2 (i := 218) (by decide +kernel) rfl, by decide +kernel⟩
theorem okS_45 : okS 45 := ⟨mt2 (i := 194) (by decide +kernel) rfl, mt1 (i := 7) (by decide +kernel) rfl, mt2 (i := 195) (by decide +kernel) rfl, by decide +kernel⟩
theorem okS_87 : okS 87 := ⟨mt2 (i := 35) (by decide +kernel) rfl, mt1 (i := 1) (by decide +kernel) rfl, mt2 (i := 36) (by decide +kernel) rfl, by decide +kernel⟩
theorem okS_88 : okS 88 := ⟨mt1 (i := 233) (by decide +kernel) rfl, mt1 (i := 1) (by decide +kernel) rfl, mt1 (i := 234) (by decide +kernel) rfl, by decide +kernel⟩
theorem okS_89 : okS 89 := ⟨mt3 (i := 178) (by decide +kernel) rfl, mt1 (i := 8) (by decide +kernel) rfl, mt3 (i := 179) (by decide +kernel) rfl, by decide +kernel⟩
theorem okS_125 : okS 125 := ⟨mt4 (i := 77) (by decide +kernel) rfl, mt1 (i := 8) (by decide +kernel) rfl, mt4 (i := 78) (by decide +kernel) rfl, by decide +kernel⟩
theorem okS_150 : okS 150 := ⟨mt3 (i := 18) (by decide +kernel) rfl, mt1 (i := 13) (by decide +kernel) rfl, mt3 (i := 19) (by decide +kernel) rfl, by decide +kernel⟩
theorem okS_151 : okS 151 := ⟨mt3 (i := 15) (by decide +kernel) rfl, mt1 (i := 12) (by decide +kernel) rfl, mt3 (i := 16) (by decide +kernel) rfl, by decide +kernel⟩
theorem okS_152 : okS 152 := ⟨mt2 (i := 0) (by decide +kernel) rfl, mt1 (i := 9) (by decide +kernel) rfl, mt2 (i := 1) (by decide +kernel) rfl, by decide +kernel⟩
theorem okS_153 : okS 153 := ⟨mt2 (i := 197) (by decide +kernel) rfl, mt1 (i := 4) (by decide +kernel) rfl, mt2 (i := 198) (by decide +kernel) rfl, by decide +kernel⟩
theorem okS_154 : okS 154 := ⟨mt1 (i := 35) (by decide +kernel) rfl, mt1 (i := 4) (by decide +kernel) rfl, mt1 (i := 36) (by decide +kernel) rfl, by decide +kernel⟩
def LI : List Nat := [1, 2, 3, 4, 5, 6, 7, 8, 9, 10, 11, 12, 13, 14, 15, 16, 17, 18, 19, 20, 21, 22, 23, 24, 25, 26, 27, 28, 29, 30, 31, 32, 33, 34, 35, 36, 37, 38, 39, 40, 41, 42, 43, 46, 47, 48, 49, 50, 51, 52, 53, 54, 55, 56, 57, 58, 59, 60, 61, 62, 63, 64, 65, 66, 67, 68, 69, 70, 71, 72, 73, 74, 75, 76, 77, 78, 79, 80, 81, 82, 83, 84, 85, 86, 90, 91, 92, 93, 94, 95, 96, 97, 98, 99, 100, 101, 102, 103, 104, 105, 106, 107, 108, 109, 110, 111, 112, 113, 114, 115, 116, 117, 118, 119, 120, 121, 122, 123, 124, 126, 127, 128, 129, 130, 131, 132, 133, 134, 135, 136, 137, 138, 139, 140, 141, 142, 143, 144, 145, 146, 147, 148, 149]
theorem LI_c0 : ∀ k ∈ [1, 2, 3, 4, 5, 6, 7, 8, 9, 10, 11, 12, 13, 14, 15, 16, 17, 18, 19, 20, 21, 22, 23, 24, 25], okI k := List.forall_mem_cons.mpr ⟨okI_1, List.forall_mem_cons.mpr ⟨okI_2, List.forall_mem_cons.mpr ⟨okI_3, List.forall_mem_cons.mpr ⟨okI_4, List.forall_mem_cons.mpr ⟨okI_5, List.forall_mem_cons.mpr ⟨okI_6, List.forall_mem_cons.mpr ⟨okI_7, List.forall_mem_cons.mpr ⟨okI_8, List.forall_mem_cons.mpr ⟨okI_9, List.forall_mem_cons.mpr ⟨okI_10, List.forall_mem_cons.mpr ⟨okI_11, List.forall_mem_cons.mpr ⟨okI_12, List.forall_mem_cons.mpr ⟨okI_13, List.forall_mem_cons.mpr ⟨okI_14, List.forall_mem_cons.mpr ⟨okI_15, List.forall_mem_cons.mpr ⟨okI_16, List.forall_mem_cons.mpr ⟨okI_17, List.forall_mem_cons.mpr ⟨okI_18, List.forall_mem_cons.mpr ⟨okI_19, List.forall_mem_cons.mpr ⟨okI_20, List.forall_mem_cons.mpr ⟨okI_21, List.forall_mem_cons.mpr ⟨okI_22, List.forall_mem_cons.mpr ⟨okI_23, List.forall_mem_cons.mpr ⟨okI_24, List.forall_mem_cons.mpr ⟨okI_25, fun _ h => absurd h List.not_mem_nil⟩⟩⟩⟩⟩⟩⟩⟩⟩⟩⟩⟩⟩⟩⟩⟩⟩⟩⟩⟩⟩⟩⟩⟩⟩
theorem LI_c1 : ∀ k ∈ [26, 27, 28, 29, 30, 31, 32, 33, 34, 35, 36, 37, 38, 39, 40, 41, 42, 43, 46, 47, 48, 49, 50, 51, 52], okI k := List.forall_mem_cons.mpr ⟨okI_26, List.forall_mem_cons.mpr ⟨okI_27, List.forall_mem_cons.mpr ⟨okI_28, List.forall_mem_cons.mpr ⟨okI_29, List.forall_mem_cons.mpr ⟨okI_30, List.forall_mem_cons.mpr ⟨okI_31, List.forall_mem_cons.mpr ⟨okI_32, List.forall_mem_cons.mpr ⟨okI_33, List.forall_mem_cons.mpr ⟨okI_34, List.forall_mem_cons.mpr ⟨okI_35, List.forall_mem_cons.mpr ⟨okI_36, List.forall_mem_cons.mpr ⟨okI_37, List.forall_mem_cons.mpr ⟨okI_38, List.forall_mem_cons.mpr ⟨okI_39, List.forall_mem_cons.mpr ⟨okI_40, List.forall_mem_cons.mpr ⟨okI_41, List.forall_mem_cons.mpr ⟨okI_42, List.forall_mem_cons.mpr ⟨okI_43, List.forall_mem_cons.mpr ⟨okI_46, List.forall_mem_cons.mpr ⟨okI_47, List.forall_mem_cons.mpr ⟨okI_48, List.forall_mem_cons.mpr ⟨okI_49, List.forall_mem_cons.mpr ⟨okI_50, List.forall_mem_cons.mpr ⟨okI_51, List.forall_mem_cons.mpr ⟨okI_52, fun _ h => absurd h List.not_mem_nil⟩⟩⟩⟩⟩⟩⟩⟩⟩⟩⟩⟩⟩⟩⟩⟩⟩⟩⟩⟩⟩⟩⟩⟩⟩
theorem LI_c2 : ∀ k ∈ [53, 54, 55, 56, 57, 58, 59, 60, 61, 62, 63, 64, 65, 66, 67, 68, 69, 70, 71, 72, 73, 74, 75, 76, 77], okI k := List.forall_mem_cons.mpr ⟨okI_53, List.forall_mem_cons.mpr ⟨okI_54, List.forall_mem_cons.mpr ⟨okI_55, List.forall_mem_cons.mpr ⟨okI_56, List.forall_mem_cons.mpr ⟨okI_57, List.forall_mem_cons.mpr ⟨okI_58, List.forall_mem_cons.mpr ⟨okI_59, List.forall_mem_cons.mpr ⟨okI_60, List.forall_mem_cons.mpr ⟨okI_61, List.forall_mem_cons.mpr ⟨okI_62, List.forall_mem_cons.mpr ⟨okI_63, List.forall_mem_cons.mpr ⟨okI_64, List.forall_mem_cons.mpr ⟨okI_65, List.forall_mem_cons.mpr ⟨okI_66, List.forall_mem_cons.mpr ⟨okI_67, List.forall_mem_cons.mpr ⟨okI_68, List.forall_mem_cons.mpr ⟨okI_69, List.forall_mem_cons.mpr ⟨okI_70, List.forall_mem_cons.mpr ⟨okI_71, List.forall_mem_cons.mpr ⟨okI_72, List.forall_mem_cons.mpr ⟨okI_73, List.forall_mem_cons.mpr ⟨okI_74, List.forall_mem_cons.mpr ⟨okI_75, List.forall_mem_cons.mpr ⟨okI_76, List.forall_mem_cons.mpr ⟨okI_77, fun _ h => absurd h List.not_mem_nil⟩⟩⟩⟩⟩⟩⟩⟩⟩⟩⟩⟩⟩⟩⟩⟩⟩⟩⟩⟩⟩⟩⟩⟩⟩
theorem LI_c3 : ∀ k ∈ [78, 79, 80, 81, 82, 83, 84, 85, 86, 90, 91, 92, 93, 94, 95, 96, 97, 98, 99, 100, 101, 102, 103, 104, 105], okI k := List.forall_mem_cons.mpr ⟨okI_78, List.forall_mem_cons.mpr ⟨okI_79, List.forall_mem_cons.mpr ⟨okI_80, List.forall_mem_cons.mpr ⟨okI_81, List.forall_mem_cons.mpr ⟨okI_82, List.forall_mem_cons.mpr ⟨okI_83, List.forall_mem_cons.mpr ⟨okI_84, List.forall_mem_cons.mpr ⟨okI_85, List.forall_mem_cons.mpr ⟨okI_86, List.forall_mem_cons.mpr ⟨okI_90, List.forall_mem_cons.mpr ⟨okI_91, List.forall_mem_cons.mpr ⟨okI_92, List.forall_mem_cons.mpr ⟨okI_93, List.forall_mem_cons.mpr ⟨okI_94, List.forall_mem_cons.mpr ⟨okI_95, List.forall_mem_cons.mpr ⟨okI_96, List.forall_mem_cons.mpr ⟨okI_97, List.forall_mem_cons.mpr ⟨okI_98, List.forall_mem_cons.mpr ⟨okI_99, List.forall_mem_cons.mpr ⟨okI_100, List.forall_mem_cons.mpr ⟨okI_101, List.forall_mem_cons.mpr ⟨okI_102, List.forall_mem_cons.mpr ⟨okI_103, List.forall_mem_cons.mpr ⟨okI_104, List.forall_mem_cons.mpr ⟨okI_105, fun _ h => absurd h List.not_mem_nil⟩⟩⟩⟩⟩⟩⟩⟩⟩⟩⟩⟩⟩⟩⟩⟩⟩⟩⟩⟩⟩⟩⟩⟩⟩
theorem LI_c4 : ∀ k ∈ [106, 107, 108, 109, 110, 111, 112, 113, 114, 115, 116, 117, 118, 119, 120, 121, 122, 123, 124, 126, 127, 128, 129, 130, 131], okI k := List.forall_mem_cons.mpr ⟨okI_106, List.forall_mem_cons.mpr ⟨okI_107, List.forall_mem_cons.mpr ⟨okI_108, List.forall_mem_cons.mpr ⟨okI_109, List.forall_mem_cons.mpr ⟨okI_110, List.forall_mem_cons.mpr ⟨okI_111, List.forall_mem_cons.mpr ⟨okI_112, List.forall_mem_cons.mpr ⟨okI_113, List.forall_mem_cons.mpr ⟨okI_114, List.forall_mem_cons.mpr ⟨okI_115, List.forall_mem_cons.mpr ⟨okI_116, List.forall_mem_cons.mpr ⟨okI_117, List.forall_mem_cons.mpr ⟨okI_118, List.forall_mem_cons.mpr ⟨okI_119, List.forall_mem_cons.mpr ⟨okI_120, List.forall_mem_cons.mpr ⟨okI_121, List.forall_mem_cons.mpr ⟨okI_122, List.forall_mem_cons.mpr ⟨okI_123, List.forall_mem_cons.mpr ⟨okI_124, List.forall_mem_cons.mpr ⟨okI_126, List.forall_mem_cons.mpr ⟨okI_127, List.forall_mem_cons.mpr ⟨okI_128, List.forall_mem_cons.mpr ⟨okI_129, List.forall_mem_cons.mpr ⟨okI_130, List.forall_mem_cons.mpr ⟨okI_131, fun _ h => absurd h List.not_mem_nil⟩⟩⟩⟩⟩⟩⟩⟩⟩⟩⟩⟩⟩⟩⟩⟩⟩⟩⟩⟩⟩⟩⟩⟩⟩
theorem LI_c5 : ∀ k ∈ [132, 133, 134, 135, 136, 137, 138, 139, 140, 141, 142, 143, 144, 145, 146, 147, 148, 149], okI k := List.forall_mem_cons.mpr ⟨okI_132, List.forall_mem_cons.mpr ⟨okI_133, List.forall_mem_cons.mpr ⟨okI_134, List.forall_mem_cons.mpr ⟨okI_135, List.forall_mem_cons.mpr ⟨okI_136, List.forall_mem_cons.mpr ⟨okI_137, List.forall_mem_cons.mpr ⟨okI_138, List.forall_mem_cons.mpr ⟨okI_139, List.forall_mem_cons.mpr ⟨okI_140, List.forall_mem_cons.mpr ⟨okI_141, List.forall_mem_cons.mpr ⟨okI_142, List.forall_mem_cons.mpr ⟨okI_143, List.forall_mem_cons.mpr ⟨okI_144, List.forall_mem_cons.mpr ⟨okI_145, List.forall_mem_cons.mpr ⟨okI_146, List.forall_mem_cons.mpr ⟨okI_147, List.forall_mem_cons.mpr ⟨okI_148, List.forall_mem_cons.mpr ⟨okI_149, fun _ h => absurd h List.not_mem_nil⟩⟩⟩⟩⟩⟩⟩⟩⟩⟩⟩⟩⟩⟩⟩⟩⟩⟩
theorem LI_ok : ∀ k ∈ LI, okI k := by
  intro k h
  have h : k ∈ [1, 2, 3, 4, 5, 6, 7, 8, 9, 10, 11, 12, 13, 14, 15, 16, 17, 18, 19, 20, 21, 22, 23, 24, 25] ++ ([26, 27, 28, 29, 30, 31, 32, 33, 34, 35, 36, 37, 38, 39, 40, 41, 42, 43, 46, 47, 48, 49, 50, 51, 52] ++ ([53, 54, 55, 56, 57, 58, 59, 60, 61, 62, 63, 64, 65, 66, 67, 68, 69, 70, 71, 72, 73, 74, 75, 76, 77] ++ ([78, 79, 80, 81, 82, 83, 84, 85, 86, 90, 91, 92, 93, 94, 95, 96, 97, 98, 99, 100, 101, 102, 103, 104, 105] ++ ([106, 107, 108, 109, 110, 111, 112, 113, 114, 115, 116, 117, 118, 119, 120, 121, 122, 123, 124, 126, 127, 128, 129, 130, 131] ++ ([132, 133, 134, 135, 136, 137, 138, 139, 140, 141, 142, 143, 144, 145, 146, 147, 148, 149]))))) := h
  rcases List.mem_append.mp h with h | h
  · exact LI_c0 k h
  rcases List.mem_append.mp h with h | h
  · exact LI_c1 k h
  rcases List.mem_append.mp h with h | h
  · exact LI_c2 k h
  rcases List.mem_append.mp h with h | h
  · exact LI_c3 k h
  rcases List.mem_append.mp h with h | h
  · exact LI_c4 k h
  exact LI_c5 k h
def LT : List Nat := [44, 45, 87, 88, 89, 125, 150, 151, 152, 153, 154]
theorem LT_c0 : ∀ k ∈ [44, 45, 87, 88, 89, 125, 150, 151, 152, 153, 154], okS k := List.forall_mem_cons.mpr ⟨okS_44, List.forall_mem_cons.mpr ⟨okS_45, List.forall_mem_cons.mpr ⟨okS_87, List.forall_mem_cons.mpr ⟨okS_88, List.forall_mem_cons.mpr ⟨okS_89, List.forall_mem_cons.mpr ⟨okS_125, List.forall_mem_cons.mpr ⟨okS_150, List.forall_mem_cons.mpr ⟨okS_151, List.forall_mem_cons.mpr ⟨okS_152, List.forall_mem_cons.mpr ⟨okS_153, List.forall_mem_cons.mpr ⟨okS_154, fun _ h => absurd h List.not_mem_nil⟩⟩⟩⟩⟩⟩⟩⟩⟩⟩⟩
theorem LT_ok : ∀ k ∈ LT, okS k := by
  intro k h
  have h : k ∈ [44, 45, 87, 88, 89, 125, 150, 151, 152, 153, 154] := h
  exact LT_c0 k h
def tX (c : Nat) : u_T := [TX0, TX1, TX2, TX3, TX4, TX5, TX6].getD c TX0
def okF (q : Nat × Nat × Nat × Nat) : Prop := Cond.fieldLink (oN q.1) q.2.1 (tX q.2.2.1 q.2.2.2).1 (tX q.2.2.1 q.2.2.2).2.1 (tX q.2.2.1 q.2.2.2).2.2.1 ∈ WS
theorem LF_c0 : ∀ q ∈ ([(0, 9, 0, 0), (0, 15, 0, 1), (0, 18, 0, 2), (0, 21, 0, 3), (0, 24, 0, 4), (0, 28, 0, 5), (0, 32, 0, 6), (0, 35, 0, 7), (0, 38, 0, 8), (0, 41, 0, 9), (0, 44, 0, 10), (0, 47, 0, 11), (0, 66, 2, 10), (0, 72, 2, 0), (0, 73, 2, 1), (0, 74, 2, 2), (1, 12, 1, 0), (1, 18, 1, 1), (1, 28, 2, 1), (1, 34, 2, 2), (1, 49, 2, 10), (1, 64, 0, 5), (1, 72, 0, 2), (1, 73, 0, 3), (1, 78, 2, 3)] : List (Nat × Nat × Nat × Nat)), okF q := List.forall_mem_cons.mpr ⟨mt1 (i := 37) (by decide +kernel) rfl, List.forall_mem_cons.mpr ⟨mt1 (i := 39) (by decide +kernel) rfl, List.forall_mem_cons.mpr ⟨mt1 (i := 41) (by decide +kernel) rfl, List.forall_mem_cons.mpr ⟨mt1 (i := 44) (by decide +kernel) rfl, List.forall_mem_cons.mpr ⟨mt1 (i := 47) (by decide +kernel) rfl, List.forall_mem_cons.mpr ⟨mt1 (i := 51) (by decide +kernel) rfl, List.forall_mem_cons.mpr ⟨mt1 (i := 54) (by decide +kernel) rfl, List.forall_mem_cons.mpr ⟨mt1 (i := 56) (by decide +kernel) rfl, List.forall_mem_cons.mpr ⟨mt1 (i := 58) (by decide +kernel) rfl, List.forall_mem_cons.mpr ⟨mt1 (i := 60) (by decide +kernel) rfl, List.forall_mem_cons.mpr ⟨mt1 (i := 62) (by decide +kernel) rfl, List.forall_mem_cons.mpr ⟨mt1 (i := 63) (by decide +kernel) rfl, List.forall_mem_cons.mpr ⟨mt1 (i := 125) (by decide +kernel) rfl, List.forall_mem_cons.mpr ⟨mt1 (i := 92) (by decide +kernel) rfl, List.forall_mem_cons.mpr ⟨mt1 (i := 98) (by decide +kernel) rfl, List.forall_mem_cons.mpr ⟨mt1 (i := 102) (by decide +kernel) rfl, List.forall_mem_cons.mpr ⟨mt1 (i := 197) (by decide +kernel) rfl, List.forall_mem_cons.mpr ⟨mt1 (i := 198) (by decide +kernel) rfl, List.forall_mem_cons.mpr ⟨mt1 (i := 97) (by decide +kernel) rfl, List.forall_mem_cons.mpr ⟨mt1 (i := 101) (by decide +kernel) rfl, List.forall_mem_cons.mpr ⟨mt1 (i := 124) (by decide +kernel) rfl, List.forall_mem_cons.mpr ⟨mt1 (i := 52) (by decide +kernel) rfl, List.forall_mem_cons.mpr ⟨mt1 (i := 42) (by decide +kernel) rfl, List.forall_mem_cons.mpr ⟨mt1 (i := 45) (by decide +kernel) rfl, List.forall_mem_cons.mpr ⟨mt1 (i := 107) (by decide +kernel) rfl, fun _ h => absurd h List.not_mem_nil⟩⟩⟩⟩⟩⟩⟩⟩⟩⟩⟩⟩⟩⟩⟩⟩⟩⟩⟩⟩⟩⟩⟩⟩⟩
theorem LF_c1 : ∀ q ∈ ([(1, 81, 2, 8), (1, 91, 2, 9), (1, 97, 0, 4), (1, 100, 2, 6), (1, 115, 2, 0), (1, 118, 2, 5), (2, 9, 2, 0), (2, 15, 2, 1), (2, 18, 2, 2), (2, 21, 2, 3), (2, 24, 2, 4), (2, 28, 2, 5), (2, 31, 2, 6), (2, 34, 2, 7), (2, 37, 2, 8), (2, 41, 2, 9), (2, 47, 2, 10), (3, 9, 3, 0), (3, 15, 3, 1), (3, 18, 3, 2), (3, 22, 3, 3), (3, 36, 0, 4), (3, 42, 0, 8), (3, 45, 0, 9), (3, 72, 0, 6)] : List (Nat × Nat × Nat × Nat)), okF q := List.forall_mem_cons.mpr ⟨mt1 (i := 118) (by decide +kernel) rfl, List.forall_mem_cons.mpr ⟨mt1 (i := 121) (by decide +kernel) rfl, List.forall_mem_cons.mpr ⟨mt1 (i := 49) (by decide +kernel) rfl, List.forall_mem_cons.mpr ⟨mt1 (i := 114) (by decide +kernel) rfl, List.forall_mem_cons.mpr ⟨mt1 (i := 94) (by decide +kernel) rfl, List.forall_mem_cons.mpr ⟨mt1 (i := 112) (by decide +kernel) rfl, List.forall_mem_cons.mpr ⟨mt1 (i := 91) (by decide +kernel) rfl, List.forall_mem_cons.mpr ⟨mt1 (i := 96) (by decide +kernel) rfl, List.forall_mem_cons.mpr ⟨mt1 (i := 100) (by decide +kernel) rfl, List.forall_mem_cons.mpr ⟨mt1 (i := 104) (by decide +kernel) rfl, List.forall_mem_cons.mpr ⟨mt1 (i := 108) (by decide +kernel) rfl, List.forall_mem_cons.mpr ⟨mt1 (i := 110) (by decide +kernel) rfl, List.forall_mem_cons.mpr ⟨mt1 (i := 113) (by decide +kernel) rfl, List.forall_mem_cons.mpr ⟨mt1 (i := 116) (by decide +kernel) rfl, List.forall_mem_cons.mpr ⟨mt1 (i := 117) (by decide +kernel) rfl, List.forall_mem_cons.mpr ⟨mt1 (i := 120) (by decide +kernel) rfl, List.forall_mem_cons.mpr ⟨mt1 (i := 123) (by decide +kernel) rfl, List.forall_mem_cons.mpr ⟨mt1 (i := 183) (by decide +kernel) rfl, List.forall_mem_cons.mpr ⟨mt1 (i := 184) (by decide +kernel) rfl, List.forall_mem_cons.mpr ⟨mt1 (i := 185) (by decide +kernel) rfl, List.forall_mem_cons.mpr ⟨mt1 (i := 186) (by decide +kernel) rfl, List.forall_mem_cons.mpr ⟨mt1 (i := 48) (by decide +kernel) rfl, List.forall_mem_cons.mpr ⟨mt1 (i := 59) (by decide +kernel) rfl, List.forall_mem_cons.mpr ⟨mt1 (i := 61) (by decide +kernel) rfl, List.forall_mem_cons.mpr ⟨mt1 (i := 55) (by decide +kernel) rfl, fun _ h => absurd h List.not_mem_nil⟩⟩⟩⟩⟩⟩⟩⟩⟩⟩⟩⟩⟩⟩⟩⟩⟩⟩⟩⟩⟩⟩⟩⟩⟩
theorem LF_c2 : ∀ q ∈ ([(3, 75, 0, 7), (4, 9, 4, 0), (4, 15, 4, 1), (4, 19, 4, 2), (4, 22, 4, 3), (4, 36, 2, 3), (4, 53, 2, 0), (5, 10, 5, 0), (5, 16, 5, 1), (5, 19, 5, 2), (5, 23, 5, 3), (5, 30, 5, 4), (5, 37, 5, 5), (5, 44, 5, 6), (5, 70, 2, 3), (5, 84, 2, 4), (5, 88, 2, 5), (5, 91, 2, 9), (5, 95, 2, 6), (5, 107, 2, 8), (5, 121, 2, 0), (5, 124, 2, 1), (5, 127, 2, 2), (5, 130, 2, 10), (5, 133, 0, 0)] : List (Nat × Nat × Nat × Nat)), okF q := List.forall_mem_cons.mpr ⟨mt1 (i := 57) (by decide +kernel) rfl, List.forall_mem_cons.mpr ⟨mt1 (i := 157) (by decide +kernel) rfl, List.forall_mem_cons.mpr ⟨mt1 (i := 159) (by decide +kernel) rfl, List.forall_mem_cons.mpr ⟨mt1 (i := 160) (by decide +kernel) rfl, List.forall_mem_cons.mpr ⟨mt1 (i := 161) (by decide +kernel) rfl, List.forall_mem_cons.mpr ⟨mt1 (i := 106) (by decide +kernel) rfl, List.forall_mem_cons.mpr ⟨mt1 (i := 93) (by decide +kernel) rfl, List.forall_mem_cons.mpr ⟨mt1 (i := 206) (by decide +kernel) rfl, List.forall_mem_cons.mpr ⟨mt1 (i := 207) (by decide +kernel) rfl, List.forall_mem_cons.mpr ⟨mt1 (i := 208) (by decide +kernel) rfl, List.forall_mem_cons.mpr ⟨mt1 (i := 209) (by decide +kernel) rfl, List.forall_mem_cons.mpr ⟨mt1 (i := 210) (by decide +kernel) rfl, List.forall_mem_cons.mpr ⟨mt1 (i := 211) (by decide +kernel) rfl, List.forall_mem_cons.mpr ⟨mt1 (i := 212) (by decide +kernel) rfl, List.forall_mem_cons.mpr ⟨mt1 (i := 105) (by decide +kernel) rfl, List.forall_mem_cons.mpr ⟨mt1 (i := 109) (by decide +kernel) rfl, List.forall_mem_cons.mpr ⟨mt1 (i := 111) (by decide +kernel) rfl, List.forall_mem_cons.mpr ⟨mt1 (i := 122) (by decide +kernel) rfl, List.forall_mem_cons.mpr ⟨mt1 (i := 115) (by decide +kernel) rfl, List.forall_mem_cons.mpr ⟨mt1 (i := 119) (by decide +kernel) rfl, List.forall_mem_cons.mpr ⟨mt1 (i := 95) (by decide +kernel) rfl, List.forall_mem_cons.mpr ⟨mt1 (i := 99) (by decide +kernel) rfl, List.forall_mem_cons.mpr ⟨mt1 (i := 103) (by decide +kernel) rfl, List.forall_mem_cons.mpr ⟨mt1 (i := 126) (by decide +kernel) rfl, List.forall_mem_cons.mpr ⟨mt1 (i := 38) (by decide +kernel) rfl, fun _ h => absurd h List.not_mem_nil⟩⟩⟩⟩⟩⟩⟩⟩⟩⟩⟩⟩⟩⟩⟩⟩⟩⟩⟩⟩⟩⟩⟩⟩⟩
theorem LF_c3 : ∀ q ∈ ([(5, 136, 4, 0), (5, 183, 0, 4), (5, 189, 0, 1), (5, 190, 0, 2), (5, 191, 0, 3), (5, 202, 0, 5), (6, 7, 6, 0), (6, 13, 6, 1), (6, 16, 6, 3), (6, 20, 6, 5), (6, 23, 6, 8), (6, 26, 6, 9), (6, 30, 6, 10), (6, 33, 6, 2), (6, 85, 6, 4), (6, 88, 6, 6), (6, 94, 6, 7)] : List (Nat × Nat × Nat × Nat)), okF q := List.forall_mem_cons.mpr ⟨mt1 (i := 158) (by decide +kernel) rfl, List.forall_mem_cons.mpr ⟨mt1 (i := 50) (by decide +kernel) rfl, List.forall_mem_cons.mpr ⟨mt1 (i := 40) (by decide +kernel) rfl, List.forall_mem_cons.mpr ⟨mt1 (i := 43) (by decide +kernel) rfl, List.forall_mem_cons.mpr ⟨mt1 (i := 46) (by decide +kernel) rfl, List.forall_mem_cons.mpr ⟨mt1 (i := 53) (by decide +kernel) rfl, List.forall_mem_cons.mpr ⟨mt3 (i := 134) (by decide +kernel) rfl, List.forall_mem_cons.mpr ⟨mt3 (i := 135) (by decide +kernel) rfl, List.forall_mem_cons.mpr ⟨mt3 (i := 137) (by decide +kernel) rfl, List.forall_mem_cons.mpr ⟨mt3 (i := 139) (by decide +kernel) rfl, List.forall_mem_cons.mpr ⟨mt3 (i := 142) (by decide +kernel) rfl, List.forall_mem_cons.mpr ⟨mt3 (i := 143) (by decide +kernel) rfl, List.forall_mem_cons.mpr ⟨mt3 (i := 144) (by decide +kernel) rfl, List.forall_mem_cons.mpr ⟨mt3 (i := 136) (by decide +kernel) rfl, List.forall_mem_cons.mpr ⟨mt3 (i := 138) (by decide +kernel) rfl, List.forall_mem_cons.mpr ⟨mt3 (i := 140) (by decide +kernel) rfl, List.forall_mem_cons.mpr ⟨mt3 (i := 141) (by decide +kernel) rfl, fun _ h => absurd h List.not_mem_nil⟩⟩⟩⟩⟩⟩⟩⟩⟩⟩⟩⟩⟩⟩⟩⟩⟩
def LF : List (Nat × Nat × Nat × Nat) := [(0, 9, 0, 0), (0, 15, 0, 1), (0, 18, 0, 2), (0, 21, 0, 3), (0, 24, 0, 4), (0, 28, 0, 5), (0, 32, 0, 6), (0, 35, 0, 7), (0, 38, 0, 8), (0, 41, 0, 9), (0, 44, 0, 10), (0, 47, 0, 11), (0, 66, 2, 10), (0, 72, 2, 0), (0, 73, 2, 1), (0, 74, 2, 2), (1, 12, 1, 0), (1, 18, 1, 1), (1, 28, 2, 1), (1, 34, 2, 2), (1, 49, 2, 10), (1, 64, 0, 5), (1, 72, 0, 2), (1, 73, 0, 3), (1, 78, 2, 3)] ++ ([(1, 81, 2, 8), (1, 91, 2, 9), (1, 97, 0, 4), (1, 100, 2, 6), (1, 115, 2, 0), (1, 118, 2, 5), (2, 9, 2, 0), (2, 15, 2, 1), (2, 18, 2, 2), (2, 21, 2, 3), (2, 24, 2, 4), (2, 28, 2, 5), (2, 31, 2, 6), (2, 34, 2, 7), (2, 37, 2, 8), (2, 41, 2, 9), (2, 47, 2, 10), (3, 9, 3, 0), (3, 15, 3, 1), (3, 18, 3, 2), (3, 22, 3, 3), (3, 36, 0, 4), (3, 42, 0, 8), (3, 45, 0, 9), (3, 72, 0, 6)] ++ ([(3, 75, 0, 7), (4, 9, 4, 0), (4, 15, 4, 1), (4, 19, 4, 2), (4, 22, 4, 3), (4, 36, 2, 3), (4, 53, 2, 0), (5, 10, 5, 0), (5, 16, 5, 1), (5, 19, 5, 2), (5, 23, 5, 3), (5, 30, 5, 4), (5, 37, 5, 5), (5, 44, 5, 6), (5, 70, 2, 3), (5, 84, 2, 4), (5, 88, 2, 5), (5, 91, 2, 9), (5, 95, 2, 6), (5, 107, 2, 8), (5, 121, 2, 0), (5, 124, 2, 1), (5, 127, 2, 2), (5, 130, 2, 10), (5, 133, 0, 0)] ++ ([(5, 136, 4, 0), (5, 183, 0, 4), (5, 189, 0, 1), (5, 190, 0, 2), (5, 191, 0, 3), (5, 202, 0, 5), (6, 7, 6, 0), (6, 13, 6, 1), (6, 16, 6, 3), (6, 20, 6, 5), (6, 23, 6, 8), (6, 26, 6, 9), (6, 30, 6, 10), (6, 33, 6, 2), (6, 85, 6, 4), (6, 88, 6, 6), (6, 94, 6, 7)])))
theorem LF_ok : ∀ q ∈ LF, okF q := by
  intro q h
  unfold LF at h
  rcases List.mem_append.mp h with h | h
  · exact LF_c0 q h
  rcases List.mem_append.mp h with h | h
  · exact LF_c1 q h
  rcases List.mem_append.mp h with h | h
  · exact LF_c2 q h
  exact LF_c3 q h
def okM (q : Nat × Nat × Nat) : Prop := Cond.methodLink (oN q.1) q.2.1 (yN q.2.2) ∈ WS
theorem LM_c0 : ∀ q ∈ ([(7, 13, 57), (7, 17, 98), (7, 18, 58), (7, 21, 101), (7, 22, 59), (7, 26, 102), (7, 27, 60), (7, 30, 103), (7, 31, 61), (7, 34, 104), (7, 35, 62), (7, 38, 105), (7, 39, 63), (7, 43, 108), (7, 44, 64), (7, 47, 109), (7, 48, 65), (7, 51, 113), (7, 52, 66), (7, 55, 114), (7, 56, 67), (7, 59, 115), (7, 60, 68), (7, 63, 116), (7, 64, 69)] : List (Nat × Nat × Nat)), okM q := List.forall_mem_cons.mpr ⟨mt1 (i := 228) (by decide +kernel) rfl, List.forall_mem_cons.mpr ⟨mt3 (i := 173) (by decide +kernel) rfl, List.forall_mem_cons.mpr ⟨mt2 (i := 30) (by decide +kernel) rfl, List.forall_mem_cons.mpr ⟨mt3 (i := 192) (by decide +kernel) rfl, List.forall_mem_cons.mpr ⟨mt2 (i := 53) (by decide +kernel) rfl, List.forall_mem_cons.mpr ⟨mt3 (i := 208) (by decide +kernel) rfl, List.forall_mem_cons.mpr ⟨mt2 (i := 61) (by decide +kernel) rfl, List.forall_mem_cons.mpr ⟨mt3 (i := 216) (by decide +kernel) rfl, List.forall_mem_cons.mpr ⟨mt2 (i := 65) (by decide +kernel) rfl, List.forall_mem_cons.mpr ⟨mt3 (i := 220) (by decide +kernel) rfl, List.forall_mem_cons.mpr ⟨mt2 (i := 69) (by decide +kernel) rfl, List.forall_mem_cons.mpr ⟨mt3 (i := 224) (by decide +kernel) rfl, List.forall_mem_cons.mpr ⟨mt2 (i := 82) (by decide +kernel) rfl, List.forall_mem_cons.mpr ⟨mt3 (i := 228) (by decide +kernel) rfl, List.forall_mem_cons.mpr ⟨mt2 (i := 90) (by decide +kernel) rfl, List.forall_mem_cons.mpr ⟨mt4 (i := 0) (by decide +kernel) rfl, List.forall_mem_cons.mpr ⟨mt2 (i := 94) (by decide +kernel) rfl, List.forall_mem_cons.mpr ⟨mt4 (i := 4) (by decide +kernel) rfl, List.forall_mem_cons.mpr ⟨mt2 (i := 110) (by decide +kernel) rfl, List.forall_mem_cons.mpr ⟨mt4 (i := 20) (by decide +kernel) rfl, List.forall_mem_cons.mpr ⟨mt2 (i := 114) (by decide +kernel) rfl, List.forall_mem_cons.mpr ⟨mt4 (i := 24) (by decide +kernel) rfl, List.forall_mem_cons.mpr ⟨mt2 (i := 118) (by decide +kernel) rfl, List.forall_mem_cons.mpr ⟨mt4 (i := 28) (by decide +kernel) rfl, List.forall_mem_cons.mpr ⟨mt2 (i := 126) (by decide +kernel) rfl, fun _ h => absurd h List.not_mem_nil⟩⟩⟩⟩⟩⟩⟩⟩⟩⟩⟩⟩⟩⟩⟩⟩⟩⟩⟩⟩⟩⟩⟩⟩⟩
theorem LM_c1 : ∀ q ∈ ([(7, 68, 117), (7, 69, 70), (7, 72, 124), (7, 73, 71), (7, 76, 136), (7, 77, 72), (7, 80, 139), (7, 81, 73), (7, 84, 140), (7, 85, 74), (7, 88, 141), (7, 89, 75), (7, 92, 143), (7, 93, 76), (7, 96, 144), (7, 97, 77), (7, 100, 145), (7, 101, 78), (7, 104, 147), (7, 105, 79), (7, 108, 148), (7, 109, 80), (7, 112, 149), (7, 113, 81), (7, 116, 91)] : List (Nat × Nat × Nat)), okM q := List.forall_mem_cons.mpr ⟨mt4 (i := 32) (by decide +kernel) rfl, List.forall_mem_cons.mpr ⟨mt2 (i := 130) (by decide +kernel) rfl, List.forall_mem_cons.mpr ⟨mt4 (i := 36) (by decide +kernel) rfl, List.forall_mem_cons.mpr ⟨mt2 (i := 177) (by decide +kernel) rfl, List.forall_mem_cons.mpr ⟨mt4 (i := 64) (by decide +kernel) rfl, List.forall_mem_cons.mpr ⟨mt3 (i := 43) (by decide +kernel) rfl, List.forall_mem_cons.mpr ⟨mt4 (i := 111) (by decide +kernel) rfl, List.forall_mem_cons.mpr ⟨mt3 (i := 74) (by decide +kernel) rfl, List.forall_mem_cons.mpr ⟨mt4 (i := 123) (by decide +kernel) rfl, List.forall_mem_cons.mpr ⟨mt3 (i := 78) (by decide +kernel) rfl, List.forall_mem_cons.mpr ⟨mt4 (i := 127) (by decide +kernel) rfl, List.forall_mem_cons.mpr ⟨mt3 (i := 86) (by decide +kernel) rfl, List.forall_mem_cons.mpr ⟨mt4 (i := 131) (by decide +kernel) rfl, List.forall_mem_cons.mpr ⟨mt3 (i := 94) (by decide +kernel) rfl, List.forall_mem_cons.mpr ⟨mt4 (i := 139) (by decide +kernel) rfl, List.forall_mem_cons.mpr ⟨mt3 (i := 107) (by decide +kernel) rfl, List.forall_mem_cons.mpr ⟨mt4 (i := 143) (by decide +kernel) rfl, List.forall_mem_cons.mpr ⟨mt3 (i := 112) (by decide +kernel) rfl, List.forall_mem_cons.mpr ⟨mt4 (i := 147) (by decide +kernel) rfl, List.forall_mem_cons.mpr ⟨mt3 (i := 116) (by decide +kernel) rfl, List.forall_mem_cons.mpr ⟨mt4 (i := 155) (by decide +kernel) rfl, List.forall_mem_cons.mpr ⟨mt3 (i := 120) (by decide +kernel) rfl, List.forall_mem_cons.mpr ⟨mt4 (i := 167) (by decide +kernel) rfl, List.forall_mem_cons.mpr ⟨mt3 (i := 124) (by decide +kernel) rfl, List.forall_mem_cons.mpr ⟨mt3 (i := 169) (by decide +kernel) rfl, fun _ h => absurd h List.not_mem_nil⟩⟩⟩⟩⟩⟩⟩⟩⟩⟩⟩⟩⟩⟩⟩⟩⟩⟩⟩⟩⟩⟩⟩⟩⟩
theorem LM_c2 : ∀ q ∈ ([(0, 62, 2), (0, 75, 6), (0, 85, 12), (0, 89, 9), (1, 22, 3), (1, 37, 38), (1, 41, 19), (1, 45, 20), (1, 53, 4), (1, 57, 21), (1, 61, 40), (1, 68, 8), (1, 74, 42), (1, 84, 36), (1, 87, 6), (1, 94, 39), (1, 103, 22), (1, 107, 23), (1, 111, 34), (1, 121, 7), (1, 125, 41), (1, 129, 5), (2, 57, 1), (2, 67, 29), (2, 71, 33)] : List (Nat × Nat × Nat)), okM q := List.forall_mem_cons.mpr ⟨mt2 (i := 22) (by decide +kernel) rfl, List.forall_mem_cons.mpr ⟨mt3 (i := 33) (by decide +kernel) rfl, List.forall_mem_cons.mpr ⟨mt3 (i := 68) (by decide +kernel) rfl, List.forall_mem_cons.mpr ⟨mt3 (i := 69) (by decide +kernel) rfl, List.forall_mem_cons.mpr ⟨mt2 (i := 185) (by decide +kernel) rfl, List.forall_mem_cons.mpr ⟨mt2 (i := 189) (by decide +kernel) rfl, List.forall_mem_cons.mpr ⟨mt2 (i := 199) (by decide +kernel) rfl, List.forall_mem_cons.mpr ⟨mt2 (i := 204) (by decide +kernel) rfl, List.forall_mem_cons.mpr ⟨mt2 (i := 219) (by decide +kernel) rfl, List.forall_mem_cons.mpr ⟨mt2 (i := 223) (by decide +kernel) rfl, List.forall_mem_cons.mpr ⟨mt3 (i := 25) (by decide +kernel) rfl, List.forall_mem_cons.mpr ⟨mt3 (i := 29) (by decide +kernel) rfl, List.forall_mem_cons.mpr ⟨mt3 (i := 102) (by decide +kernel) rfl, List.forall_mem_cons.mpr ⟨mt2 (i := 203) (by decide +kernel) rfl, List.forall_mem_cons.mpr ⟨mt2 (i := 208) (by decide +kernel) rfl, List.forall_mem_cons.mpr ⟨mt2 (i := 212) (by decide +kernel) rfl, List.forall_mem_cons.mpr ⟨mt2 (i := 227) (by decide +kernel) rfl, List.forall_mem_cons.mpr ⟨mt2 (i := 231) (by decide +kernel) rfl, List.forall_mem_cons.mpr ⟨mt2 (i := 235) (by decide +kernel) rfl, List.forall_mem_cons.mpr ⟨mt3 (i := 0) (by decide +kernel) rfl, List.forall_mem_cons.mpr ⟨mt3 (i := 4) (by decide +kernel) rfl, List.forall_mem_cons.mpr ⟨mt3 (i := 21) (by decide +kernel) rfl, List.forall_mem_cons.mpr ⟨mt2 (i := 17) (by decide +kernel) rfl, List.forall_mem_cons.mpr ⟨mt2 (i := 49) (by decide +kernel) rfl, List.forall_mem_cons.mpr ⟨mt2 (i := 239) (by decide +kernel) rfl, fun _ h => absurd h List.not_mem_nil⟩⟩⟩⟩⟩⟩⟩⟩⟩⟩⟩⟩⟩⟩⟩⟩⟩⟩⟩⟩⟩⟩⟩⟩⟩
theorem LM_c3 : ∀ q ∈ ([(2, 75, 37), (3, 56, 43), (3, 66, 41), (4, 25, 52), (4, 28, 56), (4, 32, 48), (4, 41, 55), (4, 45, 50), (4, 49, 51), (4, 56, 27), (4, 59, 49), (4, 63, 28), (4, 67, 53), (4, 71, 54), (5, 52, 26), (5, 56, 82), (5, 59, 25), (5, 67, 85), (5, 73, 27), (5, 77, 28), (5, 81, 84), (5, 98, 32), (5, 101, 30), (5, 104, 29), (5, 110, 35)] : List (Nat × Nat × Nat)), okM q := List.forall_mem_cons.mpr ⟨mt2 (i := 106) (by decide +kernel) rfl, List.forall_mem_cons.mpr ⟨mt3 (i := 9) (by decide +kernel) rfl, List.forall_mem_cons.mpr ⟨mt3 (i := 106) (by decide +kernel) rfl, List.forall_mem_cons.mpr ⟨mt2 (i := 138) (by decide +kernel) rfl, List.forall_mem_cons.mpr ⟨mt2 (i := 146) (by decide +kernel) rfl, List.forall_mem_cons.mpr ⟨mt2 (i := 150) (by decide +kernel) rfl, List.forall_mem_cons.mpr ⟨mt2 (i := 154) (by decide +kernel) rfl, List.forall_mem_cons.mpr ⟨mt2 (i := 158) (by decide +kernel) rfl, List.forall_mem_cons.mpr ⟨mt2 (i := 167) (by decide +kernel) rfl, List.forall_mem_cons.mpr ⟨mt2 (i := 171) (by decide +kernel) rfl, List.forall_mem_cons.mpr ⟨mt2 (i := 172) (by decide +kernel) rfl, List.forall_mem_cons.mpr ⟨mt2 (i := 176) (by decide +kernel) rfl, List.forall_mem_cons.mpr ⟨mt2 (i := 142) (by decide +kernel) rfl, List.forall_mem_cons.mpr ⟨mt2 (i := 162) (by decide +kernel) rfl, List.forall_mem_cons.mpr ⟨mt1 (i := 235) (by decide +kernel) rfl, List.forall_mem_cons.mpr ⟨mt2 (i := 2) (by decide +kernel) rfl, List.forall_mem_cons.mpr ⟨mt2 (i := 26) (by decide +kernel) rfl, List.forall_mem_cons.mpr ⟨mt2 (i := 37) (by decide +kernel) rfl, List.forall_mem_cons.mpr ⟨mt2 (i := 41) (by decide +kernel) rfl, List.forall_mem_cons.mpr ⟨mt2 (i := 45) (by decide +kernel) rfl, List.forall_mem_cons.mpr ⟨mt2 (i := 57) (by decide +kernel) rfl, List.forall_mem_cons.mpr ⟨mt2 (i := 73) (by decide +kernel) rfl, List.forall_mem_cons.mpr ⟨mt2 (i := 77) (by decide +kernel) rfl, List.forall_mem_cons.mpr ⟨mt2 (i := 81) (by decide +kernel) rfl, List.forall_mem_cons.mpr ⟨mt2 (i := 86) (by decide +kernel) rfl, fun _ h => absurd h List.not_mem_nil⟩⟩⟩⟩⟩⟩⟩⟩⟩⟩⟩⟩⟩⟩⟩⟩⟩⟩⟩⟩⟩⟩⟩⟩⟩
theorem LM_c4 : ∀ q ∈ ([(5, 113, 33), (5, 117, 36), (5, 139, 46), (5, 143, 24), (5, 147, 47), (5, 151, 17), (5, 155, 1), (5, 158, 31), (5, 161, 10), (5, 164, 86), (5, 168, 9), (5, 171, 11), (5, 174, 12), (5, 177, 13), (5, 180, 14), (5, 186, 15), (5, 192, 16), (5, 195, 18), (5, 199, 6), (5, 205, 83), (6, 41, 95), (6, 45, 90), (6, 48, 96), (6, 52, 97), (6, 56, 99)] : List (Nat × Nat × Nat)), okM q := List.forall_mem_cons.mpr ⟨mt2 (i := 98) (by decide +kernel) rfl, List.forall_mem_cons.mpr ⟨mt2 (i := 102) (by decide +kernel) rfl, List.forall_mem_cons.mpr ⟨mt2 (i := 122) (by decide +kernel) rfl, List.forall_mem_cons.mpr ⟨mt2 (i := 10) (by decide +kernel) rfl, List.forall_mem_cons.mpr ⟨mt2 (i := 134) (by decide +kernel) rfl, List.forall_mem_cons.mpr ⟨mt2 (i := 181) (by decide +kernel) rfl, List.forall_mem_cons.mpr ⟨mt3 (i := 34) (by decide +kernel) rfl, List.forall_mem_cons.mpr ⟨mt3 (i := 35) (by decide +kernel) rfl, List.forall_mem_cons.mpr ⟨mt3 (i := 39) (by decide +kernel) rfl, List.forall_mem_cons.mpr ⟨mt3 (i := 47) (by decide +kernel) rfl, List.forall_mem_cons.mpr ⟨mt3 (i := 51) (by decide +kernel) rfl, List.forall_mem_cons.mpr ⟨mt3 (i := 55) (by decide +kernel) rfl, List.forall_mem_cons.mpr ⟨mt3 (i := 59) (by decide +kernel) rfl, List.forall_mem_cons.mpr ⟨mt3 (i := 64) (by decide +kernel) rfl, List.forall_mem_cons.mpr ⟨mt3 (i := 70) (by decide +kernel) rfl, List.forall_mem_cons.mpr ⟨mt3 (i := 82) (by decide +kernel) rfl, List.forall_mem_cons.mpr ⟨mt3 (i := 90) (by decide +kernel) rfl, List.forall_mem_cons.mpr ⟨mt3 (i := 98) (by decide +kernel) rfl, List.forall_mem_cons.mpr ⟨mt3 (i := 111) (by decide +kernel) rfl, List.forall_mem_cons.mpr ⟨mt2 (i := 6) (by decide +kernel) rfl, List.forall_mem_cons.mpr ⟨mt3 (i := 180) (by decide +kernel) rfl, List.forall_mem_cons.mpr ⟨mt3 (i := 184) (by decide +kernel) rfl, List.forall_mem_cons.mpr ⟨mt3 (i := 188) (by decide +kernel) rfl, List.forall_mem_cons.mpr ⟨mt3 (i := 196) (by decide +kernel) rfl, List.forall_mem_cons.mpr ⟨mt3 (i := 200) (by decide +kernel) rfl, fun _ h => absurd h List.not_mem_nil⟩⟩⟩⟩⟩⟩⟩⟩⟩⟩⟩⟩⟩⟩⟩⟩⟩⟩⟩⟩⟩⟩⟩⟩⟩
theorem LM_c5 : ∀ q ∈ ([(6, 59, 100), (6, 63, 94), (6, 66, 106), (6, 70, 107), (6, 73, 110), (6, 77, 112), (6, 81, 111), (6, 91, 118), (6, 97, 119), (6, 101, 120), (6, 104, 121), (6, 107, 122), (6, 110, 123), (6, 116, 127), (6, 120, 128), (6, 124, 126), (6, 127, 130), (6, 130, 131), (6, 133, 129), (6, 136, 132), (6, 139, 133), (6, 143, 134), (6, 146, 135), (6, 149, 137), (6, 152, 138)] : List (Nat × Nat × Nat)), okM q := List.forall_mem_cons.mpr ⟨mt3 (i := 204) (by decide +kernel) rfl, List.forall_mem_cons.mpr ⟨mt3 (i := 212) (by decide +kernel) rfl, List.forall_mem_cons.mpr ⟨mt3 (i := 236) (by decide +kernel) rfl, List.forall_mem_cons.mpr ⟨mt3 (i := 232) (by decide +kernel) rfl, List.forall_mem_cons.mpr ⟨mt4 (i := 16) (by decide +kernel) rfl, List.forall_mem_cons.mpr ⟨mt4 (i := 8) (by decide +kernel) rfl, List.forall_mem_cons.mpr ⟨mt4 (i := 12) (by decide +kernel) rfl, List.forall_mem_cons.mpr ⟨mt4 (i := 40) (by decide +kernel) rfl, List.forall_mem_cons.mpr ⟨mt4 (i := 52) (by decide +kernel) rfl, List.forall_mem_cons.mpr ⟨mt4 (i := 48) (by decide +kernel) rfl, List.forall_mem_cons.mpr ⟨mt4 (i := 56) (by decide +kernel) rfl, List.forall_mem_cons.mpr ⟨mt4 (i := 44) (by decide +kernel) rfl, List.forall_mem_cons.mpr ⟨mt4 (i := 60) (by decide +kernel) rfl, List.forall_mem_cons.mpr ⟨mt4 (i := 83) (by decide +kernel) rfl, List.forall_mem_cons.mpr ⟨mt4 (i := 79) (by decide +kernel) rfl, List.forall_mem_cons.mpr ⟨mt4 (i := 91) (by decide +kernel) rfl, List.forall_mem_cons.mpr ⟨mt4 (i := 99) (by decide +kernel) rfl, List.forall_mem_cons.mpr ⟨mt4 (i := 95) (by decide +kernel) rfl, List.forall_mem_cons.mpr ⟨mt4 (i := 72) (by decide +kernel) rfl, List.forall_mem_cons.mpr ⟨mt4 (i := 87) (by decide +kernel) rfl, List.forall_mem_cons.mpr ⟨mt4 (i := 103) (by decide +kernel) rfl, List.forall_mem_cons.mpr ⟨mt4 (i := 107) (by decide +kernel) rfl, List.forall_mem_cons.mpr ⟨mt4 (i := 68) (by decide +kernel) rfl, List.forall_mem_cons.mpr ⟨mt4 (i := 119) (by decide +kernel) rfl, List.forall_mem_cons.mpr ⟨mt4 (i := 115) (by decide +kernel) rfl, fun _ h => absurd h List.not_mem_nil⟩⟩⟩⟩⟩⟩⟩⟩⟩⟩⟩⟩⟩⟩⟩⟩⟩⟩⟩⟩⟩⟩⟩⟩⟩
theorem LM_c6 : ∀ q ∈ ([(6, 155, 142), (6, 158, 146), (6, 161, 92), (6, 164, 93), (9, 311, 150), (0, 50, 154), (0, 79, 152), (2, 61, 152), (3, 26, 45), (3, 30, 153), (3, 48, 44), (3, 60, 151), (5, 48, 88), (5, 63, 87), (6, 37, 89), (6, 113, 125)] : List (Nat × Nat × Nat)), okM q := List.forall_mem_cons.mpr ⟨mt4 (i := 135) (by decide +kernel) rfl, List.forall_mem_cons.mpr ⟨mt4 (i := 151) (by decide +kernel) rfl, List.forall_mem_cons.mpr ⟨mt4 (i := 159) (by decide +kernel) rfl, List.forall_mem_cons.mpr ⟨mt4 (i := 163) (by decide +kernel) rfl, List.forall_mem_cons.mpr ⟨mt3 (i := 17) (by decide +kernel) rfl, List.forall_mem_cons.mpr ⟨mt1 (i := 34) (by decide +kernel) rfl, List.forall_mem_cons.mpr ⟨mt3 (i := 63) (by decide +kernel) rfl, List.forall_mem_cons.mpr ⟨mt1 (i := 239) (by decide +kernel) rfl, List.forall_mem_cons.mpr ⟨mt2 (i := 193) (by decide +kernel) rfl, List.forall_mem_cons.mpr ⟨mt2 (i := 196) (by decide +kernel) rfl, List.forall_mem_cons.mpr ⟨mt2 (i := 216) (by decide +kernel) rfl, List.forall_mem_cons.mpr ⟨mt3 (i := 14) (by decide +kernel) rfl, List.forall_mem_cons.mpr ⟨mt1 (i := 232) (by decide +kernel) rfl, List.forall_mem_cons.mpr ⟨mt2 (i := 34) (by decide +kernel) rfl, List.forall_mem_cons.mpr ⟨mt3 (i := 177) (by decide +kernel) rfl, List.forall_mem_cons.mpr ⟨mt4 (i := 76) (by decide +kernel) rfl, fun _ h => absurd h List.not_mem_nil⟩⟩⟩⟩⟩⟩⟩⟩⟩⟩⟩⟩⟩⟩⟩⟩
def LM : List (Nat × Nat × Nat) := [(7, 13, 57), (7, 17, 98), (7, 18, 58), (7, 21, 101), (7, 22, 59), (7, 26, 102), (7, 27, 60), (7, 30, 103), (7, 31, 61), (7, 34, 104), (7, 35, 62), (7, 38, 105), (7, 39, 63), (7, 43, 108), (7, 44, 64), (7, 47, 109), (7, 48, 65), (7, 51, 113), (7, 52, 66), (7, 55, 114), (7, 56, 67), (7, 59, 115), (7, 60, 68), (7, 63, 116), (7, 64, 69)] ++ ([(7, 68, 117), (7, 69, 70), (7, 72, 124), (7, 73, 71), (7, 76, 136), (7, 77, 72), (7, 80, 139), (7, 81, 73), (7, 84, 140), (7, 85, 74), (7, 88, 141), (7, 89, 75), (7, 92, 143), (7, 93, 76), (7, 96, 144), (7, 97, 77), (7, 100, 145), (7, 101, 78), (7, 104, 147), (7, 105, 79), (7, 108, 148), (7, 109, 80), (7, 112, 149), (7, 113, 81), (7, 116, 91)] ++ ([(0, 62, 2), (0, 75, 6), (0, 85, 12), (0, 89, 9), (1, 22, 3), (1, 37, 38), (1, 41, 19), (1, 45, 20), (1, 53, 4), (1, 57, 21), (1, 61, 40), (1, 68, 8), (1, 74, 42), (1, 84, 36), (1, 87, 6), (1, 94, 39), (1, 103, 22), (1, 107, 23), (1, 111, 34), (1, 121, 7), (1, 125, 41), (1, 129, 5), (2, 57, 1), (2, 67, 29), (2, 71, 33)] ++ ([(2, 75, 37), (3, 56, 43), (3, 66, 41), (4, 25, 52), (4, 28, 56), (4, 32, 48), (4, 41, 55), (4, 45, 50), (4, 49, 51), (4, 56, 27), (4, 59, 49), (4, 63, 28), (4, 67, 53), (4, 71, 54), (5, 52, 26), (5, 56, 82), (5, 59, 25), (5, 67, 85), (5, 73, 27), (5, 77, 28), (5, 81, 84), (5, 98, 32), (5, 101, 30), (5, 104, 29), (5, 110, 35)] ++ ([(5, 113, 33), (5, 117, 36), (5, 139, 46), (5, 143, 24), (5, 147, 47), (5, 151, 17), (5, 155, 1), (5, 158, 31), (5, 161, 10), (5, 164, 86), (5, 168, 9), (5, 171, 11), (5, 174, 12), (5, 177, 13), (5, 180, 14), (5, 186, 15), (5, 192, 16), (5, 195, 18), (5, 199, 6), (5, 205, 83), (6, 41, 95), (6, 45, 90), (6, 48, 96), (6, 52, 97), (6, 56, 99)] ++ ([(6, 59, 100), (6, 63, 94), (6, 66, 106), (6, 70, 107), (6, 73, 110), (6, 77, 112), (6, 81, 111), (6, 91, 118), (6, 97, 119), (6, 101, 120), (6, 104, 121), (6, 107, 122), (6, 110, 123), (6, 116, 127), (6, 120, 128), (6, 124, 126), (6, 127, 130), (6, 130, 131), (6, 133, 129), (6, 136, 132), (6, 139, 133), (6, 143, 134), (6, 146, 135), (6, 149, 137), (6, 152, 138)] ++ ([(6, 155, 142), (6, 158, 146), (6, 161, 92), (6, 164, 93), (9, 311, 150), (0, 50, 154), (0, 79, 152), (2, 61, 152), (3, 26, 45), (3, 30, 153), (3, 48, 44), (3, 60, 151), (5, 48, 88), (5, 63, 87), (6, 37, 89), (6, 113, 125)]))))))
theorem LM_ok : ∀ q ∈ LM, okM q := by
  intro q h
  unfold LM at h
  rcases List.mem_append.mp h with h | h
  · exact LM_c0 q h
  rcases List.mem_append.mp h with h | h
  · exact LM_c1 q h
  rcases List.mem_append.mp h with h | h
  · exact LM_c2 q h
  rcases List.mem_append.mp h with h | h
  · exact LM_c3 q h
  rcases List.mem_append.mp h with h | h
  · exact LM_c4 q h
  rcases List.mem_append.mp h with h | h
  · exact LM_c5 q h
  exact LM_c6 q h
def okA (q : Nat × Nat) : Prop := Cond.methodLink (oN q.1) q.2 arraycopyName ∈ WS
theorem LA_c0 : ∀ q ∈ ([(0, 56), (2, 51)] : List (Nat × Nat)), okA q := List.forall_mem_cons.mpr ⟨mt2 (i := 21) (by decide +kernel) rfl, List.forall_mem_cons.mpr ⟨mt2 (i := 14) (by decide +kernel) rfl, fun _ h => absurd h List.not_mem_nil⟩⟩
def LA : List (Nat × Nat) := [(0, 56), (2, 51)]
theorem LA_ok : ∀ q ∈ LA, okA q := by
  intro q h
  unfold LA at h
  exact LA_c0 q h
theorem wa_nat : Cond.native arraycopyName ∈ WS := mt2 (i := 16) (by decide +kernel) rfl
theorem wa_sta : Cond.static arraycopyName ∈ WS := mt2 (i := 15) (by decide +kernel) rfl
theorem wa_ini : Cond.initialized "java/lang/System" ∈ WS := mt1 (i := 10) (by decide +kernel) rfl
theorem wc_l : Cond.constantLong RX3 70 (-1) ∈ WS := mt3 (i := 13) (by decide +kernel) rfl
theorem wc_i : Cond.constant RJ6 264 65536 ∈ WS := mt3 (i := 20) (by decide +kernel) rfl
theorem wn_0 : Cond.methodLinkNest "NewspaperMakeup$Sheet" 52 ⟨"NewspaperMakeup", "isWithin", "(III)Z"⟩ "NewspaperMakeup" ∈ lw_tbl := mn3 (i := 8) (by decide +kernel)
theorem wn_1 : Cond.methodLinkNest "NewspaperMakeup$Text" 75 ⟨"NewspaperMakeup", "isWithin", "(III)Z"⟩ "NewspaperMakeup" ∈ lw_tbl := mn2 (i := 166) (by decide +kernel)
theorem wl_X0 : ∀ w ∈ wsX00, w ∈ WS := by
  intro w hw
  obtain ⟨k, hk, rfl⟩ := List.mem_map.mp hw
  have hk := List.mem_range.mp hk
  match k, hk with
  | 0, _ => exact mt1 (i := 64) (by decide +kernel) rfl
  | 1, _ => exact mt1 (i := 66) (by decide +kernel) rfl
  | 2, _ => exact mt1 (i := 68) (by decide +kernel) rfl
  | 3, _ => exact mt1 (i := 70) (by decide +kernel) rfl
  | 4, _ => exact mt1 (i := 72) (by decide +kernel) rfl
  | 5, _ => exact mt1 (i := 74) (by decide +kernel) rfl
  | 6, _ => exact mt1 (i := 76) (by decide +kernel) rfl
  | 7, _ => exact mt1 (i := 78) (by decide +kernel) rfl
  | 8, _ => exact mt1 (i := 80) (by decide +kernel) rfl
  | 9, _ => exact mt1 (i := 82) (by decide +kernel) rfl
  | 10, _ => exact mt1 (i := 84) (by decide +kernel) rfl
  | 11, _ => exact mt1 (i := 86) (by decide +kernel) rfl
  | k + 12, hk => exact absurd hk (by omega)
theorem wl_X1 : ∀ w ∈ wsX10, w ∈ WS := by
  intro w hw
  obtain ⟨k, hk, rfl⟩ := List.mem_map.mp hw
  have hk := List.mem_range.mp hk
  match k, hk with
  | 0, _ => exact mt1 (i := 199) (by decide +kernel) rfl
  | 1, _ => exact mt1 (i := 201) (by decide +kernel) rfl
  | k + 2, hk => exact absurd hk (by omega)
theorem wl_X2 : ∀ w ∈ wsX20, w ∈ WS := by
  intro w hw
  obtain ⟨k, hk, rfl⟩ := List.mem_map.mp hw
  have hk := List.mem_range.mp hk
  match k, hk with
  | 0, _ => exact mt1 (i := 127) (by decide +kernel) rfl
  | 1, _ => exact mt1 (i := 129) (by decide +kernel) rfl
  | 2, _ => exact mt1 (i := 131) (by decide +kernel) rfl
  | 3, _ => exact mt1 (i := 133) (by decide +kernel) rfl
  | 4, _ => exact mt1 (i := 135) (by decide +kernel) rfl
  | 5, _ => exact mt1 (i := 137) (by decide +kernel) rfl
  | 6, _ => exact mt1 (i := 139) (by decide +kernel) rfl
  | 7, _ => exact mt1 (i := 141) (by decide +kernel) rfl
  | 8, _ => exact mt1 (i := 143) (by decide +kernel) rfl
  | 9, _ => exact mt1 (i := 145) (by decide +kernel) rfl
  | 10, _ => exact mt1 (i := 147) (by decide +kernel) rfl
  | k + 11, hk => exact absurd hk (by omega)
theorem wl_X3 : ∀ w ∈ wsX30, w ∈ WS := by
  intro w hw
  obtain ⟨k, hk, rfl⟩ := List.mem_map.mp hw
  have hk := List.mem_range.mp hk
  match k, hk with
  | 0, _ => exact mt1 (i := 187) (by decide +kernel) rfl
  | 1, _ => exact mt1 (i := 189) (by decide +kernel) rfl
  | 2, _ => exact mt1 (i := 191) (by decide +kernel) rfl
  | 3, _ => exact mt1 (i := 193) (by decide +kernel) rfl
  | k + 4, hk => exact absurd hk (by omega)
theorem wl_X4 : ∀ w ∈ wsX40, w ∈ WS := by
  intro w hw
  obtain ⟨k, hk, rfl⟩ := List.mem_map.mp hw
  have hk := List.mem_range.mp hk
  match k, hk with
  | 0, _ => exact mt1 (i := 162) (by decide +kernel) rfl
  | 1, _ => exact mt1 (i := 164) (by decide +kernel) rfl
  | 2, _ => exact mt1 (i := 166) (by decide +kernel) rfl
  | 3, _ => exact mt1 (i := 168) (by decide +kernel) rfl
  | k + 4, hk => exact absurd hk (by omega)
theorem wl_X5 : ∀ w ∈ wsX50, w ∈ WS := by
  intro w hw
  obtain ⟨k, hk, rfl⟩ := List.mem_map.mp hw
  have hk := List.mem_range.mp hk
  match k, hk with
  | 0, _ => exact mt1 (i := 213) (by decide +kernel) rfl
  | 1, _ => exact mt1 (i := 215) (by decide +kernel) rfl
  | 2, _ => exact mt1 (i := 217) (by decide +kernel) rfl
  | 3, _ => exact mt1 (i := 219) (by decide +kernel) rfl
  | 4, _ => exact mt1 (i := 221) (by decide +kernel) rfl
  | 5, _ => exact mt1 (i := 223) (by decide +kernel) rfl
  | 6, _ => exact mt1 (i := 225) (by decide +kernel) rfl
  | k + 7, hk => exact absurd hk (by omega)
theorem wl_X6 : ∀ w ∈ wsX60, w ∈ WS := by
  intro w hw
  obtain ⟨k, hk, rfl⟩ := List.mem_map.mp hw
  have hk := List.mem_range.mp hk
  match k, hk with
  | 0, _ => exact mt3 (i := 145) (by decide +kernel) rfl
  | 1, _ => exact mt3 (i := 147) (by decide +kernel) rfl
  | 2, _ => exact mt3 (i := 149) (by decide +kernel) rfl
  | 3, _ => exact mt3 (i := 151) (by decide +kernel) rfl
  | 4, _ => exact mt3 (i := 153) (by decide +kernel) rfl
  | 5, _ => exact mt3 (i := 155) (by decide +kernel) rfl
  | 6, _ => exact mt3 (i := 157) (by decide +kernel) rfl
  | 7, _ => exact mt3 (i := 159) (by decide +kernel) rfl
  | 8, _ => exact mt3 (i := 161) (by decide +kernel) rfl
  | 9, _ => exact mt3 (i := 163) (by decide +kernel) rfl
  | 10, _ => exact mt3 (i := 165) (by decide +kernel) rfl
  | k + 11, hk => exact absurd hk (by omega)
end
