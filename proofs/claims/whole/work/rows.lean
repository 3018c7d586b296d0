section
-- ===== PART A: goes FIRST, ahead of the names: the tables' words, and 'selects' of the private methods out of them =====
/-- a private method of a class that the tables say can be made, by its rows of tables_1 -/
def lw_okq (q : MethodName × Nat) : Prop := (q.1.cls ≠ "java/lang/invoke/MethodHandle" ∧ q.1.cls ≠ "java/lang/invoke/VarHandle") ∧ Cond.instantiable q.1.cls q.2 ∈ tables_1 ∧ Cond.privateMethod q.1 ∈ tables_1 ∧ Cond.instanceMethod q.1 ∈ tables_1
theorem lw_p0 : lw_okq (⟨"StonesAlike$CharterReader", "advance", "()V"⟩, 10) := ⟨⟨by decide +kernel, by decide +kernel⟩, List.mem_of_getElem? (i := 50) (by decide +kernel), List.mem_of_getElem? (i := 437) (by decide +kernel), List.mem_of_getElem? (i := 438) (by decide +kernel)⟩
theorem lw_p1 : lw_okq (⟨"StonesAlike$CharterReader", "languageWord", "()LStonesAlike$Word;"⟩, 10) := ⟨⟨by decide +kernel, by decide +kernel⟩, List.mem_of_getElem? (i := 50) (by decide +kernel), List.mem_of_getElem? (i := 454) (by decide +kernel), List.mem_of_getElem? (i := 455) (by decide +kernel)⟩
theorem lw_p2 : lw_okq (⟨"StonesAlike$CharterReader", "refuse", "(I)V"⟩, 10) := ⟨⟨by decide +kernel, by decide +kernel⟩, List.mem_of_getElem? (i := 50) (by decide +kernel), List.mem_of_getElem? (i := 512) (by decide +kernel), List.mem_of_getElem? (i := 513) (by decide +kernel)⟩
theorem lw_p3 : lw_okq (⟨"StonesAlike$CharterReader", "parseProof", "(LStonesAlike$Word;)V"⟩, 10) := ⟨⟨by decide +kernel, by decide +kernel⟩, List.mem_of_getElem? (i := 50) (by decide +kernel), List.mem_of_getElem? (i := 516) (by decide +kernel), List.mem_of_getElem? (i := 517) (by decide +kernel)⟩
theorem lw_p4 : lw_okq (⟨"StonesAlike$CharterReader", "parseTest", "(I)I"⟩, 10) := ⟨⟨by decide +kernel, by decide +kernel⟩, List.mem_of_getElem? (i := 50) (by decide +kernel), List.mem_of_getElem? (i := 524) (by decide +kernel), List.mem_of_getElem? (i := 525) (by decide +kernel)⟩
theorem lw_p5 : lw_okq (⟨"StonesAlike$CharterReader", "takeNumber", "(LStonesAlike$Word;)I"⟩, 10) := ⟨⟨by decide +kernel, by decide +kernel⟩, List.mem_of_getElem? (i := 50) (by decide +kernel), List.mem_of_getElem? (i := 531) (by decide +kernel), List.mem_of_getElem? (i := 532) (by decide +kernel)⟩
theorem lw_p6 : lw_okq (⟨"StonesAlike$CharterReader", "parseSetting", "(LStonesAlike$Word;)V"⟩, 10) := ⟨⟨by decide +kernel, by decide +kernel⟩, List.mem_of_getElem? (i := 50) (by decide +kernel), List.mem_of_getElem? (i := 545) (by decide +kernel), List.mem_of_getElem? (i := 546) (by decide +kernel)⟩
theorem lw_p7 : lw_okq (⟨"StonesAlike$CharterReader", "parseBars", "()V"⟩, 10) := ⟨⟨by decide +kernel, by decide +kernel⟩, List.mem_of_getElem? (i := 50) (by decide +kernel), List.mem_of_getElem? (i := 549) (by decide +kernel), List.mem_of_getElem? (i := 550) (by decide +kernel)⟩
theorem lw_p8 : lw_okq (⟨"StonesAlike$CharterReader", "parseBar", "()V"⟩, 10) := ⟨⟨by decide +kernel, by decide +kernel⟩, List.mem_of_getElem? (i := 50) (by decide +kernel), List.mem_of_getElem? (i := 553) (by decide +kernel), List.mem_of_getElem? (i := 554) (by decide +kernel)⟩
theorem lw_p9 : lw_okq (⟨"StonesAlike$CharterReader", "putInForce", "()V"⟩, 10) := ⟨⟨by decide +kernel, by decide +kernel⟩, List.mem_of_getElem? (i := 50) (by decide +kernel), List.mem_of_getElem? (i := 571) (by decide +kernel), List.mem_of_getElem? (i := 572) (by decide +kernel)⟩
theorem lw_p10 : lw_okq (⟨"StonesAlike$LetterCutter", "placeOf", "(IILStonesAlike$Charter;)I"⟩, 7) := ⟨⟨by decide +kernel, by decide +kernel⟩, List.mem_of_getElem? (i := 131) (by decide +kernel), List.mem_of_getElem? (i := 583) (by decide +kernel), List.mem_of_getElem? (i := 584) (by decide +kernel)⟩
theorem lw_p11 : lw_okq (⟨"StonesAlike$LetterCutter", "strangeSign", "(I)I"⟩, 7) := ⟨⟨by decide +kernel, by decide +kernel⟩, List.mem_of_getElem? (i := 131) (by decide +kernel), List.mem_of_getElem? (i := 587) (by decide +kernel), List.mem_of_getElem? (i := 588) (by decide +kernel)⟩
theorem lw_p12 : lw_okq (⟨"StonesAlike$LetterCutter", "isStop", "(I)Z"⟩, 7) := ⟨⟨by decide +kernel, by decide +kernel⟩, List.mem_of_getElem? (i := 131) (by decide +kernel), List.mem_of_getElem? (i := 593) (by decide +kernel), List.mem_of_getElem? (i := 594) (by decide +kernel)⟩
theorem lw_p13 : lw_okq (⟨"StonesAlike$LetterCutter", "strayBlank", "(I)I"⟩, 7) := ⟨⟨by decide +kernel, by decide +kernel⟩, List.mem_of_getElem? (i := 131) (by decide +kernel), List.mem_of_getElem? (i := 597) (by decide +kernel), List.mem_of_getElem? (i := 598) (by decide +kernel)⟩
theorem lw_p14 : lw_okq (⟨"StonesAlike$LetterCutter", "longWord", "(II)I"⟩, 7) := ⟨⟨by decide +kernel, by decide +kernel⟩, List.mem_of_getElem? (i := 131) (by decide +kernel), List.mem_of_getElem? (i := 601) (by decide +kernel), List.mem_of_getElem? (i := 602) (by decide +kernel)⟩
theorem lw_p15 : lw_okq (⟨"StonesAlike$LetterCutter", "wordEnd", "(II)I"⟩, 7) := ⟨⟨by decide +kernel, by decide +kernel⟩, List.mem_of_getElem? (i := 131) (by decide +kernel), List.mem_of_getElem? (i := 605) (by decide +kernel), List.mem_of_getElem? (i := 606) (by decide +kernel)⟩
def lw_privs_1 : List (MethodName × Nat) := [(⟨"StonesAlike$CharterReader", "advance", "()V"⟩, 10), (⟨"StonesAlike$CharterReader", "languageWord", "()LStonesAlike$Word;"⟩, 10), (⟨"StonesAlike$CharterReader", "refuse", "(I)V"⟩, 10), (⟨"StonesAlike$CharterReader", "parseProof", "(LStonesAlike$Word;)V"⟩, 10), (⟨"StonesAlike$CharterReader", "parseTest", "(I)I"⟩, 10), (⟨"StonesAlike$CharterReader", "takeNumber", "(LStonesAlike$Word;)I"⟩, 10), (⟨"StonesAlike$CharterReader", "parseSetting", "(LStonesAlike$Word;)V"⟩, 10), (⟨"StonesAlike$CharterReader", "parseBars", "()V"⟩, 10), (⟨"StonesAlike$CharterReader", "parseBar", "()V"⟩, 10), (⟨"StonesAlike$CharterReader", "putInForce", "()V"⟩, 10), (⟨"StonesAlike$LetterCutter", "placeOf", "(IILStonesAlike$Charter;)I"⟩, 7), (⟨"StonesAlike$LetterCutter", "strangeSign", "(I)I"⟩, 7), (⟨"StonesAlike$LetterCutter", "isStop", "(I)Z"⟩, 7), (⟨"StonesAlike$LetterCutter", "strayBlank", "(I)I"⟩, 7), (⟨"StonesAlike$LetterCutter", "longWord", "(II)I"⟩, 7), (⟨"StonesAlike$LetterCutter", "wordEnd", "(II)I"⟩, 7)]
theorem lw_r1 : ∀ q ∈ lw_privs_1, lw_okq q := List.forall_mem_cons.mpr ⟨lw_p0, List.forall_mem_cons.mpr ⟨lw_p1, List.forall_mem_cons.mpr ⟨lw_p2, List.forall_mem_cons.mpr ⟨lw_p3, List.forall_mem_cons.mpr ⟨lw_p4, List.forall_mem_cons.mpr ⟨lw_p5, List.forall_mem_cons.mpr ⟨lw_p6, List.forall_mem_cons.mpr ⟨lw_p7, List.forall_mem_cons.mpr ⟨lw_p8, List.forall_mem_cons.mpr ⟨lw_p9, List.forall_mem_cons.mpr ⟨lw_p10, List.forall_mem_cons.mpr ⟨lw_p11, List.forall_mem_cons.mpr ⟨lw_p12, List.forall_mem_cons.mpr ⟨lw_p13, List.forall_mem_cons.mpr ⟨lw_p14, List.forall_mem_cons.mpr ⟨lw_p15, fun _ h => absurd h List.not_mem_nil⟩⟩⟩⟩⟩⟩⟩⟩⟩⟩⟩⟩⟩⟩⟩⟩
theorem lw_p16 : lw_okq (⟨"StonesAlike$LetterCutter", "lineBeyond", "(III)I"⟩, 7) := ⟨⟨by decide +kernel, by decide +kernel⟩, List.mem_of_getElem? (i := 131) (by decide +kernel), List.mem_of_getElem? (i := 609) (by decide +kernel), List.mem_of_getElem? (i := 610) (by decide +kernel)⟩
theorem lw_p17 : lw_okq (⟨"StonesAlike$LetterCutter", "barredWord", "(ILStonesAlike$Charter;)I"⟩, 7) := ⟨⟨by decide +kernel, by decide +kernel⟩, List.mem_of_getElem? (i := 131) (by decide +kernel), List.mem_of_getElem? (i := 613) (by decide +kernel), List.mem_of_getElem? (i := 614) (by decide +kernel)⟩
theorem lw_p18 : lw_okq (⟨"StonesAlike$Roll", "fillTraits", "(I)V"⟩, 16) := ⟨⟨by decide +kernel, by decide +kernel⟩, List.mem_of_getElem? (i := 163) (by decide +kernel), List.mem_of_getElem? (i := 663) (by decide +kernel), List.mem_of_getElem? (i := 664) (by decide +kernel)⟩
theorem lw_p19 : lw_okq (⟨"StonesAlike", "recutFallsBetween", "(II)Z"⟩, 13) := ⟨⟨by decide +kernel, by decide +kernel⟩, List.mem_of_getElem? (i := 27) (by decide +kernel), List.mem_of_getElem? (i := 706) (by decide +kernel), List.mem_of_getElem? (i := 707) (by decide +kernel)⟩
theorem lw_p20 : lw_okq (⟨"StonesAlike", "nameAll", "(I)Z"⟩, 13) := ⟨⟨by decide +kernel, by decide +kernel⟩, List.mem_of_getElem? (i := 27) (by decide +kernel), List.mem_of_getElem? (i := 710) (by decide +kernel), List.mem_of_getElem? (i := 711) (by decide +kernel)⟩
theorem lw_p21 : lw_okq (⟨"StonesAlike", "survey", "(I)Z"⟩, 13) := ⟨⟨by decide +kernel, by decide +kernel⟩, List.mem_of_getElem? (i := 27) (by decide +kernel), List.mem_of_getElem? (i := 714) (by decide +kernel), List.mem_of_getElem? (i := 715) (by decide +kernel)⟩
theorem lw_p22 : lw_okq (⟨"StonesAlike$Known", "forget", "()V"⟩, 7) := ⟨⟨by decide +kernel, by decide +kernel⟩, List.mem_of_getElem? (i := 264) (by decide +kernel), List.mem_of_getElem? (i := 722) (by decide +kernel), List.mem_of_getElem? (i := 723) (by decide +kernel)⟩
theorem lw_p23 : lw_okq (⟨"StonesAlike$Known", "take", "(LStonesAlike$Notebook;I)V"⟩, 7) := ⟨⟨by decide +kernel, by decide +kernel⟩, List.mem_of_getElem? (i := 264) (by decide +kernel), List.mem_of_getElem? (i := 726) (by decide +kernel), List.mem_of_getElem? (i := 727) (by decide +kernel)⟩
theorem lw_p24 : lw_okq (⟨"StonesAlike$Known", "takeReading", "(III)V"⟩, 7) := ⟨⟨by decide +kernel, by decide +kernel⟩, List.mem_of_getElem? (i := 264) (by decide +kernel), List.mem_of_getElem? (i := 730) (by decide +kernel), List.mem_of_getElem? (i := 731) (by decide +kernel)⟩
theorem lw_p25 : lw_okq (⟨"StonesAlike$Roll", "far", "(II)I"⟩, 16) := ⟨⟨by decide +kernel, by decide +kernel⟩, List.mem_of_getElem? (i := 163) (by decide +kernel), List.mem_of_getElem? (i := 764) (by decide +kernel), List.mem_of_getElem? (i := 765) (by decide +kernel)⟩
theorem lw_p26 : lw_okq (⟨"StonesAlike$Charter", "proofHolds", "(ILStonesAlike$Known;II)Z"⟩, 7) := ⟨⟨by decide +kernel, by decide +kernel⟩, List.mem_of_getElem? (i := 56) (by decide +kernel), List.mem_of_getElem? (i := 778) (by decide +kernel), List.mem_of_getElem? (i := 779) (by decide +kernel)⟩
theorem lw_p27 : lw_okq (⟨"StonesAlike$Namings", "gatherCandidates", "(I)V"⟩, 11) := ⟨⟨by decide +kernel, by decide +kernel⟩, List.mem_of_getElem? (i := 295) (by decide +kernel), List.mem_of_getElem? (i := 788) (by decide +kernel), List.mem_of_getElem? (i := 789) (by decide +kernel)⟩
theorem lw_p28 : lw_okq (⟨"StonesAlike$Namings", "bindSure", "(I)V"⟩, 11) := ⟨⟨by decide +kernel, by decide +kernel⟩, List.mem_of_getElem? (i := 295) (by decide +kernel), List.mem_of_getElem? (i := 797) (by decide +kernel), List.mem_of_getElem? (i := 798) (by decide +kernel)⟩
theorem lw_p29 : lw_okq (⟨"StonesAlike$Namings", "onlySureBody", "(I)I"⟩, 11) := ⟨⟨by decide +kernel, by decide +kernel⟩, List.mem_of_getElem? (i := 295) (by decide +kernel), List.mem_of_getElem? (i := 801) (by decide +kernel), List.mem_of_getElem? (i := 802) (by decide +kernel)⟩
theorem lw_p30 : lw_okq (⟨"StonesAlike$Namings", "placeAll", "(I)V"⟩, 11) := ⟨⟨by decide +kernel, by decide +kernel⟩, List.mem_of_getElem? (i := 295) (by decide +kernel), List.mem_of_getElem? (i := 805) (by decide +kernel), List.mem_of_getElem? (i := 806) (by decide +kernel)⟩
theorem lw_p31 : lw_okq (⟨"StonesAlike$Namings", "giveMan", "(III)Z"⟩, 11) := ⟨⟨by decide +kernel, by decide +kernel⟩, List.mem_of_getElem? (i := 295) (by decide +kernel), List.mem_of_getElem? (i := 809) (by decide +kernel), List.mem_of_getElem? (i := 810) (by decide +kernel)⟩
def lw_privs_2 : List (MethodName × Nat) := [(⟨"StonesAlike$LetterCutter", "lineBeyond", "(III)I"⟩, 7), (⟨"StonesAlike$LetterCutter", "barredWord", "(ILStonesAlike$Charter;)I"⟩, 7), (⟨"StonesAlike$Roll", "fillTraits", "(I)V"⟩, 16), (⟨"StonesAlike", "recutFallsBetween", "(II)Z"⟩, 13), (⟨"StonesAlike", "nameAll", "(I)Z"⟩, 13), (⟨"StonesAlike", "survey", "(I)Z"⟩, 13), (⟨"StonesAlike$Known", "forget", "()V"⟩, 7), (⟨"StonesAlike$Known", "take", "(LStonesAlike$Notebook;I)V"⟩, 7), (⟨"StonesAlike$Known", "takeReading", "(III)V"⟩, 7), (⟨"StonesAlike$Roll", "far", "(II)I"⟩, 16), (⟨"StonesAlike$Charter", "proofHolds", "(ILStonesAlike$Known;II)Z"⟩, 7), (⟨"StonesAlike$Namings", "gatherCandidates", "(I)V"⟩, 11), (⟨"StonesAlike$Namings", "bindSure", "(I)V"⟩, 11), (⟨"StonesAlike$Namings", "onlySureBody", "(I)I"⟩, 11), (⟨"StonesAlike$Namings", "placeAll", "(I)V"⟩, 11), (⟨"StonesAlike$Namings", "giveMan", "(III)Z"⟩, 11)]
theorem lw_r2 : ∀ q ∈ lw_privs_2, lw_okq q := List.forall_mem_cons.mpr ⟨lw_p16, List.forall_mem_cons.mpr ⟨lw_p17, List.forall_mem_cons.mpr ⟨lw_p18, List.forall_mem_cons.mpr ⟨lw_p19, List.forall_mem_cons.mpr ⟨lw_p20, List.forall_mem_cons.mpr ⟨lw_p21, List.forall_mem_cons.mpr ⟨lw_p22, List.forall_mem_cons.mpr ⟨lw_p23, List.forall_mem_cons.mpr ⟨lw_p24, List.forall_mem_cons.mpr ⟨lw_p25, List.forall_mem_cons.mpr ⟨lw_p26, List.forall_mem_cons.mpr ⟨lw_p27, List.forall_mem_cons.mpr ⟨lw_p28, List.forall_mem_cons.mpr ⟨lw_p29, List.forall_mem_cons.mpr ⟨lw_p30, List.forall_mem_cons.mpr ⟨lw_p31, fun _ h => absurd h List.not_mem_nil⟩⟩⟩⟩⟩⟩⟩⟩⟩⟩⟩⟩⟩⟩⟩⟩
theorem lw_p32 : lw_okq (⟨"StonesAlike$Namings", "linkChains", "()V"⟩, 11) := ⟨⟨by decide +kernel, by decide +kernel⟩, List.mem_of_getElem? (i := 295) (by decide +kernel), List.mem_of_getElem? (i := 813) (by decide +kernel), List.mem_of_getElem? (i := 814) (by decide +kernel)⟩
theorem lw_p33 : lw_okq (⟨"StonesAlike$Namings", "looseBodies", "()I"⟩, 11) := ⟨⟨by decide +kernel, by decide +kernel⟩, List.mem_of_getElem? (i := 295) (by decide +kernel), List.mem_of_getElem? (i := 817) (by decide +kernel), List.mem_of_getElem? (i := 818) (by decide +kernel)⟩
theorem lw_p34 : lw_okq (⟨"StonesAlike$Namings", "givingBodies", "(I)I"⟩, 11) := ⟨⟨by decide +kernel, by decide +kernel⟩, List.mem_of_getElem? (i := 295) (by decide +kernel), List.mem_of_getElem? (i := 821) (by decide +kernel), List.mem_of_getElem? (i := 822) (by decide +kernel)⟩
theorem lw_p35 : lw_okq (⟨"StonesAlike$Namings", "canTake", "(III)Z"⟩, 11) := ⟨⟨by decide +kernel, by decide +kernel⟩, List.mem_of_getElem? (i := 295) (by decide +kernel), List.mem_of_getElem? (i := 825) (by decide +kernel), List.mem_of_getElem? (i := 826) (by decide +kernel)⟩
theorem lw_p36 : lw_okq (⟨"StonesAlike", "missingMen", "()I"⟩, 13) := ⟨⟨by decide +kernel, by decide +kernel⟩, List.mem_of_getElem? (i := 27) (by decide +kernel), List.mem_of_getElem? (i := 829) (by decide +kernel), List.mem_of_getElem? (i := 830) (by decide +kernel)⟩
theorem lw_p37 : lw_okq (⟨"StonesAlike$Namings", "takersOf", "(I)I"⟩, 11) := ⟨⟨by decide +kernel, by decide +kernel⟩, List.mem_of_getElem? (i := 295) (by decide +kernel), List.mem_of_getElem? (i := 860) (by decide +kernel), List.mem_of_getElem? (i := 861) (by decide +kernel)⟩
theorem lw_p38 : lw_okq (⟨"StonesAlike$Namings", "waysWith", "(II)J"⟩, 11) := ⟨⟨by decide +kernel, by decide +kernel⟩, List.mem_of_getElem? (i := 295) (by decide +kernel), List.mem_of_getElem? (i := 864) (by decide +kernel), List.mem_of_getElem? (i := 865) (by decide +kernel)⟩
theorem lw_p39 : lw_okq (⟨"StonesAlike", "readNext", "(II)I"⟩, 13) := ⟨⟨by decide +kernel, by decide +kernel⟩, List.mem_of_getElem? (i := 27) (by decide +kernel), List.mem_of_getElem? (i := 886) (by decide +kernel), List.mem_of_getElem? (i := 887) (by decide +kernel)⟩
theorem lw_p40 : lw_okq (⟨"StonesAlike$Spade", "divideMan", "(LStonesAlike$Roll;LStonesAlike$Known;I)V"⟩, 1) := ⟨⟨by decide +kernel, by decide +kernel⟩, List.mem_of_getElem? (i := 338) (by decide +kernel), List.mem_of_getElem? (i := 910) (by decide +kernel), List.mem_of_getElem? (i := 911) (by decide +kernel)⟩
theorem lw_p41 : lw_okq (⟨"StonesAlike$Yard", "stonesOf", "(I)I"⟩, 5) := ⟨⟨by decide +kernel, by decide +kernel⟩, List.mem_of_getElem? (i := 348) (by decide +kernel), List.mem_of_getElem? (i := 975) (by decide +kernel), List.mem_of_getElem? (i := 976) (by decide +kernel)⟩
theorem lw_p42 : lw_okq (⟨"StonesAlike$Yard", "sumFrom", "(III)I"⟩, 5) := ⟨⟨by decide +kernel, by decide +kernel⟩, List.mem_of_getElem? (i := 348) (by decide +kernel), List.mem_of_getElem? (i := 980) (by decide +kernel), List.mem_of_getElem? (i := 981) (by decide +kernel)⟩
theorem lw_p43 : lw_okq (⟨"StonesAlike$Yard", "seeing", "(II)I"⟩, 5) := ⟨⟨by decide +kernel, by decide +kernel⟩, List.mem_of_getElem? (i := 348) (by decide +kernel), List.mem_of_getElem? (i := 984) (by decide +kernel), List.mem_of_getElem? (i := 985) (by decide +kernel)⟩
theorem lw_p44 : lw_okq (⟨"StonesAlike$Yard", "seasonOf", "(I)I"⟩, 5) := ⟨⟨by decide +kernel, by decide +kernel⟩, List.mem_of_getElem? (i := 348) (by decide +kernel), List.mem_of_getElem? (i := 988) (by decide +kernel), List.mem_of_getElem? (i := 989) (by decide +kernel)⟩
theorem lw_p45 : lw_okq (⟨"StonesAlike$Yard", "firstBest", "(I)I"⟩, 5) := ⟨⟨by decide +kernel, by decide +kernel⟩, List.mem_of_getElem? (i := 348) (by decide +kernel), List.mem_of_getElem? (i := 1002) (by decide +kernel), List.mem_of_getElem? (i := 1003) (by decide +kernel)⟩
theorem lw_p46 : lw_okq (⟨"java/lang/Throwable", "fillInStackTrace", "(I)Ljava/lang/Throwable;"⟩, 6) := ⟨⟨by decide +kernel, by decide +kernel⟩, List.mem_of_getElem? (i := 1064) (by decide +kernel), List.mem_of_getElem? (i := 1062) (by decide +kernel), List.mem_of_getElem? (i := 1063) (by decide +kernel)⟩
theorem lw_p47 : lw_okq (⟨"StonesAlikeModel", "plain", "()V"⟩, 60) := ⟨⟨by decide +kernel, by decide +kernel⟩, List.mem_of_getElem? (i := 1109) (by decide +kernel), List.mem_of_getElem? (i := 1115) (by decide +kernel), List.mem_of_getElem? (i := 1116) (by decide +kernel)⟩
def lw_privs_3 : List (MethodName × Nat) := [(⟨"StonesAlike$Namings", "linkChains", "()V"⟩, 11), (⟨"StonesAlike$Namings", "looseBodies", "()I"⟩, 11), (⟨"StonesAlike$Namings", "givingBodies", "(I)I"⟩, 11), (⟨"StonesAlike$Namings", "canTake", "(III)Z"⟩, 11), (⟨"StonesAlike", "missingMen", "()I"⟩, 13), (⟨"StonesAlike$Namings", "takersOf", "(I)I"⟩, 11), (⟨"StonesAlike$Namings", "waysWith", "(II)J"⟩, 11), (⟨"StonesAlike", "readNext", "(II)I"⟩, 13), (⟨"StonesAlike$Spade", "divideMan", "(LStonesAlike$Roll;LStonesAlike$Known;I)V"⟩, 1), (⟨"StonesAlike$Yard", "stonesOf", "(I)I"⟩, 5), (⟨"StonesAlike$Yard", "sumFrom", "(III)I"⟩, 5), (⟨"StonesAlike$Yard", "seeing", "(II)I"⟩, 5), (⟨"StonesAlike$Yard", "seasonOf", "(I)I"⟩, 5), (⟨"StonesAlike$Yard", "firstBest", "(I)I"⟩, 5), (⟨"java/lang/Throwable", "fillInStackTrace", "(I)Ljava/lang/Throwable;"⟩, 6), (⟨"StonesAlikeModel", "plain", "()V"⟩, 60)]
theorem lw_r3 : ∀ q ∈ lw_privs_3, lw_okq q := List.forall_mem_cons.mpr ⟨lw_p32, List.forall_mem_cons.mpr ⟨lw_p33, List.forall_mem_cons.mpr ⟨lw_p34, List.forall_mem_cons.mpr ⟨lw_p35, List.forall_mem_cons.mpr ⟨lw_p36, List.forall_mem_cons.mpr ⟨lw_p37, List.forall_mem_cons.mpr ⟨lw_p38, List.forall_mem_cons.mpr ⟨lw_p39, List.forall_mem_cons.mpr ⟨lw_p40, List.forall_mem_cons.mpr ⟨lw_p41, List.forall_mem_cons.mpr ⟨lw_p42, List.forall_mem_cons.mpr ⟨lw_p43, List.forall_mem_cons.mpr ⟨lw_p44, List.forall_mem_cons.mpr ⟨lw_p45, List.forall_mem_cons.mpr ⟨lw_p46, List.forall_mem_cons.mpr ⟨lw_p47, fun _ h => absurd h List.not_mem_nil⟩⟩⟩⟩⟩⟩⟩⟩⟩⟩⟩⟩⟩⟩⟩⟩
theorem lw_p48 : lw_okq (⟨"StonesAlikeModel", "keep", "()V"⟩, 60) := ⟨⟨by decide +kernel, by decide +kernel⟩, List.mem_of_getElem? (i := 1109) (by decide +kernel), List.mem_of_getElem? (i := 1119) (by decide +kernel), List.mem_of_getElem? (i := 1120) (by decide +kernel)⟩
theorem lw_p49 : lw_okq (⟨"StonesAlikeModel", "take", "()V"⟩, 60) := ⟨⟨by decide +kernel, by decide +kernel⟩, List.mem_of_getElem? (i := 1109) (by decide +kernel), List.mem_of_getElem? (i := 1316) (by decide +kernel), List.mem_of_getElem? (i := 1317) (by decide +kernel)⟩
theorem lw_p50 : lw_okq (⟨"StonesAlikeModel", "isSmall", "(I)Z"⟩, 60) := ⟨⟨by decide +kernel, by decide +kernel⟩, List.mem_of_getElem? (i := 1109) (by decide +kernel), List.mem_of_getElem? (i := 1320) (by decide +kernel), List.mem_of_getElem? (i := 1321) (by decide +kernel)⟩
theorem lw_p51 : lw_okq (⟨"StonesAlikeModel", "wordAt", "(II)I"⟩, 60) := ⟨⟨by decide +kernel, by decide +kernel⟩, List.mem_of_getElem? (i := 1109) (by decide +kernel), List.mem_of_getElem? (i := 1324) (by decide +kernel), List.mem_of_getElem? (i := 1325) (by decide +kernel)⟩
theorem lw_p52 : lw_okq (⟨"StonesAlikeModel", "isDigit", "(I)Z"⟩, 60) := ⟨⟨by decide +kernel, by decide +kernel⟩, List.mem_of_getElem? (i := 1109) (by decide +kernel), List.mem_of_getElem? (i := 1328) (by decide +kernel), List.mem_of_getElem? (i := 1329) (by decide +kernel)⟩
theorem lw_p53 : lw_okq (⟨"StonesAlikeModel", "wrong", "(I)Z"⟩, 60) := ⟨⟨by decide +kernel, by decide +kernel⟩, List.mem_of_getElem? (i := 1109) (by decide +kernel), List.mem_of_getElem? (i := 1335) (by decide +kernel), List.mem_of_getElem? (i := 1336) (by decide +kernel)⟩
theorem lw_p54 : lw_okq (⟨"StonesAlikeModel", "proofRead", "()Z"⟩, 60) := ⟨⟨by decide +kernel, by decide +kernel⟩, List.mem_of_getElem? (i := 1109) (by decide +kernel), List.mem_of_getElem? (i := 1339) (by decide +kernel), List.mem_of_getElem? (i := 1340) (by decide +kernel)⟩
theorem lw_p55 : lw_okq (⟨"StonesAlikeModel", "isNumber", "(II)Z"⟩, 60) := ⟨⟨by decide +kernel, by decide +kernel⟩, List.mem_of_getElem? (i := 1109) (by decide +kernel), List.mem_of_getElem? (i := 1343) (by decide +kernel), List.mem_of_getElem? (i := 1344) (by decide +kernel)⟩
theorem lw_p56 : lw_okq (⟨"StonesAlikeModel", "barRead", "()Z"⟩, 60) := ⟨⟨by decide +kernel, by decide +kernel⟩, List.mem_of_getElem? (i := 1109) (by decide +kernel), List.mem_of_getElem? (i := 1347) (by decide +kernel), List.mem_of_getElem? (i := 1348) (by decide +kernel)⟩
theorem lw_p57 : lw_okq (⟨"StonesAlikeModel", "numberRead", "(I)Z"⟩, 60) := ⟨⟨by decide +kernel, by decide +kernel⟩, List.mem_of_getElem? (i := 1109) (by decide +kernel), List.mem_of_getElem? (i := 1351) (by decide +kernel), List.mem_of_getElem? (i := 1352) (by decide +kernel)⟩
theorem lw_p58 : lw_okq (⟨"StonesAlikeModel", "breaks", "(II)I"⟩, 60) := ⟨⟨by decide +kernel, by decide +kernel⟩, List.mem_of_getElem? (i := 1109) (by decide +kernel), List.mem_of_getElem? (i := 1359) (by decide +kernel), List.mem_of_getElem? (i := 1360) (by decide +kernel)⟩
theorem lw_p59 : lw_okq (⟨"StonesAlikeModel", "wordEnd", "(II)I"⟩, 60) := ⟨⟨by decide +kernel, by decide +kernel⟩, List.mem_of_getElem? (i := 1109) (by decide +kernel), List.mem_of_getElem? (i := 1363) (by decide +kernel), List.mem_of_getElem? (i := 1364) (by decide +kernel)⟩
theorem lw_p60 : lw_okq (⟨"StonesAlikeModel", "isBarred", "(II)Z"⟩, 60) := ⟨⟨by decide +kernel, by decide +kernel⟩, List.mem_of_getElem? (i := 1109) (by decide +kernel), List.mem_of_getElem? (i := 1367) (by decide +kernel), List.mem_of_getElem? (i := 1368) (by decide +kernel)⟩
theorem lw_p61 : lw_okq (⟨"StonesAlikeModel", "isCell", "(I)Z"⟩, 60) := ⟨⟨by decide +kernel, by decide +kernel⟩, List.mem_of_getElem? (i := 1109) (by decide +kernel), List.mem_of_getElem? (i := 1387) (by decide +kernel), List.mem_of_getElem? (i := 1388) (by decide +kernel)⟩
theorem lw_p62 : lw_okq (⟨"StonesAlikeModel", "tell", "(IIII)I"⟩, 60) := ⟨⟨by decide +kernel, by decide +kernel⟩, List.mem_of_getElem? (i := 1109) (by decide +kernel), List.mem_of_getElem? (i := 1399) (by decide +kernel), List.mem_of_getElem? (i := 1400) (by decide +kernel)⟩
theorem lw_p63 : lw_okq (⟨"StonesAlikeModel", "nearOf", "(II)I"⟩, 60) := ⟨⟨by decide +kernel, by decide +kernel⟩, List.mem_of_getElem? (i := 1109) (by decide +kernel), List.mem_of_getElem? (i := 1419) (by decide +kernel), List.mem_of_getElem? (i := 1420) (by decide +kernel)⟩
def lw_privs_4 : List (MethodName × Nat) := [(⟨"StonesAlikeModel", "keep", "()V"⟩, 60), (⟨"StonesAlikeModel", "take", "()V"⟩, 60), (⟨"StonesAlikeModel", "isSmall", "(I)Z"⟩, 60), (⟨"StonesAlikeModel", "wordAt", "(II)I"⟩, 60), (⟨"StonesAlikeModel", "isDigit", "(I)Z"⟩, 60), (⟨"StonesAlikeModel", "wrong", "(I)Z"⟩, 60), (⟨"StonesAlikeModel", "proofRead", "()Z"⟩, 60), (⟨"StonesAlikeModel", "isNumber", "(II)Z"⟩, 60), (⟨"StonesAlikeModel", "barRead", "()Z"⟩, 60), (⟨"StonesAlikeModel", "numberRead", "(I)Z"⟩, 60), (⟨"StonesAlikeModel", "breaks", "(II)I"⟩, 60), (⟨"StonesAlikeModel", "wordEnd", "(II)I"⟩, 60), (⟨"StonesAlikeModel", "isBarred", "(II)Z"⟩, 60), (⟨"StonesAlikeModel", "isCell", "(I)Z"⟩, 60), (⟨"StonesAlikeModel", "tell", "(IIII)I"⟩, 60), (⟨"StonesAlikeModel", "nearOf", "(II)I"⟩, 60)]
theorem lw_r4 : ∀ q ∈ lw_privs_4, lw_okq q := List.forall_mem_cons.mpr ⟨lw_p48, List.forall_mem_cons.mpr ⟨lw_p49, List.forall_mem_cons.mpr ⟨lw_p50, List.forall_mem_cons.mpr ⟨lw_p51, List.forall_mem_cons.mpr ⟨lw_p52, List.forall_mem_cons.mpr ⟨lw_p53, List.forall_mem_cons.mpr ⟨lw_p54, List.forall_mem_cons.mpr ⟨lw_p55, List.forall_mem_cons.mpr ⟨lw_p56, List.forall_mem_cons.mpr ⟨lw_p57, List.forall_mem_cons.mpr ⟨lw_p58, List.forall_mem_cons.mpr ⟨lw_p59, List.forall_mem_cons.mpr ⟨lw_p60, List.forall_mem_cons.mpr ⟨lw_p61, List.forall_mem_cons.mpr ⟨lw_p62, List.forall_mem_cons.mpr ⟨lw_p63, fun _ h => absurd h List.not_mem_nil⟩⟩⟩⟩⟩⟩⟩⟩⟩⟩⟩⟩⟩⟩⟩⟩
theorem lw_p64 : lw_okq (⟨"StonesAlikeModel", "isKnowing", "(I)Z"⟩, 60) := ⟨⟨by decide +kernel, by decide +kernel⟩, List.mem_of_getElem? (i := 1109) (by decide +kernel), List.mem_of_getElem? (i := 1430) (by decide +kernel), List.mem_of_getElem? (i := 1431) (by decide +kernel)⟩
theorem lw_p65 : lw_okq (⟨"StonesAlikeModel", "know", "(I)V"⟩, 60) := ⟨⟨by decide +kernel, by decide +kernel⟩, List.mem_of_getElem? (i := 1109) (by decide +kernel), List.mem_of_getElem? (i := 1434) (by decide +kernel), List.mem_of_getElem? (i := 1435) (by decide +kernel)⟩
theorem lw_p66 : lw_okq (⟨"StonesAlikeModel", "isKnown", "(I)Z"⟩, 60) := ⟨⟨by decide +kernel, by decide +kernel⟩, List.mem_of_getElem? (i := 1109) (by decide +kernel), List.mem_of_getElem? (i := 1438) (by decide +kernel), List.mem_of_getElem? (i := 1439) (by decide +kernel)⟩
theorem lw_p67 : lw_okq (⟨"StonesAlikeModel", "fitOf", "(II)I"⟩, 60) := ⟨⟨by decide +kernel, by decide +kernel⟩, List.mem_of_getElem? (i := 1109) (by decide +kernel), List.mem_of_getElem? (i := 1442) (by decide +kernel), List.mem_of_getElem? (i := 1443) (by decide +kernel)⟩
theorem lw_p68 : lw_okq (⟨"StonesAlikeModel", "quarrels", "(II)Z"⟩, 60) := ⟨⟨by decide +kernel, by decide +kernel⟩, List.mem_of_getElem? (i := 1109) (by decide +kernel), List.mem_of_getElem? (i := 1446) (by decide +kernel), List.mem_of_getElem? (i := 1447) (by decide +kernel)⟩
theorem lw_p69 : lw_okq (⟨"StonesAlikeModel", "thingOf", "(II)I"⟩, 60) := ⟨⟨by decide +kernel, by decide +kernel⟩, List.mem_of_getElem? (i := 1109) (by decide +kernel), List.mem_of_getElem? (i := 1450) (by decide +kernel), List.mem_of_getElem? (i := 1451) (by decide +kernel)⟩
theorem lw_p70 : lw_okq (⟨"StonesAlikeModel", "proves", "(IIZ)Z"⟩, 60) := ⟨⟨by decide +kernel, by decide +kernel⟩, List.mem_of_getElem? (i := 1109) (by decide +kernel), List.mem_of_getElem? (i := 1454) (by decide +kernel), List.mem_of_getElem? (i := 1455) (by decide +kernel)⟩
theorem lw_p71 : lw_okq (⟨"StonesAlikeModel", "readMany", "(III)I"⟩, 60) := ⟨⟨by decide +kernel, by decide +kernel⟩, List.mem_of_getElem? (i := 1109) (by decide +kernel), List.mem_of_getElem? (i := 1458) (by decide +kernel), List.mem_of_getElem? (i := 1459) (by decide +kernel)⟩
theorem lw_p72 : lw_okq (⟨"StonesAlikeModel", "lay", "(I)V"⟩, 60) := ⟨⟨by decide +kernel, by decide +kernel⟩, List.mem_of_getElem? (i := 1109) (by decide +kernel), List.mem_of_getElem? (i := 1467) (by decide +kernel), List.mem_of_getElem? (i := 1468) (by decide +kernel)⟩
theorem lw_p73 : lw_okq (⟨"StonesAlikeModel", "matched", "(II)I"⟩, 60) := ⟨⟨by decide +kernel, by decide +kernel⟩, List.mem_of_getElem? (i := 1109) (by decide +kernel), List.mem_of_getElem? (i := 1471) (by decide +kernel), List.mem_of_getElem? (i := 1472) (by decide +kernel)⟩
theorem lw_p74 : lw_okq (⟨"StonesAlikeModel", "grows", "(II)Z"⟩, 60) := ⟨⟨by decide +kernel, by decide +kernel⟩, List.mem_of_getElem? (i := 1109) (by decide +kernel), List.mem_of_getElem? (i := 1475) (by decide +kernel), List.mem_of_getElem? (i := 1476) (by decide +kernel)⟩
theorem lw_p75 : lw_okq (⟨"StonesAlikeModel", "turn", "(II)V"⟩, 60) := ⟨⟨by decide +kernel, by decide +kernel⟩, List.mem_of_getElem? (i := 1109) (by decide +kernel), List.mem_of_getElem? (i := 1479) (by decide +kernel), List.mem_of_getElem? (i := 1480) (by decide +kernel)⟩
theorem lw_p76 : lw_okq (⟨"StonesAlikeModel", "isBody", "(II)Z"⟩, 60) := ⟨⟨by decide +kernel, by decide +kernel⟩, List.mem_of_getElem? (i := 1109) (by decide +kernel), List.mem_of_getElem? (i := 1487) (by decide +kernel), List.mem_of_getElem? (i := 1488) (by decide +kernel)⟩
theorem lw_p77 : lw_okq (⟨"StonesAlikeModel", "whoOf", "(I)I"⟩, 60) := ⟨⟨by decide +kernel, by decide +kernel⟩, List.mem_of_getElem? (i := 1109) (by decide +kernel), List.mem_of_getElem? (i := 1491) (by decide +kernel), List.mem_of_getElem? (i := 1492) (by decide +kernel)⟩
theorem lw_p78 : lw_okq (⟨"StonesAlikeModel", "namedOf", "(I)I"⟩, 60) := ⟨⟨by decide +kernel, by decide +kernel⟩, List.mem_of_getElem? (i := 1109) (by decide +kernel), List.mem_of_getElem? (i := 1499) (by decide +kernel), List.mem_of_getElem? (i := 1500) (by decide +kernel)⟩
theorem lw_p79 : lw_okq (⟨"StonesAlikeModel", "missingNow", "()I"⟩, 60) := ⟨⟨by decide +kernel, by decide +kernel⟩, List.mem_of_getElem? (i := 1109) (by decide +kernel), List.mem_of_getElem? (i := 1511) (by decide +kernel), List.mem_of_getElem? (i := 1512) (by decide +kernel)⟩
def lw_privs_5 : List (MethodName × Nat) := [(⟨"StonesAlikeModel", "isKnowing", "(I)Z"⟩, 60), (⟨"StonesAlikeModel", "know", "(I)V"⟩, 60), (⟨"StonesAlikeModel", "isKnown", "(I)Z"⟩, 60), (⟨"StonesAlikeModel", "fitOf", "(II)I"⟩, 60), (⟨"StonesAlikeModel", "quarrels", "(II)Z"⟩, 60), (⟨"StonesAlikeModel", "thingOf", "(II)I"⟩, 60), (⟨"StonesAlikeModel", "proves", "(IIZ)Z"⟩, 60), (⟨"StonesAlikeModel", "readMany", "(III)I"⟩, 60), (⟨"StonesAlikeModel", "lay", "(I)V"⟩, 60), (⟨"StonesAlikeModel", "matched", "(II)I"⟩, 60), (⟨"StonesAlikeModel", "grows", "(II)Z"⟩, 60), (⟨"StonesAlikeModel", "turn", "(II)V"⟩, 60), (⟨"StonesAlikeModel", "isBody", "(II)Z"⟩, 60), (⟨"StonesAlikeModel", "whoOf", "(I)I"⟩, 60), (⟨"StonesAlikeModel", "namedOf", "(I)I"⟩, 60), (⟨"StonesAlikeModel", "missingNow", "()I"⟩, 60)]
theorem lw_r5 : ∀ q ∈ lw_privs_5, lw_okq q := List.forall_mem_cons.mpr ⟨lw_p64, List.forall_mem_cons.mpr ⟨lw_p65, List.forall_mem_cons.mpr ⟨lw_p66, List.forall_mem_cons.mpr ⟨lw_p67, List.forall_mem_cons.mpr ⟨lw_p68, List.forall_mem_cons.mpr ⟨lw_p69, List.forall_mem_cons.mpr ⟨lw_p70, List.forall_mem_cons.mpr ⟨lw_p71, List.forall_mem_cons.mpr ⟨lw_p72, List.forall_mem_cons.mpr ⟨lw_p73, List.forall_mem_cons.mpr ⟨lw_p74, List.forall_mem_cons.mpr ⟨lw_p75, List.forall_mem_cons.mpr ⟨lw_p76, List.forall_mem_cons.mpr ⟨lw_p77, List.forall_mem_cons.mpr ⟨lw_p78, List.forall_mem_cons.mpr ⟨lw_p79, fun _ h => absurd h List.not_mem_nil⟩⟩⟩⟩⟩⟩⟩⟩⟩⟩⟩⟩⟩⟩⟩⟩
theorem lw_p80 : lw_okq (⟨"StonesAlikeModel", "layShares", "(I)V"⟩, 60) := ⟨⟨by decide +kernel, by decide +kernel⟩, List.mem_of_getElem? (i := 1109) (by decide +kernel), List.mem_of_getElem? (i := 1519) (by decide +kernel), List.mem_of_getElem? (i := 1520) (by decide +kernel)⟩
theorem lw_p81 : lw_okq (⟨"StonesAlikeModel", "layShare", "(I)V"⟩, 60) := ⟨⟨by decide +kernel, by decide +kernel⟩, List.mem_of_getElem? (i := 1109) (by decide +kernel), List.mem_of_getElem? (i := 1523) (by decide +kernel), List.mem_of_getElem? (i := 1524) (by decide +kernel)⟩
theorem lw_p82 : lw_okq (⟨"StonesAlikeModel", "stonesOf", "(I)I"⟩, 60) := ⟨⟨by decide +kernel, by decide +kernel⟩, List.mem_of_getElem? (i := 1109) (by decide +kernel), List.mem_of_getElem? (i := 1561) (by decide +kernel), List.mem_of_getElem? (i := 1562) (by decide +kernel)⟩
theorem lw_p83 : lw_okq (⟨"StonesAlikeModel", "layPlan", "()V"⟩, 60) := ⟨⟨by decide +kernel, by decide +kernel⟩, List.mem_of_getElem? (i := 1109) (by decide +kernel), List.mem_of_getElem? (i := 1565) (by decide +kernel), List.mem_of_getElem? (i := 1566) (by decide +kernel)⟩
theorem lw_p84 : lw_okq (⟨"StonesAlikeModel", "see", "(II)I"⟩, 60) := ⟨⟨by decide +kernel, by decide +kernel⟩, List.mem_of_getElem? (i := 1109) (by decide +kernel), List.mem_of_getElem? (i := 1569) (by decide +kernel), List.mem_of_getElem? (i := 1570) (by decide +kernel)⟩
theorem lw_p85 : lw_okq (⟨"StonesAlikeModel", "fails", "(I)I"⟩, 60) := ⟨⟨by decide +kernel, by decide +kernel⟩, List.mem_of_getElem? (i := 1109) (by decide +kernel), List.mem_of_getElem? (i := 1581) (by decide +kernel), List.mem_of_getElem? (i := 1582) (by decide +kernel)⟩
def lw_privs_6 : List (MethodName × Nat) := [(⟨"StonesAlikeModel", "layShares", "(I)V"⟩, 60), (⟨"StonesAlikeModel", "layShare", "(I)V"⟩, 60), (⟨"StonesAlikeModel", "stonesOf", "(I)I"⟩, 60), (⟨"StonesAlikeModel", "layPlan", "()V"⟩, 60), (⟨"StonesAlikeModel", "see", "(II)I"⟩, 60), (⟨"StonesAlikeModel", "fails", "(I)I"⟩, 60)]
theorem lw_r6 : ∀ q ∈ lw_privs_6, lw_okq q := List.forall_mem_cons.mpr ⟨lw_p80, List.forall_mem_cons.mpr ⟨lw_p81, List.forall_mem_cons.mpr ⟨lw_p82, List.forall_mem_cons.mpr ⟨lw_p83, List.forall_mem_cons.mpr ⟨lw_p84, List.forall_mem_cons.mpr ⟨lw_p85, fun _ h => absurd h List.not_mem_nil⟩⟩⟩⟩⟩⟩
def lw_privs : List (MethodName × Nat) := lw_privs_1 ++ (lw_privs_2 ++ (lw_privs_3 ++ (lw_privs_4 ++ (lw_privs_5 ++ (lw_privs_6)))))
def lw_tbl : List Cond := k2_sels lw_privs ++ tables_1
theorem lw_privs_ok : ∀ q ∈ lw_privs, lw_okq q := by
  show ∀ q ∈ lw_privs_1 ++ (lw_privs_2 ++ (lw_privs_3 ++ (lw_privs_4 ++ (lw_privs_5 ++ (lw_privs_6))))), lw_okq q
  exact List.forall_mem_append.mpr ⟨lw_r1, List.forall_mem_append.mpr ⟨lw_r2, List.forall_mem_append.mpr ⟨lw_r3, List.forall_mem_append.mpr ⟨lw_r4, List.forall_mem_append.mpr ⟨lw_r5, lw_r6⟩⟩⟩⟩⟩
end
section
def RX0 : String := "StonesAlike$Charter"
def TX0 : u_T := fun k => match k with
  | 0 => ("StonesAlike$Charter", "settings", "[I", true)
  | 1 => ("StonesAlike$Charter", "sure", "[Z", true)
  | 2 => ("StonesAlike$Charter", "least", "[I", true)
  | 3 => ("StonesAlike$Charter", "reach", "[I", true)
  | 4 => ("StonesAlike$Charter", "barred", "[J", true)
  | 5 => ("StonesAlike$Charter", "proofs", "I", false)
  | _ => ("StonesAlike$Charter", "bars", "I", false)
def tyX0 : Nat → FieldType := fun k => match k with
  | 0 => .array .int
  | 1 => .array .boolean
  | 2 => .array .int
  | 3 => .array .int
  | 4 => .array .long
  | 5 => .int
  | _ => .int
abbrev wsX00 : List Cond := u_ws RX0 TX0 7
theorem nmX0 : ∀ a, a < 7 → ∀ b, b < 7 → a ≠ b → (TX0 a).2.1 ≠ (TX0 b).2.1 := by decide +kernel
theorem tyX0_ok : ∀ k, k < 7 → parseFieldDescriptor (TX0 k).2.2.1 = some (tyX0 k) := by decide +kernel
abbrev cX0_init : ByteArray := prog_2_method_1_code
def yX0_init : MethodName := ⟨RX0, "<init>", "()V"⟩
abbrev cX0_clear : ByteArray := prog_2_method_2_code
def yX0_clear : MethodName := ⟨RX0, "clear", "()V"⟩
abbrev cX0_openProof : ByteArray := prog_2_method_3_code
def yX0_openProof : MethodName := ⟨RX0, "openProof", "(Z)V"⟩
abbrev cX0_addTest : ByteArray := prog_2_method_4_code
def yX0_addTest : MethodName := ⟨RX0, "addTest", "(II)V"⟩
abbrev cX0_addBar : ByteArray := prog_2_method_5_code
def yX0_addBar : MethodName := ⟨RX0, "addBar", "(J)V"⟩
abbrev cX0_bars : ByteArray := prog_2_method_6_code
def yX0_bars : MethodName := ⟨RX0, "bars", "(J)Z"⟩
abbrev cX0_proven : ByteArray := prog_2_method_7_code
def yX0_proven : MethodName := ⟨RX0, "proven", "(LStonesAlike$Known;II)I"⟩
abbrev cX0_proofHolds : ByteArray := prog_2_method_8_code
def yX0_proofHolds : MethodName := ⟨RX0, "proofHolds", "(ILStonesAlike$Known;II)Z"⟩
def RX1 : String := "StonesAlike$CharterReader"
def TX1 : u_T := fun k => match k with
  | 0 => ("StonesAlike$CharterReader", "tape", "LStonesAlike$Tape;", true)
  | 1 => ("StonesAlike$CharterReader", "inForce", "LStonesAlike$Charter;", false)
  | 2 => ("StonesAlike$CharterReader", "draft", "LStonesAlike$Charter;", false)
  | 3 => ("StonesAlike$CharterReader", "length", "I", false)
  | 4 => ("StonesAlike$CharterReader", "kind", "I", false)
  | 5 => ("StonesAlike$CharterReader", "from", "I", false)
  | 6 => ("StonesAlike$CharterReader", "to", "I", false)
  | 7 => ("StonesAlike$CharterReader", "settingsTold", "I", false)
  | 8 => ("StonesAlike$CharterReader", "fault", "I", false)
  | _ => ("StonesAlike$CharterReader", "faultPlace", "I", false)
def tyX1 : Nat → FieldType := fun k => match k with
  | 0 => .object "StonesAlike$Tape"
  | 1 => .object "StonesAlike$Charter"
  | 2 => .object "StonesAlike$Charter"
  | 3 => .int
  | 4 => .int
  | 5 => .int
  | 6 => .int
  | 7 => .int
  | 8 => .int
  | _ => .int
abbrev wsX10 : List Cond := u_ws RX1 TX1 10
theorem nmX1 : ∀ a, a < 10 → ∀ b, b < 10 → a ≠ b → (TX1 a).2.1 ≠ (TX1 b).2.1 := by decide +kernel
theorem tyX1_ok : ∀ k, k < 10 → parseFieldDescriptor (TX1 k).2.2.1 = some (tyX1 k) := by decide +kernel
abbrev cX1_init : ByteArray := prog_3_method_1_code
def yX1_init : MethodName := ⟨RX1, "<init>", "(LStonesAlike$Tape;)V"⟩
abbrev cX1_parse : ByteArray := prog_3_method_2_code
def yX1_parse : MethodName := ⟨RX1, "parse", "(I)I"⟩
abbrev cX1_putInForce : ByteArray := prog_3_method_3_code
def yX1_putInForce : MethodName := ⟨RX1, "putInForce", "()V"⟩
abbrev cX1_parseProof : ByteArray := prog_3_method_4_code
def yX1_parseProof : MethodName := ⟨RX1, "parseProof", "(LStonesAlike$Word;)V"⟩
abbrev cX1_parseTest : ByteArray := prog_3_method_5_code
def yX1_parseTest : MethodName := ⟨RX1, "parseTest", "(I)I"⟩
abbrev cX1_parseSetting : ByteArray := prog_3_method_6_code
def yX1_parseSetting : MethodName := ⟨RX1, "parseSetting", "(LStonesAlike$Word;)V"⟩
abbrev cX1_parseBars : ByteArray := prog_3_method_7_code
def yX1_parseBars : MethodName := ⟨RX1, "parseBars", "()V"⟩
abbrev cX1_parseBar : ByteArray := prog_3_method_8_code
def yX1_parseBar : MethodName := ⟨RX1, "parseBar", "()V"⟩
abbrev cX1_takeNumber : ByteArray := prog_3_method_9_code
def yX1_takeNumber : MethodName := ⟨RX1, "takeNumber", "(LStonesAlike$Word;)I"⟩
abbrev cX1_languageWord : ByteArray := prog_3_method_10_code
def yX1_languageWord : MethodName := ⟨RX1, "languageWord", "()LStonesAlike$Word;"⟩
abbrev cX1_refuse : ByteArray := prog_3_method_11_code
def yX1_refuse : MethodName := ⟨RX1, "refuse", "(I)V"⟩
abbrev cX1_advance : ByteArray := prog_3_method_12_code
def yX1_advance : MethodName := ⟨RX1, "advance", "()V"⟩
def RX2 : String := "StonesAlike$Known"
def TX2 : u_T := fun k => match k with
  | 0 => ("StonesAlike$Known", "struck", "[Z", true)
  | 1 => ("StonesAlike$Known", "readings", "[I", true)
  | 2 => ("StonesAlike$Known", "many", "[I", true)
  | 3 => ("StonesAlike$Known", "cellOf", "[I", true)
  | 4 => ("StonesAlike$Known", "bodies", "I", false)
  | 5 => ("StonesAlike$Known", "dugCells", "I", false)
  | _ => ("StonesAlike$Known", "bodyCells", "I", false)
def tyX2 : Nat → FieldType := fun k => match k with
  | 0 => .array .boolean
  | 1 => .array .int
  | 2 => .array .int
  | 3 => .array .int
  | 4 => .int
  | 5 => .int
  | _ => .int
abbrev wsX20 : List Cond := u_ws RX2 TX2 7
theorem nmX2 : ∀ a, a < 7 → ∀ b, b < 7 → a ≠ b → (TX2 a).2.1 ≠ (TX2 b).2.1 := by decide +kernel
theorem tyX2_ok : ∀ k, k < 7 → parseFieldDescriptor (TX2 k).2.2.1 = some (tyX2 k) := by decide +kernel
abbrev cX2_init : ByteArray := prog_4_method_1_code
def yX2_init : MethodName := ⟨RX2, "<init>", "()V"⟩
abbrev cX2_gather : ByteArray := prog_4_method_2_code
def yX2_gather : MethodName := ⟨RX2, "gather", "(LStonesAlike$Notebook;I)V"⟩
abbrev cX2_forget : ByteArray := prog_4_method_3_code
def yX2_forget : MethodName := ⟨RX2, "forget", "()V"⟩
abbrev cX2_take : ByteArray := prog_4_method_4_code
def yX2_take : MethodName := ⟨RX2, "take", "(LStonesAlike$Notebook;I)V"⟩
abbrev cX2_takeReading : ByteArray := prog_4_method_5_code
def yX2_takeReading : MethodName := ⟨RX2, "takeReading", "(III)V"⟩
abbrev cX2_hasBody : ByteArray := prog_4_method_6_code
def yX2_hasBody : MethodName := ⟨RX2, "hasBody", "(I)Z"⟩
abbrev cX2_reading : ByteArray := prog_4_method_7_code
def yX2_reading : MethodName := ⟨RX2, "reading", "(II)I"⟩
abbrev cX2_canBeDug : ByteArray := prog_4_method_8_code
def yX2_canBeDug : MethodName := ⟨RX2, "canBeDug", "(I)Z"⟩
abbrev cX2_quarrels : ByteArray := prog_4_method_9_code
def yX2_quarrels : MethodName := ⟨RX2, "quarrels", "(ILStonesAlike$Roll;I)Z"⟩
def RX3 : String := "StonesAlike$LetterCutter"
def TX3 : u_T := fun k => match k with
  | 0 => ("StonesAlike$LetterCutter", "tape", "LStonesAlike$Tape;", true)
  | 1 => ("StonesAlike$LetterCutter", "signs", "[I", true)
  | 2 => ("StonesAlike$LetterCutter", "draft", "[I", true)
  | 3 => ("StonesAlike$LetterCutter", "lineCount", "I", false)
  | 4 => ("StonesAlike$LetterCutter", "draftCount", "I", false)
  | 5 => ("StonesAlike$LetterCutter", "fault", "I", false)
  | _ => ("StonesAlike$LetterCutter", "faultPlace", "I", false)
def tyX3 : Nat → FieldType := fun k => match k with
  | 0 => .object "StonesAlike$Tape"
  | 1 => .array .int
  | 2 => .array .int
  | 3 => .int
  | 4 => .int
  | 5 => .int
  | _ => .int
abbrev wsX30 : List Cond := u_ws RX3 TX3 7
theorem nmX3 : ∀ a, a < 7 → ∀ b, b < 7 → a ≠ b → (TX3 a).2.1 ≠ (TX3 b).2.1 := by decide +kernel
theorem tyX3_ok : ∀ k, k < 7 → parseFieldDescriptor (TX3 k).2.2.1 = some (tyX3 k) := by decide +kernel
abbrev cX3_init : ByteArray := prog_5_method_1_code
def yX3_init : MethodName := ⟨RX3, "<init>", "(LStonesAlike$Tape;)V"⟩
abbrev cX3_cut : ByteArray := prog_5_method_2_code
def yX3_cut : MethodName := ⟨RX3, "cut", "(ILStonesAlike$Charter;)I"⟩
abbrev cX3_placeOf : ByteArray := prog_5_method_3_code
def yX3_placeOf : MethodName := ⟨RX3, "placeOf", "(IILStonesAlike$Charter;)I"⟩
abbrev cX3_strangeSign : ByteArray := prog_5_method_4_code
def yX3_strangeSign : MethodName := ⟨RX3, "strangeSign", "(I)I"⟩
abbrev cX3_strayBlank : ByteArray := prog_5_method_5_code
def yX3_strayBlank : MethodName := ⟨RX3, "strayBlank", "(I)I"⟩
abbrev cX3_longWord : ByteArray := prog_5_method_6_code
def yX3_longWord : MethodName := ⟨RX3, "longWord", "(II)I"⟩
abbrev cX3_lineBeyond : ByteArray := prog_5_method_7_code
def yX3_lineBeyond : MethodName := ⟨RX3, "lineBeyond", "(III)I"⟩
abbrev cX3_barredWord : ByteArray := prog_5_method_8_code
def yX3_barredWord : MethodName := ⟨RX3, "barredWord", "(ILStonesAlike$Charter;)I"⟩
abbrev cX3_isStop : ByteArray := prog_5_method_9_code
def yX3_isStop : MethodName := ⟨RX3, "isStop", "(I)Z"⟩
abbrev cX3_wordEnd : ByteArray := prog_5_method_10_code
def yX3_wordEnd : MethodName := ⟨RX3, "wordEnd", "(II)I"⟩
def RX4 : String := "StonesAlike$Namings"
def TX4 : u_T := fun k => match k with
  | 0 => ("StonesAlike$Namings", "verdicts", "[I", true)
  | 1 => ("StonesAlike$Namings", "may", "[I", true)
  | 2 => ("StonesAlike$Namings", "who", "[I", true)
  | 3 => ("StonesAlike$Namings", "named", "[I", true)
  | 4 => ("StonesAlike$Namings", "manOf", "[I", true)
  | 5 => ("StonesAlike$Namings", "bodyOf", "[I", true)
  | 6 => ("StonesAlike$Namings", "chain", "[I", true)
  | 7 => ("StonesAlike$Namings", "ways", "[J", true)
  | 8 => ("StonesAlike$Namings", "bodies", "I", false)
  | 9 => ("StonesAlike$Namings", "tried", "I", false)
  | _ => ("StonesAlike$Namings", "placed", "I", false)
def tyX4 : Nat → FieldType := fun k => match k with
  | 0 => .array .int
  | 1 => .array .int
  | 2 => .array .int
  | 3 => .array .int
  | 4 => .array .int
  | 5 => .array .int
  | 6 => .array .int
  | 7 => .array .long
  | 8 => .int
  | 9 => .int
  | _ => .int
abbrev wsX40 : List Cond := u_ws RX4 TX4 11
theorem nmX4 : ∀ a, a < 11 → ∀ b, b < 11 → a ≠ b → (TX4 a).2.1 ≠ (TX4 b).2.1 := by decide +kernel
theorem tyX4_ok : ∀ k, k < 11 → parseFieldDescriptor (TX4 k).2.2.1 = some (tyX4 k) := by decide +kernel
abbrev cX4_init : ByteArray := prog_6_method_1_code
def yX4_init : MethodName := ⟨RX4, "<init>", "()V"⟩
abbrev cX4_verdict : ByteArray := prog_6_method_2_code
def yX4_verdict : MethodName := ⟨RX4, "verdict", "(II)I"⟩
abbrev cX4_weigh : ByteArray := prog_6_method_3_code
def yX4_weigh : MethodName := ⟨RX4, "weigh", "(LStonesAlike$Charter;LStonesAlike$Roll;LStonesAlike$Known;I)V"⟩
abbrev cX4_settle : ByteArray := prog_6_method_4_code
def yX4_settle : MethodName := ⟨RX4, "settle", "(II)V"⟩
abbrev cX4_gatherCandidates : ByteArray := prog_6_method_5_code
def yX4_gatherCandidates : MethodName := ⟨RX4, "gatherCandidates", "(I)V"⟩
abbrev cX4_bindSure : ByteArray := prog_6_method_6_code
def yX4_bindSure : MethodName := ⟨RX4, "bindSure", "(I)V"⟩
abbrev cX4_onlySureBody : ByteArray := prog_6_method_7_code
def yX4_onlySureBody : MethodName := ⟨RX4, "onlySureBody", "(I)I"⟩
abbrev cX4_placeAll : ByteArray := prog_6_method_8_code
def yX4_placeAll : MethodName := ⟨RX4, "placeAll", "(I)V"⟩
abbrev cX4_giveMan : ByteArray := prog_6_method_9_code
def yX4_giveMan : MethodName := ⟨RX4, "giveMan", "(III)Z"⟩
abbrev cX4_linkChains : ByteArray := prog_6_method_10_code
def yX4_linkChains : MethodName := ⟨RX4, "linkChains", "()V"⟩
abbrev cX4_looseBodies : ByteArray := prog_6_method_11_code
def yX4_looseBodies : MethodName := ⟨RX4, "looseBodies", "()I"⟩
abbrev cX4_givingBodies : ByteArray := prog_6_method_12_code
def yX4_givingBodies : MethodName := ⟨RX4, "givingBodies", "(I)I"⟩
abbrev cX4_canTake : ByteArray := prog_6_method_13_code
def yX4_canTake : MethodName := ⟨RX4, "canTake", "(III)Z"⟩
abbrev cX4_menNamed : ByteArray := prog_6_method_14_code
def yX4_menNamed : MethodName := ⟨RX4, "menNamed", "()I"⟩
abbrev cX4_tally : ByteArray := prog_6_method_15_code
def yX4_tally : MethodName := ⟨RX4, "tally", "(II)J"⟩
abbrev cX4_takersOf : ByteArray := prog_6_method_16_code
def yX4_takersOf : MethodName := ⟨RX4, "takersOf", "(I)I"⟩
abbrev cX4_waysWith : ByteArray := prog_6_method_17_code
def yX4_waysWith : MethodName := ⟨RX4, "waysWith", "(II)J"⟩
def RX5 : String := "StonesAlike$Notebook"
def TX5 : u_T := fun k => match k with
  | 0 => ("StonesAlike$Notebook", "kind", "[I", true)
  | 1 => ("StonesAlike$Notebook", "subject", "[I", true)
  | 2 => ("StonesAlike$Notebook", "thing", "[I", true)
  | 3 => ("StonesAlike$Notebook", "value", "[I", true)
  | 4 => ("StonesAlike$Notebook", "size", "I", false)
  | _ => ("StonesAlike$Notebook", "bodies", "I", false)
def tyX5 : Nat → FieldType := fun k => match k with
  | 0 => .array .int
  | 1 => .array .int
  | 2 => .array .int
  | 3 => .array .int
  | 4 => .int
  | _ => .int
abbrev wsX50 : List Cond := u_ws RX5 TX5 6
theorem nmX5 : ∀ a, a < 6 → ∀ b, b < 6 → a ≠ b → (TX5 a).2.1 ≠ (TX5 b).2.1 := by decide +kernel
theorem tyX5_ok : ∀ k, k < 6 → parseFieldDescriptor (TX5 k).2.2.1 = some (tyX5 k) := by decide +kernel
abbrev cX5_init : ByteArray := prog_7_method_1_code
def yX5_init : MethodName := ⟨RX5, "<init>", "()V"⟩
abbrev cX5_clear : ByteArray := prog_7_method_2_code
def yX5_clear : MethodName := ⟨RX5, "clear", "()V"⟩
abbrev cX5_hasBody : ByteArray := prog_7_method_3_code
def yX5_hasBody : MethodName := ⟨RX5, "hasBody", "(I)Z"⟩
abbrev cX5_addBody : ByteArray := prog_7_method_4_code
def yX5_addBody : MethodName := ⟨RX5, "addBody", "(I)I"⟩
abbrev cX5_add : ByteArray := prog_7_method_5_code
def yX5_add : MethodName := ⟨RX5, "add", "(IIII)I"⟩
def RX6 : String := "StonesAlike$Roll"
def TX6 : u_T := fun k => match k with
  | 0 => ("StonesAlike$Roll", "column", "[I", true)
  | 1 => ("StonesAlike$Roll", "row", "[I", true)
  | 2 => ("StonesAlike$Roll", "standUnit", "[I", true)
  | 3 => ("StonesAlike$Roll", "standCell", "[I", true)
  | 4 => ("StonesAlike$Roll", "standFrom", "[I", true)
  | 5 => ("StonesAlike$Roll", "standTo", "[I", true)
  | 6 => ("StonesAlike$Roll", "unit", "[I", true)
  | 7 => ("StonesAlike$Roll", "number", "[I", true)
  | 8 => ("StonesAlike$Roll", "day", "[I", true)
  | 9 => ("StonesAlike$Roll", "boots", "[I", true)
  | 10 => ("StonesAlike$Roll", "teeth", "[I", true)
  | 11 => ("StonesAlike$Roll", "traits", "[I", true)
  | 12 => ("StonesAlike$Roll", "alike", "[I", true)
  | 13 => ("StonesAlike$Roll", "cells", "I", false)
  | 14 => ("StonesAlike$Roll", "stands", "I", false)
  | _ => ("StonesAlike$Roll", "men", "I", false)
def tyX6 : Nat → FieldType := fun k => match k with
  | 0 => .array .int
  | 1 => .array .int
  | 2 => .array .int
  | 3 => .array .int
  | 4 => .array .int
  | 5 => .array .int
  | 6 => .array .int
  | 7 => .array .int
  | 8 => .array .int
  | 9 => .array .int
  | 10 => .array .int
  | 11 => .array .int
  | 12 => .array .int
  | 13 => .int
  | 14 => .int
  | _ => .int
abbrev wsX60 : List Cond := u_ws RX6 TX6 16
theorem nmX6 : ∀ a, a < 16 → ∀ b, b < 16 → a ≠ b → (TX6 a).2.1 ≠ (TX6 b).2.1 := by decide +kernel
theorem tyX6_ok : ∀ k, k < 16 → parseFieldDescriptor (TX6 k).2.2.1 = some (tyX6 k) := by decide +kernel
abbrev cX6_init : ByteArray := prog_8_method_1_code
def yX6_init : MethodName := ⟨RX6, "<init>", "()V"⟩
abbrev cX6_clear : ByteArray := prog_8_method_2_code
def yX6_clear : MethodName := ⟨RX6, "clear", "(II)V"⟩
abbrev cX6_hasCell : ByteArray := prog_8_method_3_code
def yX6_hasCell : MethodName := ⟨RX6, "hasCell", "(I)Z"⟩
abbrev cX6_hasMan : ByteArray := prog_8_method_4_code
def yX6_hasMan : MethodName := ⟨RX6, "hasMan", "(I)Z"⟩
abbrev cX6_addStand : ByteArray := prog_8_method_5_code
def yX6_addStand : MethodName := ⟨RX6, "addStand", "(IIII)I"⟩
abbrev cX6_addMan : ByteArray := prog_8_method_6_code
def yX6_addMan : MethodName := ⟨RX6, "addMan", "(IIIII)I"⟩
abbrev cX6_fillTraits : ByteArray := prog_8_method_7_code
def yX6_fillTraits : MethodName := ⟨RX6, "fillTraits", "(I)V"⟩
abbrev cX6_trait : ByteArray := prog_8_method_8_code
def yX6_trait : MethodName := ⟨RX6, "trait", "(II)I"⟩
abbrev cX6_nearest : ByteArray := prog_8_method_9_code
def yX6_nearest : MethodName := ⟨RX6, "nearest", "(II)I"⟩
abbrev cX6_far : ByteArray := prog_8_method_10_code
def yX6_far : MethodName := ⟨RX6, "far", "(II)I"⟩
abbrev cX6_mostAlike : ByteArray := prog_8_method_11_code
def yX6_mostAlike : MethodName := ⟨RX6, "mostAlike", "(II)I"⟩
def RX7 : String := "StonesAlike$Spade"
def TX7 : u_T := fun k => match k with
  | _ => ("StonesAlike$Spade", "parts", "[J", true)
def tyX7 : Nat → FieldType := fun k => match k with
  | _ => .array .long
abbrev wsX70 : List Cond := u_ws RX7 TX7 1
theorem nmX7 : ∀ a, a < 1 → ∀ b, b < 1 → a ≠ b → (TX7 a).2.1 ≠ (TX7 b).2.1 := by decide +kernel
theorem tyX7_ok : ∀ k, k < 1 → parseFieldDescriptor (TX7 k).2.2.1 = some (tyX7 k) := by decide +kernel
abbrev cX7_init : ByteArray := prog_9_method_1_code
def yX7_init : MethodName := ⟨RX7, "<init>", "()V"⟩
abbrev cX7_divide : ByteArray := prog_9_method_2_code
def yX7_divide : MethodName := ⟨RX7, "divide", "(LStonesAlike$Roll;LStonesAlike$Known;I)V"⟩
abbrev cX7_divideMan : ByteArray := prog_9_method_3_code
def yX7_divideMan : MethodName := ⟨RX7, "divideMan", "(LStonesAlike$Roll;LStonesAlike$Known;I)V"⟩
abbrev cX7_upper : ByteArray := prog_9_method_4_code
def yX7_upper : MethodName := ⟨RX7, "upper", "(I)J"⟩
abbrev cX7_lower : ByteArray := prog_9_method_5_code
def yX7_lower : MethodName := ⟨RX7, "lower", "(I)J"⟩
abbrev cX7_commonDivisor : ByteArray := prog_9_method_6_code
def yX7_commonDivisor : MethodName := ⟨RX7, "commonDivisor", "(J)J"⟩
abbrev cX7_richest : ByteArray := prog_9_method_7_code
def yX7_richest : MethodName := ⟨RX7, "richest", "(I)I"⟩
def RX8 : String := "StonesAlike$Tape"
def TX8 : u_T := fun k => match k with
  | 0 => ("StonesAlike$Tape", "bytes", "[B", true)
  | _ => ("StonesAlike$Tape", "size", "I", false)
def tyX8 : Nat → FieldType := fun k => match k with
  | 0 => .array .byte
  | _ => .int
abbrev wsX80 : List Cond := u_ws RX8 TX8 2
theorem nmX8 : ∀ a, a < 2 → ∀ b, b < 2 → a ≠ b → (TX8 a).2.1 ≠ (TX8 b).2.1 := by decide +kernel
theorem tyX8_ok : ∀ k, k < 2 → parseFieldDescriptor (TX8 k).2.2.1 = some (tyX8 k) := by decide +kernel
abbrev cX8_init : ByteArray := prog_10_method_1_code
def yX8_init : MethodName := ⟨RX8, "<init>", "()V"⟩
abbrev cX8_hasRoom : ByteArray := prog_10_method_2_code
def yX8_hasRoom : MethodName := ⟨RX8, "hasRoom", "(I)Z"⟩
abbrev cX8_holds : ByteArray := prog_10_method_3_code
def yX8_holds : MethodName := ⟨RX8, "holds", "(I)Z"⟩
abbrev cX8_append : ByteArray := prog_10_method_4_code
def yX8_append : MethodName := ⟨RX8, "append", "(I)V"⟩
abbrev cX8_sign : ByteArray := prog_10_method_5_code
def yX8_sign : MethodName := ⟨RX8, "sign", "(I)I"⟩
abbrev cX8_isSmallLetter : ByteArray := prog_10_method_6_code
def yX8_isSmallLetter : MethodName := ⟨RX8, "isSmallLetter", "(I)Z"⟩
abbrev cX8_isDigit : ByteArray := prog_10_method_7_code
def yX8_isDigit : MethodName := ⟨RX8, "isDigit", "(I)Z"⟩
abbrev cX8_spells : ByteArray := prog_10_method_8_code
def yX8_spells : MethodName := ⟨RX8, "spells", "(IILjava/lang/String;)Z"⟩
abbrev cX8_wordCode : ByteArray := prog_10_method_9_code
def yX8_wordCode : MethodName := ⟨RX8, "wordCode", "(II)J"⟩
def RX9 : String := "StonesAlike$Word"
def TX9 : u_T := fun k => match k with
  | _ => ("", "", "", false)
def tyX9 : Nat → FieldType := fun k => match k with
  | _ => .int
abbrev wsX90 : List Cond := u_ws RX9 TX9 0
theorem nmX9 : ∀ a, a < 0 → ∀ b, b < 0 → a ≠ b → (TX9 a).2.1 ≠ (TX9 b).2.1 := by decide +kernel
theorem tyX9_ok : ∀ k, k < 0 → parseFieldDescriptor (TX9 k).2.2.1 = some (tyX9 k) := by decide +kernel
def RX10 : String := "StonesAlike$Yard"
def TX10 : u_T := fun k => match k with
  | 0 => ("StonesAlike$Yard", "stones", "[I", true)
  | 1 => ("StonesAlike$Yard", "living", "[I", true)
  | 2 => ("StonesAlike$Yard", "best", "[I", true)
  | 3 => ("StonesAlike$Yard", "fields", "I", false)
  | _ => ("StonesAlike$Yard", "pace", "I", false)
def tyX10 : Nat → FieldType := fun k => match k with
  | 0 => .array .int
  | 1 => .array .int
  | 2 => .array .int
  | 3 => .int
  | _ => .int
abbrev wsX100 : List Cond := u_ws RX10 TX10 5
theorem nmX10 : ∀ a, a < 5 → ∀ b, b < 5 → a ≠ b → (TX10 a).2.1 ≠ (TX10 b).2.1 := by decide +kernel
theorem tyX10_ok : ∀ k, k < 5 → parseFieldDescriptor (TX10 k).2.2.1 = some (tyX10 k) := by decide +kernel
abbrev cX10_init : ByteArray := prog_12_method_1_code
def yX10_init : MethodName := ⟨RX10, "<init>", "()V"⟩
abbrev cX10_hasField : ByteArray := prog_12_method_2_code
def yX10_hasField : MethodName := ⟨RX10, "hasField", "(I)Z"⟩
abbrev cX10_addField : ByteArray := prog_12_method_3_code
def yX10_addField : MethodName := ⟨RX10, "addField", "(I)I"⟩
abbrev cX10_setKin : ByteArray := prog_12_method_4_code
def yX10_setKin : MethodName := ⟨RX10, "setKin", "(III)V"⟩
abbrev cX10_seasonOf : ByteArray := prog_12_method_5_code
def yX10_seasonOf : MethodName := ⟨RX10, "seasonOf", "(I)I"⟩
abbrev cX10_stonesOf : ByteArray := prog_12_method_6_code
def yX10_stonesOf : MethodName := ⟨RX10, "stonesOf", "(I)I"⟩
abbrev cX10_seeing : ByteArray := prog_12_method_7_code
def yX10_seeing : MethodName := ⟨RX10, "seeing", "(II)I"⟩
abbrev cX10_bestSum : ByteArray := prog_12_method_8_code
def yX10_bestSum : MethodName := ⟨RX10, "bestSum", "()I"⟩
abbrev cX10_sumFrom : ByteArray := prog_12_method_9_code
def yX10_sumFrom : MethodName := ⟨RX10, "sumFrom", "(III)I"⟩
abbrev cX10_lastSeason : ByteArray := prog_12_method_10_code
def yX10_lastSeason : MethodName := ⟨RX10, "lastSeason", "()I"⟩
abbrev cX10_fieldInPlace : ByteArray := prog_12_method_11_code
def yX10_fieldInPlace : MethodName := ⟨RX10, "fieldInPlace", "(I)I"⟩
abbrev cX10_firstBest : ByteArray := prog_12_method_12_code
def yX10_firstBest : MethodName := ⟨RX10, "firstBest", "(I)I"⟩
abbrev cX10_sumOf : ByteArray := prog_12_method_13_code
def yX10_sumOf : MethodName := ⟨RX10, "sumOf", "(I)I"⟩
def RX11 : String := "StonesAlike"
def TX11 : u_T := fun k => match k with
  | 0 => ("StonesAlike", "tape", "LStonesAlike$Tape;", true)
  | 1 => ("StonesAlike", "charters", "LStonesAlike$CharterReader;", true)
  | 2 => ("StonesAlike", "letters", "LStonesAlike$LetterCutter;", true)
  | 3 => ("StonesAlike", "roll", "LStonesAlike$Roll;", true)
  | 4 => ("StonesAlike", "notebook", "LStonesAlike$Notebook;", true)
  | 5 => ("StonesAlike", "known", "LStonesAlike$Known;", true)
  | 6 => ("StonesAlike", "names", "LStonesAlike$Namings;", true)
  | 7 => ("StonesAlike", "spade", "LStonesAlike$Spade;", true)
  | 8 => ("StonesAlike", "yard", "LStonesAlike$Yard;", true)
  | 9 => ("StonesAlike", "week", "I", false)
  | 10 => ("StonesAlike", "wallMen", "I", false)
  | 11 => ("StonesAlike", "latestFault", "I", false)
  | _ => ("StonesAlike", "latestPlace", "I", false)
def tyX11 : Nat → FieldType := fun k => match k with
  | 0 => .object "StonesAlike$Tape"
  | 1 => .object "StonesAlike$CharterReader"
  | 2 => .object "StonesAlike$LetterCutter"
  | 3 => .object "StonesAlike$Roll"
  | 4 => .object "StonesAlike$Notebook"
  | 5 => .object "StonesAlike$Known"
  | 6 => .object "StonesAlike$Namings"
  | 7 => .object "StonesAlike$Spade"
  | 8 => .object "StonesAlike$Yard"
  | 9 => .int
  | 10 => .int
  | 11 => .int
  | _ => .int
abbrev wsX110 : List Cond := u_ws RX11 TX11 13
theorem nmX11 : ∀ a, a < 13 → ∀ b, b < 13 → a ≠ b → (TX11 a).2.1 ≠ (TX11 b).2.1 := by decide +kernel
theorem tyX11_ok : ∀ k, k < 13 → parseFieldDescriptor (TX11 k).2.2.1 = some (tyX11 k) := by decide +kernel
abbrev cX11_init : ByteArray := prog_1_method_1_code
def yX11_init : MethodName := ⟨RX11, "<init>", "()V"⟩
abbrev cX11_feed : ByteArray := prog_1_method_2_code
def yX11_feed : MethodName := ⟨RX11, "feed", "(IIIII)I"⟩
abbrev cX11_charter : ByteArray := prog_1_method_3_code
def yX11_charter : MethodName := ⟨RX11, "charter", "(I)I"⟩
abbrev cX11_letter : ByteArray := prog_1_method_4_code
def yX11_letter : MethodName := ⟨RX11, "letter", "(I)I"⟩
abbrev cX11_fault : ByteArray := prog_1_method_5_code
def yX11_fault : MethodName := ⟨RX11, "fault", "(I)I"⟩
abbrev cX11_line : ByteArray := prog_1_method_6_code
def yX11_line : MethodName := ⟨RX11, "line", "(I)I"⟩
abbrev cX11_land : ByteArray := prog_1_method_7_code
def yX11_land : MethodName := ⟨RX11, "land", "(II)Z"⟩
abbrev cX11_stand : ByteArray := prog_1_method_8_code
def yX11_stand : MethodName := ⟨RX11, "stand", "(IIII)I"⟩
abbrev cX11_man : ByteArray := prog_1_method_9_code
def yX11_man : MethodName := ⟨RX11, "man", "(IIIII)I"⟩
abbrev cX11_body : ByteArray := prog_1_method_10_code
def yX11_body : MethodName := ⟨RX11, "body", "(I)I"⟩
abbrev cX11_read : ByteArray := prog_1_method_11_code
def yX11_read : MethodName := ⟨RX11, "read", "(IIII)I"⟩
abbrev cX11_dig : ByteArray := prog_1_method_12_code
def yX11_dig : MethodName := ⟨RX11, "dig", "(I)I"⟩
abbrev cX11_strike : ByteArray := prog_1_method_13_code
def yX11_strike : MethodName := ⟨RX11, "strike", "(I)I"⟩
abbrev cX11_weeks : ByteArray := prog_1_method_14_code
def yX11_weeks : MethodName := ⟨RX11, "weeks", "(I)I"⟩
abbrev cX11_near : ByteArray := prog_1_method_15_code
def yX11_near : MethodName := ⟨RX11, "near", "(II)I"⟩
abbrev cX11_fits : ByteArray := prog_1_method_16_code
def yX11_fits : MethodName := ⟨RX11, "fits", "(III)I"⟩
abbrev cX11_namings : ByteArray := prog_1_method_17_code
def yX11_namings : MethodName := ⟨RX11, "namings", "(II)J"⟩
abbrev cX11_who : ByteArray := prog_1_method_18_code
def yX11_who : MethodName := ⟨RX11, "who", "(II)I"⟩
abbrev cX11_named : ByteArray := prog_1_method_19_code
def yX11_named : MethodName := ⟨RX11, "named", "(II)I"⟩
abbrev cX11_next : ByteArray := prog_1_method_20_code
def yX11_next : MethodName := ⟨RX11, "next", "(II)I"⟩
abbrev cX11_missing : ByteArray := prog_1_method_21_code
def yX11_missing : MethodName := ⟨RX11, "missing", "(I)I"⟩
abbrev cX11_share : ByteArray := prog_1_method_22_code
def yX11_share : MethodName := ⟨RX11, "share", "(III)J"⟩
abbrev cX11_likely : ByteArray := prog_1_method_23_code
def yX11_likely : MethodName := ⟨RX11, "likely", "(I)I"⟩
abbrev cX11_wall : ByteArray := prog_1_method_24_code
def yX11_wall : MethodName := ⟨RX11, "wall", "()I"⟩
abbrev cX11_field : ByteArray := prog_1_method_25_code
def yX11_field : MethodName := ⟨RX11, "field", "(I)I"⟩
abbrev cX11_kin : ByteArray := prog_1_method_26_code
def yX11_kin : MethodName := ⟨RX11, "kin", "(III)Z"⟩
abbrev cX11_capacity : ByteArray := prog_1_method_27_code
def yX11_capacity : MethodName := ⟨RX11, "capacity", "(I)Z"⟩
abbrev cX11_plan : ByteArray := prog_1_method_28_code
def yX11_plan : MethodName := ⟨RX11, "plan", "(I)I"⟩
abbrev cX11_judge : ByteArray := prog_1_method_29_code
def yX11_judge : MethodName := ⟨RX11, "judge", "(I)I"⟩
abbrev cX11_look : ByteArray := prog_1_method_30_code
def yX11_look : MethodName := ⟨RX11, "look", "(II)I"⟩
abbrev cX11_count : ByteArray := prog_1_method_31_code
def yX11_count : MethodName := ⟨RX11, "count", "(I)I"⟩
abbrev cX11_within : ByteArray := prog_1_method_32_code
def yX11_within : MethodName := ⟨RX11, "within", "(III)Z"⟩
abbrev cX11_isUnit : ByteArray := prog_1_method_33_code
def yX11_isUnit : MethodName := ⟨RX11, "isUnit", "(I)Z"⟩
abbrev cX11_isDay : ByteArray := prog_1_method_34_code
def yX11_isDay : MethodName := ⟨RX11, "isDay", "(I)Z"⟩
abbrev cX11_hasBit : ByteArray := prog_1_method_35_code
def yX11_hasBit : MethodName := ⟨RX11, "hasBit", "(II)Z"⟩
abbrev cX11_thingOf : ByteArray := prog_1_method_36_code
def yX11_thingOf : MethodName := ⟨RX11, "thingOf", "(II)I"⟩
abbrev cX11_kindOf : ByteArray := prog_1_method_37_code
def yX11_kindOf : MethodName := ⟨RX11, "kindOf", "(I)I"⟩
abbrev cX11_canBeRead : ByteArray := prog_1_method_38_code
def yX11_canBeRead : MethodName := ⟨RX11, "canBeRead", "(II)Z"⟩
abbrev cX11_survey : ByteArray := prog_1_method_39_code
def yX11_survey : MethodName := ⟨RX11, "survey", "(I)Z"⟩
abbrev cX11_nameAll : ByteArray := prog_1_method_40_code
def yX11_nameAll : MethodName := ⟨RX11, "nameAll", "(I)Z"⟩
abbrev cX11_missingMen : ByteArray := prog_1_method_41_code
def yX11_missingMen : MethodName := ⟨RX11, "missingMen", "()I"⟩
abbrev cX11_recutFallsBetween : ByteArray := prog_1_method_42_code
def yX11_recutFallsBetween : MethodName := ⟨RX11, "recutFallsBetween", "(II)Z"⟩
abbrev cX11_readNext : ByteArray := prog_1_method_43_code
def yX11_readNext : MethodName := ⟨RX11, "readNext", "(II)I"⟩
def RX12 : String := "StonesAlikeModel"
def TX12 : u_T := fun k => match k with
  | 0 => ("StonesAlikeModel", "tape", "[I", true)
  | 1 => ("StonesAlikeModel", "tapeSize", "I", false)
  | 2 => ("StonesAlikeModel", "thrown", "I", false)
  | 3 => ("StonesAlikeModel", "wide", "I", false)
  | 4 => ("StonesAlikeModel", "tall", "I", false)
  | 5 => ("StonesAlikeModel", "week", "I", false)
  | 6 => ("StonesAlikeModel", "wall", "I", false)
  | 7 => ("StonesAlikeModel", "stands", "I", false)
  | 8 => ("StonesAlikeModel", "stand", "[I", true)
  | 9 => ("StonesAlikeModel", "men", "I", false)
  | 10 => ("StonesAlikeModel", "man", "[I", true)
  | 11 => ("StonesAlikeModel", "notes", "I", false)
  | 12 => ("StonesAlikeModel", "bodies", "I", false)
  | 13 => ("StonesAlikeModel", "sort", "[I", true)
  | 14 => ("StonesAlikeModel", "of", "[I", true)
  | 15 => ("StonesAlikeModel", "thing", "[I", true)
  | 16 => ("StonesAlikeModel", "value", "[I", true)
  | 17 => ("StonesAlikeModel", "cellOf", "[I", true)
  | 18 => ("StonesAlikeModel", "noteOf", "[I", true)
  | 19 => ("StonesAlikeModel", "fields", "I", false)
  | 20 => ("StonesAlikeModel", "stones", "[I", true)
  | 21 => ("StonesAlikeModel", "kin", "[I", true)
  | 22 => ("StonesAlikeModel", "capacity", "I", false)
  | 23 => ("StonesAlikeModel", "words", "[I", true)
  | 24 => ("StonesAlikeModel", "fault", "I", false)
  | 25 => ("StonesAlikeModel", "faultPlace", "I", false)
  | 26 => ("StonesAlikeModel", "stop", "I", false)
  | 27 => ("StonesAlikeModel", "next", "I", false)
  | 28 => ("StonesAlikeModel", "kind", "I", false)
  | 29 => ("StonesAlikeModel", "which", "I", false)
  | 30 => ("StonesAlikeModel", "place", "I", false)
  | 31 => ("StonesAlikeModel", "proofs", "I", false)
  | 32 => ("StonesAlikeModel", "proofsRead", "I", false)
  | 33 => ("StonesAlikeModel", "proof", "[I", true)
  | 34 => ("StonesAlikeModel", "number", "[I", true)
  | 35 => ("StonesAlikeModel", "told", "[Z", true)
  | 36 => ("StonesAlikeModel", "bars", "I", false)
  | 37 => ("StonesAlikeModel", "barsRead", "I", false)
  | 38 => ("StonesAlikeModel", "barSize", "[I", true)
  | 39 => ("StonesAlikeModel", "bar", "[I", true)
  | 40 => ("StonesAlikeModel", "lines", "I", false)
  | 41 => ("StonesAlikeModel", "size", "[I", true)
  | 42 => ("StonesAlikeModel", "cut", "I", false)
  | 43 => ("StonesAlikeModel", "cutSize", "[I", true)
  | 44 => ("StonesAlikeModel", "counts", "[Z", true)
  | 45 => ("StonesAlikeModel", "readOf", "[I", true)
  | 46 => ("StonesAlikeModel", "may", "[I", true)
  | 47 => ("StonesAlikeModel", "mustBe", "[I", true)
  | 48 => ("StonesAlikeModel", "hasMan", "[I", true)
  | 49 => ("StonesAlikeModel", "surely", "I", false)
  | 50 => ("StonesAlikeModel", "most", "I", false)
  | 51 => ("StonesAlikeModel", "cameFrom", "[I", true)
  | 52 => ("StonesAlikeModel", "queue", "[I", true)
  | 53 => ("StonesAlikeModel", "ways", "[J", true)
  | 54 => ("StonesAlikeModel", "more", "[J", true)
  | 55 => ("StonesAlikeModel", "upper", "[J", true)
  | 56 => ("StonesAlikeModel", "lower", "[J", true)
  | 57 => ("StonesAlikeModel", "open", "[Z", true)
  | 58 => ("StonesAlikeModel", "bring", "[I", true)
  | _ => ("StonesAlikeModel", "order", "[I", true)
def tyX12 : Nat → FieldType := fun k => match k with
  | 0 => .array .int
  | 1 => .int
  | 2 => .int
  | 3 => .int
  | 4 => .int
  | 5 => .int
  | 6 => .int
  | 7 => .int
  | 8 => .array .int
  | 9 => .int
  | 10 => .array .int
  | 11 => .int
  | 12 => .int
  | 13 => .array .int
  | 14 => .array .int
  | 15 => .array .int
  | 16 => .array .int
  | 17 => .array .int
  | 18 => .array .int
  | 19 => .int
  | 20 => .array .int
  | 21 => .array .int
  | 22 => .int
  | 23 => .array .int
  | 24 => .int
  | 25 => .int
  | 26 => .int
  | 27 => .int
  | 28 => .int
  | 29 => .int
  | 30 => .int
  | 31 => .int
  | 32 => .int
  | 33 => .array .int
  | 34 => .array .int
  | 35 => .array .boolean
  | 36 => .int
  | 37 => .int
  | 38 => .array .int
  | 39 => .array .int
  | 40 => .int
  | 41 => .array .int
  | 42 => .int
  | 43 => .array .int
  | 44 => .array .boolean
  | 45 => .array .int
  | 46 => .array .int
  | 47 => .array .int
  | 48 => .array .int
  | 49 => .int
  | 50 => .int
  | 51 => .array .int
  | 52 => .array .int
  | 53 => .array .long
  | 54 => .array .long
  | 55 => .array .long
  | 56 => .array .long
  | 57 => .array .boolean
  | 58 => .array .int
  | _ => .array .int
abbrev wsX120 : List Cond := u_ws RX12 TX12 60
theorem nmX12 : ∀ a, a < 60 → ∀ b, b < 60 → a ≠ b → (TX12 a).2.1 ≠ (TX12 b).2.1 := by decide +kernel
theorem tyX12_ok : ∀ k, k < 60 → parseFieldDescriptor (TX12 k).2.2.1 = some (tyX12 k) := by decide +kernel
abbrev cX12_init : ByteArray := prog_14_method_1_code
def yX12_init : MethodName := ⟨RX12, "<init>", "()V"⟩
abbrev cX12_thrown : ByteArray := prog_14_method_2_code
def yX12_thrown : MethodName := ⟨RX12, "thrown", "()I"⟩
abbrev cX12_feed : ByteArray := prog_14_method_3_code
def yX12_feed : MethodName := ⟨RX12, "feed", "(IIIII)I"⟩
abbrev cX12_isIn : ByteArray := prog_14_method_4_code
def yX12_isIn : MethodName := ⟨RX12, "isIn", "(III)Z"⟩
abbrev cX12_isCell : ByteArray := prog_14_method_5_code
def yX12_isCell : MethodName := ⟨RX12, "isCell", "(I)Z"⟩
abbrev cX12_wrong : ByteArray := prog_14_method_6_code
def yX12_wrong : MethodName := ⟨RX12, "wrong", "(I)Z"⟩
abbrev cX12_wordAt : ByteArray := prog_14_method_7_code
def yX12_wordAt : MethodName := ⟨RX12, "wordAt", "(II)I"⟩
abbrev cX12_isSmall : ByteArray := prog_14_method_8_code
def yX12_isSmall : MethodName := ⟨RX12, "isSmall", "(I)Z"⟩
abbrev cX12_isDigit : ByteArray := prog_14_method_9_code
def yX12_isDigit : MethodName := ⟨RX12, "isDigit", "(I)Z"⟩
abbrev cX12_take : ByteArray := prog_14_method_10_code
def yX12_take : MethodName := ⟨RX12, "take", "()V"⟩
abbrev cX12_plain : ByteArray := prog_14_method_11_code
def yX12_plain : MethodName := ⟨RX12, "plain", "()V"⟩
abbrev cX12_keep : ByteArray := prog_14_method_12_code
def yX12_keep : MethodName := ⟨RX12, "keep", "()V"⟩
abbrev cX12_isNumber : ByteArray := prog_14_method_13_code
def yX12_isNumber : MethodName := ⟨RX12, "isNumber", "(II)Z"⟩
abbrev cX12_proofRead : ByteArray := prog_14_method_14_code
def yX12_proofRead : MethodName := ⟨RX12, "proofRead", "()Z"⟩
abbrev cX12_barRead : ByteArray := prog_14_method_15_code
def yX12_barRead : MethodName := ⟨RX12, "barRead", "()Z"⟩
abbrev cX12_numberRead : ByteArray := prog_14_method_16_code
def yX12_numberRead : MethodName := ⟨RX12, "numberRead", "(I)Z"⟩
abbrev cX12_charter : ByteArray := prog_14_method_17_code
def yX12_charter : MethodName := ⟨RX12, "charter", "(I)I"⟩
abbrev cX12_breaks : ByteArray := prog_14_method_18_code
def yX12_breaks : MethodName := ⟨RX12, "breaks", "(II)I"⟩
abbrev cX12_letter : ByteArray := prog_14_method_19_code
def yX12_letter : MethodName := ⟨RX12, "letter", "(I)I"⟩
abbrev cX12_wordEnd : ByteArray := prog_14_method_20_code
def yX12_wordEnd : MethodName := ⟨RX12, "wordEnd", "(II)I"⟩
abbrev cX12_isBarred : ByteArray := prog_14_method_21_code
def yX12_isBarred : MethodName := ⟨RX12, "isBarred", "(II)Z"⟩
abbrev cX12_fault : ByteArray := prog_14_method_22_code
def yX12_fault : MethodName := ⟨RX12, "fault", "(I)I"⟩
abbrev cX12_line : ByteArray := prog_14_method_23_code
def yX12_line : MethodName := ⟨RX12, "line", "(I)I"⟩
abbrev cX12_land : ByteArray := prog_14_method_24_code
def yX12_land : MethodName := ⟨RX12, "land", "(II)Z"⟩
abbrev cX12_stand : ByteArray := prog_14_method_25_code
def yX12_stand : MethodName := ⟨RX12, "stand", "(IIII)I"⟩
abbrev cX12_man : ByteArray := prog_14_method_26_code
def yX12_man : MethodName := ⟨RX12, "man", "(IIIII)I"⟩
abbrev cX12_tell : ByteArray := prog_14_method_27_code
def yX12_tell : MethodName := ⟨RX12, "tell", "(IIII)I"⟩
abbrev cX12_body : ByteArray := prog_14_method_28_code
def yX12_body : MethodName := ⟨RX12, "body", "(I)I"⟩
abbrev cX12_read : ByteArray := prog_14_method_29_code
def yX12_read : MethodName := ⟨RX12, "read", "(IIII)I"⟩
abbrev cX12_dig : ByteArray := prog_14_method_30_code
def yX12_dig : MethodName := ⟨RX12, "dig", "(I)I"⟩
abbrev cX12_strike : ByteArray := prog_14_method_31_code
def yX12_strike : MethodName := ⟨RX12, "strike", "(I)I"⟩
abbrev cX12_isKnown : ByteArray := prog_14_method_32_code
def yX12_isKnown : MethodName := ⟨RX12, "isKnown", "(I)Z"⟩
abbrev cX12_know : ByteArray := prog_14_method_33_code
def yX12_know : MethodName := ⟨RX12, "know", "(I)V"⟩
abbrev cX12_far : ByteArray := prog_14_method_34_code
def yX12_far : MethodName := ⟨RX12, "far", "(II)I"⟩
abbrev cX12_nearOf : ByteArray := prog_14_method_35_code
def yX12_nearOf : MethodName := ⟨RX12, "nearOf", "(II)I"⟩
abbrev cX12_near : ByteArray := prog_14_method_36_code
def yX12_near : MethodName := ⟨RX12, "near", "(II)I"⟩
abbrev cX12_thingOf : ByteArray := prog_14_method_37_code
def yX12_thingOf : MethodName := ⟨RX12, "thingOf", "(II)I"⟩
abbrev cX12_quarrels : ByteArray := prog_14_method_38_code
def yX12_quarrels : MethodName := ⟨RX12, "quarrels", "(II)Z"⟩
abbrev cX12_readMany : ByteArray := prog_14_method_39_code
def yX12_readMany : MethodName := ⟨RX12, "readMany", "(III)I"⟩
abbrev cX12_proves : ByteArray := prog_14_method_40_code
def yX12_proves : MethodName := ⟨RX12, "proves", "(IIZ)Z"⟩
abbrev cX12_fitOf : ByteArray := prog_14_method_41_code
def yX12_fitOf : MethodName := ⟨RX12, "fitOf", "(II)I"⟩
abbrev cX12_isKnowing : ByteArray := prog_14_method_42_code
def yX12_isKnowing : MethodName := ⟨RX12, "isKnowing", "(I)Z"⟩
abbrev cX12_fits : ByteArray := prog_14_method_43_code
def yX12_fits : MethodName := ⟨RX12, "fits", "(III)I"⟩
abbrev cX12_lay : ByteArray := prog_14_method_44_code
def yX12_lay : MethodName := ⟨RX12, "lay", "(I)V"⟩
abbrev cX12_matched : ByteArray := prog_14_method_45_code
def yX12_matched : MethodName := ⟨RX12, "matched", "(II)I"⟩
abbrev cX12_grows : ByteArray := prog_14_method_46_code
def yX12_grows : MethodName := ⟨RX12, "grows", "(II)Z"⟩
abbrev cX12_turn : ByteArray := prog_14_method_47_code
def yX12_turn : MethodName := ⟨RX12, "turn", "(II)V"⟩
abbrev cX12_namings : ByteArray := prog_14_method_48_code
def yX12_namings : MethodName := ⟨RX12, "namings", "(II)J"⟩
abbrev cX12_whoOf : ByteArray := prog_14_method_49_code
def yX12_whoOf : MethodName := ⟨RX12, "whoOf", "(I)I"⟩
abbrev cX12_namedOf : ByteArray := prog_14_method_50_code
def yX12_namedOf : MethodName := ⟨RX12, "namedOf", "(I)I"⟩
abbrev cX12_isBody : ByteArray := prog_14_method_51_code
def yX12_isBody : MethodName := ⟨RX12, "isBody", "(II)Z"⟩
abbrev cX12_who : ByteArray := prog_14_method_52_code
def yX12_who : MethodName := ⟨RX12, "who", "(II)I"⟩
abbrev cX12_named : ByteArray := prog_14_method_53_code
def yX12_named : MethodName := ⟨RX12, "named", "(II)I"⟩
abbrev cX12_next : ByteArray := prog_14_method_54_code
def yX12_next : MethodName := ⟨RX12, "next", "(II)I"⟩
abbrev cX12_missingNow : ByteArray := prog_14_method_55_code
def yX12_missingNow : MethodName := ⟨RX12, "missingNow", "()I"⟩
abbrev cX12_missing : ByteArray := prog_14_method_56_code
def yX12_missing : MethodName := ⟨RX12, "missing", "(I)I"⟩
abbrev cX12_shared : ByteArray := prog_14_method_57_code
def yX12_shared : MethodName := ⟨RX12, "shared", "(JJ)J"⟩
abbrev cX12_layShares : ByteArray := prog_14_method_58_code
def yX12_layShares : MethodName := ⟨RX12, "layShares", "(I)V"⟩
abbrev cX12_layShare : ByteArray := prog_14_method_59_code
def yX12_layShare : MethodName := ⟨RX12, "layShare", "(I)V"⟩
abbrev cX12_share : ByteArray := prog_14_method_60_code
def yX12_share : MethodName := ⟨RX12, "share", "(III)J"⟩
abbrev cX12_isMore : ByteArray := prog_14_method_61_code
def yX12_isMore : MethodName := ⟨RX12, "isMore", "(JJJJ)Z"⟩
abbrev cX12_likely : ByteArray := prog_14_method_62_code
def yX12_likely : MethodName := ⟨RX12, "likely", "(I)I"⟩
abbrev cX12_weeks : ByteArray := prog_14_method_63_code
def yX12_weeks : MethodName := ⟨RX12, "weeks", "(I)I"⟩
abbrev cX12_wall : ByteArray := prog_14_method_64_code
def yX12_wall : MethodName := ⟨RX12, "wall", "()I"⟩
abbrev cX12_field : ByteArray := prog_14_method_65_code
def yX12_field : MethodName := ⟨RX12, "field", "(I)I"⟩
abbrev cX12_kin : ByteArray := prog_14_method_66_code
def yX12_kin : MethodName := ⟨RX12, "kin", "(III)Z"⟩
abbrev cX12_capacity : ByteArray := prog_14_method_67_code
def yX12_capacity : MethodName := ⟨RX12, "capacity", "(I)Z"⟩
abbrev cX12_see : ByteArray := prog_14_method_68_code
def yX12_see : MethodName := ⟨RX12, "see", "(II)I"⟩
abbrev cX12_stonesOf : ByteArray := prog_14_method_69_code
def yX12_stonesOf : MethodName := ⟨RX12, "stonesOf", "(I)I"⟩
abbrev cX12_layPlan : ByteArray := prog_14_method_70_code
def yX12_layPlan : MethodName := ⟨RX12, "layPlan", "()V"⟩
abbrev cX12_plan : ByteArray := prog_14_method_71_code
def yX12_plan : MethodName := ⟨RX12, "plan", "(I)I"⟩
abbrev cX12_judge : ByteArray := prog_14_method_72_code
def yX12_judge : MethodName := ⟨RX12, "judge", "(I)I"⟩
abbrev cX12_fails : ByteArray := prog_14_method_73_code
def yX12_fails : MethodName := ⟨RX12, "fails", "(I)I"⟩
abbrev cX12_look : ByteArray := prog_14_method_74_code
def yX12_look : MethodName := ⟨RX12, "look", "(II)I"⟩
abbrev cX12_count : ByteArray := prog_14_method_75_code
def yX12_count : MethodName := ⟨RX12, "count", "(I)I"⟩
def RJx29ce0 : String := "java/lang/Enum"
def RJ6 : String := "java/lang/Integer"
abbrev cJ6_bitCount_0f7a4 : ByteArray := prog_18_method_49_code
def yJ6_bitCount_0f7a4 : MethodName := ⟨RJ6, "bitCount", "(I)I"⟩
def RJ9 : String := "java/lang/Math"
abbrev cJ9_abs_0f7a4 : ByteArray := prog_19_method_59_code
def yJ9_abs_0f7a4 : MethodName := ⟨RJ9, "abs", "(I)I"⟩
abbrev cJ9_max_7cf53 : ByteArray := prog_19_method_65_code
def yJ9_max_7cf53 : MethodName := ⟨RJ9, "max", "(II)I"⟩
abbrev cJ9_min_7cf53 : ByteArray := prog_19_method_69_code
def yJ9_min_7cf53 : MethodName := ⟨RJ9, "min", "(II)I"⟩
def RJ0 : String := "java/lang/String"
abbrev cJ0_length_8abf5 : ByteArray := prog_21_method_54_code
def yJ0_length_8abf5 : MethodName := ⟨RJ0, "length", "()I"⟩
abbrev cJ0_charAt_5068e : ByteArray := prog_21_method_56_code
def yJ0_charAt_5068e : MethodName := ⟨RJ0, "charAt", "(I)C"⟩
abbrev cJ0_coder_7d493 : ByteArray := prog_21_method_152_code
def yJ0_coder_7d493 : MethodName := ⟨RJ0, "coder", "()B"⟩
abbrev cJ0_isLatin1_aae02 : ByteArray := prog_21_method_154_code
def yJ0_isLatin1_aae02 : MethodName := ⟨RJ0, "isLatin1", "()Z"⟩
abbrev cJ0_checkIndex_df160 : ByteArray := prog_21_method_155_code
def yJ0_checkIndex_df160 : MethodName := ⟨RJ0, "checkIndex", "(II)V"⟩
def RJ1 : String := "java/lang/StringLatin1"
abbrev cJ1_charAt_3b067 : ByteArray := prog_22_method_2_code
def yJ1_charAt_3b067 : MethodName := ⟨RJ1, "charAt", "([BI)C"⟩
def RJ2 : String := "java/lang/StringUTF16"
abbrev cJ2_getChar_3b067 : ByteArray := prog_23_method_5_code
def yJ2_getChar_3b067 : MethodName := ⟨RJ2, "getChar", "([BI)C"⟩
abbrev cJ2_length_9d52b : ByteArray := prog_23_method_6_code
def yJ2_length_9d52b : MethodName := ⟨RJ2, "length", "([B)I"⟩
abbrev cJ2_charAt_3b067 : ByteArray := prog_23_method_83_code
def yJ2_charAt_3b067 : MethodName := ⟨RJ2, "charAt", "([BI)C"⟩
abbrev cJ2_checkIndex_2214a : ByteArray := prog_23_method_91_code
def yJ2_checkIndex_2214a : MethodName := ⟨RJ2, "checkIndex", "(I[B)V"⟩
def RJ3 : String := "jdk/internal/util/Preconditions"
abbrev cJ3_checkIndex_8e157 : ByteArray := prog_26_method_11_code
def yJ3_checkIndex_8e157 : MethodName := ⟨RJ3, "checkIndex", "(IILjava/util/function/BiFunction;)I"⟩
def RL : String := "StonesAlikeLaw"
abbrev cL_look : ByteArray := method_3_code
def yL_look : MethodName := ⟨RL, "look", "(LStonesAlike;II[J)I"⟩
abbrev cL_law : ByteArray := code
def yL_law : MethodName := ⟨RL, "law", "([I)Z"⟩
end
section
abbrev am_cl : List vw_C := [(RX0, TX0, 7), (RX1, TX1, 10), (RX2, TX2, 7), (RX3, TX3, 7), (RX4, TX4, 11), (RX5, TX5, 6), (RX6, TX6, 16), (RX7, TX7, 1), (RX8, TX8, 2), (RX10, TX10, 5), (RX11, TX11, 13), (RX12, TX12, 60)]
def am_ty : List (Nat → FieldType) := [tyX0, tyX1, tyX2, tyX3, tyX4, tyX5, tyX6, tyX7, tyX8, tyX10, tyX11, tyX12]
def am_R (k : Nat) : String := [RX0, RX1, RX2, RX3, RX4, RX5, RX6, RX7, RX8, RX10, RX11, RX12, RL, RJ9, RJ6, RX9].getD k ""
def am_cell (k : Nat) : Nat × Nat × List (Nat × Nat) := if k = 0 then (9, 0, []) else if 93 < k then (9, 0, []) else if k ≤ 47 then (if k ≤ 24 then (if k ≤ 12 then (if k ≤ 6 then (if k ≤ 3 then (if k ≤ 2 then (if k ≤ 1 then ((0, 10, [(8, 2), (8, 4), (8, 17), (8, 20), (8, 34), (8, 39), (8, 44), (8, 53), (8, 55), (0, 0), (0, 0), (0, 0), (0, 0)])) else ((0, 8, [(8, 3), (0, 0)]))) else ((3, 400, []))) else (if k ≤ 5 then (if k ≤ 4 then ((0, 1, [(8, 2), (2, 0), (2, 0), (0, 0), (0, 0), (0, 0), (0, 0), (0, 0), (0, 0), (0, 0)])) else ((0, 0, [(8, 6), (8, 7), (8, 8), (8, 9), (8, 10), (0, 0), (0, 0)]))) else ((1, 4, [])))) else (if k ≤ 9 then (if k ≤ 8 then (if k ≤ 7 then ((4, 12, [])) else ((1, 48, []))) else ((1, 12, []))) else (if k ≤ 11 then (if k ≤ 10 then ((2, 8, [])) else ((0, 0, [(8, 12), (8, 13), (8, 14), (8, 15), (8, 16), (0, 0), (0, 0)]))) else ((1, 4, []))))) else (if k ≤ 18 then (if k ≤ 15 then (if k ≤ 14 then (if k ≤ 13 then ((4, 12, [])) else ((1, 48, []))) else ((1, 12, []))) else (if k ≤ 17 then (if k ≤ 16 then ((2, 8, [])) else ((0, 3, [(8, 2), (8, 18), (8, 19), (0, 0), (0, 0), (0, 0), (0, 0)]))) else ((1, 6, [])))) else (if k ≤ 21 then (if k ≤ 20 then (if k ≤ 19 then ((1, 6, [])) else ((0, 6, [(8, 21), (8, 22), (8, 23), (8, 24), (8, 25), (8, 26), (8, 27), (8, 28), (8, 29), (8, 30), (8, 31), (8, 32), (8, 33), (0, 0), (0, 0), (0, 0)]))) else ((1, 25, []))) else (if k ≤ 23 then (if k ≤ 22 then ((1, 25, [])) else ((1, 20, []))) else ((1, 20, [])))))) else (if k ≤ 36 then (if k ≤ 30 then (if k ≤ 27 then (if k ≤ 26 then (if k ≤ 25 then ((1, 20, [])) else ((1, 20, []))) else ((1, 14, []))) else (if k ≤ 29 then (if k ≤ 28 then ((1, 14, [])) else ((1, 14, []))) else ((1, 14, [])))) else (if k ≤ 33 then (if k ≤ 32 then (if k ≤ 31 then ((1, 14, [])) else ((1, 196, []))) else ((1, 10, []))) else (if k ≤ 35 then (if k ≤ 34 then ((0, 5, [(8, 35), (8, 36), (8, 37), (8, 38), (0, 0), (0, 0)])) else ((1, 90, []))) else ((1, 90, []))))) else (if k ≤ 42 then (if k ≤ 39 then (if k ≤ 38 then (if k ≤ 37 then ((1, 90, [])) else ((1, 90, []))) else ((0, 2, [(8, 40), (8, 41), (8, 42), (8, 43), (0, 0), (0, 0), (0, 0)]))) else (if k ≤ 41 then (if k ≤ 40 then ((4, 90, [])) else ((1, 140, []))) else ((1, 40, [])))) else (if k ≤ 45 then (if k ≤ 44 then (if k ≤ 43 then ((1, 10, [])) else ((0, 4, [(8, 45), (8, 46), (8, 47), (8, 48), (8, 49), (8, 50), (8, 51), (8, 52), (0, 0), (0, 0), (0, 0)]))) else ((1, 140, []))) else (if k ≤ 46 then ((1, 10, [])) else ((1, 10, []))))))) else (if k ≤ 70 then (if k ≤ 59 then (if k ≤ 53 then (if k ≤ 50 then (if k ≤ 49 then (if k ≤ 48 then ((1, 10, [])) else ((1, 10, []))) else ((1, 14, []))) else (if k ≤ 52 then (if k ≤ 51 then ((1, 10, [])) else ((2, 1024, []))) else ((0, 7, [(8, 54)])))) else (if k ≤ 56 then (if k ≤ 55 then (if k ≤ 54 then ((2, 25, [])) else ((0, 9, [(8, 56), (8, 57), (8, 58), (0, 0), (0, 0)]))) else ((1, 8, []))) else (if k ≤ 58 then (if k ≤ 57 then ((1, 168, [])) else ((1, 256, []))) else ((0, 11, [(8, 60), (0, 0), (0, 0), (0, 0), (0, 0), (0, 0), (0, 0), (0, 0), (8, 61), (0, 0), (8, 62), (0, 0), (0, 0), (8, 63), (8, 64), (8, 65), (8, 66), (8, 67), (8, 68), (0, 0), (8, 69), (8, 70), (0, 0), (8, 71), (0, 0), (0, 0), (0, 0), (0, 0), (0, 0), (0, 0), (0, 0), (0, 0), (0, 0), (8, 72), (8, 73), (8, 74), (0, 0), (0, 0), (8, 75), (8, 76), (0, 0), (8, 77), (0, 0), (8, 78), (8, 79), (8, 80), (8, 81), (8, 82), (8, 83), (0, 0), (0, 0), (8, 84), (8, 85), (8, 86), (8, 87), (8, 88), (8, 89), (8, 90), (8, 91), (8, 92)]))))) else (if k ≤ 65 then (if k ≤ 62 then (if k ≤ 61 then (if k ≤ 60 then ((1, 400, [])) else ((1, 80, []))) else ((1, 70, []))) else (if k ≤ 64 then (if k ≤ 63 then ((1, 90, [])) else ((1, 90, []))) else ((1, 90, [])))) else (if k ≤ 68 then (if k ≤ 67 then (if k ≤ 66 then ((1, 90, [])) else ((1, 10, []))) else ((1, 10, []))) else (if k ≤ 69 then ((1, 8, [])) else ((1, 168, [])))))) else (if k ≤ 82 then (if k ≤ 76 then (if k ≤ 73 then (if k ≤ 72 then (if k ≤ 71 then ((1, 67, [])) else ((1, 144, []))) else ((1, 8, []))) else (if k ≤ 75 then (if k ≤ 74 then ((4, 4, [])) else ((1, 16, []))) else ((1, 128, [])))) else (if k ≤ 79 then (if k ≤ 78 then (if k ≤ 77 then ((1, 6, [])) else ((1, 6, []))) else ((4, 90, []))) else (if k ≤ 81 then (if k ≤ 80 then ((1, 140, [])) else ((1, 10, []))) else ((1, 10, []))))) else (if k ≤ 88 then (if k ≤ 85 then (if k ≤ 84 then (if k ≤ 83 then ((1, 14, [])) else ((1, 14, []))) else ((1, 11, []))) else (if k ≤ 87 then (if k ≤ 86 then ((2, 16384, [])) else ((2, 16384, []))) else ((2, 25, [])))) else (if k ≤ 91 then (if k ≤ 90 then (if k ≤ 89 then ((2, 25, [])) else ((4, 25, []))) else ((1, 256, []))) else (if k ≤ 92 then ((1, 8, [])) else ((2, 1, [])))))))
/-- field references: own, pool place, class, slot, by nest, place in the tables -/
def am_FL : List (Nat × Nat × Nat × Nat × Nat × Nat) := [(0, 9, 0, 0, 0, 151), (0, 15, 0, 1, 0, 155), (0, 19, 0, 2, 0, 156), (0, 22, 0, 3, 0, 157), (0, 25, 0, 4, 0, 158), (0, 32, 0, 5, 0, 159), (0, 36, 0, 6, 0, 162), (0, 51, 2, 2, 1, 358), (1, 12, 1, 1, 0, 183), (1, 18, 1, 2, 0, 185), (1, 21, 1, 0, 0, 182), (1, 25, 1, 9, 0, 193), (1, 29, 1, 3, 0, 186), (1, 32, 1, 6, 0, 189), (1, 35, 1, 7, 0, 190), (1, 38, 1, 8, 0, 191), (1, 47, 1, 4, 0, 187), (1, 76, 0, 5, 1, 160), (1, 105, 0, 0, 1, 153), (1, 112, 1, 5, 0, 188), (1, 121, 0, 6, 1, 163), (2, 9, 2, 0, 0, 355), (2, 15, 2, 1, 0, 356), (2, 19, 2, 2, 0, 357), (2, 22, 2, 3, 0, 359), (2, 32, 2, 4, 0, 361), (2, 36, 2, 5, 0, 363), (2, 39, 2, 6, 0, 364), (2, 42, 5, 1, 1, 327), (2, 47, 5, 0, 1, 325), (2, 50, 5, 3, 1, 331), (2, 53, 5, 2, 1, 329), (3, 11, 3, 1, 0, 223), (3, 15, 3, 2, 0, 225), (3, 18, 3, 0, 0, 222), (3, 22, 3, 6, 0, 231), (3, 30, 3, 5, 0, 229), (3, 33, 3, 4, 0, 228), (3, 36, 3, 3, 0, 226), (3, 43, 0, 0, 1, 152), (4, 9, 4, 0, 0, 386), (4, 15, 4, 1, 0, 387), (4, 18, 4, 2, 0, 388), (4, 21, 4, 3, 0, 390), (4, 24, 4, 4, 0, 392), (4, 27, 4, 5, 0, 393), (4, 30, 4, 6, 0, 394), (4, 33, 4, 7, 0, 395), (4, 37, 6, 15, 1, 283), (4, 49, 2, 3, 1, 360), (4, 67, 4, 8, 0, 396), (4, 105, 4, 10, 0, 398), (4, 108, 4, 9, 0, 397), (5, 9, 5, 0, 0, 324), (5, 15, 5, 1, 0, 326), (5, 18, 5, 2, 0, 328), (5, 21, 5, 3, 0, 330), (5, 24, 5, 4, 0, 332), (5, 28, 5, 5, 0, 334), (6, 9, 6, 0, 0, 258), (6, 15, 6, 1, 0, 259), (6, 18, 6, 2, 0, 260), (6, 21, 6, 3, 0, 261), (6, 24, 6, 4, 0, 262), (6, 27, 6, 5, 0, 263), (6, 30, 6, 6, 0, 264), (6, 33, 6, 7, 0, 266), (6, 36, 6, 8, 0, 268), (6, 39, 6, 9, 0, 270), (6, 42, 6, 10, 0, 272), (6, 45, 6, 11, 0, 274), (6, 48, 6, 12, 0, 275), (6, 55, 6, 13, 0, 276), (6, 59, 6, 14, 0, 279), (6, 62, 6, 15, 0, 281), (7, 9, 7, 0, 0, 429), (7, 15, 6, 15, 1, 282), (7, 29, 6, 13, 1, 277), (8, 9, 8, 0, 0, 126), (8, 15, 8, 1, 0, 127), (9, 11, 9, 0, 0, 439), (9, 15, 9, 1, 0, 440), (9, 18, 9, 2, 0, 441), (9, 21, 9, 4, 0, 444), (9, 25, 9, 3, 0, 442), (10, 10, 10, 0, 0, 457), (10, 21, 10, 1, 0, 458), (10, 28, 10, 2, 0, 459), (10, 35, 10, 3, 0, 460), (10, 42, 10, 4, 0, 461), (10, 49, 10, 5, 0, 462), (10, 56, 10, 6, 0, 463), (10, 63, 10, 7, 0, 464), (10, 70, 10, 8, 0, 465), (10, 74, 10, 12, 0, 469), (10, 86, 8, 1, 1, 128), (10, 96, 1, 8, 1, 192), (10, 99, 10, 11, 0, 468), (10, 102, 1, 9, 1, 194), (10, 105, 1, 1, 1, 184), (10, 113, 3, 5, 1, 230), (10, 114, 3, 6, 1, 232), (10, 115, 3, 3, 1, 227), (10, 118, 3, 1, 1, 224), (10, 132, 10, 9, 0, 466), (10, 135, 10, 10, 0, 467), (10, 172, 5, 4, 1, 333), (10, 198, 4, 10, 1, 399), (10, 201, 5, 5, 1, 335), (10, 204, 6, 15, 1, 284), (10, 211, 4, 2, 1, 389), (10, 214, 4, 3, 1, 391), (10, 231, 6, 13, 1, 278), (10, 247, 9, 4, 1, 445), (10, 269, 6, 6, 1, 265), (10, 272, 6, 7, 1, 267), (10, 275, 6, 8, 1, 269), (10, 278, 6, 9, 1, 271), (10, 281, 6, 10, 1, 273), (10, 289, 6, 14, 1, 280), (10, 292, 9, 3, 1, 443), (10, 295, 0, 5, 1, 161), (10, 300, 0, 0, 1, 154), (10, 311, 2, 4, 1, 362), (11, 7, 11, 0, 0, 1208), (11, 13, 11, 3, 0, 1211), (11, 17, 11, 4, 0, 1212), (11, 20, 11, 8, 0, 1216), (11, 23, 11, 10, 0, 1218), (11, 26, 11, 13, 0, 1221), (11, 29, 11, 14, 0, 1222), (11, 32, 11, 15, 0, 1223), (11, 35, 11, 16, 0, 1224), (11, 38, 11, 17, 0, 1225), (11, 41, 11, 18, 0, 1226), (11, 44, 11, 20, 0, 1228), (11, 47, 11, 21, 0, 1229), (11, 50, 11, 22, 0, 1230), (11, 53, 11, 23, 0, 1231), (11, 56, 11, 25, 0, 1233), (11, 59, 11, 33, 0, 1241), (11, 62, 11, 34, 0, 1242), (11, 65, 11, 35, 0, 1243), (11, 69, 11, 38, 0, 1246), (11, 72, 11, 39, 0, 1247), (11, 75, 11, 41, 0, 1249), (11, 78, 11, 43, 0, 1251), (11, 81, 11, 44, 0, 1252), (11, 84, 11, 45, 0, 1253), (11, 87, 11, 46, 0, 1254), (11, 90, 11, 47, 0, 1255), (11, 93, 11, 48, 0, 1256), (11, 96, 11, 51, 0, 1259), (11, 99, 11, 52, 0, 1260), (11, 102, 11, 53, 0, 1261), (11, 106, 11, 54, 0, 1262), (11, 109, 11, 55, 0, 1263), (11, 112, 11, 56, 0, 1264), (11, 115, 11, 57, 0, 1265), (11, 118, 11, 58, 0, 1266), (11, 121, 11, 59, 0, 1267), (11, 130, 11, 2, 0, 1210), (11, 133, 11, 1, 0, 1209), (11, 136, 11, 24, 0, 1232), (11, 139, 11, 30, 0, 1238), (11, 142, 11, 26, 0, 1234), (11, 145, 11, 27, 0, 1235), (11, 148, 11, 28, 0, 1236), (11, 159, 11, 29, 0, 1237), (11, 165, 11, 32, 0, 1240), (11, 168, 11, 37, 0, 1245), (11, 171, 11, 31, 0, 1239), (11, 174, 11, 36, 0, 1244), (11, 207, 11, 42, 0, 1250), (11, 213, 11, 40, 0, 1248), (11, 216, 11, 5, 0, 1213), (11, 219, 11, 6, 0, 1214), (11, 222, 11, 7, 0, 1215), (11, 225, 11, 9, 0, 1217), (11, 228, 11, 11, 0, 1219), (11, 231, 11, 12, 0, 1220), (11, 274, 11, 49, 0, 1257), (11, 280, 11, 50, 0, 1258), (11, 323, 11, 19, 0, 1227)]
/-- method references: own, pool place, method, by nest, place in the tables -/
def am_ML : List (Nat × Nat × Nat × Nat × Nat) := [(0, 29, 1, 0, 147), (0, 41, 7, 0, 863), (0, 45, 221, 0, 867), (1, 11, 0, 0, 143), (1, 41, 1, 0, 521), (1, 44, 19, 0, 522), (1, 50, 17, 0, 539), (1, 59, 18, 0, 597), (1, 63, 11, 0, 601), (1, 67, 13, 0, 630), (1, 70, 14, 0, 634), (1, 73, 10, 0, 656), (1, 82, 2, 0, 605), (1, 86, 12, 0, 609), (1, 90, 135, 1, 613), (1, 97, 16, 0, 616), (1, 101, 3, 0, 626), (1, 109, 15, 0, 638), (1, 115, 87, 0, 642), (1, 124, 5, 0, 648), (1, 127, 4, 0, 652), (1, 131, 83, 0, 526), (1, 134, 222, 0, 620), (1, 143, 132, 1, 623), (1, 155, 86, 0, 545), (1, 159, 84, 0, 530), (1, 163, 85, 0, 535), (2, 25, 22, 0, 807), (2, 28, 23, 0, 811), (2, 56, 24, 0, 815), (2, 60, 137, 1, 819), (2, 64, 132, 1, 826), (2, 68, 135, 1, 827), (2, 72, 26, 0, 836), (2, 76, 68, 0, 840), (3, 26, 31, 0, 668), (3, 39, 32, 0, 672), (3, 48, 33, 0, 682), (3, 51, 34, 0, 686), (3, 55, 35, 0, 694), (3, 59, 36, 0, 698), (3, 63, 84, 0, 676), (3, 69, 83, 0, 677), (3, 72, 37, 0, 678), (3, 75, 38, 0, 690), (3, 78, 87, 0, 702), (3, 82, 5, 0, 703), (4, 43, 28, 0, 832), (4, 52, 69, 0, 844), (4, 56, 6, 0, 859), (4, 62, 222, 0, 868), (4, 70, 43, 0, 873), (4, 74, 44, 0, 882), (4, 77, 46, 0, 890), (4, 80, 48, 0, 898), (4, 83, 49, 0, 902), (4, 87, 50, 0, 906), (4, 91, 135, 1, 877), (4, 95, 51, 0, 910), (4, 99, 40, 0, 878), (4, 102, 45, 0, 886), (4, 111, 47, 0, 894), (4, 114, 54, 0, 945), (4, 117, 55, 0, 949), (4, 121, 219, 0, 953), (5, 31, 60, 0, 760), (6, 51, 62, 0, 254), (6, 65, 67, 0, 748), (6, 69, 132, 1, 848), (6, 73, 70, 0, 849), (6, 77, 220, 0, 853), (6, 83, 221, 0, 856), (6, 86, 135, 1, 980), (6, 90, 68, 0, 981), (7, 21, 135, 1, 994), (7, 25, 74, 0, 995), (7, 32, 27, 0, 999), (7, 38, 69, 0, 1003), (7, 44, 77, 0, 1009), (8, 19, 83, 0, 534), (8, 33, 84, 0, 646), (9, 28, 135, 1, 1064), (9, 32, 92, 0, 1073), (9, 36, 93, 0, 1060), (9, 39, 96, 0, 1065), (9, 43, 221, 0, 1077), (9, 49, 94, 0, 1069), (9, 52, 95, 0, 1086), (9, 56, 99, 0, 1087), (10, 9, 79, 1, 122), (10, 18, 8, 0, 137), (10, 27, 29, 0, 218), (10, 34, 61, 0, 250), (10, 41, 56, 1, 320), (10, 48, 20, 1, 351), (10, 55, 39, 1, 382), (10, 62, 72, 1, 425), (10, 69, 88, 0, 435), (10, 78, 80, 0, 501), (10, 82, 82, 0, 505), (10, 89, 81, 0, 513), (10, 92, 9, 0, 517), (10, 109, 30, 0, 664), (10, 122, 132, 0, 716), (10, 126, 62, 0, 717), (10, 130, 57, 0, 718), (10, 138, 133, 0, 726), (10, 141, 63, 0, 729), (10, 144, 134, 0, 733), (10, 147, 65, 0, 736), (10, 151, 66, 0, 744), (10, 155, 59, 0, 756), (10, 158, 136, 0, 768), (10, 162, 58, 0, 771), (10, 165, 138, 0, 775), (10, 169, 60, 0, 778), (10, 173, 142, 0, 791), (10, 176, 140, 0, 795), (10, 179, 141, 0, 914), (10, 183, 64, 0, 926), (10, 186, 69, 0, 930), (10, 189, 139, 0, 799), (10, 192, 25, 0, 822), (10, 193, 40, 0, 935), (10, 207, 53, 0, 941), (10, 217, 143, 0, 971), (10, 220, 73, 0, 990), (10, 224, 75, 0, 1005), (10, 228, 76, 0, 1012), (10, 234, 78, 0, 1020), (10, 237, 90, 0, 1032), (10, 240, 89, 0, 1040), (10, 243, 91, 0, 1044), (10, 250, 95, 0, 1056), (10, 253, 97, 0, 1078), (10, 256, 98, 0, 1082), (10, 259, 100, 0, 1095), (10, 303, 21, 0, 803), (10, 307, 41, 0, 828), (10, 312, 42, 0, 869), (10, 315, 52, 0, 918), (10, 318, 26, 0, 975), (10, 321, 71, 0, 976), (11, 124, 154, 0, 1200), (11, 127, 155, 0, 1204), (11, 151, 151, 0, 1405), (11, 155, 150, 0, 1409), (11, 162, 152, 0, 1413), (11, 177, 149, 0, 1420), (11, 180, 153, 0, 1401), (11, 183, 156, 0, 1428), (11, 187, 147, 0, 1417), (11, 191, 157, 0, 1424), (11, 195, 158, 0, 1432), (11, 198, 159, 0, 1436), (11, 201, 161, 0, 1444), (11, 204, 163, 0, 1448), (11, 210, 164, 0, 1452), (11, 234, 148, 0, 1472), (11, 237, 170, 0, 1484), (11, 241, 175, 0, 1523), (11, 244, 177, 0, 1508), (11, 247, 178, 0, 1504), (11, 250, 180, 0, 1535), (11, 253, 182, 0, 1543), (11, 257, 181, 0, 1531), (11, 260, 183, 0, 1539), (11, 264, 185, 0, 1515), (11, 267, 176, 0, 1519), (11, 271, 184, 0, 1527), (11, 277, 188, 0, 1556), (11, 283, 189, 0, 1560), (11, 286, 190, 0, 1564), (11, 292, 187, 0, 1552), (11, 295, 192, 0, 1576), (11, 299, 194, 0, 1572), (11, 302, 193, 0, 1584), (11, 305, 198, 0, 1596), (11, 309, 202, 0, 1608), (11, 312, 200, 0, 1612), (11, 316, 201, 0, 1604), (11, 319, 204, 0, 1619), (11, 326, 212, 0, 1646), (11, 329, 211, 0, 1654), (11, 332, 213, 0, 1650), (11, 335, 216, 0, 1666), (12, 7, 130, 0, 1108), (12, 17, 101, 0, 114), (12, 20, 144, 0, 1196), (12, 21, 102, 0, 497), (12, 25, 146, 0, 1393), (12, 26, 103, 0, 509), (12, 30, 160, 0, 1397), (12, 31, 104, 0, 660), (12, 34, 162, 0, 1440), (12, 35, 105, 0, 704), (12, 38, 165, 0, 1456), (12, 39, 106, 0, 708), (12, 42, 166, 0, 1460), (12, 43, 107, 0, 712), (12, 47, 167, 0, 1464), (12, 48, 108, 0, 722), (12, 52, 168, 0, 1468), (12, 53, 109, 0, 740), (12, 56, 169, 0, 1476), (12, 57, 110, 0, 752), (12, 60, 171, 0, 1480), (12, 61, 111, 0, 764), (12, 64, 172, 0, 1488), (12, 65, 112, 0, 779), (12, 68, 173, 0, 1492), (12, 69, 113, 0, 783), (12, 72, 174, 0, 1496), (12, 73, 114, 0, 787), (12, 76, 206, 0, 1622), (12, 77, 115, 0, 922), (12, 80, 179, 0, 1500), (12, 81, 116, 0, 931), (12, 85, 186, 0, 1511), (12, 86, 117, 0, 936), (12, 90, 191, 0, 1547), (12, 91, 118, 0, 959), (12, 94, 195, 0, 1568), (12, 95, 119, 0, 963), (12, 98, 196, 0, 1580), (12, 99, 120, 0, 967), (12, 102, 197, 0, 1588), (12, 103, 121, 0, 982), (12, 106, 199, 0, 1592), (12, 107, 122, 0, 986), (12, 111, 203, 0, 1600), (12, 112, 123, 0, 1016), (12, 115, 205, 0, 1615), (12, 116, 124, 0, 1024), (12, 120, 207, 0, 1626), (12, 121, 125, 0, 1028), (12, 124, 208, 0, 1630), (12, 125, 126, 0, 1036), (12, 129, 209, 0, 1634), (12, 130, 127, 0, 1048), (12, 134, 210, 0, 1638), (12, 135, 128, 0, 1052), (12, 138, 214, 0, 1642), (12, 139, 129, 0, 1091), (12, 142, 215, 0, 1658), (12, 143, 223, 0, 1103), (12, 148, 217, 0, 1662), (12, 149, 145, 0, 1389), (12, 152, 131, 0, 1099), (12, 155, 218, 0, 1670)]
/-- classes that are made: own, pool place, class, places of classLink, initialized, instantiable -/
def am_CL : List (Nat × Nat × Nat × Nat × Nat × Nat) := [(1, 9, 0, 141, 90, 142), (10, 7, 8, 120, 88, 121), (10, 16, 1, 135, 89, 136), (10, 25, 3, 216, 91, 217), (10, 32, 6, 248, 92, 249), (10, 39, 5, 318, 93, 319), (10, 46, 2, 349, 94, 350), (10, 53, 4, 380, 95, 381), (10, 60, 7, 423, 96, 424), (10, 67, 9, 433, 97, 434), (12, 8, 10, 112, 87, 113), (12, 18, 11, 1194, 98, 1195)]
/-- constants: own, pool place, long, value, place in the tables -/
def am_KL : List (Nat × Nat × Nat × Int × Nat) := [(7, 42, 1, 26771144400, 1004), (8, 37, 1, 97, 647), (10, 196, 1, -1, 940), (11, 290, 1, -1, 1551), (14, 265, 0, 1431655765, 956), (14, 266, 0, 858993459, 957), (14, 267, 0, 252645135, 958)]
/-- fields of Word: own, pool place, which, place in the tables -/
def am_WL : List (Nat × Nat × Nat × Nat) := [(1, 54, 0, 1695), (1, 79, 1, 1696), (1, 94, 3, 1697), (1, 140, 2, 1698)]
def am_lwid : Nat := 17
/-- Object(): own, pool place, place of the link -/
def am_OL : List (Nat × Nat × Nat) := [(0, 3, 146), (1, 3, 140), (2, 3, 354), (3, 3, 221), (4, 3, 385), (5, 3, 323), (6, 3, 253), (7, 3, 428), (8, 3, 125), (9, 3, 438), (10, 1, 117), (11, 1, 1199)]
abbrev am_M : Type := MethodName × ByteArray × Nat × Option FieldType × Nat × Nat × Nat × Nat × Nat × Nat × Nat × Nat
def am_me0 : List am_M := [(yX0_init, cX0_init, 1, none, 0, 2, 5, 0, 145, 144, 0, 90),
  (yX0_clear, cX0_clear, 1, none, 0, 1, 0, 0, 150, 148, 149, 90),
  (yX0_openProof, cX0_openProof, 3, none, 0, 1, 0, 1, 608, 606, 607, 90),
  (yX0_addTest, cX0_addTest, 4, none, 0, 1, 0, 2, 629, 627, 628, 90),
  (yX0_addBar, cX0_addBar, 3, none, 0, 1, 0, 1, 655, 653, 654, 90),
  (yX0_bars, cX0_bars, 4, (some .boolean), 0, 1, 0, 1, 651, 649, 650, 90),
  (yX0_proven, cX0_proven, 6, (some .int), 0, 1, 0, 3, 862, 860, 861, 90),
  (yX0_proofHolds, cX0_proofHolds, 6, (some .boolean), 0, 1, 0, 4, 866, 865, 26, 90),
  (yX1_init, cX1_init, 2, none, 1, 2, 12, 1, 139, 138, 0, 89),
  (yX1_parse, cX1_parse, 4, (some .int), 1, 1, 0, 1, 520, 518, 519, 89),
  (yX1_putInForce, cX1_putInForce, 2, none, 1, 1, 0, 0, 659, 658, 9, 89),
  (yX1_parseProof, cX1_parseProof, 4, none, 1, 1, 0, 1, 604, 603, 3, 89),
  (yX1_parseTest, cX1_parseTest, 3, (some .int), 1, 1, 0, 1, 612, 611, 4, 89),
  (yX1_parseSetting, cX1_parseSetting, 2, none, 1, 1, 0, 1, 633, 632, 6, 89),
  (yX1_parseBars, cX1_parseBars, 2, none, 1, 1, 0, 0, 637, 636, 7, 89),
  (yX1_parseBar, cX1_parseBar, 3, none, 1, 1, 0, 0, 641, 640, 8, 89),
  (yX1_takeNumber, cX1_takeNumber, 4, (some .int), 1, 1, 0, 1, 619, 618, 5, 89),
  (yX1_languageWord, cX1_languageWord, 2, (some (.object "StonesAlike$Word")), 1, 1, 0, 0, 542, 541, 1, 89),
  (yX1_refuse, cX1_refuse, 2, none, 1, 1, 0, 1, 600, 599, 2, 89),
  (yX1_advance, cX1_advance, 1, none, 1, 1, 0, 0, 525, 524, 0, 89),
  (yX2_init, cX2_init, 1, none, 2, 2, 4, 0, 353, 352, 0, 94),
  (yX2_gather, cX2_gather, 4, none, 2, 1, 0, 2, 806, 804, 805, 94),
  (yX2_forget, cX2_forget, 2, none, 2, 1, 0, 0, 810, 809, 22, 94),
  (yX2_take, cX2_take, 4, none, 2, 1, 0, 2, 814, 813, 23, 94),
  (yX2_takeReading, cX2_takeReading, 4, none, 2, 1, 0, 3, 818, 817, 24, 94)]
def am_me1 : List am_M := [(yX2_hasBody, cX2_hasBody, 2, (some .boolean), 2, 1, 0, 1, 825, 823, 824, 94),
  (yX2_reading, cX2_reading, 3, (some .int), 2, 1, 0, 2, 839, 837, 838, 94),
  (yX2_canBeDug, cX2_canBeDug, 2, (some .boolean), 2, 1, 0, 1, 1002, 1000, 1001, 94),
  (yX2_quarrels, cX2_quarrels, 6, (some .boolean), 2, 1, 0, 3, 835, 833, 834, 94),
  (yX3_init, cX3_init, 2, none, 3, 2, 2, 1, 220, 219, 0, 91),
  (yX3_cut, cX3_cut, 5, (some .int), 3, 1, 0, 2, 667, 665, 666, 91),
  (yX3_placeOf, cX3_placeOf, 4, (some .int), 3, 1, 0, 3, 671, 670, 10, 91),
  (yX3_strangeSign, cX3_strangeSign, 3, (some .int), 3, 1, 0, 1, 675, 674, 11, 91),
  (yX3_strayBlank, cX3_strayBlank, 4, (some .int), 3, 1, 0, 1, 685, 684, 13, 91),
  (yX3_longWord, cX3_longWord, 4, (some .int), 3, 1, 0, 2, 689, 688, 14, 91),
  (yX3_lineBeyond, cX3_lineBeyond, 7, (some .int), 3, 1, 0, 3, 697, 696, 16, 91),
  (yX3_barredWord, cX3_barredWord, 5, (some .int), 3, 1, 0, 2, 701, 700, 17, 91),
  (yX3_isStop, cX3_isStop, 2, (some .boolean), 3, 1, 0, 1, 681, 680, 12, 91),
  (yX3_wordEnd, cX3_wordEnd, 4, (some .int), 3, 1, 0, 2, 693, 692, 15, 91),
  (yX4_init, cX4_init, 1, none, 4, 2, 8, 0, 384, 383, 0, 95),
  (yX4_verdict, cX4_verdict, 3, (some .int), 4, 1, 0, 2, 881, 879, 880, 95),
  (yX4_weigh, cX4_weigh, 8, none, 4, 1, 0, 4, 831, 829, 830, 95),
  (yX4_settle, cX4_settle, 7, none, 4, 1, 0, 2, 872, 870, 871, 95),
  (yX4_gatherCandidates, cX4_gatherCandidates, 4, none, 4, 1, 0, 1, 876, 875, 27, 95),
  (yX4_bindSure, cX4_bindSure, 5, none, 4, 1, 0, 1, 885, 884, 28, 95),
  (yX4_onlySureBody, cX4_onlySureBody, 4, (some .int), 4, 1, 0, 1, 889, 888, 29, 95),
  (yX4_placeAll, cX4_placeAll, 3, none, 4, 1, 0, 1, 893, 892, 30, 95),
  (yX4_giveMan, cX4_giveMan, 5, (some .boolean), 4, 1, 0, 3, 897, 896, 31, 95),
  (yX4_linkChains, cX4_linkChains, 3, none, 4, 1, 0, 0, 901, 900, 32, 95),
  (yX4_looseBodies, cX4_looseBodies, 3, (some .int), 4, 1, 0, 0, 905, 904, 33, 95)]
def am_me2 : List am_M := [(yX4_givingBodies, cX4_givingBodies, 6, (some .int), 4, 1, 0, 1, 909, 908, 34, 95),
  (yX4_canTake, cX4_canTake, 5, (some .boolean), 4, 1, 0, 3, 913, 912, 35, 95),
  (yX4_menNamed, cX4_menNamed, 3, (some .int), 4, 1, 0, 0, 921, 919, 920, 95),
  (yX4_tally, cX4_tally, 7, (some .long), 4, 1, 0, 2, 944, 942, 943, 95),
  (yX4_takersOf, cX4_takersOf, 4, (some .int), 4, 1, 0, 1, 948, 947, 37, 95),
  (yX4_waysWith, cX4_waysWith, 6, (some .long), 4, 1, 0, 2, 952, 951, 38, 95),
  (yX5_init, cX5_init, 1, none, 5, 2, 4, 0, 322, 321, 0, 93),
  (yX5_clear, cX5_clear, 1, none, 5, 1, 0, 0, 721, 719, 720, 93),
  (yX5_hasBody, cX5_hasBody, 2, (some .boolean), 5, 1, 0, 1, 774, 772, 773, 93),
  (yX5_addBody, cX5_addBody, 2, (some .int), 5, 1, 0, 1, 759, 757, 758, 93),
  (yX5_add, cX5_add, 5, (some .int), 5, 1, 0, 4, 763, 761, 762, 93),
  (yX6_init, cX6_init, 1, none, 6, 2, 13, 0, 252, 251, 0, 92),
  (yX6_clear, cX6_clear, 5, none, 6, 1, 0, 2, 257, 255, 256, 92),
  (yX6_hasCell, cX6_hasCell, 2, (some .boolean), 6, 1, 0, 1, 732, 730, 731, 92),
  (yX6_hasMan, cX6_hasMan, 2, (some .boolean), 6, 1, 0, 1, 929, 927, 928, 92),
  (yX6_addStand, cX6_addStand, 5, (some .int), 6, 1, 0, 4, 739, 737, 738, 92),
  (yX6_addMan, cX6_addMan, 6, (some .int), 6, 1, 0, 5, 747, 745, 746, 92),
  (yX6_fillTraits, cX6_fillTraits, 4, none, 6, 1, 0, 1, 751, 750, 18, 92),
  (yX6_trait, cX6_trait, 3, (some .int), 6, 1, 0, 2, 843, 841, 842, 92),
  (yX6_nearest, cX6_nearest, 6, (some .int), 6, 1, 0, 2, 847, 845, 846, 92),
  (yX6_far, cX6_far, 3, (some .int), 6, 1, 0, 2, 852, 851, 25, 92),
  (yX6_mostAlike, cX6_mostAlike, 6, (some .int), 6, 1, 0, 2, 979, 977, 978, 92),
  (yX7_init, cX7_init, 1, none, 7, 2, 1, 0, 427, 426, 0, 96),
  (yX7_divide, cX7_divide, 5, none, 7, 1, 0, 3, 993, 991, 992, 96),
  (yX7_divideMan, cX7_divideMan, 8, none, 7, 1, 0, 3, 998, 997, 40, 96)]
def am_me3 : List am_M := [(yX7_upper, cX7_upper, 4, (some .long), 7, 1, 0, 1, 1008, 1006, 1007, 96),
  (yX7_lower, cX7_lower, 4, (some .long), 7, 1, 0, 1, 1015, 1013, 1014, 96),
  (yX7_commonDivisor, cX7_commonDivisor, 9, (some .long), 7, 0, 0, 1, 1011, 1010, 0, 96),
  (yX7_richest, cX7_richest, 6, (some .int), 7, 1, 0, 1, 1023, 1021, 1022, 96),
  (yX8_init, cX8_init, 1, none, 8, 2, 1, 0, 124, 123, 0, 88),
  (yX8_hasRoom, cX8_hasRoom, 2, (some .boolean), 8, 1, 0, 1, 504, 502, 503, 88),
  (yX8_holds, cX8_holds, 2, (some .boolean), 8, 1, 0, 1, 516, 514, 515, 88),
  (yX8_append, cX8_append, 3, none, 8, 1, 0, 1, 508, 506, 507, 88),
  (yX8_sign, cX8_sign, 2, (some .int), 8, 1, 0, 1, 529, 527, 528, 88),
  (yX8_isSmallLetter, cX8_isSmallLetter, 3, (some .boolean), 8, 1, 0, 1, 533, 531, 532, 88),
  (yX8_isDigit, cX8_isDigit, 3, (some .boolean), 8, 1, 0, 1, 538, 536, 537, 88),
  (yX8_spells, cX8_spells, 5, (some .boolean), 8, 1, 0, 3, 548, 546, 547, 88),
  (yX8_wordCode, cX8_wordCode, 6, (some .long), 8, 1, 0, 2, 645, 643, 644, 88),
  (yX10_init, cX10_init, 1, none, 9, 2, 3, 0, 437, 436, 0, 97),
  (yX10_hasField, cX10_hasField, 2, (some .boolean), 9, 1, 0, 1, 1043, 1041, 1042, 97),
  (yX10_addField, cX10_addField, 2, (some .int), 9, 1, 0, 1, 1035, 1033, 1034, 97),
  (yX10_setKin, cX10_setKin, 4, none, 9, 1, 0, 3, 1047, 1045, 1046, 97),
  (yX10_seasonOf, cX10_seasonOf, 2, (some .int), 9, 1, 0, 1, 1076, 1075, 44, 97),
  (yX10_stonesOf, cX10_stonesOf, 4, (some .int), 9, 1, 0, 1, 1063, 1062, 41, 97),
  (yX10_seeing, cX10_seeing, 5, (some .int), 9, 1, 0, 2, 1072, 1071, 43, 97),
  (yX10_bestSum, cX10_bestSum, 5, (some .int), 9, 1, 0, 0, 1059, 1057, 1058, 97),
  (yX10_sumFrom, cX10_sumFrom, 4, (some .int), 9, 1, 0, 3, 1068, 1067, 42, 97),
  (yX10_lastSeason, cX10_lastSeason, 1, (some .int), 9, 1, 0, 0, 1081, 1079, 1080, 97),
  (yX10_fieldInPlace, cX10_fieldInPlace, 5, (some .int), 9, 1, 0, 1, 1085, 1083, 1084, 97),
  (yX10_firstBest, cX10_firstBest, 4, (some .int), 9, 1, 0, 1, 1090, 1089, 45, 97)]
def am_me4 : List am_M := [(yX10_sumOf, cX10_sumOf, 7, (some .int), 9, 1, 0, 1, 1098, 1096, 1097, 97),
  (yX11_init, cX11_init, 1, none, 10, 2, 57, 0, 116, 115, 0, 87),
  (yX11_feed, cX11_feed, 6, (some .int), 10, 1, 0, 5, 500, 498, 499, 87),
  (yX11_charter, cX11_charter, 3, (some .int), 10, 1, 0, 1, 512, 510, 511, 87),
  (yX11_letter, cX11_letter, 3, (some .int), 10, 1, 0, 1, 663, 661, 662, 87),
  (yX11_fault, cX11_fault, 2, (some .int), 10, 1, 0, 1, 707, 705, 706, 87),
  (yX11_line, cX11_line, 2, (some .int), 10, 1, 0, 1, 711, 709, 710, 87),
  (yX11_land, cX11_land, 3, (some .boolean), 10, 1, 0, 2, 715, 713, 714, 87),
  (yX11_stand, cX11_stand, 5, (some .int), 10, 1, 0, 4, 725, 723, 724, 87),
  (yX11_man, cX11_man, 6, (some .int), 10, 1, 0, 5, 743, 741, 742, 87),
  (yX11_body, cX11_body, 2, (some .int), 10, 1, 0, 1, 755, 753, 754, 87),
  (yX11_read, cX11_read, 6, (some .int), 10, 1, 0, 4, 767, 765, 766, 87),
  (yX11_dig, cX11_dig, 2, (some .int), 10, 1, 0, 1, 782, 780, 781, 87),
  (yX11_strike, cX11_strike, 2, (some .int), 10, 1, 0, 1, 786, 784, 785, 87),
  (yX11_weeks, cX11_weeks, 3, (some .int), 10, 1, 0, 1, 790, 788, 789, 87),
  (yX11_near, cX11_near, 3, (some .int), 10, 1, 0, 2, 925, 923, 924, 87),
  (yX11_fits, cX11_fits, 4, (some .int), 10, 1, 0, 3, 934, 932, 933, 87),
  (yX11_namings, cX11_namings, 3, (some .long), 10, 1, 0, 2, 939, 937, 938, 87),
  (yX11_who, cX11_who, 3, (some .int), 10, 1, 0, 2, 962, 960, 961, 87),
  (yX11_named, cX11_named, 3, (some .int), 10, 1, 0, 2, 966, 964, 965, 87),
  (yX11_next, cX11_next, 3, (some .int), 10, 1, 0, 2, 970, 968, 969, 87),
  (yX11_missing, cX11_missing, 2, (some .int), 10, 1, 0, 1, 985, 983, 984, 87),
  (yX11_share, cX11_share, 4, (some .long), 10, 1, 0, 3, 989, 987, 988, 87),
  (yX11_likely, cX11_likely, 2, (some .int), 10, 1, 0, 1, 1019, 1017, 1018, 87),
  (yX11_wall, cX11_wall, 1, (some .int), 10, 1, 0, 0, 1027, 1025, 1026, 87)]
def am_me5 : List am_M := [(yX11_field, cX11_field, 2, (some .int), 10, 1, 0, 1, 1031, 1029, 1030, 87),
  (yX11_kin, cX11_kin, 4, (some .boolean), 10, 1, 0, 3, 1039, 1037, 1038, 87),
  (yX11_capacity, cX11_capacity, 2, (some .boolean), 10, 1, 0, 1, 1051, 1049, 1050, 87),
  (yX11_plan, cX11_plan, 2, (some .int), 10, 1, 0, 1, 1055, 1053, 1054, 87),
  (yX11_judge, cX11_judge, 2, (some .int), 10, 1, 0, 1, 1094, 1092, 1093, 87),
  (yX11_look, cX11_look, 3, (some .int), 10, 1, 0, 2, 1111, 1109, 1110, 87),
  (yX11_count, cX11_count, 2, (some .int), 10, 1, 0, 1, 1102, 1100, 1101, 87),
  (yX11_within, cX11_within, 3, (some .boolean), 10, 0, 0, 3, 625, 624, 0, 87),
  (yX11_isUnit, cX11_isUnit, 1, (some .boolean), 10, 0, 0, 1, 728, 727, 0, 87),
  (yX11_isDay, cX11_isDay, 1, (some .boolean), 10, 0, 0, 1, 735, 734, 0, 87),
  (yX11_hasBit, cX11_hasBit, 2, (some .boolean), 10, 0, 0, 2, 615, 614, 0, 87),
  (yX11_thingOf, cX11_thingOf, 2, (some .int), 10, 0, 0, 2, 770, 769, 0, 87),
  (yX11_kindOf, cX11_kindOf, 1, (some .int), 10, 0, 0, 1, 821, 820, 0, 87),
  (yX11_canBeRead, cX11_canBeRead, 2, (some .boolean), 10, 0, 0, 2, 777, 776, 0, 87),
  (yX11_survey, cX11_survey, 3, (some .boolean), 10, 1, 0, 1, 802, 801, 21, 87),
  (yX11_nameAll, cX11_nameAll, 2, (some .boolean), 10, 1, 0, 1, 798, 797, 20, 87),
  (yX11_missingMen, cX11_missingMen, 1, (some .int), 10, 1, 0, 0, 917, 916, 36, 87),
  (yX11_recutFallsBetween, cX11_recutFallsBetween, 4, (some .boolean), 10, 1, 0, 2, 794, 793, 19, 87),
  (yX11_readNext, cX11_readNext, 7, (some .int), 10, 1, 0, 2, 974, 973, 39, 87),
  (yX12_init, cX12_init, 1, none, 11, 2, 33, 0, 1198, 1197, 0, 98),
  (yX12_thrown, cX12_thrown, 1, (some .int), 11, 1, 0, 0, 1392, 1390, 1391, 98),
  (yX12_feed, cX12_feed, 8, (some .int), 11, 1, 0, 5, 1396, 1394, 1395, 98),
  (yX12_isIn, cX12_isIn, 3, (some .boolean), 11, 0, 0, 3, 1419, 1418, 0, 98),
  (yX12_isCell, cX12_isCell, 2, (some .boolean), 11, 1, 0, 1, 1475, 1474, 61, 98),
  (yX12_wrong, cX12_wrong, 2, (some .boolean), 11, 1, 0, 1, 1423, 1422, 53, 98)]
def am_me6 : List am_M := [(yX12_wordAt, cX12_wordAt, 8, (some .int), 11, 1, 0, 2, 1412, 1411, 51, 98),
  (yX12_isSmall, cX12_isSmall, 2, (some .boolean), 11, 1, 0, 1, 1408, 1407, 50, 98),
  (yX12_isDigit, cX12_isDigit, 2, (some .boolean), 11, 1, 0, 1, 1416, 1415, 52, 98),
  (yX12_take, cX12_take, 1, none, 11, 1, 0, 0, 1404, 1403, 49, 98),
  (yX12_plain, cX12_plain, 2, none, 11, 1, 0, 0, 1203, 1202, 47, 98),
  (yX12_keep, cX12_keep, 2, none, 11, 1, 0, 0, 1207, 1206, 48, 98),
  (yX12_isNumber, cX12_isNumber, 3, (some .boolean), 11, 1, 0, 2, 1431, 1430, 55, 98),
  (yX12_proofRead, cX12_proofRead, 6, (some .boolean), 11, 1, 0, 0, 1427, 1426, 54, 98),
  (yX12_barRead, cX12_barRead, 6, (some .boolean), 11, 1, 0, 0, 1435, 1434, 56, 98),
  (yX12_numberRead, cX12_numberRead, 2, (some .boolean), 11, 1, 0, 1, 1439, 1438, 57, 98),
  (yX12_charter, cX12_charter, 4, (some .int), 11, 1, 0, 1, 1400, 1398, 1399, 98),
  (yX12_breaks, cX12_breaks, 3, (some .int), 11, 1, 0, 2, 1447, 1446, 58, 98),
  (yX12_letter, cX12_letter, 5, (some .int), 11, 1, 0, 1, 1443, 1441, 1442, 98),
  (yX12_wordEnd, cX12_wordEnd, 4, (some .int), 11, 1, 0, 2, 1451, 1450, 59, 98),
  (yX12_isBarred, cX12_isBarred, 7, (some .boolean), 11, 1, 0, 2, 1455, 1454, 60, 98),
  (yX12_fault, cX12_fault, 2, (some .int), 11, 1, 0, 1, 1459, 1457, 1458, 98),
  (yX12_line, cX12_line, 2, (some .int), 11, 1, 0, 1, 1463, 1461, 1462, 98),
  (yX12_land, cX12_land, 3, (some .boolean), 11, 1, 0, 2, 1467, 1465, 1466, 98),
  (yX12_stand, cX12_stand, 5, (some .int), 11, 1, 0, 4, 1471, 1469, 1470, 98),
  (yX12_man, cX12_man, 6, (some .int), 11, 1, 0, 5, 1479, 1477, 1478, 98),
  (yX12_tell, cX12_tell, 5, (some .int), 11, 1, 0, 4, 1487, 1486, 62, 98),
  (yX12_body, cX12_body, 2, (some .int), 11, 1, 0, 1, 1483, 1481, 1482, 98),
  (yX12_read, cX12_read, 6, (some .int), 11, 1, 0, 4, 1491, 1489, 1490, 98),
  (yX12_dig, cX12_dig, 2, (some .int), 11, 1, 0, 1, 1495, 1493, 1494, 98),
  (yX12_strike, cX12_strike, 2, (some .int), 11, 1, 0, 1, 1499, 1497, 1498, 98)]
def am_me7 : List am_M := [(yX12_isKnown, cX12_isKnown, 2, (some .boolean), 11, 1, 0, 1, 1526, 1525, 66, 98),
  (yX12_know, cX12_know, 3, none, 11, 1, 0, 1, 1522, 1521, 65, 98),
  (yX12_far, cX12_far, 2, (some .int), 11, 0, 0, 2, 1510, 1509, 0, 98),
  (yX12_nearOf, cX12_nearOf, 8, (some .int), 11, 1, 0, 2, 1507, 1506, 63, 98),
  (yX12_near, cX12_near, 3, (some .int), 11, 1, 0, 2, 1503, 1501, 1502, 98),
  (yX12_thingOf, cX12_thingOf, 4, (some .int), 11, 1, 0, 2, 1538, 1537, 69, 98),
  (yX12_quarrels, cX12_quarrels, 4, (some .boolean), 11, 1, 0, 2, 1534, 1533, 68, 98),
  (yX12_readMany, cX12_readMany, 6, (some .int), 11, 1, 0, 3, 1546, 1545, 71, 98),
  (yX12_proves, cX12_proves, 8, (some .boolean), 11, 1, 0, 3, 1542, 1541, 70, 98),
  (yX12_fitOf, cX12_fitOf, 4, (some .int), 11, 1, 0, 2, 1530, 1529, 67, 98),
  (yX12_isKnowing, cX12_isKnowing, 2, (some .boolean), 11, 1, 0, 1, 1518, 1517, 64, 98),
  (yX12_fits, cX12_fits, 4, (some .int), 11, 1, 0, 3, 1514, 1512, 1513, 98),
  (yX12_lay, cX12_lay, 5, none, 11, 1, 0, 1, 1555, 1554, 72, 98),
  (yX12_matched, cX12_matched, 5, (some .int), 11, 1, 0, 2, 1559, 1558, 73, 98),
  (yX12_grows, cX12_grows, 7, (some .boolean), 11, 1, 0, 2, 1563, 1562, 74, 98),
  (yX12_turn, cX12_turn, 7, none, 11, 1, 0, 2, 1567, 1566, 75, 98),
  (yX12_namings, cX12_namings, 9, (some .long), 11, 1, 0, 2, 1550, 1548, 1549, 98),
  (yX12_whoOf, cX12_whoOf, 4, (some .int), 11, 1, 0, 1, 1579, 1578, 77, 98),
  (yX12_namedOf, cX12_namedOf, 4, (some .int), 11, 1, 0, 1, 1587, 1586, 78, 98),
  (yX12_isBody, cX12_isBody, 3, (some .boolean), 11, 1, 0, 2, 1575, 1574, 76, 98),
  (yX12_who, cX12_who, 3, (some .int), 11, 1, 0, 2, 1571, 1569, 1570, 98),
  (yX12_named, cX12_named, 3, (some .int), 11, 1, 0, 2, 1583, 1581, 1582, 98),
  (yX12_next, cX12_next, 11, (some .int), 11, 1, 0, 2, 1591, 1589, 1590, 98),
  (yX12_missingNow, cX12_missingNow, 4, (some .int), 11, 1, 0, 0, 1599, 1598, 79, 98),
  (yX12_missing, cX12_missing, 2, (some .int), 11, 1, 0, 1, 1595, 1593, 1594, 98)]
def am_me8 : List am_M := [(yX12_shared, cX12_shared, 10, (some .long), 11, 0, 0, 2, 1614, 1613, 0, 98),
  (yX12_layShares, cX12_layShares, 4, none, 11, 1, 0, 1, 1607, 1606, 80, 98),
  (yX12_layShare, cX12_layShare, 11, none, 11, 1, 0, 1, 1611, 1610, 81, 98),
  (yX12_share, cX12_share, 4, (some .long), 11, 1, 0, 3, 1603, 1601, 1602, 98),
  (yX12_isMore, cX12_isMore, 21, (some .boolean), 11, 0, 0, 4, 1621, 1620, 0, 98),
  (yX12_likely, cX12_likely, 4, (some .int), 11, 1, 0, 1, 1618, 1616, 1617, 98),
  (yX12_weeks, cX12_weeks, 3, (some .int), 11, 1, 0, 1, 1625, 1623, 1624, 98),
  (yX12_wall, cX12_wall, 1, (some .int), 11, 1, 0, 0, 1629, 1627, 1628, 98),
  (yX12_field, cX12_field, 2, (some .int), 11, 1, 0, 1, 1633, 1631, 1632, 98),
  (yX12_kin, cX12_kin, 4, (some .boolean), 11, 1, 0, 3, 1637, 1635, 1636, 98),
  (yX12_capacity, cX12_capacity, 2, (some .boolean), 11, 1, 0, 1, 1641, 1639, 1640, 98),
  (yX12_see, cX12_see, 5, (some .int), 11, 1, 0, 2, 1657, 1656, 84, 98),
  (yX12_stonesOf, cX12_stonesOf, 4, (some .int), 11, 1, 0, 1, 1649, 1648, 82, 98),
  (yX12_layPlan, cX12_layPlan, 6, none, 11, 1, 0, 0, 1653, 1652, 83, 98),
  (yX12_plan, cX12_plan, 2, (some .int), 11, 1, 0, 1, 1645, 1643, 1644, 98),
  (yX12_judge, cX12_judge, 6, (some .int), 11, 1, 0, 1, 1661, 1659, 1660, 98),
  (yX12_fails, cX12_fails, 2, (some .int), 11, 1, 0, 1, 1669, 1668, 85, 98),
  (yX12_look, cX12_look, 3, (some .int), 11, 1, 0, 2, 1665, 1663, 1664, 98),
  (yX12_count, cX12_count, 2, (some .int), 11, 1, 0, 1, 1673, 1671, 1672, 98),
  (yJ6_bitCount_0f7a4, cJ6_bitCount_0f7a4, 1, (some .int), 14, 0, 0, 1, 955, 954, 0, 106),
  (yJ9_abs_0f7a4, cJ9_abs_0f7a4, 1, (some .int), 13, 0, 0, 1, 855, 854, 0, 105),
  (yJ9_max_7cf53, cJ9_max_7cf53, 2, (some .int), 13, 0, 0, 2, 858, 857, 0, 105),
  (yJ9_min_7cf53, cJ9_min_7cf53, 2, (some .int), 13, 0, 0, 2, 622, 621, 0, 105),
  (yL_look, cL_look, 0, (some .int), 99, 0, 0, 4, 0, 0, 0, 0),
  (yL_law, cL_law, 0, (some .boolean), 99, 0, 0, 1, 0, 0, 0, 0)]
def am_me : List am_M := am_me0 ++ (am_me1 ++ (am_me2 ++ (am_me3 ++ (am_me4 ++ (am_me5 ++ (am_me6 ++ (am_me7 ++ (am_me8))))))))
def am_AC : List (FieldType × Nat) := [(.int, 179), (.long, 181), (.byte, 134), (.boolean, 180)]
end
section
/-! the tables' rows, checked: what stands at the places that part 03 names -/
def am_nest (q : Nat × Nat × Nat × Nat × Nat × Nat) : Option Cond := match am_cl[q.2.2.1]? with
  | some c => some (if q.2.2.2.2.1 = 0 then .fieldLink (am_R q.1) q.2.1 (c.2.1 q.2.2.2.1).1 (c.2.1 q.2.2.2.1).2.1 (c.2.1 q.2.2.2.1).2.2.1 else .fieldLinkNest (am_R q.1) q.2.1 (c.2.1 q.2.2.2.1).1 (c.2.1 q.2.2.2.1).2.1 (c.2.1 q.2.2.2.1).2.2.1 "StonesAlike")
  | none => none
def am_flok (q : Nat × Nat × Nat × Nat × Nat × Nat) : Bool := decide (q.2.2.2.1 < 64) && (match am_cl[q.2.2.1]? with | some c => decide (q.2.2.2.1 < c.2.2) | none => false) && (am_nest q).isSome && decide (lw_tbl[q.2.2.2.2.2]? = am_nest q)
theorem am_FL_ok : am_FL.all am_flok = true := by decide +kernel
def am_mlc (q : Nat × Nat × Nat × Nat × Nat) : Option Cond := match am_me[q.2.2.1]? with
  | some c => some (if q.2.2.2.1 = 0 then .methodLink (am_R q.1) q.2.1 c.1 else .methodLinkNest (am_R q.1) q.2.1 c.1 "StonesAlike")
  | none => none
def am_mlok (q : Nat × Nat × Nat × Nat × Nat) : Bool := (am_mlc q).isSome && decide (lw_tbl[q.2.2.2.2]? = am_mlc q)
theorem am_ML_ok : am_ML.all am_mlok = true := by decide +kernel
def am_clok (q : Nat × Nat × Nat × Nat × Nat × Nat) : Bool := match am_cl[q.2.2.1]? with
  | some c => decide (lw_tbl[q.2.2.2.1]? = some (.classLink (am_R q.1) q.2.1 c.1)) && decide (lw_tbl[q.2.2.2.2.1]? = some (.initialized c.1)) && decide (lw_tbl[q.2.2.2.2.2]? = some (.instantiable c.1 c.2.2))
  | none => false
theorem am_CL_ok : am_CL.all am_clok = true := by decide +kernel
def am_klok (q : Nat × Nat × Nat × Int × Nat) : Bool := decide (lw_tbl[q.2.2.2.2]? = some (if q.2.2.1 = 0 then .constant (am_R q.1) q.2.1 (Int32.ofInt q.2.2.2.1) else .constantLong (am_R q.1) q.2.1 (Int64.ofInt q.2.2.2.1))) && (if q.2.2.1 = 0 then decide (-2147483648 ≤ q.2.2.2.1 ∧ q.2.2.2.1 ≤ 2147483647) else decide (-9223372036854775808 ≤ q.2.2.2.1 ∧ q.2.2.2.1 ≤ 9223372036854775807))
theorem am_KL_ok : am_KL.all am_klok = true := by decide +kernel
def am_olok (q : Nat × Nat × Nat) : Bool := decide (lw_tbl[q.2.2]? = some (.methodLink (am_R q.1) q.2.1 objectInit))
theorem am_OL_ok : am_OL.all am_olok = true := by decide +kernel
theorem am_obj_im : Cond.instanceMethod objectInit ∈ lw_tbl := by decide +kernel
theorem am_obj_cd : Cond.code objectInit ⟨#[0xb1]⟩ 1 none ∈ lw_tbl := by decide +kernel
def am_wlok (q : Nat × Nat × Nat × Nat) : Bool := decide (q.2.2.1 < 4) && decide (lw_tbl[q.2.2.2]? = some (.fieldLinkNest (am_R q.1) q.2.1 RX9 (["role", "slot", "low", "high"].getD q.2.2.1 "") "I" "StonesAlike"))
theorem am_WL_ok : am_WL.all am_wlok = true := by decide +kernel
/-- a method's own words -/
def am_meok (q : am_M) : Bool := q.2.2.2.2.1 == 99 || (decide (q.2.2.1 ≤ 40) && decide (lw_tbl[q.2.2.2.2.2.2.2.2.2.1]? = some (if q.2.2.2.2.2.1 = 0 then .static q.1 else .instanceMethod q.1)) && (if q.2.2.2.2.2.1 = 1 then decide (lw_tbl[q.2.2.2.2.2.2.2.2.2.2.1]? = some (.selects q.1.cls q.1 q.1)) else true) && decide (lw_tbl[q.2.2.2.2.2.2.2.2.2.2.2]? = some (.initialized q.1.cls)) && decide (am_R q.2.2.2.2.1 = q.1.cls) && plainFor q.1 && decide (q.1.cls ≠ "java/lang/invoke/MethodHandle" ∧ q.1.cls ≠ "java/lang/invoke/VarHandle") && decide ((parseMethodDescriptor q.1.desc).map (fun d => d.parameters.length) = some q.2.2.2.2.2.2.2.1) && (if q.2.2.2.2.2.1 = 2 then decide (q.1.name = "<init>" ∧ q.2.2.2.1 = none) else decide (q.2.2.2.2.2.2.1 = 0)) && (if q.2.2.2.2.2.1 = 1 then decide (q.2.2.2.2.1 < 12) else true))
theorem am_me_ok0 : am_me0.all am_meok = true := by decide +kernel
theorem am_me_ok1 : am_me1.all am_meok = true := by decide +kernel
theorem am_me_ok2 : am_me2.all am_meok = true := by decide +kernel
theorem am_me_ok3 : am_me3.all am_meok = true := by decide +kernel
theorem am_me_ok4 : am_me4.all am_meok = true := by decide +kernel
theorem am_me_ok5 : am_me5.all am_meok = true := by decide +kernel
theorem am_me_ok6 : am_me6.all am_meok = true := by decide +kernel
theorem am_me_ok7 : am_me7.all am_meok = true := by decide +kernel
theorem am_me_ok8 : am_me8.all am_meok = true := by decide +kernel
theorem am_me_ok : am_me.all am_meok = true := by
  unfold am_me
  simp only [List.all_append, am_me_ok0, am_me_ok1, am_me_ok2, am_me_ok3, am_me_ok4, am_me_ok5, am_me_ok6, am_me_ok7, am_me_ok8, Bool.and_self]
/-- the good words of the tables: every method's own list holds them -/
def am_TB : List Cond := lw_tbl.filter goodWord
theorem am_TB_good : GoodIn am_TB am_TB := fun w h => ⟨h, good_of_word (List.mem_filter.mp h).2⟩
theorem am_inT {w : Cond} {i : Nat} (h : lw_tbl[i]? = some w) (hg : goodWord w = true) : w ∈ am_TB := List.mem_filter.mpr ⟨List.mem_of_getElem? h, hg⟩
def am_clin (c : vw_C) : Bool := (u_ws c.1 c.2.1 c.2.2).all (fun w => decide (w ∈ lw_tbl) && goodWord w)
theorem am_cl_in : am_cl.all am_clin = true := by decide +kernel
theorem am_ar_in : am_AC.all (fun q => decide (lw_tbl[q.2]? = some (.arrayClass q.1))) = true := by decide +kernel
/-- the words of the nest: they go with the world -/
def am_NW : List Cond := lw_tbl.filter (fun w => match w with | .fieldLinkNest _ _ _ _ _ _ => true | .methodLinkNest _ _ _ _ => true | _ => false)
end
section
/-! each method's code stands in the tables -/
def am_cdok (q : am_M) : Prop := q.2.2.2.2.1 = 99 ∨ lw_tbl[q.2.2.2.2.2.2.2.2.1]? = some (.code q.1 q.2.1 q.2.2.1 q.2.2.2.1)
set_option maxRecDepth 100000 in
theorem am_cd0 : ∀ q ∈ am_me0, am_cdok q := List.forall_mem_cons.mpr ⟨Or.inr rfl, List.forall_mem_cons.mpr ⟨Or.inr rfl, List.forall_mem_cons.mpr ⟨Or.inr rfl, List.forall_mem_cons.mpr ⟨Or.inr rfl, List.forall_mem_cons.mpr ⟨Or.inr rfl, List.forall_mem_cons.mpr ⟨Or.inr rfl, List.forall_mem_cons.mpr ⟨Or.inr rfl, List.forall_mem_cons.mpr ⟨Or.inr rfl, List.forall_mem_cons.mpr ⟨Or.inr rfl, List.forall_mem_cons.mpr ⟨Or.inr rfl, List.forall_mem_cons.mpr ⟨Or.inr rfl, List.forall_mem_cons.mpr ⟨Or.inr rfl, List.forall_mem_cons.mpr ⟨Or.inr rfl, List.forall_mem_cons.mpr ⟨Or.inr rfl, List.forall_mem_cons.mpr ⟨Or.inr rfl, List.forall_mem_cons.mpr ⟨Or.inr rfl, List.forall_mem_cons.mpr ⟨Or.inr rfl, List.forall_mem_cons.mpr ⟨Or.inr rfl, List.forall_mem_cons.mpr ⟨Or.inr rfl, List.forall_mem_cons.mpr ⟨Or.inr rfl, List.forall_mem_cons.mpr ⟨Or.inr rfl, List.forall_mem_cons.mpr ⟨Or.inr rfl, List.forall_mem_cons.mpr ⟨Or.inr rfl, List.forall_mem_cons.mpr ⟨Or.inr rfl, List.forall_mem_cons.mpr ⟨Or.inr rfl, fun _ h => absurd h List.not_mem_nil⟩⟩⟩⟩⟩⟩⟩⟩⟩⟩⟩⟩⟩⟩⟩⟩⟩⟩⟩⟩⟩⟩⟩⟩⟩
set_option maxRecDepth 100000 in
theorem am_cd1 : ∀ q ∈ am_me1, am_cdok q := List.forall_mem_cons.mpr ⟨Or.inr rfl, List.forall_mem_cons.mpr ⟨Or.inr rfl, List.forall_mem_cons.mpr ⟨Or.inr rfl, List.forall_mem_cons.mpr ⟨Or.inr rfl, List.forall_mem_cons.mpr ⟨Or.inr rfl, List.forall_mem_cons.mpr ⟨Or.inr rfl, List.forall_mem_cons.mpr ⟨Or.inr rfl, List.forall_mem_cons.mpr ⟨Or.inr rfl, List.forall_mem_cons.mpr ⟨Or.inr rfl, List.forall_mem_cons.mpr ⟨Or.inr rfl, List.forall_mem_cons.mpr ⟨Or.inr rfl, List.forall_mem_cons.mpr ⟨Or.inr rfl, List.forall_mem_cons.mpr ⟨Or.inr rfl, List.forall_mem_cons.mpr ⟨Or.inr rfl, List.forall_mem_cons.mpr ⟨Or.inr rfl, List.forall_mem_cons.mpr ⟨Or.inr rfl, List.forall_mem_cons.mpr ⟨Or.inr rfl, List.forall_mem_cons.mpr ⟨Or.inr rfl, List.forall_mem_cons.mpr ⟨Or.inr rfl, List.forall_mem_cons.mpr ⟨Or.inr rfl, List.forall_mem_cons.mpr ⟨Or.inr rfl, List.forall_mem_cons.mpr ⟨Or.inr rfl, List.forall_mem_cons.mpr ⟨Or.inr rfl, List.forall_mem_cons.mpr ⟨Or.inr rfl, List.forall_mem_cons.mpr ⟨Or.inr rfl, fun _ h => absurd h List.not_mem_nil⟩⟩⟩⟩⟩⟩⟩⟩⟩⟩⟩⟩⟩⟩⟩⟩⟩⟩⟩⟩⟩⟩⟩⟩⟩
set_option maxRecDepth 100000 in
theorem am_cd2 : ∀ q ∈ am_me2, am_cdok q := List.forall_mem_cons.mpr ⟨Or.inr rfl, List.forall_mem_cons.mpr ⟨Or.inr rfl, List.forall_mem_cons.mpr ⟨Or.inr rfl, List.forall_mem_cons.mpr ⟨Or.inr rfl, List.forall_mem_cons.mpr ⟨Or.inr rfl, List.forall_mem_cons.mpr ⟨Or.inr rfl, List.forall_mem_cons.mpr ⟨Or.inr rfl, List.forall_mem_cons.mpr ⟨Or.inr rfl, List.forall_mem_cons.mpr ⟨Or.inr rfl, List.forall_mem_cons.mpr ⟨Or.inr rfl, List.forall_mem_cons.mpr ⟨Or.inr rfl, List.forall_mem_cons.mpr ⟨Or.inr rfl, List.forall_mem_cons.mpr ⟨Or.inr rfl, List.forall_mem_cons.mpr ⟨Or.inr rfl, List.forall_mem_cons.mpr ⟨Or.inr rfl, List.forall_mem_cons.mpr ⟨Or.inr rfl, List.forall_mem_cons.mpr ⟨Or.inr rfl, List.forall_mem_cons.mpr ⟨Or.inr rfl, List.forall_mem_cons.mpr ⟨Or.inr rfl, List.forall_mem_cons.mpr ⟨Or.inr rfl, List.forall_mem_cons.mpr ⟨Or.inr rfl, List.forall_mem_cons.mpr ⟨Or.inr rfl, List.forall_mem_cons.mpr ⟨Or.inr rfl, List.forall_mem_cons.mpr ⟨Or.inr rfl, List.forall_mem_cons.mpr ⟨Or.inr rfl, fun _ h => absurd h List.not_mem_nil⟩⟩⟩⟩⟩⟩⟩⟩⟩⟩⟩⟩⟩⟩⟩⟩⟩⟩⟩⟩⟩⟩⟩⟩⟩
set_option maxRecDepth 100000 in
theorem am_cd3 : ∀ q ∈ am_me3, am_cdok q := List.forall_mem_cons.mpr ⟨Or.inr rfl, List.forall_mem_cons.mpr ⟨Or.inr rfl, List.forall_mem_cons.mpr ⟨Or.inr rfl, List.forall_mem_cons.mpr ⟨Or.inr rfl, List.forall_mem_cons.mpr ⟨Or.inr rfl, List.forall_mem_cons.mpr ⟨Or.inr rfl, List.forall_mem_cons.mpr ⟨Or.inr rfl, List.forall_mem_cons.mpr ⟨Or.inr rfl, List.forall_mem_cons.mpr ⟨Or.inr rfl, List.forall_mem_cons.mpr ⟨Or.inr rfl, List.forall_mem_cons.mpr ⟨Or.inr rfl, List.forall_mem_cons.mpr ⟨Or.inr rfl, List.forall_mem_cons.mpr ⟨Or.inr rfl, List.forall_mem_cons.mpr ⟨Or.inr rfl, List.forall_mem_cons.mpr ⟨Or.inr rfl, List.forall_mem_cons.mpr ⟨Or.inr rfl, List.forall_mem_cons.mpr ⟨Or.inr rfl, List.forall_mem_cons.mpr ⟨Or.inr rfl, List.forall_mem_cons.mpr ⟨Or.inr rfl, List.forall_mem_cons.mpr ⟨Or.inr rfl, List.forall_mem_cons.mpr ⟨Or.inr rfl, List.forall_mem_cons.mpr ⟨Or.inr rfl, List.forall_mem_cons.mpr ⟨Or.inr rfl, List.forall_mem_cons.mpr ⟨Or.inr rfl, List.forall_mem_cons.mpr ⟨Or.inr rfl, fun _ h => absurd h List.not_mem_nil⟩⟩⟩⟩⟩⟩⟩⟩⟩⟩⟩⟩⟩⟩⟩⟩⟩⟩⟩⟩⟩⟩⟩⟩⟩
set_option maxRecDepth 100000 in
theorem am_cd4 : ∀ q ∈ am_me4, am_cdok q := List.forall_mem_cons.mpr ⟨Or.inr rfl, List.forall_mem_cons.mpr ⟨Or.inr rfl, List.forall_mem_cons.mpr ⟨Or.inr rfl, List.forall_mem_cons.mpr ⟨Or.inr rfl, List.forall_mem_cons.mpr ⟨Or.inr rfl, List.forall_mem_cons.mpr ⟨Or.inr rfl, List.forall_mem_cons.mpr ⟨Or.inr rfl, List.forall_mem_cons.mpr ⟨Or.inr rfl, List.forall_mem_cons.mpr ⟨Or.inr rfl, List.forall_mem_cons.mpr ⟨Or.inr rfl, List.forall_mem_cons.mpr ⟨Or.inr rfl, List.forall_mem_cons.mpr ⟨Or.inr rfl, List.forall_mem_cons.mpr ⟨Or.inr rfl, List.forall_mem_cons.mpr ⟨Or.inr rfl, List.forall_mem_cons.mpr ⟨Or.inr rfl, List.forall_mem_cons.mpr ⟨Or.inr rfl, List.forall_mem_cons.mpr ⟨Or.inr rfl, List.forall_mem_cons.mpr ⟨Or.inr rfl, List.forall_mem_cons.mpr ⟨Or.inr rfl, List.forall_mem_cons.mpr ⟨Or.inr rfl, List.forall_mem_cons.mpr ⟨Or.inr rfl, List.forall_mem_cons.mpr ⟨Or.inr rfl, List.forall_mem_cons.mpr ⟨Or.inr rfl, List.forall_mem_cons.mpr ⟨Or.inr rfl, List.forall_mem_cons.mpr ⟨Or.inr rfl, fun _ h => absurd h List.not_mem_nil⟩⟩⟩⟩⟩⟩⟩⟩⟩⟩⟩⟩⟩⟩⟩⟩⟩⟩⟩⟩⟩⟩⟩⟩⟩
set_option maxRecDepth 100000 in
theorem am_cd5 : ∀ q ∈ am_me5, am_cdok q := List.forall_mem_cons.mpr ⟨Or.inr rfl, List.forall_mem_cons.mpr ⟨Or.inr rfl, List.forall_mem_cons.mpr ⟨Or.inr rfl, List.forall_mem_cons.mpr ⟨Or.inr rfl, List.forall_mem_cons.mpr ⟨Or.inr rfl, List.forall_mem_cons.mpr ⟨Or.inr rfl, List.forall_mem_cons.mpr ⟨Or.inr rfl, List.forall_mem_cons.mpr ⟨Or.inr rfl, List.forall_mem_cons.mpr ⟨Or.inr rfl, List.forall_mem_cons.mpr ⟨Or.inr rfl, List.forall_mem_cons.mpr ⟨Or.inr rfl, List.forall_mem_cons.mpr ⟨Or.inr rfl, List.forall_mem_cons.mpr ⟨Or.inr rfl, List.forall_mem_cons.mpr ⟨Or.inr rfl, List.forall_mem_cons.mpr ⟨Or.inr rfl, List.forall_mem_cons.mpr ⟨Or.inr rfl, List.forall_mem_cons.mpr ⟨Or.inr rfl, List.forall_mem_cons.mpr ⟨Or.inr rfl, List.forall_mem_cons.mpr ⟨Or.inr rfl, List.forall_mem_cons.mpr ⟨Or.inr rfl, List.forall_mem_cons.mpr ⟨Or.inr rfl, List.forall_mem_cons.mpr ⟨Or.inr rfl, List.forall_mem_cons.mpr ⟨Or.inr rfl, List.forall_mem_cons.mpr ⟨Or.inr rfl, List.forall_mem_cons.mpr ⟨Or.inr rfl, fun _ h => absurd h List.not_mem_nil⟩⟩⟩⟩⟩⟩⟩⟩⟩⟩⟩⟩⟩⟩⟩⟩⟩⟩⟩⟩⟩⟩⟩⟩⟩
set_option maxRecDepth 100000 in
theorem am_cd6 : ∀ q ∈ am_me6, am_cdok q := List.forall_mem_cons.mpr ⟨Or.inr rfl, List.forall_mem_cons.mpr ⟨Or.inr rfl, List.forall_mem_cons.mpr ⟨Or.inr rfl, List.forall_mem_cons.mpr ⟨Or.inr rfl, List.forall_mem_cons.mpr ⟨Or.inr rfl, List.forall_mem_cons.mpr ⟨Or.inr rfl, List.forall_mem_cons.mpr ⟨Or.inr rfl, List.forall_mem_cons.mpr ⟨Or.inr rfl, List.forall_mem_cons.mpr ⟨Or.inr rfl, List.forall_mem_cons.mpr ⟨Or.inr rfl, List.forall_mem_cons.mpr ⟨Or.inr rfl, List.forall_mem_cons.mpr ⟨Or.inr rfl, List.forall_mem_cons.mpr ⟨Or.inr rfl, List.forall_mem_cons.mpr ⟨Or.inr rfl, List.forall_mem_cons.mpr ⟨Or.inr rfl, List.forall_mem_cons.mpr ⟨Or.inr rfl, List.forall_mem_cons.mpr ⟨Or.inr rfl, List.forall_mem_cons.mpr ⟨Or.inr rfl, List.forall_mem_cons.mpr ⟨Or.inr rfl, List.forall_mem_cons.mpr ⟨Or.inr rfl, List.forall_mem_cons.mpr ⟨Or.inr rfl, List.forall_mem_cons.mpr ⟨Or.inr rfl, List.forall_mem_cons.mpr ⟨Or.inr rfl, List.forall_mem_cons.mpr ⟨Or.inr rfl, List.forall_mem_cons.mpr ⟨Or.inr rfl, fun _ h => absurd h List.not_mem_nil⟩⟩⟩⟩⟩⟩⟩⟩⟩⟩⟩⟩⟩⟩⟩⟩⟩⟩⟩⟩⟩⟩⟩⟩⟩
set_option maxRecDepth 100000 in
theorem am_cd7 : ∀ q ∈ am_me7, am_cdok q := List.forall_mem_cons.mpr ⟨Or.inr rfl, List.forall_mem_cons.mpr ⟨Or.inr rfl, List.forall_mem_cons.mpr ⟨Or.inr rfl, List.forall_mem_cons.mpr ⟨Or.inr rfl, List.forall_mem_cons.mpr ⟨Or.inr rfl, List.forall_mem_cons.mpr ⟨Or.inr rfl, List.forall_mem_cons.mpr ⟨Or.inr rfl, List.forall_mem_cons.mpr ⟨Or.inr rfl, List.forall_mem_cons.mpr ⟨Or.inr rfl, List.forall_mem_cons.mpr ⟨Or.inr rfl, List.forall_mem_cons.mpr ⟨Or.inr rfl, List.forall_mem_cons.mpr ⟨Or.inr rfl, List.forall_mem_cons.mpr ⟨Or.inr rfl, List.forall_mem_cons.mpr ⟨Or.inr rfl, List.forall_mem_cons.mpr ⟨Or.inr rfl, List.forall_mem_cons.mpr ⟨Or.inr rfl, List.forall_mem_cons.mpr ⟨Or.inr rfl, List.forall_mem_cons.mpr ⟨Or.inr rfl, List.forall_mem_cons.mpr ⟨Or.inr rfl, List.forall_mem_cons.mpr ⟨Or.inr rfl, List.forall_mem_cons.mpr ⟨Or.inr rfl, List.forall_mem_cons.mpr ⟨Or.inr rfl, List.forall_mem_cons.mpr ⟨Or.inr rfl, List.forall_mem_cons.mpr ⟨Or.inr rfl, List.forall_mem_cons.mpr ⟨Or.inr rfl, fun _ h => absurd h List.not_mem_nil⟩⟩⟩⟩⟩⟩⟩⟩⟩⟩⟩⟩⟩⟩⟩⟩⟩⟩⟩⟩⟩⟩⟩⟩⟩
set_option maxRecDepth 100000 in
theorem am_cd8 : ∀ q ∈ am_me8, am_cdok q := List.forall_mem_cons.mpr ⟨Or.inr rfl, List.forall_mem_cons.mpr ⟨Or.inr rfl, List.forall_mem_cons.mpr ⟨Or.inr rfl, List.forall_mem_cons.mpr ⟨Or.inr rfl, List.forall_mem_cons.mpr ⟨Or.inr rfl, List.forall_mem_cons.mpr ⟨Or.inr rfl, List.forall_mem_cons.mpr ⟨Or.inr rfl, List.forall_mem_cons.mpr ⟨Or.inr rfl, List.forall_mem_cons.mpr ⟨Or.inr rfl, List.forall_mem_cons.mpr ⟨Or.inr rfl, List.forall_mem_cons.mpr ⟨Or.inr rfl, List.forall_mem_cons.mpr ⟨Or.inr rfl, List.forall_mem_cons.mpr ⟨Or.inr rfl, List.forall_mem_cons.mpr ⟨Or.inr rfl, List.forall_mem_cons.mpr ⟨Or.inr rfl, List.forall_mem_cons.mpr ⟨Or.inr rfl, List.forall_mem_cons.mpr ⟨Or.inr rfl, List.forall_mem_cons.mpr ⟨Or.inr rfl, List.forall_mem_cons.mpr ⟨Or.inr rfl, List.forall_mem_cons.mpr ⟨Or.inr rfl, List.forall_mem_cons.mpr ⟨Or.inr rfl, List.forall_mem_cons.mpr ⟨Or.inr rfl, List.forall_mem_cons.mpr ⟨Or.inr rfl, List.forall_mem_cons.mpr ⟨Or.inl rfl, List.forall_mem_cons.mpr ⟨Or.inl rfl, fun _ h => absurd h List.not_mem_nil⟩⟩⟩⟩⟩⟩⟩⟩⟩⟩⟩⟩⟩⟩⟩⟩⟩⟩⟩⟩⟩⟩⟩⟩⟩
theorem am_cd : ∀ q ∈ am_me, am_cdok q := by
  unfold am_me
  exact List.forall_mem_append.mpr ⟨am_cd0, List.forall_mem_append.mpr ⟨am_cd1, List.forall_mem_append.mpr ⟨am_cd2, List.forall_mem_append.mpr ⟨am_cd3, List.forall_mem_append.mpr ⟨am_cd4, List.forall_mem_append.mpr ⟨am_cd5, List.forall_mem_append.mpr ⟨am_cd6, List.forall_mem_append.mpr ⟨am_cd7, am_cd8⟩⟩⟩⟩⟩⟩⟩⟩
end
section
/-! THE SMALL MACHINE: ints, longs and cells as integers; what an instruction asks, and where it goes. A value: its kind (0 int, 1 long, 2 a cell or null, 4 a constant of Word, 7 the script, 9 none) and a number. A heap: of each cell its places. Cell 0, place 0: how many cells there are. -/
abbrev am_V : Type := Nat × Int
abbrev am_H : Type := Nat → Nat → Int
abbrev am_K : Type := am_V → am_H → Prop
def am_st (h : am_H) (c j : Nat) (v : Int) : am_H := fun c' j' => if c' = c then (if j' = j then v else h c' j') else h c' j'
abbrev am_inI (x : Int) : Prop := -2147483648 ≤ x ∧ x ≤ 2147483647
abbrev am_inL (x : Int) : Prop := -9223372036854775808 ≤ x ∧ x ≤ 9223372036854775807
def am_and (a b : Int) : Int := (Int32.ofInt a &&& Int32.ofInt b).toInt
def am_or (a b : Int) : Int := (Int32.ofInt a ||| Int32.ofInt b).toInt
def am_xor (a b : Int) : Int := (Int32.ofInt a ^^^ Int32.ofInt b).toInt
def am_ushr (a b : Int) : Int := ((Int32.ofInt a).toUInt32 >>> ((Int32.ofInt b).toUInt32 &&& Int32.toUInt32 31)).toInt32.toInt
def am_i2b (a : Int) : Int := (Int32.ofInt a).toInt8.toInt32.toInt
def am_lcmp (a b : Int) : Int := if a < b then -1 else if a = b then 0 else 1
def am_cmp (c : Jvm.ClassFile.Cond) (a b : Int) : Prop := match c with
  | .eq => a = b
  | .ne => ¬ a = b
  | .lt => a < b
  | .ge => b ≤ a
  | .gt => b < a
  | .le => a ≤ b
def am_isr (t : Nat) : Bool := t == 2 || (t == 4 || t == 7)
def am_1 (t : Nat) (st : List am_V) (k : Int → List am_V → Prop) : Prop := match st with
  | v :: r => if v.1 = t then k v.2 r else False
  | [] => False
def am_2 (t u : Nat) (st : List am_V) (k : Int → Int → List am_V → Prop) : Prop := am_1 u st (fun b r => am_1 t r (fun a r => k a b r))
def am_r (st : List am_V) (k : am_V → List am_V → Prop) : Prop := match st with
  | v :: r => if am_isr v.1 = true then k v r else False
  | [] => False
def am_c1 (st : List am_V) (k : am_V → List am_V → Prop) : Prop := match st with
  | v :: r => if v.1 = 1 then False else k v r
  | [] => False
def am_nil (st : List am_V) (k : Prop) : Prop := match st with
  | [] => k
  | _ :: _ => False
def am_ld : List am_V → Nat → (am_V → Prop) → Prop
  | v :: _, 0, k => k v
  | _ :: l, i + 1, k => am_ld l i k
  | [], _, _ => False
def am_ldt (t : Nat) (ls : List am_V) (i : Nat) (k : Int → Prop) : Prop := am_ld ls i (fun v => if v.1 = t then k v.2 else False)
def am_ldr (ls : List am_V) (i : Nat) (k : am_V → Prop) : Prop := am_ld ls i (fun v => if am_isr v.1 = true then k v else False)
def am_sto : List am_V → Nat → am_V → List am_V
  | _ :: l, 0, v => v :: l
  | a :: _ :: l, 1, v => (if a.1 = 1 then (9, 0) else a) :: v :: l
  | a :: l, i + 2, v => a :: am_sto l (i + 1) v
  | l, _, _ => l
def am_kil : List am_V → Nat → List am_V
  | _ :: l, 0 => (9, 0) :: l
  | a :: l, i + 1 => a :: am_kil l i
  | [], _ => []
def am_nth {α : Type} : List α → Nat → Option α
  | a :: _, 0 => some a
  | _ :: l, i + 1 => am_nth l i
  | [], _ => none
def am_cat (st : List am_V) : Nat := match st with
  | [] => 0
  | v :: r => (if v.1 = 1 then 2 else 1) + am_cat r
def am_take : Nat → List am_V → (List am_V → List am_V → Prop) → Prop
  | 0, st, k => k [] st
  | n + 1, v :: st, k => am_take n st (fun as r => k (as ++ [v]) r)
  | _ + 1, [], _ => False
def am_sw : List Int → Int → Int → (Int → Prop) → Prop
  | [], _, _, _ => True
  | t :: l, lo, a, k => (a = lo → k t) ∧ am_sw l (lo + 1) a k
/-- the words' numbers: role, slot, low, high (places 1 .. 4) -/
def am_word (i j : Nat) : Int := ((([[0, 0, 0, 0], [0, 1, 0, 0], [1, 0, 1, 66], [1, 1, 1, 6], [1, 2, 5, 30], [1, 3, 1, 99], [2, 0, 0, 0], [3, 0, 1, 4], [3, 1, 0, 0], [3, 2, 0, 0], [3, 3, 1, 8], [3, 4, 0, 7]] : List (List Int)).getD i []).getD j 0)
def am_get (bm : Bool) (ci : Nat) (o : Int) (j : Nat) (h : am_H) (k : am_V → Prop) : Prop :=
  if (am_cell o.toNat).1 = 0 ∧ (am_cell o.toNat).2.1 = ci ∧ 0 < o then
    match am_nth (am_cell o.toNat).2.2 j with
    | some f => if f.1 = 8 then (if bm = true then k (2, f.2) else (h o.toNat j = f.2 ∧ k (2, f.2))) else k (f.1, h o.toNat j)
    | none => False
  else False
def am_put (bm ini : Bool) (ci : Nat) (o : Int) (j : Nat) (v : am_V) (h : am_H) (k : am_H → Prop) : Prop :=
  if (am_cell o.toNat).1 = 0 ∧ (am_cell o.toNat).2.1 = ci ∧ 0 < o then
    match am_nth (am_cell o.toNat).2.2 j with
    | some f => if f.1 = 8 then (if bm = true ∨ ini = false then False else if v.1 = 2 then k (am_st h o.toNat j v.2) else False) else if v.1 = f.1 then k (am_st h o.toNat j v.2) else False
    | none => False
  else False
def am_arr (kd : Nat) (a : Int) (k : Int → Prop) : Prop := if (am_cell a.toNat).1 = kd ∧ 0 < a then k (am_cell a.toNat).2.1 else False
def am_blk (bm ini : Bool) (bz : Nat) (lim : Int) (L : Nat) (xs : Nat → Int) (C : Nat → List am_V → am_H → am_K → Prop) (Q : am_K) (T : Nat → List am_V → List am_V → am_H → Prop) (e : Nat) : List Instr → List am_V → List am_V → am_H → Prop
  | [], ls, st, h => T e ls st h
  | i :: r, ls, st, h => match i with
    | .iconst n => am_blk bm ini bz lim L xs C Q T e r ls ((0, n) :: st) h
    | .sipush n => am_blk bm ini bz lim L xs C Q T e r ls ((1, n) :: st) h
    | .iload k => am_ldt 0 ls k (fun x => am_blk bm ini bz lim L xs C Q T e r ls ((0, x) :: st) h)
    | .lload k => am_ldt 1 ls k (fun x => am_blk bm ini bz lim L xs C Q T e r ls ((1, x) :: st) h)
    | .aload k => am_ldr ls k (fun v => am_blk bm ini bz lim L xs C Q T e r ls (v :: st) h)
    | .istore k => am_1 0 st (fun x s => if k < ls.length then am_blk bm ini bz lim L xs C Q T e r (am_sto ls k (0, x)) s h else False)
    | .lstore k => am_1 1 st (fun x s => if k + 1 < ls.length then am_blk bm ini bz lim L xs C Q T e r (am_sto (am_kil ls (k + 1)) k (1, x)) s h else False)
    | .astore k => am_r st (fun v s => if k < ls.length then am_blk bm ini bz lim L xs C Q T e r (am_sto ls k v) s h else False)
    | .iinc k n => am_ldt 0 ls k (fun x => am_inI (x + n) ∧ am_blk bm ini bz lim L xs C Q T e r (am_sto ls k (0, x + n)) st h)
    | .iadd => am_2 0 0 st (fun a b s => am_inI (a + b) ∧ am_blk bm ini bz lim L xs C Q T e r ls ((0, a + b) :: s) h)
    | .isub => am_2 0 0 st (fun a b s => am_inI (a - b) ∧ am_blk bm ini bz lim L xs C Q T e r ls ((0, a - b) :: s) h)
    | .imul => am_2 0 0 st (fun a b s => am_inI (a * b) ∧ am_blk bm ini bz lim L xs C Q T e r ls ((0, a * b) :: s) h)
    | .idiv => am_2 0 0 st (fun a b s => (0 ≤ a ∧ 0 < b) ∧ am_blk bm ini bz lim L xs C Q T e r ls ((0, a / b) :: s) h)
    | .irem => am_2 0 0 st (fun a b s => (0 ≤ a ∧ 0 < b) ∧ am_blk bm ini bz lim L xs C Q T e r ls ((0, a % b) :: s) h)
    | .ineg => am_1 0 st (fun a s => am_inI (-a) ∧ am_blk bm ini bz lim L xs C Q T e r ls ((0, -a) :: s) h)
    | .iand => am_2 0 0 st (fun a b s => am_blk bm ini bz lim L xs C Q T e r ls ((0, am_and a b) :: s) h)
    | .ior => am_2 0 0 st (fun a b s => am_blk bm ini bz lim L xs C Q T e r ls ((0, am_or a b) :: s) h)
    | .ixor => am_2 0 0 st (fun a b s => am_blk bm ini bz lim L xs C Q T e r ls ((0, am_xor a b) :: s) h)
    | .ishl => am_2 0 0 st (fun a b s => (0 ≤ a ∧ 0 ≤ b ∧ b ≤ 31 ∧ am_inI (a * 2 ^ b.toNat)) ∧ am_blk bm ini bz lim L xs C Q T e r ls ((0, a * 2 ^ b.toNat) :: s) h)
    | .ishr => am_2 0 0 st (fun a b s => (0 ≤ b ∧ b ≤ 31) ∧ am_blk bm ini bz lim L xs C Q T e r ls ((0, a / 2 ^ b.toNat) :: s) h)
    | .iushr => am_2 0 0 st (fun a b s => am_blk bm ini bz lim L xs C Q T e r ls ((0, am_ushr a b) :: s) h)
    | .ladd => am_2 1 1 st (fun a b s => am_inL (a + b) ∧ am_blk bm ini bz lim L xs C Q T e r ls ((1, a + b) :: s) h)
    | .lsub => am_2 1 1 st (fun a b s => am_inL (a - b) ∧ am_blk bm ini bz lim L xs C Q T e r ls ((1, a - b) :: s) h)
    | .lmul => am_2 1 1 st (fun a b s => am_inL (a * b) ∧ am_blk bm ini bz lim L xs C Q T e r ls ((1, a * b) :: s) h)
    | .ldiv => am_2 1 1 st (fun a b s => (0 ≤ a ∧ 0 < b) ∧ am_blk bm ini bz lim L xs C Q T e r ls ((1, a / b) :: s) h)
    | .lrem => am_2 1 1 st (fun a b s => (0 ≤ a ∧ 0 < b) ∧ am_blk bm ini bz lim L xs C Q T e r ls ((1, a % b) :: s) h)
    | .lshl => am_2 1 0 st (fun a b s => (0 ≤ a ∧ 0 ≤ b ∧ b ≤ 62 ∧ am_inL (a * 2 ^ b.toNat)) ∧ am_blk bm ini bz lim L xs C Q T e r ls ((1, a * 2 ^ b.toNat) :: s) h)
    | .lcmp => am_2 1 1 st (fun a b s => am_blk bm ini bz lim L xs C Q T e r ls ((0, am_lcmp a b) :: s) h)
    | .i2l => am_1 0 st (fun a s => am_blk bm ini bz lim L xs C Q T e r ls ((1, a) :: s) h)
    | .i2b => am_1 0 st (fun a s => am_blk bm ini bz lim L xs C Q T e r ls ((0, am_i2b a) :: s) h)
    | .aconst_null => am_blk bm ini bz lim L xs C Q T e r ls ((2, 0) :: st) h
    | .dup => am_c1 st (fun v s => am_blk bm ini bz lim L xs C Q T e r ls (v :: v :: s) h)
    | .dup2 => am_c1 st (fun v s => am_c1 s (fun w s => am_blk bm ini bz lim L xs C Q T e r ls (v :: w :: v :: w :: s) h))
    | .pop => am_c1 st (fun _ s => am_blk bm ini bz lim L xs C Q T e r ls s h)
    | .nop => am_r st (fun v s => if v.1 = 2 ∧ 0 < v.2 ∧ am_cat s ≤ 8 then am_blk bm ini bz lim L xs C Q T e r ls s h else False)
    | .ifCond c t => am_1 0 st (fun a s => (am_cmp c a 0 → T t.toNat ls s h) ∧ (¬ am_cmp c a 0 → am_blk bm ini bz lim L xs C Q T e r ls s h))
    | .if_icmp c t => am_2 0 0 st (fun a b s => (am_cmp c a b → T t.toNat ls s h) ∧ (¬ am_cmp c a b → am_blk bm ini bz lim L xs C Q T e r ls s h))
    | .goto t => T t.toNat ls st h
    | .ifnull t => am_r st (fun v s => (v = (2, 0) → T t.toNat ls s h) ∧ (¬ v = (2, 0) → am_blk bm ini bz lim L xs C Q T e r ls s h))
    | .tableswitch d lo hi offs => am_1 0 st (fun a s => ((a < lo ∨ hi < a) → T d.toNat ls s h) ∧ am_sw offs.toList lo a (fun t => T t.toNat ls s h))
    | .ireturn => am_1 0 st (fun a s => am_nil s (if bz = 0 then Q (0, a) h else if bz = 4 then ((0 ≤ a ∧ a ≤ 1) ∧ Q (0, a) h) else False))
    | .lreturn => am_1 1 st (fun a s => am_nil s (if bz = 1 then Q (1, a) h else False))
    | .areturn => am_r st (fun v s => am_nil s (if bz = 2 then Q v h else False))
    | .return_ => am_nil st (if bz = 3 then (if ini = true then (h 0 0 = lim ∧ Q (9, 0) h) else Q (9, 0) h) else False)
    | .getfield k => am_r st (fun v s => if v.1 = 2 then am_get bm (k / 64) v.2 (k % 64) h (fun w => am_blk bm ini bz lim L xs C Q T e r ls (w :: s) h) else if v.1 = 4 ∧ k / 64 = 15 then am_blk bm ini bz lim L xs C Q T e r ls ((0, am_word v.2.toNat (k % 64)) :: s) h else False)
    | .putfield k => match st with
      | v :: st => am_1 2 st (fun o s => am_put bm ini (k / 64) o (k % 64) v h (fun h => am_blk bm ini bz lim L xs C Q T e r ls s h))
      | [] => False
    | .iaload => am_1 0 st (fun i s => am_r s (fun v s => if v.1 = 2 then am_arr 1 v.2 (fun n => (0 ≤ i ∧ i < n) ∧ am_blk bm ini bz lim L xs C Q T e r ls ((0, h v.2.toNat i.toNat) :: s) h) else if v.1 = 7 then ((0 ≤ i ∧ i < L) ∧ am_blk bm ini bz lim L xs C Q T e r ls ((0, xs i.toNat) :: s) h) else False))
    | .laload => am_1 0 st (fun i s => am_1 2 s (fun a s => am_arr 2 a (fun n => (0 ≤ i ∧ i < n) ∧ am_blk bm ini bz lim L xs C Q T e r ls ((1, h a.toNat i.toNat) :: s) h)))
    | .baload => am_1 0 st (fun i s => am_1 2 s (fun a s => if (am_cell a.toNat).1 = 3 then am_arr 3 a (fun n => (0 ≤ i ∧ i < n) ∧ (-128 ≤ h a.toNat i.toNat ∧ h a.toNat i.toNat ≤ 127 → am_blk bm ini bz lim L xs C Q T e r ls ((0, h a.toNat i.toNat) :: s) h)) else am_arr 4 a (fun n => (0 ≤ i ∧ i < n) ∧ (0 ≤ h a.toNat i.toNat ∧ h a.toNat i.toNat ≤ 1 → am_blk bm ini bz lim L xs C Q T e r ls ((0, h a.toNat i.toNat) :: s) h))))
    | .iastore => am_1 0 st (fun x s => am_1 0 s (fun i s => am_1 2 s (fun a s => am_arr 1 a (fun n => (0 ≤ i ∧ i < n) ∧ am_blk bm ini bz lim L xs C Q T e r ls s (am_st h a.toNat i.toNat x)))))
    | .lastore => am_1 1 st (fun x s => am_1 0 s (fun i s => am_1 2 s (fun a s => am_arr 2 a (fun n => (0 ≤ i ∧ i < n) ∧ am_blk bm ini bz lim L xs C Q T e r ls s (am_st h a.toNat i.toNat x)))))
    | .bastore => am_1 0 st (fun x s => am_1 0 s (fun i s => am_1 2 s (fun a s => if (am_cell a.toNat).1 = 3 then am_arr 3 a (fun n => (0 ≤ i ∧ i < n ∧ -128 ≤ x ∧ x ≤ 127) ∧ am_blk bm ini bz lim L xs C Q T e r ls s (am_st h a.toNat i.toNat x)) else am_arr 4 a (fun n => (0 ≤ i ∧ i < n ∧ 0 ≤ x ∧ x ≤ 1) ∧ am_blk bm ini bz lim L xs C Q T e r ls s (am_st h a.toNat i.toNat x)))))
    | .arraylength => am_r st (fun v s => if v.1 = 2 then am_arr (if (am_cell v.2.toNat).1 = 0 then 9 else (am_cell v.2.toNat).1) v.2 (fun n => am_blk bm ini bz lim L xs C Q T e r ls ((0, n) :: s) h) else if v.1 = 7 then am_blk bm ini bz lim L xs C Q T e r ls ((0, L) :: s) h else False)
    | .new ci => ∃ n : Nat, h 0 0 = n ∧ (am_cell (n + 1)).1 = 0 ∧ (am_cell (n + 1)).2.1 = ci ∧ (∀ j, h (n + 1) j = 0) ∧ h 0 0 + 1 ≤ lim ∧ am_blk bm ini bz lim L xs C Q T e r ls ((2, n + 1) :: st) (am_st h 0 0 (n + 1))
    | .newarray ty => am_1 0 st (fun x s => ∃ n : Nat, h 0 0 = n ∧ (am_cell (n + 1)).1 = (match ty with | .int => 1 | .long => 2 | .byte => 3 | .boolean => 4 | _ => 99) ∧ x = (am_cell (n + 1)).2.1 ∧ (∀ j, h (n + 1) j = 0) ∧ h 0 0 + 1 ≤ lim ∧ am_blk bm ini bz lim L xs C Q T e r ls ((2, n + 1) :: s) (am_st h 0 0 (n + 1)))
    | .invokestatic k => am_take (k % 16) st (fun as s => if am_cat s ≤ 8 then C (k / 64) as h (if k / 16 % 4 = 0 then (fun v h => am_blk bm ini bz lim L xs C Q T e r ls ((0, v.2) :: s) h) else if k / 16 % 4 = 1 then (fun v h => am_blk bm ini bz lim L xs C Q T e r ls ((1, v.2) :: s) h) else if k / 16 % 4 = 2 then (fun v h => am_blk bm ini bz lim L xs C Q T e r ls (v :: s) h) else (fun _ h => am_blk bm ini bz lim L xs C Q T e r ls s h)) else False)
    | .invokespecial k => am_take (k % 16) st (fun as s => if am_cat s ≤ 8 then (h 0 0 + ((am_me.getD (k / 64) (⟨"", "", ""⟩, ⟨#[]⟩, 0, none, 99, 9, 0, 0, 0, 0, 0, 0)).2.2.2.2.2.2.1 : Nat) ≤ lim ∧ C (k / 64) as h (fun _ h => am_blk bm ini bz lim L xs C Q T e r ls s h)) else False)
    | _ => False
/-- what the pool's places are, in the small machine's numbers -/
def am_fx (own idx : Nat) : Nat := match am_FL.find? (fun q => q.1 == own && q.2.1 == idx) with
  | some q => q.2.2.1 * 64 + q.2.2.2.1
  | none => match am_WL.find? (fun q => q.1 == own && q.2.1 == idx) with
    | some q => 960 + q.2.2.1
    | none => 99999
/-- a final field is written by its own class's constructor -/
def am_fw (own idx : Nat) : Bool := match am_FL.find? (fun q => q.1 == own && q.2.1 == idx) with
  | some q => (match am_cl[q.2.2.1]? with | some c => !(c.2.1 q.2.2.2.1).2.2.2 || (q.2.2.2.2.1 == 0 && q.2.2.1 == own) | none => false)
  | none => false
def am_rt (r : Option FieldType) : Nat := match r with
  | none => 3
  | some .long => 1
  | some (.object _) => 2
  | some (.array _) => 2
  | _ => 0
def am_rk (r : Option FieldType) : Nat := match r with
  | none => 3
  | some .int => 0
  | some .boolean => 4
  | some .long => 1
  | some (.object _) => 2
  | some (.array _) => 2
  | _ => 9
def am_mx (own idx : Nat) : Option (Nat × am_M) := match am_ML.find? (fun q => q.1 == own && q.2.1 == idx) with
  | some q => (am_me[q.2.2.1]?).map (fun c => (q.2.2.1, c))
  | none => none
def am_kc (id : Nat) (c : am_M) : Nat := (id * 4 + am_rt c.2.2.2.1) * 16 + (c.2.2.2.2.2.2.2.1 + (if c.2.2.2.2.2.1 = 0 then 0 else 1))
def am_kx (own idx lg : Nat) : Option Int := (am_KL.find? (fun q => q.1 == own && (q.2.1 == idx && q.2.2.1 == lg))).map (fun q => q.2.2.2.1)
def am_res (own pc : Nat) (i : Instr) : Option Instr := match i with
  | .iconst n => if -1 ≤ n ∧ n ≤ 5 then some (.iconst n) else none
  | .bipush n => if (Int8.ofInt n).toInt32.toInt = n then some (.iconst n) else none
  | .sipush n => if (Int16.ofInt n).toInt32.toInt = n then some (.iconst n) else none
  | .lconst n => some (.sipush (n : Nat))
  | .ldc_w k => (am_kx own k 0).map (fun n => .iconst n)
  | .ldc2_w k => (am_kx own k 1).map (fun n => .sipush n)
  | .iload k => some (.iload k)
  | .iload_n k => some (.iload k)
  | .lload k => some (.lload k)
  | .lload_n k => some (.lload k)
  | .aload k => some (.aload k)
  | .aload_n k => some (.aload k)
  | .istore k => some (.istore k)
  | .istore_n k => some (.istore k)
  | .lstore k => some (.lstore k)
  | .lstore_n k => some (.lstore k)
  | .astore k => some (.astore k)
  | .astore_n k => some (.astore k)
  | .iinc k n => if (Int32.ofInt n).toInt = n then some (.iinc k n) else none
  | .iadd => some .iadd
  | .isub => some .isub
  | .imul => some .imul
  | .idiv => some .idiv
  | .irem => some .irem
  | .ineg => some .ineg
  | .iand => some .iand
  | .ior => some .ior
  | .ixor => some .ixor
  | .ishl => some .ishl
  | .ishr => some .ishr
  | .iushr => some .iushr
  | .ladd => some .ladd
  | .lsub => some .lsub
  | .lmul => some .lmul
  | .ldiv => some .ldiv
  | .lrem => some .lrem
  | .lshl => some .lshl
  | .lcmp => some .lcmp
  | .i2l => some .i2l
  | .i2b => some .i2b
  | .aconst_null => some .aconst_null
  | .dup => some .dup
  | .dup2 => some .dup2
  | .pop => some .pop
  | .ifCond c t => if 0 ≤ (pc : Int) + t then some (.ifCond c (pc + t)) else none
  | .if_icmp c t => if 0 ≤ (pc : Int) + t then some (.if_icmp c (pc + t)) else none
  | .goto t => if 0 ≤ (pc : Int) + t then some (.goto (pc + t)) else none
  | .ifnull t => if 0 ≤ (pc : Int) + t then some (.ifnull (pc + t)) else none
  | .tableswitch d lo hi offs => if 0 ≤ (pc : Int) + d ∧ (offs.toList.all (fun t => decide (0 ≤ (pc : Int) + t)) = true) ∧ hi - lo + 1 = (offs.size : Int) ∧ lo ≤ hi then some (.tableswitch (pc + d) lo hi (offs.toList.map (fun t => (pc : Int) + t)).toArray) else none
  | .ireturn => some .ireturn
  | .lreturn => some .lreturn
  | .areturn => some .areturn
  | .return_ => some .return_
  | .getfield k => if am_fx own k = 99999 then none else some (.getfield (am_fx own k))
  | .putfield k => if am_fx own k = 99999 ∨ am_fw own k = false then none else some (.putfield (am_fx own k))
  | .iaload => some .iaload
  | .laload => some .laload
  | .baload => some .baload
  | .iastore => some .iastore
  | .lastore => some .lastore
  | .bastore => some .bastore
  | .arraylength => some .arraylength
  | .new k => (am_CL.find? (fun q => q.1 == own && q.2.1 == k)).map (fun q => .new q.2.2.1)
  | .newarray ty => some (.newarray ty)
  | .invokestatic k => (am_mx own k).bind (fun q => if q.2.2.2.2.2.2.1 = 0 then some (.invokestatic (am_kc q.1 q.2)) else none)
  | .invokevirtual k => (am_mx own k).bind (fun q => if q.2.2.2.2.2.2.1 = 1 then some (.invokestatic (am_kc q.1 q.2)) else none)
  | .invokespecial k => if (am_OL.find? (fun q => q.1 == own && q.2.1 == k)).isSome = true then some .nop else (am_mx own k).bind (fun q => if q.2.2.2.2.2.2.1 = 2 then some (.invokespecial (am_kc q.1 q.2)) else none)
  | _ => none
/-- how long an instruction is -/
def am_lnk (i : Instr) (n : Nat) : Bool := match i with
  | .tableswitch _ _ _ _ => true
  | .bipush _ => n == 2
  | .iload _ => n == 2
  | .lload _ => n == 2
  | .aload _ => n == 2
  | .istore _ => n == 2
  | .lstore _ => n == 2
  | .astore _ => n == 2
  | .newarray _ => n == 2
  | .sipush _ => n == 3
  | .ldc_w _ => n == 3
  | .ldc2_w _ => n == 3
  | .iinc _ _ => n == 3
  | .ifCond _ _ => n == 3
  | .if_icmp _ _ => n == 3
  | .goto _ => n == 3
  | .ifnull _ => n == 3
  | .getfield _ => n == 3
  | .putfield _ => n == 3
  | .new _ => n == 3
  | .invokestatic _ => n == 3
  | .invokevirtual _ => n == 3
  | .invokespecial _ => n == 3
  | _ => n == 1
/-- the block of resolved instructions from pc on, up to e -/
def am_dec (own : Nat) (b : ByteArray) (e : Nat) : List Instr → Nat → Bool
  | [], pc => pc == e
  | i :: r, pc => match decode b pc with
    | .ok (raw, len) => decide (am_res own pc raw = some i) && (am_lnk raw len && am_dec own b e r (pc + len))
    | .error _ => false
/-- it ends, with Q: whatever is closed under the blocks backwards holds here -/
def am_T (bm ini : Bool) (bz : Nat) (lim : Int) (L : Nat) (xs : Nat → Int) (own : Nat) (b : ByteArray) (C : Nat → List am_V → am_H → am_K → Prop) (Q : am_K) (pc : Nat) (ls st : List am_V) (h : am_H) : Prop :=
  ∀ G : Nat → List am_V → List am_V → am_H → Prop, (∀ (T : Nat → List am_V → List am_V → am_H → Prop) (pc e : Nat) (B : List Instr) (ls st : List am_V) (h : am_H), (∀ (pc : Nat) (ls st : List am_V) (h : am_H), T pc ls st h → G pc ls st h) → am_dec own b e B pc = true → am_blk bm ini bz lim L xs C Q T e B ls st h → G pc ls st h) → G pc ls st h
theorem am_go {bm ini : Bool} {bz : Nat} {lim : Int} {L : Nat} {xs : Nat → Int} {own : Nat} {b : ByteArray} {C : Nat → List am_V → am_H → am_K → Prop} {Q : am_K} {pc e : Nat} {B : List Instr} {ls st : List am_V} {h : am_H} (hd : am_dec own b e B pc = true) (hb : am_blk bm ini bz lim L xs C Q (am_T bm ini bz lim L xs own b C Q) e B ls st h) : am_T bm ini bz lim L xs own b C Q pc ls st h :=
  fun G hG => hG _ pc e B ls st h (fun _ _ _ _ ht => ht G hG) hd hb
/-- a method called: d calls may stand open below it. The words' reader and the law's look have contracts of their own. -/
def am_spl (ls : List am_V) : List am_V := ls.flatMap (fun v => if v.1 = 1 then [v, (9, 0)] else [v])
def am_ent (args : List am_V) (n : Nat) : List am_V := am_spl args ++ List.replicate (n - (am_spl args).length) (9, 0)
def am_rcv (own : Nat) (as : List am_V) : Bool := match as with
  | v :: _ => decide (v.1 = 2 ∧ (am_cell v.2.toNat).1 = 0 ∧ (am_cell v.2.toNat).2.1 = own ∧ 0 < v.2)
  | [] => false
def am_C (bm : Bool) (L : Nat) (xs : Nat → Int) (P : Nat → List am_V → am_H → am_K → Prop) : Nat → Nat → List am_V → am_H → am_K → Prop
  | 0, _, _, _, _ => False
  | d + 1, id, as, h, K => match am_nth am_me id with
    | some c => if c.2.2.2.2.1 = 99 then P id as h K else if (c.2.2.2.2.2.1 == 0 || am_rcv c.2.2.2.2.1 as) = true then (if id = am_lwid then P id as h K else if c.2.2.1 < (am_spl as).length then False else am_T bm (c.2.2.2.2.2.1 == 2) (am_rk c.2.2.2.1) (h 0 0 + (c.2.2.2.2.2.2.1 : Nat)) L xs c.2.2.2.2.1 c.2.1 (am_C bm L xs P d) K 0 (am_ent as c.2.2.1) [] h) else False
    | none => False
end
section
/-! THE WORLD of the small machine's heap, and what its values are in the machine -/
def am_tr (fx : Nat → Nat → Nat) (ad : Nat → Nat) (v : am_V) : Value := if v.1 = 0 then .int (Int32.ofInt v.2) else if v.1 = 1 then .long (Int64.ofInt v.2) else if v.1 = 2 then (if v.2 = 0 then .null else .ref (ad v.2.toNat)) else .ref (fx v.1 v.2.toNat)
theorem am_tr_0 (fx : Nat → Nat → Nat) (ad : Nat → Nat) (x : Int) : am_tr fx ad (0, x) = .int (Int32.ofInt x) := rfl
theorem am_tr_1 (fx : Nat → Nat → Nat) (ad : Nat → Nat) (x : Int) : am_tr fx ad (1, x) = .long (Int64.ofInt x) := rfl
theorem am_tr_2 (fx : Nat → Nat → Nat) (ad : Nat → Nat) {x : Int} (h : 0 < x) : am_tr fx ad (2, x) = .ref (ad x.toNat) := by
  simp [am_tr, show ¬ x = 0 by omega]
theorem am_tr_20 (fx : Nat → Nat → Nat) (ad : Nat → Nat) : am_tr fx ad (2, 0) = .null := by simp [am_tr]
theorem am_tr_r (fx : Nat → Nat → Nat) (ad : Nat → Nat) {v : am_V} (h : am_isr v.1 = true) : am_tr fx ad v = .null ∨ ∃ a, am_tr fx ad v = .ref a := by
  obtain ⟨t, x⟩ := v
  have ht : t = 2 ∨ t = 4 ∨ t = 7 := by simpa [am_isr] using h
  rcases ht with rfl | rfl | rfl
  · by_cases hx : x = 0
    · exact Or.inl (by simp [am_tr, hx])
    · exact Or.inr ⟨ad x.toNat, by simp [am_tr, hx]⟩
  · exact Or.inr ⟨fx 4 x.toNat, by simp [am_tr]⟩
  · exact Or.inr ⟨fx 7 x.toNat, by simp [am_tr]⟩
theorem am_tr_cat (fx : Nat → Nat → Nat) (ad : Nat → Nat) (v : am_V) : (am_tr fx ad v).category = if v.1 = 1 then 2 else 1 := by
  unfold am_tr
  by_cases h0 : v.1 = 0
  · simp [h0, Value.category]
  · by_cases h1 : v.1 = 1
    · simp [h1, Value.category]
    · by_cases h2 : v.1 = 2
      · by_cases h3 : v.2 = 0 <;> simp [h2, h3, Value.category]
      · simp [h0, h1, h2, Value.category]
theorem am_tr_cats (fx : Nat → Nat → Nat) (ad : Nat → Nat) (st : List am_V) : (((st.map (am_tr fx ad)).map fun v => v.category).sum) = am_cat st := by
  induction st with
  | nil => rfl
  | cons v r ih =>
    simp only [List.map_cons, List.sum_cons, am_cat, ih, am_tr_cat]
def am_fs (fx : Nat → Nat → Nat) (ad : Nat → Nat) (h : am_H) (k : Nat) : List (Nat × Nat) → Nat → List Value
  | [], _ => []
  | f :: r, j => am_tr fx ad (if f.1 = 8 then 2 else f.1, h k j) :: am_fs fx ad h k r (j + 1)
theorem am_fs_get (fx : Nat → Nat → Nat) (ad : Nat → Nat) (h : am_H) (k : Nat) (fs : List (Nat × Nat)) : ∀ (j i : Nat), (am_fs fx ad h k fs j)[i]? = (am_nth fs i).map (fun f => am_tr fx ad (if f.1 = 8 then 2 else f.1, h k (j + i))) := by
  induction fs with
  | nil => intro j i; simp [am_fs, am_nth]
  | cons f r ih =>
    intro j i
    cases i with
    | zero => simp [am_fs, am_nth]
    | succ i =>
      simp only [am_fs, am_nth, List.getElem?_cons_succ]
      rw [ih (j + 1) i, show j + 1 + i = j + (i + 1) by omega]
theorem am_fs_len (fx : Nat → Nat → Nat) (ad : Nat → Nat) (h : am_H) (k : Nat) (fs : List (Nat × Nat)) : ∀ j : Nat, (am_fs fx ad h k fs j).length = fs.length := by
  induction fs with
  | nil => intro j; rfl
  | cons f r ih => intro j; simp [am_fs, ih]
theorem am_nth_get {α : Type} (l : List α) : ∀ i : Nat, am_nth l i = l[i]? := by
  induction l with
  | nil => intro i; simp [am_nth]
  | cons a r ih =>
    intro i
    cases i with
    | zero => simp [am_nth]
    | succ i => simp [am_nth, ih]
theorem am_st_eq (h : am_H) (c j : Nat) (v : Int) : am_st h c j v c j = v := by simp [am_st]
theorem am_st_ne {h : am_H} {c j c' j' : Nat} {v : Int} (hn : ¬ (c' = c ∧ j' = j)) : am_st h c j v c' j' = h c' j' := by
  unfold am_st
  by_cases h1 : c' = c
  · by_cases h2 : j' = j
    · exact absurd ⟨h1, h2⟩ hn
    · simp [h1, h2]
  · simp [h1]
theorem am_st_nc {h : am_H} {c j c' j' : Nat} {v : Int} (hn : ¬ c' = c) : am_st h c j v c' j' = h c' j' := am_st_ne (fun q => hn q.1)
theorem am_fs_set (fx : Nat → Nat → Nat) (ad : Nat → Nat) (h : am_H) (k : Nat) (fs : List (Nat × Nat)) {i : Nat} {f : Nat × Nat} (hf : am_nth fs i = some f) (v : Int) : (am_fs fx ad h k fs 0).set i (am_tr fx ad (if f.1 = 8 then 2 else f.1, v)) = am_fs fx ad (am_st h k i v) k fs 0 := by
  apply List.ext_getElem?
  intro j
  rw [List.getElem?_set, am_fs_get, am_fs_get, am_fs_len]
  by_cases hj : i = j
  · subst hj
    have hl : i < fs.length := by
      rw [am_nth_get] at hf
      exact (List.getElem?_eq_some_iff.mp hf).1
    simp [hl, hf, am_st_eq]
  · rw [if_neg hj]
    cases am_nth fs j with
    | none => rfl
    | some g => simp [am_st_ne (h := h) (c := k) (j := i) (c' := k) (j' := j) (v := v) (fun q => hj q.2.symm)]
def am_e (cA : Nat → ClassId) (fx : Nat → Nat → Nat) (ad : Nat → Nat) (h : am_H) (k : Nat) : va_E :=
  if (am_cell k).1 = 0 then .inr ((am_cell k).2.1, am_fs fx ad h k (am_cell k).2.2 0) else .inl (cA (am_cell k).1, ((am_cell k).2.1, if (am_cell k).1 = 2 then .inr (.inl (fun j => Int64.ofInt (h k j))) else .inl (fun j => Int32.ofInt (h k j))))
def am_w (cA : Nat → ClassId) (fx : Nat → Nat → Nat) (ad : Nat → Nat) (h : am_H) : va_W := (List.range (h 0 0).toNat).map (fun i => (ad (i + 1), am_e cA fx ad h (i + 1)))
theorem am_w_get (cA : Nat → ClassId) (fx : Nat → Nat → Nat) (ad : Nat → Nat) (h : am_H) {k : Nat} (hk : 1 ≤ k) (hn : (k : Int) ≤ h 0 0) : (am_w cA fx ad h)[k - 1]? = some (ad k, am_e cA fx ad h k) := by
  unfold am_w
  rw [List.getElem?_map, List.getElem?_range (by omega)]
  simp [show k - 1 + 1 = k by omega]
theorem am_w_at {cA : Nat → ClassId} {fx : Nat → Nat → Nat} {ad : Nat → Nat} {h : am_H} {i : Nat} {q : Nat × va_E} (hq : (am_w cA fx ad h)[i]? = some q) : ((i + 1 : Nat) : Int) ≤ h 0 0 ∧ q = (ad (i + 1), am_e cA fx ad h (i + 1)) := by
  unfold am_w at hq
  rw [List.getElem?_map] at hq
  by_cases hi : i < (h 0 0).toNat
  · rw [List.getElem?_range hi] at hq
    exact ⟨by omega, (Option.some.inj hq).symm⟩
  · rw [List.getElem?_eq_none (by simp; omega)] at hq
    cases hq
theorem am_e_eq {cA : Nat → ClassId} {fx : Nat → Nat → Nat} {ad : Nat → Nat} {h h' : am_H} {k : Nat} (hh : ∀ j, h' k j = h k j) : am_e cA fx ad h' k = am_e cA fx ad h k := by
  unfold am_e
  have e1 : am_fs fx ad h' k (am_cell k).2.2 0 = am_fs fx ad h k (am_cell k).2.2 0 := by
    apply List.ext_getElem?
    intro j
    rw [am_fs_get, am_fs_get]
    simp [hh]
  rw [e1]
  simp [hh]
theorem am_w_set {cA : Nat → ClassId} {fx : Nat → Nat → Nat} {ad : Nat → Nat} {h : am_H} {k j : Nat} {v : Int} (hk : 1 ≤ k) {E : va_E} (hE : am_e cA fx ad (am_st h k j v) k = E) : (am_w cA fx ad h).set (k - 1) (ad k, E) = am_w cA fx ad (am_st h k j v) := by
  have h0 : am_st h k j v 0 0 = h 0 0 := am_st_nc (by omega)
  apply List.ext_getElem?
  intro i
  rw [List.getElem?_set]
  unfold am_w
  rw [h0]
  simp only [List.length_map, List.length_range, List.getElem?_map]
  by_cases hi : k - 1 = i
  · subst hi
    by_cases hl : k - 1 < (h 0 0).toNat
    · rw [List.getElem?_range hl]
      simp [hl, show k - 1 + 1 = k by omega, hE]
    · rw [List.getElem?_eq_none (by simp; omega)]
      simp [hl]
  · rw [if_neg hi]
    by_cases hl : i < (h 0 0).toNat
    · rw [List.getElem?_range hl]
      simp only [Option.map_some]
      rw [am_e_eq (h := h) (h' := am_st h k j v) (k := i + 1) (fun q => am_st_nc (by omega))]
    · rw [List.getElem?_eq_none (by simp; omega)]
      rfl
/-- values that are what their kind says; heaps that are -/
def am_okv (n : Int) (v : am_V) : Prop := (v.1 = 0 → am_inI v.2) ∧ (v.1 = 1 → am_inL v.2) ∧ (v.1 = 2 → 0 ≤ v.2 ∧ v.2 ≤ n) ∧ (v.1 = 4 → 0 ≤ v.2 ∧ v.2 < 12) ∧ (v.1 = 7 → v.2 = 0)
theorem am_okv_0 {n x : Int} (h : am_inI x) : am_okv n (0, x) := ⟨fun _ => h, (fun q => by cases q), (fun q => by cases q), (fun q => by cases q), (fun q => by cases q)⟩
theorem am_okv_1 {n x : Int} (h : am_inL x) : am_okv n (1, x) := ⟨(fun q => by cases q), fun _ => h, (fun q => by cases q), (fun q => by cases q), (fun q => by cases q)⟩
theorem am_okv_2 {n x : Int} (h : 0 ≤ x ∧ x ≤ n) : am_okv n (2, x) := ⟨(fun q => by cases q), (fun q => by cases q), fun _ => h, (fun q => by cases q), (fun q => by cases q)⟩
theorem am_okv_9 (n x : Int) : am_okv n (9, x) := ⟨(fun q => by cases q), (fun q => by cases q), (fun q => by cases q), (fun q => by cases q), (fun q => by cases q)⟩
theorem am_okv_up {n n' : Int} {v : am_V} (hn : n ≤ n') (h : am_okv n v) : am_okv n' v := ⟨h.1, h.2.1, fun q => ⟨(h.2.2.1 q).1, Int.le_trans (h.2.2.1 q).2 hn⟩, h.2.2.2.1, h.2.2.2.2⟩
def am_okc (n : Int) (k : Nat) (g : Nat → Int) : Prop := ((am_cell k).1 = 0 → ∀ (j : Nat) (f : Nat × Nat), am_nth (am_cell k).2.2 j = some f → am_okv n (if f.1 = 8 then 2 else f.1, g j)) ∧ ((am_cell k).1 = 1 → ∀ j, am_inI (g j)) ∧ ((am_cell k).1 = 2 → ∀ j, am_inL (g j)) ∧ ((am_cell k).1 = 3 → ∀ j, -128 ≤ g j ∧ g j ≤ 127) ∧ ((am_cell k).1 = 4 → ∀ j, 0 ≤ g j ∧ g j ≤ 1)
def am_okh (h : am_H) : Prop := 0 ≤ h 0 0 ∧ h 0 0 ≤ 93 ∧ ∀ k : Nat, 1 ≤ k → (k : Int) ≤ h 0 0 → am_okc (h 0 0) k (h k)
def am_fin (h : am_H) : Prop := ∀ (k j : Nat) (f : Nat × Nat), 1 ≤ k → (am_cell k).1 = 0 → am_nth (am_cell k).2.2 j = some f → f.1 = 8 → h k j = f.2
def am_csz (k : Nat) : Nat := if (am_cell k).1 = 0 then (am_cell k).2.2.length else (am_cell k).2.1
def am_sz : Nat → Nat
  | 0 => 0
  | n + 1 => am_sz n + am_csz (n + 1)
theorem am_sz_le : ∀ {a b : Nat}, a ≤ b → am_sz a ≤ am_sz b := by
  intro a b h
  induction b with
  | zero => simp [show a = 0 by omega]
  | succ b ih =>
    by_cases hb : a = b + 1
    · rw [hb]; exact Nat.le_refl _
    · exact Nat.le_trans (ih (by omega)) (Nat.le_add_right _ _)
/-- the locals -/
def am_lv (fx : Nat → Nat → Nat) (ad : Nat → Nat) : List am_V → Nat → List (Nat × Value)
  | [], _ => []
  | v :: r, i => if v.1 = 9 then am_lv fx ad r (i + 1) else (i, am_tr fx ad v) :: am_lv fx ad r (i + 1)
theorem am_lv_mem {fx : Nat → Nat → Nat} {ad : Nat → Nat} {q : Nat × Value} : ∀ {ls : List am_V} {i : Nat}, q ∈ am_lv fx ad ls i ↔ ∃ (k : Nat) (v : am_V), ls[k]? = some v ∧ ¬ v.1 = 9 ∧ q = (i + k, am_tr fx ad v) := by
  intro ls
  induction ls with
  | nil => intro i; simp [am_lv]
  | cons a r ih =>
    intro i
    constructor
    · intro h
      unfold am_lv at h
      by_cases ha : a.1 = 9
      · rw [if_pos ha] at h
        obtain ⟨k, v, h1, h2, h3⟩ := ih.mp h
        exact ⟨k + 1, v, by simpa using h1, h2, by rw [h3, show i + 1 + k = i + (k + 1) by omega]⟩
      · rw [if_neg ha] at h
        rcases List.mem_cons.mp h with h | h
        · exact ⟨0, a, rfl, ha, by simpa using h⟩
        · obtain ⟨k, v, h1, h2, h3⟩ := ih.mp h
          exact ⟨k + 1, v, by simpa using h1, h2, by rw [h3, show i + 1 + k = i + (k + 1) by omega]⟩
    · rintro ⟨k, v, h1, h2, h3⟩
      unfold am_lv
      cases k with
      | zero =>
        have : a = v := by simpa using h1
        subst this
        rw [if_neg h2, h3]
        exact List.mem_cons_self
      | succ k =>
        have hm : q ∈ am_lv fx ad r (i + 1) := ih.mpr ⟨k, v, by simpa using h1, h2, by rw [h3, show i + 1 + k = i + (k + 1) by omega]⟩
        by_cases ha : a.1 = 9
        · rw [if_pos ha]; exact hm
        · rw [if_neg ha]; exact List.mem_cons_of_mem _ hm
theorem am_ld_inv {ls : List am_V} : ∀ {k : Nat} {K : am_V → Prop}, am_ld ls k K → ∃ v, ls[k]? = some v ∧ K v := by
  induction ls with
  | nil => intro k K h; exact h.elim
  | cons a r ih =>
    intro k K h
    cases k with
    | zero => exact ⟨a, rfl, h⟩
    | succ k =>
      obtain ⟨v, h1, h2⟩ := ih h
      exact ⟨v, by simpa using h1, h2⟩
theorem am_ldt_inv {t : Nat} {ls : List am_V} {k : Nat} {K : Int → Prop} (h : am_ldt t ls k K) : ∃ x, ls[k]? = some (t, x) ∧ K x := by
  obtain ⟨v, h1, h2⟩ := am_ld_inv h
  by_cases hv : v.1 = t
  · rw [if_pos hv] at h2
    exact ⟨v.2, by rw [h1, ← hv], h2⟩
  · rw [if_neg hv] at h2; exact h2.elim
theorem am_ldr_inv {ls : List am_V} {k : Nat} {K : am_V → Prop} (h : am_ldr ls k K) : ∃ v, ls[k]? = some v ∧ am_isr v.1 = true ∧ K v := by
  obtain ⟨v, h1, h2⟩ := am_ld_inv h
  by_cases hv : am_isr v.1 = true
  · rw [if_pos hv] at h2
    exact ⟨v, h1, hv, h2⟩
  · rw [if_neg hv] at h2; exact h2.elim
theorem am_1_inv {t : Nat} {st : List am_V} {K : Int → List am_V → Prop} (h : am_1 t st K) : ∃ x s, st = (t, x) :: s ∧ K x s := by
  cases st with
  | nil => exact h.elim
  | cons v r =>
    by_cases hv : v.1 = t
    · have h2 : (if v.1 = t then K v.2 r else False) := h
      rw [if_pos hv] at h2
      exact ⟨v.2, r, by rw [← hv], h2⟩
    · have h2 : (if v.1 = t then K v.2 r else False) := h
      rw [if_neg hv] at h2; exact h2.elim
theorem am_2_inv {t u : Nat} {st : List am_V} {K : Int → Int → List am_V → Prop} (h : am_2 t u st K) : ∃ a b s, st = (u, b) :: (t, a) :: s ∧ K a b s := by
  obtain ⟨b, r, e1, h1⟩ := am_1_inv h
  obtain ⟨a, s, e2, h2⟩ := am_1_inv h1
  exact ⟨a, b, s, by rw [e1, e2], h2⟩
theorem am_r_inv {st : List am_V} {K : am_V → List am_V → Prop} (h : am_r st K) : ∃ v s, st = v :: s ∧ am_isr v.1 = true ∧ K v s := by
  cases st with
  | nil => exact h.elim
  | cons v r =>
    have h2 : (if am_isr v.1 = true then K v r else False) := h
    by_cases hv : am_isr v.1 = true
    · rw [if_pos hv] at h2; exact ⟨v, r, rfl, hv, h2⟩
    · rw [if_neg hv] at h2; exact h2.elim
theorem am_c1_inv {st : List am_V} {K : am_V → List am_V → Prop} (h : am_c1 st K) : ∃ v s, st = v :: s ∧ ¬ v.1 = 1 ∧ K v s := by
  cases st with
  | nil => exact h.elim
  | cons v r =>
    have h2 : (if v.1 = 1 then False else K v r) := h
    by_cases hv : v.1 = 1
    · rw [if_pos hv] at h2; exact h2.elim
    · rw [if_neg hv] at h2; exact ⟨v, r, rfl, hv, h2⟩
theorem am_nil_inv {st : List am_V} {K : Prop} (h : am_nil st K) : st = [] ∧ K := by
  cases st with
  | nil => exact ⟨rfl, h⟩
  | cons v r => exact h.elim
theorem am_take_inv : ∀ {n : Nat} {st : List am_V} {K : List am_V → List am_V → Prop}, am_take n st K → ∃ as s, st = as.reverse ++ s ∧ as.length = n ∧ K as s := by
  intro n
  induction n with
  | zero => intro st K h; exact ⟨[], st, rfl, rfl, h⟩
  | succ n ih =>
    intro st K h
    cases st with
    | nil => exact h.elim
    | cons v r =>
      obtain ⟨as, s, h1, h2, h3⟩ := ih (st := r) h
      exact ⟨as ++ [v], s, by simp [h1], by simp [h2], h3⟩
theorem am_sto_get' : ∀ (ls : List am_V) (k : Nat) (v : am_V) (j : Nat), k < ls.length → (am_sto ls k v)[j]? = if j = k then some v else if j + 1 = k ∧ (∃ a, ls[j]? = some a ∧ a.1 = 1) then some (9, 0) else ls[j]? := by
  intro ls
  induction ls with
  | nil => intro k v j h; simp at h
  | cons a r ih =>
    intro k v j h
    cases k with
    | zero => cases j <;> simp [am_sto]
    | succ k =>
      cases k with
      | zero =>
        cases r with
        | nil => simp at h
        | cons b r =>
          cases j with
          | zero => by_cases ha : a.1 = 1 <;> simp [am_sto, ha]
          | succ j => cases j <;> simp [am_sto]
      | succ k =>
        cases j with
        | zero => simp [am_sto]
        | succ j =>
          have h2 := ih (k + 1) v j (by simpa using h)
          simp only [am_sto, List.getElem?_cons_succ, h2, Nat.add_right_cancel_iff]
theorem am_sto_get {ls : List am_V} {k : Nat} {v : am_V} {j : Nat} (h : k < ls.length) : (am_sto ls k v)[j]? = if j = k then some v else if j + 1 = k ∧ (∃ a, ls[j]? = some a ∧ a.1 = 1) then some (9, 0) else ls[j]? := am_sto_get' ls k v j h
theorem am_sto_len' : ∀ (ls : List am_V) (k : Nat) (v : am_V), (am_sto ls k v).length = ls.length := by
  intro ls
  induction ls with
  | nil => intro k v; cases k <;> rfl
  | cons a r ih =>
    intro k v
    cases k with
    | zero => simp [am_sto]
    | succ k =>
      cases k with
      | zero => cases r <;> simp [am_sto]
      | succ k => simp [am_sto, ih]
theorem am_sto_len {ls : List am_V} {k : Nat} {v : am_V} : (am_sto ls k v).length = ls.length := am_sto_len' ls k v
theorem am_kil_get : ∀ {ls : List am_V} {k j : Nat}, (am_kil ls k)[j]? = if j = k ∧ k < ls.length then some (9, 0) else ls[j]? := by
  intro ls
  induction ls with
  | nil => intro k j; simp [am_kil]
  | cons a r ih =>
    intro k j
    cases k with
    | zero => cases j <;> simp [am_kil]
    | succ k =>
      cases j with
      | zero => simp [am_kil]
      | succ j => simp [am_kil, ih]
theorem am_kil_len : ∀ {ls : List am_V} {k : Nat}, (am_kil ls k).length = ls.length := by
  intro ls
  induction ls with
  | nil => intro k; cases k <;> rfl
  | cons a r ih =>
    intro k
    cases k with
    | zero => simp [am_kil]
    | succ k => simp [am_kil, ih]
theorem am_sto_ok {n : Int} {ls : List am_V} {k : Nat} {v : am_V} (hk : k < ls.length) (h : ∀ x ∈ ls, am_okv n x) (hv : am_okv n v) : ∀ x ∈ am_sto ls k v, am_okv n x := by
  intro x hx
  obtain ⟨j, hj⟩ := List.mem_iff_getElem?.mp hx
  rw [am_sto_get hk] at hj
  split at hj
  · cases hj; exact hv
  · split at hj
    · cases hj; exact am_okv_9 _ _
    · exact h x (List.mem_of_getElem? hj)
theorem am_kil_ok {n : Int} {ls : List am_V} {k : Nat} (h : ∀ x ∈ ls, am_okv n x) : ∀ x ∈ am_kil ls k, am_okv n x := by
  intro x hx
  obtain ⟨j, hj⟩ := List.mem_iff_getElem?.mp hx
  rw [am_kil_get] at hj
  split at hj
  · cases hj; exact am_okv_9 _ _
  · exact h x (List.mem_of_getElem? hj)
/-- behind a store of one slot, and of two -/
theorem am_lv_st1 {fx : Nat → Nat → Nat} {ad : Nat → Nat} {lsM : Array Slot} {nL : Nat} {ls : List am_V} {k : Nat} {v : am_V} (hk : k < ls.length) (h : lv_has lsM nL ((k, am_tr fx ad v) :: (am_lv fx ad ls 0).filter (fun q => !(q.1 == k) && !(q.1 + 1 == k && q.2.category == 2)))) : lv_has lsM nL (am_lv fx ad (am_sto ls k v) 0) := by
  refine ⟨h.1, h.2.1, fun q hq => ?_⟩
  obtain ⟨j, w, h1, h2, rfl⟩ := am_lv_mem.mp hq
  rw [am_sto_get hk] at h1
  split at h1
  · next e => cases h1; subst e; exact h.2.2 _ (by simp)
  · next e =>
    split at h1
    · cases h1; exact absurd rfl h2
    · next e2 =>
      refine h.2.2 _ (List.mem_cons_of_mem _ (List.mem_filter.mpr ⟨am_lv_mem.mpr ⟨j, w, h1, h2, rfl⟩, ?_⟩))
      simp only [Nat.zero_add, am_tr_cat]
      by_cases hw : w.1 = 1
      · have : ¬ j + 1 = k := fun q => e2 ⟨q, w, h1, hw⟩
        simp [e, this]
      · simp [e, hw]
theorem am_lv_st2 {fx : Nat → Nat → Nat} {ad : Nat → Nat} {lsM : Array Slot} {nL : Nat} {ls : List am_V} {k : Nat} {v : am_V} (hk : k + 1 < ls.length) (h : lv_has lsM nL ((k, am_tr fx ad v) :: (am_lv fx ad ls 0).filter (fun q => !(q.1 == k) && (!(q.1 == k + 1) && !(q.1 + 1 == k && q.2.category == 2))))) : lv_has lsM nL (am_lv fx ad (am_sto (am_kil ls (k + 1)) k v) 0) := by
  refine ⟨h.1, h.2.1, fun q hq => ?_⟩
  obtain ⟨j, w, h1, h2, rfl⟩ := am_lv_mem.mp hq
  rw [am_sto_get (by rw [am_kil_len]; omega)] at h1
  split at h1
  · next e => cases h1; subst e; exact h.2.2 _ (by simp)
  · next e =>
    split at h1
    · cases h1; exact absurd rfl h2
    · next e2 =>
      rw [am_kil_get] at h1
      split at h1
      · cases h1; exact absurd rfl h2
      · next e3 =>
        have e4 : ¬ j = k + 1 := fun q => e3 ⟨q, hk⟩
        refine h.2.2 _ (List.mem_cons_of_mem _ (List.mem_filter.mpr ⟨am_lv_mem.mpr ⟨j, w, h1, h2, rfl⟩, ?_⟩))
        simp only [Nat.zero_add, am_tr_cat]
        by_cases hw : w.1 = 1
        · have : ¬ j + 1 = k := fun q => e2 ⟨q, w, by rw [am_kil_get, if_neg e3]; exact h1, hw⟩
          simp [e, this, e4]
        · simp [e, hw, e4]
end
section
/-! numbers: the machine's and the small machine's -/
theorem am_i32 {x : Int} (h : am_inI x) : (Int32.ofInt x).toInt = x := Int32.toInt_ofInt_of_le (by omega) (by omega)
theorem am_i64 {x : Int} (h : am_inL x) : (Int64.ofInt x).toInt = x := Int64.toInt_ofInt_of_le (by omega) (by omega)
theorem am_eq32 {a b : Int} (ha : am_inI a) (hb : am_inI b) : Int32.ofInt a = Int32.ofInt b ↔ a = b := by
  rw [← Int32.toInt_inj, am_i32 ha, am_i32 hb]
theorem am_lt32 {a b : Int} (ha : am_inI a) (hb : am_inI b) : Int32.ofInt a < Int32.ofInt b ↔ a < b := by
  rw [Int32.lt_iff_toInt_lt, am_i32 ha, am_i32 hb]
theorem am_le32 {a b : Int} (ha : am_inI a) (hb : am_inI b) : Int32.ofInt a ≤ Int32.ofInt b ↔ a ≤ b := by
  rw [Int32.le_iff_toInt_le, am_i32 ha, am_i32 hb]
theorem am_rg32 (x : Int32) : am_inI x.toInt := by
  have h1 := Int32.le_toInt x
  have h2 := Int32.toInt_lt x
  exact ⟨by omega, by omega⟩
theorem am_rg64 (x : Int64) : am_inL x.toInt := by
  have h1 := Int64.le_toInt x
  have h2 := Int64.toInt_lt x
  exact ⟨by omega, by omega⟩
theorem am_add32 (a b : Int) : Int32.ofInt a + Int32.ofInt b = Int32.ofInt (a + b) := (Int32.ofInt_add a b).symm
theorem am_sub32 (a b : Int) : Int32.ofInt a - Int32.ofInt b = Int32.ofInt (a - b) := (Int32.ofInt_sub a b).symm
theorem am_mul32 (a b : Int) : Int32.ofInt a * Int32.ofInt b = Int32.ofInt (a * b) := (Int32.ofInt_mul a b).symm
theorem am_neg32 (a : Int) : -Int32.ofInt a = Int32.ofInt (-a) := (Int32.ofInt_neg a).symm
theorem am_add64 (a b : Int) : Int64.ofInt a + Int64.ofInt b = Int64.ofInt (a + b) := (Int64.ofInt_add a b).symm
theorem am_sub64 (a b : Int) : Int64.ofInt a - Int64.ofInt b = Int64.ofInt (a - b) := (Int64.ofInt_sub a b).symm
theorem am_mul64 (a b : Int) : Int64.ofInt a * Int64.ofInt b = Int64.ofInt (a * b) := (Int64.ofInt_mul a b).symm
theorem am_nI {x : Int} (h : 0 ≤ x) : Int32.ofInt x = nI x.toNat := by
  obtain ⟨n, rfl⟩ := Int.eq_ofNat_of_zero_le h
  rfl
theorem am_lN {x : Int} (h : 0 ≤ x) : Int64.ofInt x = lN x.toNat := by
  obtain ⟨n, rfl⟩ := Int.eq_ofNat_of_zero_le h
  rfl
theorem am_div32 {a b : Int} (ha : am_inI a) (hb : am_inI b) (h0 : 0 ≤ a) (h1 : 0 < b) : Int32.ofInt a / Int32.ofInt b = Int32.ofInt (a / b) := by
  obtain ⟨n, rfl⟩ := Int.eq_ofNat_of_zero_le h0
  obtain ⟨k, rfl⟩ := Int.eq_ofNat_of_zero_le (Int.le_of_lt h1)
  exact pk_div (a := n) (d := k) (by omega) (by omega) (by omega)
theorem am_rem32 {a b : Int} (ha : am_inI a) (hb : am_inI b) (h0 : 0 ≤ a) (h1 : 0 < b) : Int32.ofInt a - Int32.ofInt a / Int32.ofInt b * Int32.ofInt b = Int32.ofInt (a % b) := by
  obtain ⟨n, rfl⟩ := Int.eq_ofNat_of_zero_le h0
  obtain ⟨k, rfl⟩ := Int.eq_ofNat_of_zero_le (Int.le_of_lt h1)
  exact pk_rem (a := n) (d := k) (by omega) (by omega) (by omega)
theorem am_div64 {a b : Int} (ha : am_inL a) (hb : am_inL b) (h0 : 0 ≤ a) (h1 : 0 < b) : Int64.ofInt a / Int64.ofInt b = Int64.ofInt (a / b) := by
  obtain ⟨n, rfl⟩ := Int.eq_ofNat_of_zero_le h0
  obtain ⟨k, rfl⟩ := Int.eq_ofNat_of_zero_le (Int.le_of_lt h1)
  exact pk_lDiv (a := n) (b := k) (by omega) (by omega) (by omega)
theorem am_rem64 {a b : Int} (ha : am_inL a) (hb : am_inL b) (h0 : 0 ≤ a) (h1 : 0 < b) : Int64.ofInt a - Int64.ofInt a / Int64.ofInt b * Int64.ofInt b = Int64.ofInt (a % b) := by
  obtain ⟨n, rfl⟩ := Int.eq_ofNat_of_zero_le h0
  obtain ⟨k, rfl⟩ := Int.eq_ofNat_of_zero_le (Int.le_of_lt h1)
  exact pk_lRem (a := n) (b := k) (by omega) (by omega) (by omega)
theorem am_sl : ∀ n : Fin 32, ((nI n.val &&& 31).toBitVec.smod 32).toNat = n.val := by decide
theorem am_shl32 {a b : Int} (ha : am_inI (a * 2 ^ b.toNat)) (h0 : 0 ≤ a) (h1 : 0 ≤ b) (h2 : b ≤ 31) : Int32.ofInt a <<< (Int32.ofInt b &&& 31) = Int32.ofInt (a * 2 ^ b.toNat) := by
  obtain ⟨n, rfl⟩ := Int.eq_ofNat_of_zero_le h0
  obtain ⟨k, rfl⟩ := Int.eq_ofNat_of_zero_le h1
  have hk : k < 32 := by omega
  have e1 : ((n : Int) * 2 ^ (k : Int).toNat) = ((n * 2 ^ k : Nat) : Int) := by simp
  rw [e1] at ha ⊢
  exact pk_shlN (n := n) _ k (am_sl ⟨k, hk⟩) (by omega)
theorem am_shr32 {a b : Int} (ha : am_inI a) (h1 : 0 ≤ b) (h2 : b ≤ 31) : Int32.ofInt a >>> (Int32.ofInt b &&& 31) = Int32.ofInt (a / 2 ^ b.toNat) := by
  obtain ⟨k, rfl⟩ := Int.eq_ofNat_of_zero_le h1
  have hk : k < 32 := by omega
  apply Int32.toInt_inj.mp
  have e1 : (Int32.ofInt a >>> (Int32.ofInt (k : Int) &&& 31)).toInt = a / 2 ^ k := by
    have := pk_shr (Int32.ofInt a) (Int32.ofInt (k : Int) &&& 31) k (am_sl ⟨k, hk⟩)
    rw [this, am_i32 ha, Int.shiftRight_eq_div_pow]
    simp
  have hp : (0 : Int) < 2 ^ k := Int.pow_pos (by decide)
  have h3 : -2147483648 ≤ a / 2 ^ k := by
    rw [Int.le_ediv_iff_mul_le hp]
    have h7 : (1 : Int) ≤ 2 ^ k := hp
    generalize (2 : Int) ^ k = P at h7 ⊢
    omega
  have h4 : a / 2 ^ k ≤ 2147483647 := by
    have h5 : a / 2 ^ k < 2147483648 := by
      rw [Int.ediv_lt_iff_lt_mul hp]
      have : (1 : Int) ≤ 2 ^ k := hp
      have := Int.mul_le_mul_of_nonneg_left (c := (2147483648 : Int)) this (by decide)
      omega
    omega
  rw [e1]
  exact (am_i32 ⟨h3, h4⟩).symm
theorem am_shr_in {a : Int} (ha : am_inI a) (k : Nat) : am_inI (a / 2 ^ k) := by
  have hp : (0 : Int) < 2 ^ k := Int.pow_pos (by decide)
  have h1 : (1 : Int) ≤ 2 ^ k := hp
  constructor
  · rw [Int.le_ediv_iff_mul_le hp]
    generalize (2 : Int) ^ k = P at h1 ⊢
    omega
  · have h5 : a / 2 ^ k < 2147483648 := by
      rw [Int.ediv_lt_iff_lt_mul hp]
      have := Int.mul_le_mul_of_nonneg_left (c := (2147483648 : Int)) h1 (by decide)
      omega
    omega
theorem am_sl64 : ∀ n : Fin 63, ((nI n.val).toInt64 &&& 63) = lN n.val := by decide
theorem am_sm64 : ∀ n : Fin 63, (BitVec.ofNat 64 n.val).smod 64 = BitVec.ofNat 64 n.val := by decide
theorem am_shl64 {a b : Int} (ha : am_inL (a * 2 ^ b.toNat)) (h0 : 0 ≤ a) (h1 : 0 ≤ b) (h2 : b ≤ 62) : Int64.ofInt a <<< ((Int32.ofInt b).toInt64 &&& 63) = Int64.ofInt (a * 2 ^ b.toNat) := by
  obtain ⟨n, rfl⟩ := Int.eq_ofNat_of_zero_le h0
  obtain ⟨k, rfl⟩ := Int.eq_ofNat_of_zero_le h1
  have hk : k < 63 := by omega
  have e1 : ((n : Int) * 2 ^ (k : Int).toNat) = ((n * 2 ^ k : Nat) : Int) := by simp
  rw [e1] at ha ⊢
  show lN n <<< ((nI k).toInt64 &&& 63) = lN (n * 2 ^ k)
  rw [am_sl64 ⟨k, hk⟩]
  apply Int64.toBitVec_inj.mp
  show (lN n).toBitVec <<< ((lN k).toBitVec.smod 64) = BitVec.ofNat 64 (n * 2 ^ k)
  have e2 : (lN k).toBitVec = BitVec.ofNat 64 k := rfl
  have e3 : (lN n).toBitVec = BitVec.ofNat 64 n := rfl
  rw [e2, e3, am_sm64 ⟨k, hk⟩]
  apply BitVec.eq_of_toNat_eq
  simp [BitVec.toNat_shiftLeft, Nat.shiftLeft_eq, Nat.mod_eq_of_lt (show k < 18446744073709551616 by omega)]
theorem am_lng {a : Int} (ha : am_inI a) : (Int32.ofInt a).toInt64 = Int64.ofInt a := by
  apply Int64.toInt_inj.mp
  rw [Int32.toInt_toInt64, am_i32 ha, am_i64 ⟨by omega, by omega⟩]
theorem am_lcmp_eq {a b : Int} (ha : am_inL a) (hb : am_inL b) : lg_cmp (Int64.ofInt a) (Int64.ofInt b) = Int32.ofInt (am_lcmp a b) := by
  unfold lg_cmp am_lcmp
  have h1 : (Int64.ofInt b < Int64.ofInt a) ↔ b < a := by rw [Int64.lt_iff_toInt_lt, am_i64 ha, am_i64 hb]
  have h2 : (Int64.ofInt a = Int64.ofInt b) ↔ a = b := by rw [← Int64.toInt_inj, am_i64 ha, am_i64 hb]
  simp only [gt_iff_lt, h1, h2]
  rcases Int.lt_trichotomy a b with h | h | h
  · rw [if_neg (by omega), if_neg (by omega), if_pos h]; rfl
  · rw [if_neg (by omega), if_pos h, if_neg (by omega), if_pos h]; rfl
  · rw [if_pos h, if_neg (by omega), if_neg (by omega)]; rfl
theorem am_clamp {x : Int} (h : am_inI x) : (Int32.ofInt x).toNatClampNeg = x.toNat := by
  show (Int32.ofInt x).toInt.toNat = x.toNat
  rw [am_i32 h]
theorem am_vin {x : Int} {n : Nat} (hx : am_inI x) (h0 : 0 ≤ x) (h1 : x < n) : vp_in (Int32.ofInt x) n := by
  rw [vp_in_iff, am_i32 hx]
  exact ⟨h0, h1⟩
end
section
/-! the classes and the cells, checked -/
def am_isR (t : FieldType) : Bool := match t with
  | .object _ => true
  | .array _ => true
  | _ => false
def am_tyf (T : u_T) (k : Nat) : FieldType := (parseFieldDescriptor (T k).2.2.1).getD .int
def am_clck (c : vw_C) : Bool := (List.range c.2.2).all (fun k => (parseFieldDescriptor (c.2.1 k).2.2.1).isSome && decide ((c.2.1 k).1 = c.1) && (List.range c.2.2).all (fun j => k == j || decide ((c.2.1 k).2.1 ≠ (c.2.1 j).2.1)))
theorem am_cl_ck : am_cl.all am_clck = true := by decide +kernel
theorem am_cls {ci : Nat} {c : vw_C} (h : am_cl[ci]? = some c) : (∀ w ∈ u_ws c.1 c.2.1 c.2.2, w ∈ am_TB) ∧ (∀ k, k < c.2.2 → parseFieldDescriptor (c.2.1 k).2.2.1 = some (am_tyf c.2.1 k)) ∧ (∀ a, a < c.2.2 → ∀ b, b < c.2.2 → a ≠ b → (c.2.1 a).2.1 ≠ (c.2.1 b).2.1) ∧ (∀ k, k < c.2.2 → (c.2.1 k).1 = c.1) := by
  have hm := List.mem_of_getElem? h
  refine ⟨fun w hw => ?_, fun k hk => ?_, fun a ha b hb hab => ?_, fun k hk => ?_⟩
  · have h1 := List.all_eq_true.mp am_cl_in c hm
    have h2 := List.all_eq_true.mp h1 w hw
    simp only [Bool.and_eq_true, decide_eq_true_eq] at h2
    exact List.mem_filter.mpr h2
  · have h1 := List.all_eq_true.mp (List.all_eq_true.mp am_cl_ck c hm) k (List.mem_range.mpr hk)
    simp only [Bool.and_eq_true] at h1
    unfold am_tyf
    cases hp : parseFieldDescriptor (c.2.1 k).2.2.1 with
    | none => rw [hp] at h1; exact absurd h1.1.1 (by simp)
    | some t => rfl
  · have h1 := List.all_eq_true.mp (List.all_eq_true.mp am_cl_ck c hm) a (List.mem_range.mpr ha)
    simp only [Bool.and_eq_true] at h1
    have h2 := List.all_eq_true.mp h1.2 b (List.mem_range.mpr hb)
    simp only [Bool.or_eq_true, beq_iff_eq, decide_eq_true_eq] at h2
    exact h2.resolve_left hab
  · have h1 := List.all_eq_true.mp (List.all_eq_true.mp am_cl_ck c hm) k (List.mem_range.mpr hk)
    simp only [Bool.and_eq_true, decide_eq_true_eq] at h1
    exact h1.1.2
theorem am_R_cl : (List.range 12).all (fun i => match am_cl[i]? with | some c => decide (am_R i = c.1) | none => false) = true := by decide +kernel
theorem am_R_of {ci : Nat} {c : vw_C} (h : am_cl[ci]? = some c) : am_R ci = c.1 := by
  have hl : ci < 12 := (List.getElem?_eq_some_iff.mp h).1
  have h1 := List.all_eq_true.mp am_R_cl ci (List.mem_range.mpr hl)
  rw [h] at h1
  simpa using h1
def am_fdck (c : vw_C) (j : Nat) (f : Nat × Nat) : Bool := (f.1 == 0 && decide (am_tyf c.2.1 j = .int) && !(c.2.1 j).2.2.2) || (f.1 == 8 && am_isR (am_tyf c.2.1 j) && (c.2.1 j).2.2.2 && decide (1 ≤ f.2 ∧ f.2 ≤ 93)) || (f.1 == 2 && am_isR (am_tyf c.2.1 j) && !(c.2.1 j).2.2.2)
def am_cellck (k : Nat) : Bool := if (am_cell k).1 = 0 then (match am_cl[(am_cell k).2.1]? with
    | some c => decide ((am_cell k).2.2.length = c.2.2) && (List.range c.2.2).all (fun j => match am_nth (am_cell k).2.2 j with | some f => am_fdck c j f | none => false)
    | none => false) else (decide ((am_cell k).2.1 ≤ 65536) && ((am_cell k).1 == 1 || (am_cell k).1 == 2 || (am_cell k).1 == 3 || (am_cell k).1 == 4 || (am_cell k).1 == 9))
theorem am_cell_ck : (List.range 94).all am_cellck = true := by decide +kernel
theorem am_cell_hi {k : Nat} (h : 93 < k) : am_cell k = (9, 0, []) := by
  unfold am_cell
  rw [if_neg (by omega), if_pos h]
theorem am_cell_k {k : Nat} (h : ¬ (am_cell k).1 = 9) : am_cellck k = true ∧ k ≤ 93 := by
  by_cases hk : 93 < k
  · rw [am_cell_hi hk] at h
    exact absurd rfl h
  · exact ⟨List.all_eq_true.mp am_cell_ck k (List.mem_range.mpr (by omega)), by omega⟩
theorem am_cell_obj {k : Nat} (h : (am_cell k).1 = 0) : ∃ c : vw_C, am_cl[(am_cell k).2.1]? = some c ∧ (am_cell k).2.2.length = c.2.2 ∧ ∀ (j : Nat) (f : Nat × Nat), am_nth (am_cell k).2.2 j = some f → j < c.2.2 ∧ am_fdck c j f = true := by
  have h1 := (am_cell_k (k := k) (by rw [h]; decide)).1
  unfold am_cellck at h1
  rw [if_pos h] at h1
  cases hc : am_cl[(am_cell k).2.1]? with
  | none => rw [hc] at h1; cases h1
  | some c =>
    rw [hc] at h1
    simp only [Bool.and_eq_true, decide_eq_true_eq] at h1
    refine ⟨c, rfl, h1.1, fun j f hf => ?_⟩
    have hj : j < c.2.2 := by
      rw [am_nth_get] at hf
      rw [← h1.1]
      exact (List.getElem?_eq_some_iff.mp hf).1
    have h2 := List.all_eq_true.mp h1.2 j (List.mem_range.mpr hj)
    rw [hf] at h2
    exact ⟨hj, h2⟩
theorem am_cell_arr {k : Nat} (h : ¬ (am_cell k).1 = 0) (h9 : ¬ (am_cell k).1 = 9) : (am_cell k).2.1 ≤ 65536 ∧ ((am_cell k).1 = 1 ∨ (am_cell k).1 = 2 ∨ (am_cell k).1 = 3 ∨ (am_cell k).1 = 4) := by
  have h1 := (am_cell_k h9).1
  unfold am_cellck at h1
  rw [if_neg h] at h1
  simp only [Bool.and_eq_true, decide_eq_true_eq, Bool.or_eq_true, beq_iff_eq] at h1
  refine ⟨h1.1, ?_⟩
  rcases h1.2 with ((((h | h) | h) | h) | h)
  · exact Or.inl h
  · exact Or.inr (Or.inl h)
  · exact Or.inr (Or.inr (Or.inl h))
  · exact Or.inr (Or.inr (Or.inr h))
  · exact absurd h h9
theorem am_find {α : Type} {l : List α} {P : α → Bool} {q : α} (h : l.find? P = some q) : q ∈ l ∧ P q = true := ⟨List.mem_of_find?_eq_some h, List.find?_some h⟩
theorem am_fx_inv {own idx : Nat} (h : ¬ am_fx own idx = 99999) : (∃ q ∈ am_FL, q.1 = own ∧ q.2.1 = idx ∧ am_fx own idx / 64 = q.2.2.1 ∧ am_fx own idx % 64 = q.2.2.2.1 ∧ am_FL.find? (fun q => q.1 == own && q.2.1 == idx) = some q) ∨ (∃ q ∈ am_WL, q.1 = own ∧ q.2.1 = idx ∧ am_fx own idx / 64 = 15 ∧ am_fx own idx % 64 = q.2.2.1) := by
  unfold am_fx at h ⊢
  cases hf : am_FL.find? (fun q => q.1 == own && q.2.1 == idx) with
  | some q =>
    obtain ⟨h1, h2⟩ := am_find hf
    have h3 := List.all_eq_true.mp am_FL_ok q h1
    unfold am_flok at h3
    simp only [Bool.and_eq_true, beq_iff_eq] at h2
    have h4 : q.2.2.2.1 < 64 := by
      simp only [Bool.and_eq_true, decide_eq_true_eq] at h3
      exact h3.1.1.1
    refine Or.inl ⟨q, h1, h2.1, h2.2, ?_, ?_, rfl⟩
    · show (q.2.2.1 * 64 + q.2.2.2.1) / 64 = _
      omega
    · show (q.2.2.1 * 64 + q.2.2.2.1) % 64 = _
      omega
  | none =>
    rw [hf] at h
    dsimp only at h ⊢
    cases hw : am_WL.find? (fun q => q.1 == own && q.2.1 == idx) with
    | none => rw [hw] at h; exact absurd rfl h
    | some q =>
      obtain ⟨h1, h2⟩ := am_find hw
      have h3 := List.all_eq_true.mp am_WL_ok q h1
      unfold am_wlok at h3
      simp only [Bool.and_eq_true, decide_eq_true_eq] at h3
      simp only [Bool.and_eq_true, beq_iff_eq] at h2
      refine Or.inr ⟨q, h1, h2.1, h2.2, ?_, ?_⟩
      · show (960 + q.2.2.1) / 64 = 15
        omega
      · show (960 + q.2.2.1) % 64 = q.2.2.1
        omega
theorem am_fl_plain {q : Nat × Nat × Nat × Nat × Nat × Nat} (h : q ∈ am_FL) {c : vw_C} (hc : am_cl[q.2.2.1]? = some c) (hn : q.2.2.2.2.1 = 0) : Cond.fieldLink (am_R q.1) q.2.1 (c.2.1 q.2.2.2.1).1 (c.2.1 q.2.2.2.1).2.1 (c.2.1 q.2.2.2.1).2.2.1 ∈ am_TB := by
  have h3 := List.all_eq_true.mp am_FL_ok q h
  unfold am_flok am_nest at h3
  simp only [Bool.and_eq_true, decide_eq_true_eq] at h3
  have h4 := h3.2
  rw [hc] at h4
  dsimp only at h4
  rw [if_pos hn] at h4
  exact am_inT h4 rfl
/-- a field's row: the link, plain or through the nest -/
theorem am_fl_link {q : Nat × Nat × Nat × Nat × Nat × Nat} (h : q ∈ am_FL) {c : vw_C} (hc : am_cl[q.2.2.1]? = some c) : (Cond.fieldLink (am_R q.1) q.2.1 (c.2.1 q.2.2.2.1).1 (c.2.1 q.2.2.2.1).2.1 (c.2.1 q.2.2.2.1).2.2.1 ∈ am_TB) ∨ (Cond.fieldLinkNest (am_R q.1) q.2.1 (c.2.1 q.2.2.2.1).1 (c.2.1 q.2.2.2.1).2.1 (c.2.1 q.2.2.2.1).2.2.1 "StonesAlike" ∈ am_NW) := by
  have h3 := List.all_eq_true.mp am_FL_ok q h
  unfold am_flok am_nest at h3
  simp only [Bool.and_eq_true, decide_eq_true_eq] at h3
  have h4 := h3.2
  rw [hc] at h4
  dsimp only at h4
  by_cases hn : q.2.2.2.2.1 = 0
  · rw [if_pos hn] at h4
    exact Or.inl (am_inT h4 rfl)
  · rw [if_neg hn] at h4
    exact Or.inr (List.mem_filter.mpr ⟨List.mem_of_getElem? h4, rfl⟩)
theorem am_acI : Cond.arrayClass .int ∈ am_TB := List.mem_filter.mpr ⟨by decide +kernel, rfl⟩
theorem am_acJ : Cond.arrayClass .long ∈ am_TB := List.mem_filter.mpr ⟨by decide +kernel, rfl⟩
theorem am_acB : Cond.arrayClass .byte ∈ am_TB := List.mem_filter.mpr ⟨by decide +kernel, rfl⟩
theorem am_acZ : Cond.arrayClass .boolean ∈ am_TB := List.mem_filter.mpr ⟨by decide +kernel, rfl⟩
end
section
/-! WHAT STANDS BESIDE THE WORLD, and a frame of the machine over a state of the small one -/
def am_tys (cA : Nat → ClassId) : List (ClassId × FieldType) := [(cA 1, .int), (cA 2, .long), (cA 3, .byte), (cA 4, .boolean)]
def am_Ext (EX : (Nat → Prop) → State → Heap → Prop) : Prop :=
  (∀ (A : Nat → Prop) (u U : State) (H : Heap), u.vm.Alike U.vm → EX A u H → EX A U H) ∧ (∀ (A : Nat → Prop) (U : State) (H H1 : Heap), (∀ a : Nat, a < H.size → ¬ A a → H1[a]? = H[a]?) → EX A U H → EX A U H1) ∧ (∀ (A B : Nat → Prop) (U : State) (H : Heap), (∀ q, B q → A q) → EX A U H → EX B U H)
def am_E (dC : Nat → ClassId) (dI : Nat → Nat → Nat) (cA : Nat → ClassId) (EX : (Nat → Prop) → State → Heap → Prop) (A : Nat → Prop) (U : State) (H : Heap) : Prop :=
  va_K (dC, dI) am_cl (am_tys cA) U ∧ (∀ w ∈ am_NW, va_Nw w U) ∧ EX A U H
theorem am_NW_is {w : Cond} (h : w ∈ am_NW) : (∃ a i b n d q, w = .fieldLinkNest a i b n d q) ∨ (∃ a i x q, w = .methodLinkNest a i x q) := by
  have h2 := (List.mem_filter.mp h).2
  cases w <;> first | exact Or.inl ⟨_, _, _, _, _, _, rfl⟩ | exact Or.inr ⟨_, _, _, _, rfl⟩ | cases h2
theorem am_E.warm {dC : Nat → ClassId} {dI : Nat → Nat → Nat} {cA : Nat → ClassId} {EX : (Nat → Prop) → State → Heap → Prop} {A B : Nat → Prop} {s U : State} {H0 H : Heap} {locs : List Loc} (hx : am_Ext EX) (h : am_E dC dI cA EX A s H0) (hW : s.WarmedH U.vm) (hS : va_S A H0 H locs) (hB : ∀ q, B q → A q) : am_E dC dI cA EX B U H := by
  refine ⟨va_K.moved hW.alike h.1, fun w hw => ?_, hx.2.2 A B U H hB (hx.2.1 A U H0 H hS.2.1 (hx.1 A s U H0 hW.alike h.2.2))⟩
  rcases am_NW_is hw with ⟨a, i, b, n, d, q, rfl⟩ | ⟨a, i, x, q, rfl⟩
  · exact va_Nw.warmF hW (h.2.1 _ hw)
  · exact va_Nw.warmM hW (h.2.1 _ hw)
def am_J (s : State) (dC : Nat → ClassId) (dI : Nat → Nat → Nat) (cA : Nat → ClassId) (fx : Nat → Nat → Nat) (A : Nat → Prop) (nL n0 : Nat) (lim : Int) (bm : Bool) (a0 : Nat → Nat) (cp : am_H → Nat → Nat → Prop) (ad : Nat → Nat) (h : am_H) (ls : List am_V) (lsM : Array Slot) (H : Heap) (locs : List Loc) (cells slots : Nat) : Prop :=
  va_P (dC, dI) am_cl (am_w cA fx ad h) H ∧ va_D A (am_w cA fx ad h) ∧ va_S A s.heap H locs ∧ am_okh h ∧ (bm = true → am_fin h) ∧ (∀ v ∈ ls, am_okv (h 0 0) v) ∧ lv_has lsM nL (am_lv fx ad ls 0) ∧ ls.length = nL ∧ (n0 : Int) ≤ h 0 0 ∧ h 0 0 ≤ lim ∧ cp h cells slots ∧ ∀ k : Nat, (k : Int) ≤ n0 → ad k = a0 k
def am_G (p : Program) (l : Launch) (e : Env) (R : Room) (s : State) (m : MethodId) (args : Array Value) (below : List Frame) (meth : Method) (c : Code) (Q : State → Prop) (dC : Nat → ClassId) (dI : Nat → Nat → Nat) (cA : Nat → ClassId) (fx : Nat → Nat → Nat) (A : Nat → Prop) (nL n0 : Nat) (lim : Int) (bm : Bool) (a0 : Nat → Nat) (cp : am_H → Nat → Nat → Prop) (pc : Nat) (ls st : List am_V) (h : am_H) : Prop :=
  ∀ (ad : Nat → Nat) (lsM : Array Slot) (H : Heap) (locs : List Loc) (cells slots : Nat), am_J s dC dI cA fx A nL n0 lim bm a0 cp ad h ls lsM H locs cells slots → (∀ v ∈ st, am_okv (h 0 0) v) → W p l e R s m args below meth c H locs cells slots Q (F0 m pc lsM (st.map (am_tr fx ad)))
theorem am_lv_at {fx : Nat → Nat → Nat} {ad : Nat → Nat} {lsM : Array Slot} {nL : Nat} {ls : List am_V} {k : Nat} {v : am_V} (h : lv_has lsM nL (am_lv fx ad ls 0)) (hk : ls[k]? = some v) (hv : ¬ v.1 = 9) : lsM[k]? = some (.val (am_tr fx ad v)) := by
  have := h.2.2 (0 + k, am_tr fx ad v) (am_lv_mem.mpr ⟨k, v, hk, hv, rfl⟩)
  simpa using this
theorem am_get_lt {ls : List am_V} {k : Nat} {v : am_V} (h : ls[k]? = some v) : k < ls.length := (List.getElem?_eq_some_iff.mp h).1
theorem am_tr_ad {fx : Nat → Nat → Nat} {ad ad' : Nat → Nat} {n : Int} {v : am_V} (hv : am_okv n v) (h : ∀ k : Nat, (k : Int) ≤ n → ad' k = ad k) : am_tr fx ad' v = am_tr fx ad v := by
  unfold am_tr
  by_cases h2 : v.1 = 2
  · have h3 := hv.2.2.1 h2
    rw [h v.2.toNat (by omega)]
  · simp [h2]
theorem am_trs_ad {fx : Nat → Nat → Nat} {ad ad' : Nat → Nat} {n : Int} {st : List am_V} (hv : ∀ v ∈ st, am_okv n v) (h : ∀ k : Nat, (k : Int) ≤ n → ad' k = ad k) : st.map (am_tr fx ad') = st.map (am_tr fx ad) := by
  apply List.map_congr_left
  intro v hm
  exact am_tr_ad (hv v hm) h
theorem am_lv_ad {fx : Nat → Nat → Nat} {ad ad' : Nat → Nat} {n : Int} (h : ∀ k : Nat, (k : Int) ≤ n → ad' k = ad k) : ∀ {ls : List am_V} {i : Nat}, (∀ v ∈ ls, am_okv n v) → am_lv fx ad' ls i = am_lv fx ad ls i := by
  intro ls
  induction ls with
  | nil => intro i _; rfl
  | cons a r ih =>
    intro i hv
    have h1 := am_tr_ad (fx := fx) (hv a List.mem_cons_self) h
    have h2 := ih (i := i + 1) (fun v hm => hv v (List.mem_cons_of_mem _ hm))
    simp only [am_lv, h1, h2]
theorem am_e_ad {cA : Nat → ClassId} {fx : Nat → Nat → Nat} {ad ad' : Nat → Nat} {h : am_H} {k : Nat} {n : Int} (hc : am_okc n k (h k)) (ha : ∀ k : Nat, (k : Int) ≤ n → ad' k = ad k) : am_e cA fx ad' h k = am_e cA fx ad h k := by
  unfold am_e
  by_cases h0 : (am_cell k).1 = 0
  · rw [if_pos h0, if_pos h0]
    have : am_fs fx ad' h k (am_cell k).2.2 0 = am_fs fx ad h k (am_cell k).2.2 0 := by
      apply List.ext_getElem?
      intro j
      rw [am_fs_get, am_fs_get]
      cases hj : am_nth (am_cell k).2.2 j with
      | none => rfl
      | some f =>
        simp only [Option.map_some, Nat.zero_add]
        rw [am_tr_ad (hc.1 h0 j f hj) ha]
    rw [this]
  · rw [if_neg h0, if_neg h0]
theorem am_w_ad {cA : Nat → ClassId} {fx : Nat → Nat → Nat} {ad ad' : Nat → Nat} {h : am_H} (hc : am_okh h) (ha : ∀ k : Nat, (k : Int) ≤ h 0 0 → ad' k = ad k) : am_w cA fx ad' h = am_w cA fx ad h := by
  unfold am_w
  apply List.map_congr_left
  intro i hi
  have hi2 : i < (h 0 0).toNat := by simpa using hi
  have h1 : ((i + 1 : Nat) : Int) ≤ h 0 0 := by omega
  rw [ha (i + 1) h1, am_e_ad (hc.2.2 (i + 1) (by omega) h1) ha]
/-- how the cells are counted: a store leaves the count; a cell, or a call's cells, must have room -/
def am_Cp (R : Room) (lim : Int) (cp : am_H → Nat → Nat → Prop) : Prop :=
  (∀ (h : am_H) (k j : Nat) (v : Int) (c s : Nat), 1 ≤ k → cp h c s → cp (am_st h k j v) c s) ∧ (∀ (h : am_H) (n c s : Nat), h 0 0 = n → h 0 0 + 1 ≤ lim → cp h c s → c + 1 ≤ R.cells ∧ s + am_csz (n + 1) ≤ R.slots ∧ cp (am_st h 0 0 (n + 1)) (c + 1) (s + am_csz (n + 1))) ∧ (∀ (h h' : am_H) (mc c s : Nat), 0 ≤ h 0 0 → h 0 0 + (mc : Nat) ≤ lim → h' 0 0 = h 0 0 + (mc : Nat) → h' 0 1 = h 0 1 → cp h c s → c + mc ≤ R.cells ∧ s + (am_sz ((h 0 0).toNat + mc) - am_sz (h 0 0).toNat) ≤ R.slots ∧ cp h' (c + mc) (s + (am_sz ((h 0 0).toNat + mc) - am_sz (h 0 0).toNat)))
section AMC
variable {p : Program} {l : Launch} {e : Env} {R : Room} {s : State} {m : MethodId} {args : Array Value} {below : List Frame} {meth : Method} {c : Code} {H : Heap} {locs : List Loc} {cells slots : Nat} {Q : State → Prop}
variable {pc : Nat} {ls : Array Slot} {rest st0 : List Value} {a : Array Value} {A0 A1 : Nat → Prop} {H0 : Heap} {mc ms : Nat} {free : Addr → Prop}
/-- what a call answers and does, in the small machine's words -/
def am_ro (fx : Nat → Nat → Nat) (ad : Nat → Nat) (v : am_V) : Option Value := if v.1 = 9 then none else some (am_tr fx ad v)
def am_rtok (rt : Nat) (v : am_V) : Prop := if rt = 0 then v.1 = 0 else if rt = 1 then v.1 = 1 else if rt = 2 then am_isr v.1 = true else v.1 = 9
def am_Qc (fx : Nat → Nat → Nat) (rt : Nat) (K : am_K) (B : am_H → (Nat → Nat) → State → Prop) (A : Nat → Prop) : Array Value → State → Outcome → State → Prop := fun _ st oc t => (∃ (v : am_V) (h : am_H) (ad : Nat → Nat), oc = .returned (am_ro fx ad v) ∧ am_rtok rt v ∧ am_okv (h 0 0) v ∧ K v h ∧ B h ad t) ∧ va_F A st t
theorem am_callx {fx : Nat → Nat → Nat} {rt : Nat} {K : am_K} {B : am_H → (Nat → Nat) → State → Prop} (hr : va_Run p l e R s m args below meth c H locs cells slots mc ms (F0 m pc ls st0) rest (am_Qc fx rt K B A1 a) free) (hS : va_S A0 H0 H locs) (hA : ∀ q, q < H.size → A1 q → A0 q) (hf : ∀ q, free q → A0 q)
    (kk : ∀ (v : am_V) (h : am_H) (ad : Nat → Nat) (t : State) (H1 : Heap) (locs1 : List Loc), t.heap = H1 → s.vm.Alike t.vm → am_rtok rt v → am_okv (h 0 0) v → K v h → B h ad t → va_S A0 H0 H1 locs1 → W p l e R s m args below meth c H1 locs1 (cells + mc) (slots + ms) Q (F0 m (pc + 3) ls ((am_ro fx ad v).toList ++ rest))) : W p l e R s m args below meth c H locs cells slots Q (F0 m pc ls st0) := by
  intro T hT X
  obtain ⟨v, st₀, t, T', L, h0, X', hL, e1, e2, ⟨⟨w, h, ad, hv, hrt, hok, hk1, hb⟩, hz, hk⟩, st⟩ := hr T hT X
  cases hv
  rw [h0] at hz hk
  obtain ⟨t2, a1, b1⟩ := kk w h ad t T'.heap (locs ++ L) e1.symm (by rw [← e2]; exact X'.warmed.alike) hrt hok hk1 hb
    ⟨Nat.le_trans hS.1 (by rw [e1]; exact hz), fun q h1 h2 => by rw [e1, hk q (Nat.lt_of_lt_of_le h1 hS.1) (fun z => h2 (hA q (Nat.lt_of_lt_of_le h1 hS.1) z))]; exact hS.2.1 q h1 h2, fun q hq => by
      rcases List.mem_append.mp hq with h | h
      · exact hS.2.2 q h
      · exact hf _ (hL q h)⟩ T' rfl X'
  exact ⟨t2, st t2 a1, b1⟩
end AMC
end
section
/-! EVERY INSTRUCTION of the small machine is one of the machine's -/
theorem am_ok0 {n : Int} {x : am_V} {s : List am_V} (h : ∀ v ∈ s, am_okv n v) (hx : am_okv n x) : ∀ v ∈ x :: s, am_okv n v := by
  intro v hv
  rcases List.mem_cons.mp hv with rfl | hv
  · exact hx
  · exact h v hv
theorem am_okt {n : Int} {a : am_V} {s : List am_V} (h : ∀ v ∈ a :: s, am_okv n v) : ∀ v ∈ s, am_okv n v := fun v hv => h v (List.mem_cons_of_mem _ hv)
theorem am_okd {n : Int} {a : am_V} {s : List am_V} (h : ∀ v ∈ a :: s, am_okv n v) : am_okv n a := h a List.mem_cons_self
section AMS
variable {p : Program} {l : Launch} {e : Env} {R : Room} {s : State} {m : MethodId} {args : Array Value} {below : List Frame} {meth : Method} {c : Code} {Q : State → Prop}
variable {dC : Nat → ClassId} {dI : Nat → Nat → Nat} {cA : Nat → ClassId} {fx : Nat → Nat → Nat} {A : Nat → Prop} {nL n0 : Nat} {lim : Int} {a0 : Nat → Nat} {cp : am_H → Nat → Nat → Prop} {bm ini : Bool} {bz : Nat} {own : Nat} {b : ByteArray} {EX : (Nat → Prop) → State → Heap → Prop} {L : Nat} {xs : Nat → Int}
theorem am_J.loc {ad : Nat → Nat} {h : am_H} {ls ls' : List am_V} {lsM lsM' : Array Slot} {H : Heap} {locs : List Loc} {cells slots : Nat} (hJ : am_J s dC dI cA fx A nL n0 lim bm a0 cp ad h ls lsM H locs cells slots) (h1 : ∀ v ∈ ls', am_okv (h 0 0) v) (h2 : lv_has lsM' nL (am_lv fx ad ls' 0)) (h3 : ls'.length = nL) : am_J s dC dI cA fx A nL n0 lim bm a0 cp ad h ls' lsM' H locs cells slots := by
  obtain ⟨a1, a2, a3, a4, a5, a6, a7, a8, a9, a10, a11, a13⟩ := hJ
  exact ⟨a1, a2, a3, a4, a5, h1, h2, h3, a9, a10, a11, a13⟩
/-- what a method's walk stands on -/
def am_Cx (p : Program) (R : Room) (s : State) (m : MethodId) (args : Array Value) (meth : Method) (c : Code) (dC : Nat → ClassId) (dI : Nat → Nat → Nat) (cA : Nat → ClassId) (fx : Nat → Nat → Nat) (A : Nat → Prop) (nL n0 : Nat) (lim : Int) (cp : am_H → Nat → Nat → Prop) (ini : Bool) (own : Nat) (b : ByteArray) (EX : (Nat → Prop) → State → Heap → Prop) (L : Nat) (xs : Nat → Int) : Prop :=
  p.tables.exec = Jvm.exec ∧ c.code = b ∧ c.maxLocals = nL ∧ s.vm.findClass (am_R own) = some m.cls ∧ (∀ w ∈ am_TB, w.before args s = true) ∧ am_E dC dI cA EX A s s.heap ∧ am_Ext EX ∧ (∀ q, s.heap.size ≤ q → A q) ∧ (ini = true → meth.name = "<init>") ∧ (1 ≤ R.frames ∧ 20 ≤ R.locals) ∧ am_Cp R lim cp ∧ (∀ (A : Nat → Prop) (U : State) (H : Heap), EX A U H → ∀ i j : Nat, i < 12 → j < 4 → va_OF RX9 (["role", "slot", "low", "high"].getD j "") "I" (.int (Int32.ofInt (am_word i j))) (fx 4 i) A U H) ∧ (∀ (A : Nat → Prop) (U : State) (H : Heap), EX A U H → va_X (fx 7 0) L (fun j => Int32.ofInt (xs j)) U H ∧ ¬ A (fx 7 0)) ∧ L ≤ 3072 ∧ (∀ j, am_inI (xs j))
theorem am_okh_st {h : am_H} {k j : Nat} {v : Int} (hh : am_okh h) (hk : 1 ≤ k) (hc : am_okc (h 0 0) k (am_st h k j v k)) : am_okh (am_st h k j v) := by
  have h0 : am_st h k j v 0 0 = h 0 0 := am_st_nc (by omega)
  refine ⟨by rw [h0]; exact hh.1, by rw [h0]; exact hh.2.1, fun k' h1 h2 => ?_⟩
  rw [h0] at h2 ⊢
  by_cases hkk : k' = k
  · subst hkk; exact hc
  · have : am_st h k j v k' = h k' := by funext q; exact am_st_nc hkk
    rw [this]
    exact hh.2.2 k' h1 h2
theorem am_fin_st {h : am_H} {k j : Nat} {v : Int} (hf : am_fin h) (hn : ∀ f, (am_cell k).1 = 0 → am_nth (am_cell k).2.2 j = some f → ¬ f.1 = 8) : am_fin (am_st h k j v) := by
  intro k' j' f h1 h2 h3 h4
  rw [am_st_ne]
  · exact hf k' j' f h1 h2 h3 h4
  · rintro ⟨rfl, rfl⟩
    exact hn f h2 h3 h4
theorem am_J.mem {ad : Nat → Nat} {h : am_H} {ls : List am_V} {lsM : Array Slot} {H H1 : Heap} {locs locs1 : List Loc} {cells slots k j : Nat} {v : Int} (hcpR : am_Cp R lim cp) (hJ : am_J s dC dI cA fx A nL n0 lim bm a0 cp ad h ls lsM H locs cells slots) (hk : 1 ≤ k) (hP : va_P (dC, dI) am_cl (am_w cA fx ad (am_st h k j v)) H1) (hD : va_D A (am_w cA fx ad (am_st h k j v))) (hS : va_S A s.heap H1 locs1) (hc : am_okc (h 0 0) k (am_st h k j v k)) (hf : bm = true → am_fin (am_st h k j v)) : am_J s dC dI cA fx A nL n0 lim bm a0 cp ad (am_st h k j v) ls lsM H1 locs1 cells slots := by
  obtain ⟨a1, a2, a3, a4, a5, a6, a7, a8, a9, a10, a11, a13⟩ := hJ
  have h0 : am_st h k j v 0 0 = h 0 0 := am_st_nc (by omega)
  refine ⟨hP, hD, hS, am_okh_st a4 hk hc, hf, ?_, a7, a8, ?_, ?_, hcpR.1 _ _ _ _ _ _ hk a11, a13⟩
  · rw [h0]; exact a6
  · rw [h0]; exact a9
  · rw [h0]; exact a10
theorem am_s_get (X : am_Cx p R s m args meth c dC dI cA fx A nL n0 lim cp ini own b EX L xs) {pc idx : Nat} (hd : decode b pc = .ok (.getfield idx, 3)) (hf : ¬ am_fx own idx = 99999) {o : Int} {s' : List am_V} {h : am_H} {ls : List am_V} {K : am_V → Prop} (hg : am_get bm (am_fx own idx / 64) o (am_fx own idx % 64) h K)
    (hk : ∀ w, K w → am_G p l e R s m args below meth c Q dC dI cA fx A nL n0 lim bm a0 cp (pc + 3) ls (w :: s') h) : am_G p l e R s m args below meth c Q dC dI cA fx A nL n0 lim bm a0 cp pc ls ((2, o) :: s') h := by
  intro ad lsM H locs cells slots hJ hst
  obtain ⟨hx, hb, hml, hown, hts, hE, hExt, hA, hini, hrm, hroom, hw, hsx, hL, hxs⟩ := X
  obtain ⟨hP, hD, hS, hok, hfin, hls, hlv, hlen, hn0, hlim, hcp, had⟩ := id hJ
  unfold am_get at hg
  by_cases hc : (am_cell o.toNat).1 = 0 ∧ (am_cell o.toNat).2.1 = am_fx own idx / 64 ∧ 0 < o
  · rw [if_pos hc] at hg
    obtain ⟨hc0, hci, ho⟩ := hc
    obtain ⟨⟨CN, CT, CM⟩, hcl, hlen2, hfd⟩ := am_cell_obj hc0
    cases hn : am_nth (am_cell o.toNat).2.2 (am_fx own idx % 64) with
    | none => rw [hn] at hg; exact hg.elim
    | some f =>
      rw [hn] at hg
      dsimp only at hg
      obtain ⟨hj, hck⟩ := hfd _ _ hn
      have hov := (am_okd hst).2.2.1 rfl
      have hwg := am_w_get cA fx ad h (k := o.toNat) (by omega) (by omega)
      have he : am_e cA fx ad h o.toNat = .inr ((am_cell o.toNat).2.1, am_fs fx ad h o.toNat (am_cell o.toNat).2.2 0) := by unfold am_e; rw [if_pos hc0]
      rw [he] at hwg
      have hvv : (am_fs fx ad h o.toNat (am_cell o.toNat).2.2 0)[am_fx own idx % 64]? = some (am_tr fx ad (if f.1 = 8 then 2 else f.1, h o.toNat (am_fx own idx % 64))) := by rw [am_fs_get, hn]; simp
      have hokv := (hok.2.2 o.toNat (by omega) (by omega)).1 hc0 _ _ hn
      have hW : W p l e R s m args below meth c H locs cells slots Q (F0 m (pc + 3) lsM (am_tr fx ad (if f.1 = 8 then 2 else f.1, h o.toNat (am_fx own idx % 64)) :: s'.map (am_tr fx ad))) := by
        by_cases h8 : f.1 = 8
        · rw [if_pos h8] at hg
          have hh : h o.toNat (am_fx own idx % 64) = f.2 ∧ K (2, f.2) := by
            by_cases hbm : bm = true
            · rw [if_pos hbm] at hg
              exact ⟨hfin hbm o.toNat _ f (by omega) hc0 hn h8, hg⟩
            · rw [if_neg hbm] at hg
              exact hg
          rw [if_pos h8] at hokv ⊢
          rw [hh.1] at hokv ⊢
          exact hk _ hh.2 ad lsM H locs cells slots hJ (am_ok0 (am_okt hst) hokv)
        · rw [if_neg h8] at hg hokv ⊢
          exact hk _ hg ad lsM H locs cells slots hJ (am_ok0 (am_okt hst) hokv)
      show W p l e R s m args below meth c H locs cells slots Q (F0 m pc lsM (am_tr fx ad (2, o) :: s'.map (am_tr fx ad)))
      rw [am_tr_2 fx ad ho]
      rcases am_fx_inv hf with ⟨q, hq, h1, h2, h3, h4, h6⟩ | ⟨q, hq, h1, h2, h3, h4⟩
      · have hcq : am_cl[q.2.2.1]? = some (CN, CT, CM) := by rw [← h3, ← hci]; exact hcl
        rcases am_fl_link hq hcq with hl | hl
        · rw [h1, h2, ← h4] at hl
          exact va_get (D := (dC, dI)) hx hb hts (am_cls hcl).1 hown hE.1 hP (o.toNat - 1) hwg hcl (am_fx own idx % 64) hj (hts _ hl) (fun x hx => hx) hvv hd hW
        · rw [h1, h2, ← h4] at hl
          exact va_getN (D := (dC, dI)) hx hb hts (am_cls hcl).1 hown hE.1 hP (o.toNat - 1) hwg hcl (am_fx own idx % 64) hj (va_Nw.use rfl (hE.2.1 _ hl)) (fun x hx => hx) hvv hd hW
      · rw [← hci] at h3
        rw [h3] at hcl
        cases hcl
  · rw [if_neg hc] at hg
    exact hg.elim
theorem am_s_getw (X : am_Cx p R s m args meth c dC dI cA fx A nL n0 lim cp ini own b EX L xs) {pc idx : Nat} (hd : decode b pc = .ok (.getfield idx, 3)) (hf : ¬ am_fx own idx = 99999) (h15 : am_fx own idx / 64 = 15) {o : Int} {s' : List am_V} {h : am_H} {ls : List am_V}
    (hk : am_G p l e R s m args below meth c Q dC dI cA fx A nL n0 lim bm a0 cp (pc + 3) ls ((0, am_word o.toNat (am_fx own idx % 64)) :: s') h) : am_G p l e R s m args below meth c Q dC dI cA fx A nL n0 lim bm a0 cp pc ls ((4, o) :: s') h := by
  intro ad lsM H locs cells slots hJ hst
  obtain ⟨hx, hb, hml, hown, hts, hE, hExt, hA, hini, hrm, hroom, hw, hsx, hL, hxs⟩ := X
  obtain ⟨hP, hD, hS, hok, hfin, hls, hlv, hlen, hn0, hlim, hcp, had⟩ := id hJ
  have hov := (am_okd hst).2.2.2.1 rfl
  rcases am_fx_inv hf with ⟨q, hq, h1, h2, h3, h4, h6⟩ | ⟨q, hq, h1, h2, h3, h4⟩
  · exfalso
    have h5 := List.all_eq_true.mp am_FL_ok q hq
    unfold am_flok at h5
    simp only [Bool.and_eq_true] at h5
    rw [h15] at h3
    rw [← h3] at h5
    rw [show am_cl[15]? = none from rfl] at h5
    exact absurd h5.1.1.2 (by simp)
  · have h5 := List.all_eq_true.mp am_WL_ok q hq
    unfold am_wlok at h5
    simp only [Bool.and_eq_true, decide_eq_true_eq] at h5
    have hl : Cond.fieldLinkNest (am_R q.1) q.2.1 RX9 (["role", "slot", "low", "high"].getD q.2.2.1 "") "I" "StonesAlike" ∈ am_NW := List.mem_filter.mpr ⟨List.mem_of_getElem? h5.2, rfl⟩
    rw [h1, h2, ← h4] at hl
    obtain ⟨cf, k, fi, f, cell, g1, g2, g3, g4, g5, g6⟩ := (hw A s s.heap hE.2.2 o.toNat (am_fx own idx % 64) (by omega) (by rw [h4]; exact h5.1)).kept hS.2.1
    have hrg : am_inI (am_word o.toNat (am_fx own idx % 64)) := by
      have hh : ∀ i : Fin 12, ∀ j : Fin 4, am_inI (am_word i.val j.val) := by decide
      exact hh ⟨o.toNat, by omega⟩ ⟨am_fx own idx % 64, by rw [h4]; exact h5.1⟩
    show W p l e R s m args below meth c H locs cells slots Q (F0 m pc lsM (.ref (fx 4 o.toNat) :: s'.map (am_tr fx ad)))
    exact va_Wgetf hx hb hown (va_Nw.use rfl (hE.2.1 _ hl)) g1 g2 g3 g4 g5 rfl rfl hd (hk ad lsM H locs cells slots hJ (am_ok0 (am_okt hst) (am_okv_0 hrg)))
theorem am_okc_fd {n : Int} {k j : Nat} {h : am_H} {v : Int} {f : Nat × Nat} (h0 : (am_cell k).1 = 0) (hc : am_okc n k (h k)) (hf : am_nth (am_cell k).2.2 j = some f) (hv : am_okv n (if f.1 = 8 then 2 else f.1, v)) : am_okc n k (am_st h k j v k) := by
  refine ⟨fun _ j' f' hf' => ?_, fun q => ?_, fun q => ?_, fun q => ?_, fun q => ?_⟩
  · by_cases hj : j' = j
    · subst hj
      rw [am_st_eq]
      cases hf.symm.trans hf'
      exact hv
    · rw [am_st_ne (fun q => hj q.2)]
      exact hc.1 h0 j' f' hf'
  · rw [h0] at q; cases q
  · rw [h0] at q; cases q
  · rw [h0] at q; cases q
  · rw [h0] at q; cases q
theorem am_fit_r {t : FieldType} (ht : am_isR t = true) {v : Value} (hv : v = .null ∨ ∃ a, v = .ref a) : narrow t v = v ∧ fits t v = true := by
  rcases hv with rfl | ⟨a, rfl⟩ <;> cases t <;> first | exact ⟨rfl, rfl⟩ | cases ht
theorem am_s_put (X : am_Cx p R s m args meth c dC dI cA fx A nL n0 lim cp ini own b EX L xs) {pc idx : Nat} (hd : decode b pc = .ok (.putfield idx, 3)) (hf : ¬ am_fx own idx = 99999) (hfw : am_fw own idx = true) {o : Int} {v : am_V} {s' : List am_V} {h : am_H} {ls : List am_V} {K : am_H → Prop} (hg : am_put bm ini (am_fx own idx / 64) o (am_fx own idx % 64) v h K)
    (hk : ∀ h', K h' → am_G p l e R s m args below meth c Q dC dI cA fx A nL n0 lim bm a0 cp (pc + 3) ls s' h') : am_G p l e R s m args below meth c Q dC dI cA fx A nL n0 lim bm a0 cp pc ls (v :: (2, o) :: s') h := by
  intro ad lsM H locs cells slots hJ hst
  obtain ⟨hx, hb, hml, hown, hts, hE, hExt, hA, hini, hrm, hroom, hw, hsx, hL, hxs⟩ := X
  obtain ⟨hP, hD, hS, hok, hfin, hls, hlv, hlen, hn0, hlim, hcp, had⟩ := id hJ
  unfold am_put at hg
  by_cases hc : (am_cell o.toNat).1 = 0 ∧ (am_cell o.toNat).2.1 = am_fx own idx / 64 ∧ 0 < o
  · rw [if_pos hc] at hg
    obtain ⟨hc0, hci, ho⟩ := hc
    obtain ⟨⟨CN, CT, CM⟩, hcl, hlen2, hfd⟩ := am_cell_obj hc0
    cases hn : am_nth (am_cell o.toNat).2.2 (am_fx own idx % 64) with
    | none => rw [hn] at hg; exact hg.elim
    | some f =>
      rw [hn] at hg
      dsimp only at hg
      obtain ⟨hj, hck⟩ := hfd _ _ hn
      have hov := (am_okd (am_okt hst)).2.2.1 rfl
      have hvk := am_okd hst
      have hwg := am_w_get cA fx ad h (k := o.toNat) (by omega) (by omega)
      have he : am_e cA fx ad h o.toNat = .inr ((am_cell o.toNat).2.1, am_fs fx ad h o.toNat (am_cell o.toNat).2.2 0) := by unfold am_e; rw [if_pos hc0]
      rw [he] at hwg
      have hK : K (am_st h o.toNat (am_fx own idx % 64) v.2) ∧ v.1 = (if f.1 = 8 then 2 else f.1) ∧ (f.1 = 8 → ¬ bm = true ∧ ini = true) := by
        by_cases h8 : f.1 = 8
        · rw [if_pos h8] at hg ⊢
          by_cases hbm : bm = true ∨ ini = false
          · rw [if_pos hbm] at hg; exact hg.elim
          · rw [if_neg hbm] at hg
            by_cases hv2 : v.1 = 2
            · rw [if_pos hv2] at hg; exact ⟨hg, hv2, fun _ => ⟨fun q => hbm (Or.inl q), by cases hi : ini with | true => rfl | false => exact absurd (Or.inr hi) hbm⟩⟩
            · rw [if_neg hv2] at hg; exact hg.elim
        · rw [if_neg h8] at hg ⊢
          by_cases hv2 : v.1 = f.1
          · rw [if_pos hv2] at hg; exact ⟨hg, hv2, fun q => absurd q h8⟩
          · rw [if_neg hv2] at hg; exact hg.elim
      have hve : v = (if f.1 = 8 then 2 else f.1, v.2) := by rw [← hK.2.1]
      have hokc : am_okc (h 0 0) o.toNat (am_st h o.toNat (am_fx own idx % 64) v.2 o.toNat) := am_okc_fd hc0 (hok.2.2 o.toNat (by omega) (by omega)) hn (by rw [← hve]; exact hvk)
      have hset : (am_w cA fx ad h).set (o.toNat - 1) (ad o.toNat, .inr ((am_cell o.toNat).2.1, (am_fs fx ad h o.toNat (am_cell o.toNat).2.2 0).set (am_fx own idx % 64) (am_tr fx ad v))) = am_w cA fx ad (am_st h o.toNat (am_fx own idx % 64) v.2) := by
        refine am_w_set (by omega) ?_
        unfold am_e
        rw [if_pos hc0, ← am_fs_set fx ad h o.toNat (am_cell o.toNat).2.2 hn v.2, ← hve]
      have hfin2 : bm = true → am_fin (am_st h o.toNat (am_fx own idx % 64) v.2) := fun hbm => am_fin_st (hfin hbm) (fun f' _ hf' h8 => by
        cases hn.symm.trans hf'
        exact (hK.2.2 h8).1 hbm)
      have kk : ∀ (H1 : Heap) (locs1 : List Loc), va_P (dC, dI) am_cl ((am_w cA fx ad h).set (o.toNat - 1) (ad o.toNat, .inr ((am_cell o.toNat).2.1, (am_fs fx ad h o.toNat (am_cell o.toNat).2.2 0).set (am_fx own idx % 64) (am_tr fx ad v)))) H1 → va_D A ((am_w cA fx ad h).set (o.toNat - 1) (ad o.toNat, .inr ((am_cell o.toNat).2.1, (am_fs fx ad h o.toNat (am_cell o.toNat).2.2 0).set (am_fx own idx % 64) (am_tr fx ad v)))) → va_S A s.heap H1 locs1 → W p l e R s m args below meth c H1 locs1 cells slots Q (F0 m (pc + 3) lsM (s'.map (am_tr fx ad))) := by
        intro H1 locs1 q1 q2 q3
        rw [hset] at q1 q2
        have h0 : am_st h o.toNat (am_fx own idx % 64) v.2 0 0 = h 0 0 := am_st_nc (by omega)
        exact hk _ hK.1 ad lsM H1 locs1 cells slots (am_J.mem hroom hJ (by omega) q1 q2 q3 hokc hfin2) (by rw [h0]; exact am_okt (am_okt hst))
      have hty : (narrow (am_tyf CT (am_fx own idx % 64)) (am_tr fx ad v) = am_tr fx ad v ∧ fits (am_tyf CT (am_fx own idx % 64)) (am_tr fx ad v) = true) ∧ (CT (am_fx own idx % 64)).2.2.2 = (f.1 == 8) := by
        unfold am_fdck at hck
        simp only [Bool.or_eq_true, Bool.and_eq_true, beq_iff_eq, decide_eq_true_eq, Bool.not_eq_true'] at hck
        rcases hck with (⟨⟨g1, g2⟩, g3⟩ | ⟨⟨⟨g1, g2⟩, g3⟩, g4⟩) | ⟨⟨g1, g2⟩, g3⟩
        · have hv0 : am_tr fx ad v = .int (Int32.ofInt v.2) := by rw [hve, if_neg (by rw [g1]; decide), g1]; rfl
          rw [g2, hv0, g3, g1]
          exact ⟨⟨rfl, rfl⟩, rfl⟩
        · have hv0 := am_tr_r fx ad (v := v) (by rw [hK.2.1, if_pos g1]; rfl)
          exact ⟨am_fit_r g2 hv0, by rw [g3, g1]; rfl⟩
        · have hv0 := am_tr_r fx ad (v := v) (by rw [hK.2.1, if_neg (by rw [g1]; decide), g1]; rfl)
          exact ⟨am_fit_r g2 hv0, by rw [g3, g1]; rfl⟩
      show W p l e R s m args below meth c H locs cells slots Q (F0 m pc lsM (am_tr fx ad v :: am_tr fx ad (2, o) :: s'.map (am_tr fx ad)))
      rw [am_tr_2 fx ad ho]
      rcases am_fx_inv hf with ⟨q, hq, h1, h2, h3, h4, h6⟩ | ⟨q, hq, h1, h2, h3, h4⟩
      · have hcq : am_cl[q.2.2.1]? = some (CN, CT, CM) := by rw [← h3, ← hci]; exact hcl
        have hll : am_fx own idx % 64 < (am_fs fx ad h o.toNat (am_cell o.toNat).2.2 0).length := by rw [am_fs_len, hlen2]; exact hj
        by_cases h8 : f.1 = 8
        · have hff : (CT (am_fx own idx % 64)).2.2.2 = true := by rw [hty.2]; simp [h8]
          unfold am_fw at hfw
          rw [h6] at hfw
          dsimp only at hfw
          rw [hcq] at hfw
          dsimp only at hfw
          rw [← h4, hff] at hfw
          simp only [Bool.not_true, Bool.false_or, Bool.and_eq_true, beq_iff_eq] at hfw
          have hl := am_fl_plain hq hcq hfw.1
          rw [h1, h2, ← h4] at hl
          have hdecl : (CT (am_fx own idx % 64)).1 = am_R own := by
            rw [(am_cls hcl).2.2.2 _ hj, ← am_R_of hcq, hfw.2]
          exact va_putF (D := (dC, dI)) hx hb hts (am_cls hcl).1 (am_tyf CT) (am_cls hcl).2.1 (am_cls hcl).2.2.1 hown hE.1 hP hD hS (o.toNat - 1) hwg hcl (am_fx own idx % 64) hj (hts _ hl) (fun x hx => hx) hff (hini (hK.2.2 h8).2) hdecl ((am_cls hcl).2.1 _ hj) hty.1.1 hty.1.2 hll hd kk
        · have hnf : (CT (am_fx own idx % 64)).2.2.2 = false := by rw [hty.2]; simp [h8]
          rcases am_fl_link hq hcq with hl | hl
          · rw [h1, h2, ← h4] at hl
            exact va_put (D := (dC, dI)) hx hb hts (am_cls hcl).1 (am_tyf CT) (am_cls hcl).2.1 (am_cls hcl).2.2.1 hown hE.1 hP hD hS (o.toNat - 1) hwg hcl (am_fx own idx % 64) hj (hts _ hl) (fun x hx => hx) hnf ((am_cls hcl).2.1 _ hj) hty.1.1 hty.1.2 hll hd kk
          · rw [h1, h2, ← h4] at hl
            exact va_putN (D := (dC, dI)) hx hb hts (am_cls hcl).1 (am_tyf CT) (am_cls hcl).2.1 (am_cls hcl).2.2.1 hown hE.1 hP hD hS (o.toNat - 1) hwg hcl (am_fx own idx % 64) hj (va_Nw.use rfl (hE.2.1 _ hl)) (fun x hx => hx) hnf ((am_cls hcl).2.1 _ hj) hty.1.1 hty.1.2 hll hd kk
      · rw [← hci] at h3
        rw [h3] at hcl
        cases hcl
  · rw [if_neg hc] at hg
    exact hg.elim
end AMS
end
section
/-! arrays, and cells that are made -/
section AMS2
variable {p : Program} {l : Launch} {e : Env} {R : Room} {s : State} {m : MethodId} {args : Array Value} {below : List Frame} {meth : Method} {c : Code} {Q : State → Prop}
variable {dC : Nat → ClassId} {dI : Nat → Nat → Nat} {cA : Nat → ClassId} {fx : Nat → Nat → Nat} {A : Nat → Prop} {nL n0 : Nat} {lim : Int} {a0 : Nat → Nat} {cp : am_H → Nat → Nat → Prop} {bm ini : Bool} {bz : Nat} {own : Nat} {b : ByteArray} {EX : (Nat → Prop) → State → Heap → Prop} {L : Nat} {xs : Nat → Int}
theorem am_e_arr {cA : Nat → ClassId} {fx : Nat → Nat → Nat} {ad : Nat → Nat} {h : am_H} {k t : Nat} (hk : (am_cell k).1 = t) (h0 : ¬ t = 0) (h2 : ¬ t = 2) : am_e cA fx ad h k = .inl (cA t, ((am_cell k).2.1, .inl (fun j => Int32.ofInt (h k j)))) := by
  unfold am_e
  rw [hk, if_neg h0, if_neg h2]
theorem am_e_lng {cA : Nat → ClassId} {fx : Nat → Nat → Nat} {ad : Nat → Nat} {h : am_H} {k : Nat} (hk : (am_cell k).1 = 2) : am_e cA fx ad h k = .inl (cA 2, ((am_cell k).2.1, .inr (.inl (fun j => Int64.ofInt (h k j))))) := by
  unfold am_e
  rw [hk, if_neg (by decide), if_pos rfl]
theorem am_upd32 (h : am_H) (k i : Nat) (x : Int) : (fun j => Int32.ofInt (am_st h k i x k j)) = upd (fun j => Int32.ofInt (h k j)) i (Int32.ofInt x) := by
  funext j
  by_cases hj : j = i
  · subst hj; simp [am_st, upd]
  · simp [am_st, upd, hj]
theorem am_upd64 (h : am_H) (k i : Nat) (x : Int) : (fun j => Int64.ofInt (am_st h k i x k j)) = vp_updL (fun j => Int64.ofInt (h k j)) i (Int64.ofInt x) := by
  funext j
  by_cases hj : j = i
  · subst hj; simp [am_st, vp_updL]
  · simp [am_st, vp_updL, hj]
theorem am_okc_arr {n : Int} {k i : Nat} {h : am_H} {x : Int} (h0 : ¬ (am_cell k).1 = 0) (hc : am_okc n k (h k)) (h1 : (am_cell k).1 = 1 → am_inI x) (h2 : (am_cell k).1 = 2 → am_inL x) (h3 : (am_cell k).1 = 3 → -128 ≤ x ∧ x ≤ 127) (h4 : (am_cell k).1 = 4 → 0 ≤ x ∧ x ≤ 1) : am_okc n k (am_st h k i x k) := by
  refine ⟨fun q => absurd q h0, fun q j => ?_, fun q j => ?_, fun q j => ?_, fun q j => ?_⟩
  · by_cases hj : j = i
    · subst hj; rw [am_st_eq]; exact h1 q
    · rw [am_st_ne (fun z => hj z.2)]; exact hc.2.1 q j
  · by_cases hj : j = i
    · subst hj; rw [am_st_eq]; exact h2 q
    · rw [am_st_ne (fun z => hj z.2)]; exact hc.2.2.1 q j
  · by_cases hj : j = i
    · subst hj; rw [am_st_eq]; exact h3 q
    · rw [am_st_ne (fun z => hj z.2)]; exact hc.2.2.2.1 q j
  · by_cases hj : j = i
    · subst hj; rw [am_st_eq]; exact h4 q
    · rw [am_st_ne (fun z => hj z.2)]; exact hc.2.2.2.2 q j
theorem am_nb {x : Int} (h : -128 ≤ x ∧ x ≤ 127) : vp_nar .byte (Int32.ofInt x) = Int32.ofInt x := by
  have hh : ∀ n : Fin 256, vp_nar .byte (Int32.ofInt ((n.val : Int) - 128)) = Int32.ofInt ((n.val : Int) - 128) := by decide +kernel
  have := hh ⟨(x + 128).toNat, by omega⟩
  rw [show (((x + 128).toNat : Nat) : Int) - 128 = x by omega] at this
  exact this
theorem am_nz {x : Int} (h : 0 ≤ x ∧ x ≤ 1) : vp_nar .boolean (Int32.ofInt x) = Int32.ofInt x := by
  rcases (show x = 0 ∨ x = 1 by omega) with rfl | rfl <;> rfl
theorem am_s_iald (X : am_Cx p R s m args meth c dC dI cA fx A nL n0 lim cp ini own b EX L xs) {pc : Nat} (hd : decode b pc = .ok (.iaload, 1)) {i a : Int} {s' : List am_V} {h : am_H} {ls : List am_V} (hkd : (am_cell a.toNat).1 = 1) (ha0 : 0 < a) (hi : 0 ≤ i ∧ i < ((am_cell a.toNat).2.1 : Nat))
    (hk : am_G p l e R s m args below meth c Q dC dI cA fx A nL n0 lim bm a0 cp (pc + 1) ls ((0, h a.toNat i.toNat) :: s') h) : am_G p l e R s m args below meth c Q dC dI cA fx A nL n0 lim bm a0 cp pc ls ((0, i) :: (2, a) :: s') h := by
  intro ad lsM H locs cells slots hJ hst
  obtain ⟨hx, hb, hml, hown, hts, hE, hExt, hA, hini, hrm, hroom, hw, hsx, hL, hxs⟩ := X
  obtain ⟨hP, hD, hS, hok, hfin, hls, hlv, hlen, hn0, hlim, hcp, had⟩ := id hJ
  have hov := (am_okd (am_okt hst)).2.2.1 rfl
  have hiv := (am_okd hst).1 rfl
  have hwg := am_w_get cA fx ad h (k := a.toNat) (by omega) (by omega)
  rw [am_e_arr hkd (by decide) (by decide)] at hwg
  show W p l e R s m args below meth c H locs cells slots Q (F0 m pc lsM (.int (Int32.ofInt i) :: am_tr fx ad (2, a) :: s'.map (am_tr fx ad)))
  rw [am_tr_2 fx ad ha0]
  refine va_iald hx hb hE.1 hP (a.toNat - 1) 0 hwg rfl (am_vin hiv hi.1 hi.2) hd ?_
  rw [am_clamp hiv]
  exact hk ad lsM H locs cells slots hJ (am_ok0 (am_okt (am_okt hst)) (am_okv_0 ((hok.2.2 a.toNat (by omega) (by omega)).2.1 hkd i.toNat)))
theorem am_s_lald (X : am_Cx p R s m args meth c dC dI cA fx A nL n0 lim cp ini own b EX L xs) {pc : Nat} (hd : decode b pc = .ok (.laload, 1)) {i a : Int} {s' : List am_V} {h : am_H} {ls : List am_V} (hkd : (am_cell a.toNat).1 = 2) (ha0 : 0 < a) (hi : 0 ≤ i ∧ i < ((am_cell a.toNat).2.1 : Nat))
    (hk : am_G p l e R s m args below meth c Q dC dI cA fx A nL n0 lim bm a0 cp (pc + 1) ls ((1, h a.toNat i.toNat) :: s') h) : am_G p l e R s m args below meth c Q dC dI cA fx A nL n0 lim bm a0 cp pc ls ((0, i) :: (2, a) :: s') h := by
  intro ad lsM H locs cells slots hJ hst
  obtain ⟨hx, hb, hml, hown, hts, hE, hExt, hA, hini, hrm, hroom, hw, hsx, hL, hxs⟩ := X
  obtain ⟨hP, hD, hS, hok, hfin, hls, hlv, hlen, hn0, hlim, hcp, had⟩ := id hJ
  have hov := (am_okd (am_okt hst)).2.2.1 rfl
  have hiv := (am_okd hst).1 rfl
  have hwg := am_w_get cA fx ad h (k := a.toNat) (by omega) (by omega)
  rw [am_e_lng hkd] at hwg
  show W p l e R s m args below meth c H locs cells slots Q (F0 m pc lsM (.int (Int32.ofInt i) :: am_tr fx ad (2, a) :: s'.map (am_tr fx ad)))
  rw [am_tr_2 fx ad ha0]
  refine va_lald hx hb hE.1 hP (a.toNat - 1) 1 hwg rfl (am_vin hiv hi.1 hi.2) hd ?_
  rw [am_clamp hiv]
  exact hk ad lsM H locs cells slots hJ (am_ok0 (am_okt (am_okt hst)) (am_okv_1 ((hok.2.2 a.toNat (by omega) (by omega)).2.2.1 hkd i.toNat)))
theorem am_s_bald (X : am_Cx p R s m args meth c dC dI cA fx A nL n0 lim cp ini own b EX L xs) {pc : Nat} (hd : decode b pc = .ok (.baload, 1)) {i a : Int} {s' : List am_V} {h : am_H} {ls : List am_V} (hkd : (am_cell a.toNat).1 = 3) (ha0 : 0 < a) (hi : 0 ≤ i ∧ i < ((am_cell a.toNat).2.1 : Nat))
    (hk : (-128 ≤ h a.toNat i.toNat ∧ h a.toNat i.toNat ≤ 127) → am_G p l e R s m args below meth c Q dC dI cA fx A nL n0 lim bm a0 cp (pc + 1) ls ((0, h a.toNat i.toNat) :: s') h) : am_G p l e R s m args below meth c Q dC dI cA fx A nL n0 lim bm a0 cp pc ls ((0, i) :: (2, a) :: s') h := by
  intro ad lsM H locs cells slots hJ hst
  obtain ⟨hx, hb, hml, hown, hts, hE, hExt, hA, hini, hrm, hroom, hw, hsx, hL, hxs⟩ := X
  obtain ⟨hP, hD, hS, hok, hfin, hls, hlv, hlen, hn0, hlim, hcp, had⟩ := id hJ
  have hov := (am_okd (am_okt hst)).2.2.1 rfl
  have hiv := (am_okd hst).1 rfl
  have hwg := am_w_get cA fx ad h (k := a.toNat) (by omega) (by omega)
  rw [am_e_arr hkd (by decide) (by decide)] at hwg
  show W p l e R s m args below meth c H locs cells slots Q (F0 m pc lsM (.int (Int32.ofInt i) :: am_tr fx ad (2, a) :: s'.map (am_tr fx ad)))
  rw [am_tr_2 fx ad ha0]
  refine va_bald hx hb hE.1 hP (a.toNat - 1) 2 hwg rfl (am_vin hiv hi.1 hi.2) hd ?_
  rw [am_clamp hiv]
  exact (hk ((hok.2.2 a.toNat (by omega) (by omega)).2.2.2.1 hkd i.toNat)) ad lsM H locs cells slots hJ (am_ok0 (am_okt (am_okt hst)) (am_okv_0 (by have := (hok.2.2 a.toNat (by omega) (by omega)).2.2.2.1 hkd i.toNat; exact ⟨by omega, by omega⟩)))
theorem am_s_zald (X : am_Cx p R s m args meth c dC dI cA fx A nL n0 lim cp ini own b EX L xs) {pc : Nat} (hd : decode b pc = .ok (.baload, 1)) {i a : Int} {s' : List am_V} {h : am_H} {ls : List am_V} (hkd : (am_cell a.toNat).1 = 4) (ha0 : 0 < a) (hi : 0 ≤ i ∧ i < ((am_cell a.toNat).2.1 : Nat))
    (hk : (0 ≤ h a.toNat i.toNat ∧ h a.toNat i.toNat ≤ 1) → am_G p l e R s m args below meth c Q dC dI cA fx A nL n0 lim bm a0 cp (pc + 1) ls ((0, h a.toNat i.toNat) :: s') h) : am_G p l e R s m args below meth c Q dC dI cA fx A nL n0 lim bm a0 cp pc ls ((0, i) :: (2, a) :: s') h := by
  intro ad lsM H locs cells slots hJ hst
  obtain ⟨hx, hb, hml, hown, hts, hE, hExt, hA, hini, hrm, hroom, hw, hsx, hL, hxs⟩ := X
  obtain ⟨hP, hD, hS, hok, hfin, hls, hlv, hlen, hn0, hlim, hcp, had⟩ := id hJ
  have hov := (am_okd (am_okt hst)).2.2.1 rfl
  have hiv := (am_okd hst).1 rfl
  have hwg := am_w_get cA fx ad h (k := a.toNat) (by omega) (by omega)
  rw [am_e_arr hkd (by decide) (by decide)] at hwg
  show W p l e R s m args below meth c H locs cells slots Q (F0 m pc lsM (.int (Int32.ofInt i) :: am_tr fx ad (2, a) :: s'.map (am_tr fx ad)))
  rw [am_tr_2 fx ad ha0]
  refine va_zald hx hb hE.1 hP (a.toNat - 1) 3 hwg rfl (am_vin hiv hi.1 hi.2) hd ?_
  rw [am_clamp hiv]
  exact (hk ((hok.2.2 a.toNat (by omega) (by omega)).2.2.2.2 hkd i.toNat)) ad lsM H locs cells slots hJ (am_ok0 (am_okt (am_okt hst)) (am_okv_0 (by have := (hok.2.2 a.toNat (by omega) (by omega)).2.2.2.2 hkd i.toNat; exact ⟨by omega, by omega⟩)))
theorem am_s_sld (X : am_Cx p R s m args meth c dC dI cA fx A nL n0 lim cp ini own b EX L xs) {pc : Nat} (hd : decode b pc = .ok (.iaload, 1)) {i a : Int} {s' : List am_V} {h : am_H} {ls : List am_V} (hi : 0 ≤ i ∧ i < (L : Nat))
    (hk : am_G p l e R s m args below meth c Q dC dI cA fx A nL n0 lim bm a0 cp (pc + 1) ls ((0, xs i.toNat) :: s') h) : am_G p l e R s m args below meth c Q dC dI cA fx A nL n0 lim bm a0 cp pc ls ((0, i) :: (7, a) :: s') h := by
  intro ad lsM H locs cells slots hJ hst
  obtain ⟨hx, hb, hml, hown, hts, hE, hExt, hA, hini, hrm, hroom, hw, hsx, hL, hxs⟩ := X
  obtain ⟨hP, hD, hS, hok, hfin, hls, hlv, hlen, hn0, hlim, hcp, had⟩ := id hJ
  have hov := (am_okd (am_okt hst)).2.2.2.2 rfl
  have hov : a = 0 := hov
  subst hov
  have hiv := (am_okd hst).1 rfl
  obtain ⟨q1, q2⟩ := hsx A s s.heap hE.2.2
  obtain ⟨scr, hcb, _⟩ := id q1
  have hbl : fx 7 0 < s.heap.size := (Array.getElem?_eq_some_iff.mp hcb).1
  show W p l e R s m args below meth c H locs cells slots Q (F0 m pc lsM (.int (Int32.ofInt i) :: .ref (fx 7 0) :: s'.map (am_tr fx ad)))
  refine va_sld hx hb q1 hbl q2 hS (am_vin hiv hi.1 hi.2) hd ?_
  rw [am_clamp hiv]
  exact hk ad lsM H locs cells slots hJ (am_ok0 (am_okt (am_okt hst)) (am_okv_0 (hxs _)))
theorem am_s_iast (X : am_Cx p R s m args meth c dC dI cA fx A nL n0 lim cp ini own b EX L xs) {pc : Nat} (hd : decode b pc = .ok (.iastore, 1)) {x i a : Int} {s' : List am_V} {h : am_H} {ls : List am_V} (hkd : (am_cell a.toNat).1 = 1) (ha0 : 0 < a) (hi : 0 ≤ i ∧ i < ((am_cell a.toNat).2.1 : Nat))
    (hk : am_G p l e R s m args below meth c Q dC dI cA fx A nL n0 lim bm a0 cp (pc + 1) ls s' (am_st h a.toNat i.toNat x)) : am_G p l e R s m args below meth c Q dC dI cA fx A nL n0 lim bm a0 cp pc ls ((0, x) :: (0, i) :: (2, a) :: s') h := by
  intro ad lsM H locs cells slots hJ hst
  obtain ⟨hx, hb, hml, hown, hts, hE, hExt, hA, hini, hrm, hroom, hw, hsx, hL, hxs⟩ := X
  obtain ⟨hP, hD, hS, hok, hfin, hls, hlv, hlen, hn0, hlim, hcp, had⟩ := id hJ
  have hov := (am_okd (am_okt (am_okt hst))).2.2.1 rfl
  have hiv := (am_okd (am_okt hst)).1 rfl
  have hxv := (am_okd hst).1 rfl
  have hwg := am_w_get cA fx ad h (k := a.toNat) (by omega) (by omega)
  rw [am_e_arr hkd (by decide) (by decide)] at hwg
  have hset : (am_w cA fx ad h).set (a.toNat - 1) (ad a.toNat, .inl (cA 1, ((am_cell a.toNat).2.1, .inl (upd (fun j => Int32.ofInt (h a.toNat j)) i.toNat (Int32.ofInt x))))) = am_w cA fx ad (am_st h a.toNat i.toNat x) := by
    refine am_w_set (by omega) ?_
    rw [am_e_arr hkd (by decide) (by decide), am_upd32]
  show W p l e R s m args below meth c H locs cells slots Q (F0 m pc lsM (.int (Int32.ofInt x) :: .int (Int32.ofInt i) :: am_tr fx ad (2, a) :: s'.map (am_tr fx ad)))
  rw [am_tr_2 fx ad ha0]
  refine va_iast hx hb hE.1 hP hD hS (a.toNat - 1) 0 hwg rfl (am_vin hiv hi.1 hi.2) hd (fun H1 locs1 q1 q2 q3 => ?_)
  rw [am_clamp hiv] at q1 q2
  rw [hset] at q1 q2
  have h0 : am_st h a.toNat i.toNat x 0 0 = h 0 0 := am_st_nc (by omega)
  exact hk ad lsM H1 locs1 cells slots (am_J.mem hroom hJ (by omega) q1 q2 q3 (am_okc_arr (by rw [hkd]; decide) (hok.2.2 a.toNat (by omega) (by omega)) (fun _ => hxv) (fun q => by rw [hkd] at q; cases q) (fun q => by rw [hkd] at q; cases q) (fun q => by rw [hkd] at q; cases q)) (fun hbm => am_fin_st (hfin hbm) (fun f q => by rw [hkd] at q; cases q))) (by rw [h0]; exact am_okt (am_okt (am_okt hst)))
theorem am_s_last (X : am_Cx p R s m args meth c dC dI cA fx A nL n0 lim cp ini own b EX L xs) {pc : Nat} (hd : decode b pc = .ok (.lastore, 1)) {x i a : Int} {s' : List am_V} {h : am_H} {ls : List am_V} (hkd : (am_cell a.toNat).1 = 2) (ha0 : 0 < a) (hi : 0 ≤ i ∧ i < ((am_cell a.toNat).2.1 : Nat))
    (hk : am_G p l e R s m args below meth c Q dC dI cA fx A nL n0 lim bm a0 cp (pc + 1) ls s' (am_st h a.toNat i.toNat x)) : am_G p l e R s m args below meth c Q dC dI cA fx A nL n0 lim bm a0 cp pc ls ((1, x) :: (0, i) :: (2, a) :: s') h := by
  intro ad lsM H locs cells slots hJ hst
  obtain ⟨hx, hb, hml, hown, hts, hE, hExt, hA, hini, hrm, hroom, hw, hsx, hL, hxs⟩ := X
  obtain ⟨hP, hD, hS, hok, hfin, hls, hlv, hlen, hn0, hlim, hcp, had⟩ := id hJ
  have hov := (am_okd (am_okt (am_okt hst))).2.2.1 rfl
  have hiv := (am_okd (am_okt hst)).1 rfl
  have hxv := (am_okd hst).2.1 rfl
  have hwg := am_w_get cA fx ad h (k := a.toNat) (by omega) (by omega)
  rw [am_e_lng hkd] at hwg
  have hset : (am_w cA fx ad h).set (a.toNat - 1) (ad a.toNat, .inl (cA 2, ((am_cell a.toNat).2.1, .inr (.inl (vp_updL (fun j => Int64.ofInt (h a.toNat j)) i.toNat (Int64.ofInt x)))))) = am_w cA fx ad (am_st h a.toNat i.toNat x) := by
    refine am_w_set (by omega) ?_
    rw [am_e_lng hkd, am_upd64]
  show W p l e R s m args below meth c H locs cells slots Q (F0 m pc lsM (.long (Int64.ofInt x) :: .int (Int32.ofInt i) :: am_tr fx ad (2, a) :: s'.map (am_tr fx ad)))
  rw [am_tr_2 fx ad ha0]
  refine va_last hx hb hE.1 hP hD hS (a.toNat - 1) 1 hwg rfl (am_vin hiv hi.1 hi.2) hd (fun H1 locs1 q1 q2 q3 => ?_)
  rw [am_clamp hiv] at q1 q2
  rw [hset] at q1 q2
  have h0 : am_st h a.toNat i.toNat x 0 0 = h 0 0 := am_st_nc (by omega)
  exact hk ad lsM H1 locs1 cells slots (am_J.mem hroom hJ (by omega) q1 q2 q3 (am_okc_arr (by rw [hkd]; decide) (hok.2.2 a.toNat (by omega) (by omega)) (fun q => by rw [hkd] at q; cases q) (fun _ => hxv) (fun q => by rw [hkd] at q; cases q) (fun q => by rw [hkd] at q; cases q)) (fun hbm => am_fin_st (hfin hbm) (fun f q => by rw [hkd] at q; cases q))) (by rw [h0]; exact am_okt (am_okt (am_okt hst)))
theorem am_s_bast (X : am_Cx p R s m args meth c dC dI cA fx A nL n0 lim cp ini own b EX L xs) {pc : Nat} (hd : decode b pc = .ok (.bastore, 1)) {x i a : Int} {s' : List am_V} {h : am_H} {ls : List am_V} (hkd : (am_cell a.toNat).1 = 3) (ha0 : 0 < a) (hi : 0 ≤ i ∧ i < ((am_cell a.toNat).2.1 : Nat)) (hxr : -128 ≤ x ∧ x ≤ 127)
    (hk : am_G p l e R s m args below meth c Q dC dI cA fx A nL n0 lim bm a0 cp (pc + 1) ls s' (am_st h a.toNat i.toNat x)) : am_G p l e R s m args below meth c Q dC dI cA fx A nL n0 lim bm a0 cp pc ls ((0, x) :: (0, i) :: (2, a) :: s') h := by
  intro ad lsM H locs cells slots hJ hst
  obtain ⟨hx, hb, hml, hown, hts, hE, hExt, hA, hini, hrm, hroom, hw, hsx, hL, hxs⟩ := X
  obtain ⟨hP, hD, hS, hok, hfin, hls, hlv, hlen, hn0, hlim, hcp, had⟩ := id hJ
  have hov := (am_okd (am_okt (am_okt hst))).2.2.1 rfl
  have hiv := (am_okd (am_okt hst)).1 rfl
  have hxv := (am_okd hst).1 rfl
  have hwg := am_w_get cA fx ad h (k := a.toNat) (by omega) (by omega)
  rw [am_e_arr hkd (by decide) (by decide)] at hwg
  have hset : (am_w cA fx ad h).set (a.toNat - 1) (ad a.toNat, .inl (cA 3, ((am_cell a.toNat).2.1, .inl (upd (fun j => Int32.ofInt (h a.toNat j)) i.toNat (Int32.ofInt x))))) = am_w cA fx ad (am_st h a.toNat i.toNat x) := by
    refine am_w_set (by omega) ?_
    rw [am_e_arr hkd (by decide) (by decide), am_upd32]
  show W p l e R s m args below meth c H locs cells slots Q (F0 m pc lsM (.int (Int32.ofInt x) :: .int (Int32.ofInt i) :: am_tr fx ad (2, a) :: s'.map (am_tr fx ad)))
  rw [am_tr_2 fx ad ha0]
  refine va_bast hx hb hE.1 hP hD hS (a.toNat - 1) 2 hwg rfl (am_vin hiv hi.1 hi.2) hd (fun H1 locs1 q1 q2 q3 => ?_)
  rw [am_clamp hiv] at q1 q2
  rw [am_nb hxr] at q1 q2
  rw [hset] at q1 q2
  have h0 : am_st h a.toNat i.toNat x 0 0 = h 0 0 := am_st_nc (by omega)
  exact hk ad lsM H1 locs1 cells slots (am_J.mem hroom hJ (by omega) q1 q2 q3 (am_okc_arr (by rw [hkd]; decide) (hok.2.2 a.toNat (by omega) (by omega)) (fun q => by rw [hkd] at q; cases q) (fun q => by rw [hkd] at q; cases q) (fun _ => hxr) (fun q => by rw [hkd] at q; cases q)) (fun hbm => am_fin_st (hfin hbm) (fun f q => by rw [hkd] at q; cases q))) (by rw [h0]; exact am_okt (am_okt (am_okt hst)))
theorem am_s_zast (X : am_Cx p R s m args meth c dC dI cA fx A nL n0 lim cp ini own b EX L xs) {pc : Nat} (hd : decode b pc = .ok (.bastore, 1)) {x i a : Int} {s' : List am_V} {h : am_H} {ls : List am_V} (hkd : (am_cell a.toNat).1 = 4) (ha0 : 0 < a) (hi : 0 ≤ i ∧ i < ((am_cell a.toNat).2.1 : Nat)) (hxr : 0 ≤ x ∧ x ≤ 1)
    (hk : am_G p l e R s m args below meth c Q dC dI cA fx A nL n0 lim bm a0 cp (pc + 1) ls s' (am_st h a.toNat i.toNat x)) : am_G p l e R s m args below meth c Q dC dI cA fx A nL n0 lim bm a0 cp pc ls ((0, x) :: (0, i) :: (2, a) :: s') h := by
  intro ad lsM H locs cells slots hJ hst
  obtain ⟨hx, hb, hml, hown, hts, hE, hExt, hA, hini, hrm, hroom, hw, hsx, hL, hxs⟩ := X
  obtain ⟨hP, hD, hS, hok, hfin, hls, hlv, hlen, hn0, hlim, hcp, had⟩ := id hJ
  have hov := (am_okd (am_okt (am_okt hst))).2.2.1 rfl
  have hiv := (am_okd (am_okt hst)).1 rfl
  have hxv := (am_okd hst).1 rfl
  have hwg := am_w_get cA fx ad h (k := a.toNat) (by omega) (by omega)
  rw [am_e_arr hkd (by decide) (by decide)] at hwg
  have hset : (am_w cA fx ad h).set (a.toNat - 1) (ad a.toNat, .inl (cA 4, ((am_cell a.toNat).2.1, .inl (upd (fun j => Int32.ofInt (h a.toNat j)) i.toNat (Int32.ofInt x))))) = am_w cA fx ad (am_st h a.toNat i.toNat x) := by
    refine am_w_set (by omega) ?_
    rw [am_e_arr hkd (by decide) (by decide), am_upd32]
  show W p l e R s m args below meth c H locs cells slots Q (F0 m pc lsM (.int (Int32.ofInt x) :: .int (Int32.ofInt i) :: am_tr fx ad (2, a) :: s'.map (am_tr fx ad)))
  rw [am_tr_2 fx ad ha0]
  refine va_zast hx hb hE.1 hP hD hS (a.toNat - 1) 3 hwg rfl (am_vin hiv hi.1 hi.2) hd (fun H1 locs1 q1 q2 q3 => ?_)
  rw [am_clamp hiv] at q1 q2
  rw [am_nz hxr] at q1 q2
  rw [hset] at q1 q2
  have h0 : am_st h a.toNat i.toNat x 0 0 = h 0 0 := am_st_nc (by omega)
  exact hk ad lsM H1 locs1 cells slots (am_J.mem hroom hJ (by omega) q1 q2 q3 (am_okc_arr (by rw [hkd]; decide) (hok.2.2 a.toNat (by omega) (by omega)) (fun q => by rw [hkd] at q; cases q) (fun q => by rw [hkd] at q; cases q) (fun q => by rw [hkd] at q; cases q) (fun _ => hxr)) (fun hbm => am_fin_st (hfin hbm) (fun f q => by rw [hkd] at q; cases q))) (by rw [h0]; exact am_okt (am_okt (am_okt hst)))
theorem am_s_alen (X : am_Cx p R s m args meth c dC dI cA fx A nL n0 lim cp ini own b EX L xs) {pc : Nat} (hd : decode b pc = .ok (.arraylength, 1)) {a : Int} {s' : List am_V} {h : am_H} {ls : List am_V} (hkd : ¬ (am_cell a.toNat).1 = 0) (hk9 : ¬ (am_cell a.toNat).1 = 9) (ha0 : 0 < a)
    (hk : am_G p l e R s m args below meth c Q dC dI cA fx A nL n0 lim bm a0 cp (pc + 1) ls ((0, ((am_cell a.toNat).2.1 : Nat)) :: s') h) : am_G p l e R s m args below meth c Q dC dI cA fx A nL n0 lim bm a0 cp pc ls ((2, a) :: s') h := by
  intro ad lsM H locs cells slots hJ hst
  obtain ⟨hx, hb, hml, hown, hts, hE, hExt, hA, hini, hrm, hroom, hw, hsx, hL, hxs⟩ := X
  obtain ⟨hP, hD, hS, hok, hfin, hls, hlv, hlen, hn0, hlim, hcp, had⟩ := id hJ
  have hov := (am_okd hst).2.2.1 rfl
  have hwg := am_w_get cA fx ad h (k := a.toNat) (by omega) (by omega)
  obtain ⟨hle, hkk⟩ := am_cell_arr hkd hk9
  have hgo := hk ad lsM H locs cells slots hJ (am_ok0 (am_okt hst) (am_okv_0 ⟨by omega, by omega⟩))
  show W p l e R s m args below meth c H locs cells slots Q (F0 m pc lsM (am_tr fx ad (2, a) :: s'.map (am_tr fx ad)))
  rw [am_tr_2 fx ad ha0]
  rcases hkk with q | q | q | q
  · rw [am_e_arr q (by decide) (by decide)] at hwg
    exact va_alen hx hb hE.1 hP (a.toNat - 1) 0 hwg rfl rfl hd hgo
  · rw [am_e_lng q] at hwg
    exact va_alen hx hb hE.1 hP (a.toNat - 1) 1 hwg rfl rfl hd hgo
  · rw [am_e_arr q (by decide) (by decide)] at hwg
    exact va_alen hx hb hE.1 hP (a.toNat - 1) 2 hwg rfl rfl hd hgo
  · rw [am_e_arr q (by decide) (by decide)] at hwg
    exact va_alen hx hb hE.1 hP (a.toNat - 1) 3 hwg rfl rfl hd hgo
theorem am_s_slen (X : am_Cx p R s m args meth c dC dI cA fx A nL n0 lim cp ini own b EX L xs) {pc : Nat} (hd : decode b pc = .ok (.arraylength, 1)) {a : Int} {s' : List am_V} {h : am_H} {ls : List am_V}
    (hk : am_G p l e R s m args below meth c Q dC dI cA fx A nL n0 lim bm a0 cp (pc + 1) ls ((0, (L : Nat)) :: s') h) : am_G p l e R s m args below meth c Q dC dI cA fx A nL n0 lim bm a0 cp pc ls ((7, a) :: s') h := by
  intro ad lsM H locs cells slots hJ hst
  obtain ⟨hx, hb, hml, hown, hts, hE, hExt, hA, hini, hrm, hroom, hw, hsx, hL, hxs⟩ := X
  obtain ⟨hP, hD, hS, hok, hfin, hls, hlv, hlen, hn0, hlim, hcp, had⟩ := id hJ
  have hov : a = 0 := (am_okd hst).2.2.2.2 rfl
  subst hov
  obtain ⟨q1, q2⟩ := hsx A s s.heap hE.2.2
  obtain ⟨scr, hcb, _⟩ := id q1
  have hbl : fx 7 0 < s.heap.size := (Array.getElem?_eq_some_iff.mp hcb).1
  show W p l e R s m args below meth c H locs cells slots Q (F0 m pc lsM (.ref (fx 7 0) :: s'.map (am_tr fx ad)))
  exact va_slen hx hb q1 hbl q2 hS hd (hk ad lsM H locs cells slots hJ (am_ok0 (am_okt hst) (am_okv_0 ⟨by omega, by omega⟩)))
end AMS2
end
section
/-! cells that are made -/
section AMS3
variable {p : Program} {l : Launch} {e : Env} {R : Room} {s : State} {m : MethodId} {args : Array Value} {below : List Frame} {meth : Method} {c : Code} {Q : State → Prop}
variable {dC : Nat → ClassId} {dI : Nat → Nat → Nat} {cA : Nat → ClassId} {fx : Nat → Nat → Nat} {A : Nat → Prop} {nL n0 : Nat} {lim : Int} {a0 : Nat → Nat} {cp : am_H → Nat → Nat → Prop} {bm ini : Bool} {bz : Nat} {own : Nat} {b : ByteArray} {EX : (Nat → Prop) → State → Heap → Prop} {L : Nat} {xs : Nat → Int}
def am_ad (ad : Nat → Nat) (k q : Nat) : Nat → Nat := fun j => if j = k then q else ad j
theorem am_ad_old {ad : Nat → Nat} {n q : Nat} : ∀ k : Nat, (k : Int) ≤ (n : Int) → am_ad ad (n + 1) q k = ad k := by
  intro k hk
  unfold am_ad
  rw [if_neg (by omega)]
theorem am_okc_up {n n' : Int} {k : Nat} {g : Nat → Int} (hn : n ≤ n') (h : am_okc n k g) : am_okc n' k g := ⟨fun q j f hf => am_okv_up hn (h.1 q j f hf), h.2⟩
theorem am_tag {c : vw_C} {j : Nat} {f : Nat × Nat} (h : am_fdck c j f = true) : (f.1 = 0 ∧ am_tyf c.2.1 j = .int) ∨ ((f.1 = 8 ∨ f.1 = 2) ∧ am_isR (am_tyf c.2.1 j) = true) := by
  unfold am_fdck at h
  simp only [Bool.or_eq_true, Bool.and_eq_true, beq_iff_eq, decide_eq_true_eq, Bool.not_eq_true'] at h
  rcases h with (⟨⟨g1, g2⟩, g3⟩ | ⟨⟨⟨g1, g2⟩, g3⟩, g4⟩) | ⟨⟨g1, g2⟩, g3⟩
  · exact Or.inl ⟨g1, g2⟩
  · exact Or.inr ⟨Or.inl g1, g2⟩
  · exact Or.inr ⟨Or.inr g1, g2⟩
theorem am_okc_0 {n : Int} {k : Nat} (hn : 0 ≤ n) {g : Nat → Int} (hg : ∀ j, g j = 0) : am_okc n k g := by
  refine ⟨fun q j f hf => ?_, fun _ j => ?_, fun _ j => ?_, fun _ j => ?_, fun _ j => ?_⟩
  · obtain ⟨c, h1, h2, h3⟩ := am_cell_obj q
    rw [hg]
    rcases am_tag (h3 j f hf).2 with ⟨e, -⟩ | ⟨e, -⟩
    · rw [e]; exact am_okv_0 ⟨by decide, by decide⟩
    · have : (if f.1 = 8 then 2 else f.1) = 2 := by rcases e with e | e <;> simp [e]
      rw [this]
      exact am_okv_2 ⟨Int.le_refl _, hn⟩
  · rw [hg]; exact ⟨by decide, by decide⟩
  · rw [hg]; exact ⟨by decide, by decide⟩
  · rw [hg]; exact ⟨by decide, by decide⟩
  · rw [hg]; exact ⟨by decide, by decide⟩
theorem am_w_push {cA : Nat → ClassId} {fx : Nat → Nat → Nat} {ad : Nat → Nat} {h : am_H} {n : Nat} (hn : h 0 0 = n) (hok : am_okh h) (q : Nat) : am_w cA fx (am_ad ad (n + 1) q) (am_st h 0 0 (n + 1)) = am_w cA fx ad h ++ [(q, am_e cA fx (am_ad ad (n + 1) q) (am_st h 0 0 (n + 1)) (n + 1))] := by
  unfold am_w
  rw [am_st_eq, hn, show ((n : Int) + 1).toNat = n + 1 by omega, show (n : Int).toNat = n by omega, List.range_succ, List.map_append]
  congr 1
  · apply List.map_congr_left
    intro i hi
    have hi2 : i < n := by simpa using hi
    have e1 : am_ad ad (n + 1) q (i + 1) = ad (i + 1) := am_ad_old (i + 1) (by omega)
    have e2 : am_e cA fx (am_ad ad (n + 1) q) (am_st h 0 0 (n + 1)) (i + 1) = am_e cA fx (am_ad ad (n + 1) q) h (i + 1) := am_e_eq (fun j => am_st_nc (by omega))
    have e3 : am_e cA fx (am_ad ad (n + 1) q) h (i + 1) = am_e cA fx ad h (i + 1) := am_e_ad (hok.2.2 (i + 1) (by omega) (by omega)) (fun k hk => am_ad_old k (by omega))
    rw [e1, e2, e3]
  · simp [am_ad]
theorem am_J.new (hcpR : am_Cp R lim cp) {ad : Nat → Nat} {h : am_H} {ls : List am_V} {lsM : Array Slot} {H H1 : Heap} {locs locs1 : List Loc} {cells slots n q : Nat} (hJ : am_J s dC dI cA fx A nL n0 lim bm a0 cp ad h ls lsM H locs cells slots) (hn : h 0 0 = n) (h9 : ¬ (am_cell (n + 1)).1 = 9) (hz : ∀ j, h (n + 1) j = 0) (hl : h 0 0 + 1 ≤ lim) (hP : va_P (dC, dI) am_cl (am_w cA fx (am_ad ad (n + 1) q) (am_st h 0 0 (n + 1))) H1) (hD : va_D A (am_w cA fx (am_ad ad (n + 1) q) (am_st h 0 0 (n + 1)))) (hS : va_S A s.heap H1 locs1) : am_J s dC dI cA fx A nL n0 lim bm a0 cp (am_ad ad (n + 1) q) (am_st h 0 0 (n + 1)) ls lsM H1 locs1 (cells + 1) (slots + am_csz (n + 1)) := by
  obtain ⟨a1, a2, a3, a4, a5, a6, a7, a8, a9, a10, a11, a13⟩ := hJ
  have hk93 := (am_cell_k h9).2
  have e0 : am_st h 0 0 (n + 1) 0 0 = n + 1 := am_st_eq h 0 0 (n + 1)
  refine ⟨hP, hD, hS, ⟨?_, ?_, fun k h1 h2 => ?_⟩, fun hbm k j f h1 h2 h3 h4 => ?_, ?_, ?_, a8, ?_, ?_, (hcpR.2.1 _ _ _ _ hn hl a11).2.2, fun k hk => (am_ad_old k (by omega)).trans (a13 k hk)⟩
  · rw [e0]; omega
  · rw [e0]; omega
  · rw [e0] at h2 ⊢
    have e1 : am_st h 0 0 (n + 1) k = h k := by funext j; exact am_st_nc (by omega)
    rw [e1]
    by_cases hk : k = n + 1
    · subst hk; exact am_okc_0 (by omega) hz
    · exact am_okc_up (by omega) (a4.2.2 k h1 (by omega))
  · rw [am_st_nc (by omega)]; exact a5 hbm k j f h1 h2 h3 h4
  · rw [e0]; exact fun v hv => am_okv_up (by omega) (a6 v hv)
  · rw [am_lv_ad (n := h 0 0) (fun k hk => am_ad_old k (by omega)) a6]; exact a7
  · rw [e0]; omega
  · rw [e0]; omega
theorem am_room (X : am_Cx p R s m args meth c dC dI cA fx A nL n0 lim cp ini own b EX L xs) {h : am_H} {cells slots n : Nat} (hn : h 0 0 = n) (hl : h 0 0 + 1 ≤ lim) (hcp : cp h cells slots) : cells + 1 ≤ R.cells ∧ slots + am_csz (n + 1) ≤ R.slots := by
  obtain ⟨-, -, -, -, -, -, -, -, -, -, hroom, -⟩ := X
  exact ⟨(hroom.2.1 _ _ _ _ hn hl hcp).1, (hroom.2.1 _ _ _ _ hn hl hcp).2.1⟩
theorem am_s_new (X : am_Cx p R s m args meth c dC dI cA fx A nL n0 lim cp ini own b EX L xs) {pc idx : Nat} (hd : decode b pc = .ok (.new idx, 3)) {q : Nat × Nat × Nat × Nat × Nat × Nat} (hq : q ∈ am_CL) (hq1 : q.1 = own) (hq2 : q.2.1 = idx) {n : Nat} {st : List am_V} {h : am_H} {ls : List am_V} (hn : h 0 0 = n) (h0 : (am_cell (n + 1)).1 = 0) (hci : (am_cell (n + 1)).2.1 = q.2.2.1) (hz : ∀ j, h (n + 1) j = 0) (hl : h 0 0 + 1 ≤ lim)
    (hk : am_G p l e R s m args below meth c Q dC dI cA fx A nL n0 lim bm a0 cp (pc + 3) ls ((2, n + 1) :: st) (am_st h 0 0 (n + 1))) : am_G p l e R s m args below meth c Q dC dI cA fx A nL n0 lim bm a0 cp pc ls st h := by
  intro ad lsM H locs cells slots hJ hst
  have hX := X
  obtain ⟨hx, hb, hml, hown, hts, hE, hExt, hA, hini, hrm, hroom, hw, hsx, hL, hxs⟩ := X
  obtain ⟨hP, hD, hS, hok, hfin, hls, hlv, hlen, hn0, hlim, hcp, had⟩ := id hJ
  obtain ⟨⟨CN, CT, CM⟩, hcl, hlen2, hfd⟩ := am_cell_obj h0
  have hck := List.all_eq_true.mp am_CL_ok q hq
  unfold am_clok at hck
  rw [← hci, hcl] at hck
  simp only [Bool.and_eq_true, decide_eq_true_eq] at hck
  rw [hq1, hq2] at hck
  have hr := am_room hX hn hl hcp
  have hcsz : am_csz (n + 1) = CM := by unfold am_csz; rw [if_pos h0]; exact hlen2
  rw [hcsz] at hr
  refine va_new (D := (dC, dI)) (fs := am_fs fx ad h (n + 1) (am_cell (n + 1)).2.2 0) hx hb hts (am_cls hcl).1 (am_tyf CT) (am_cls hcl).2.1 hown (hts _ (am_inT hck.1.1 rfl)) (hts _ (am_inT hck.2 rfl)) (hts _ (am_inT hck.1.2 rfl)) hE.1 hP hD hS hA hcl (fun j hj => ?_) hr.1 hr.2 hd (fun a H1 hP1 hD1 hS1 => ?_)
  · show _ = (am_fs fx ad h (n + 1) (am_cell (n + 1)).2.2 0).getD j .null
    rw [List.getD_eq_getElem?_getD, am_fs_get]
    cases hf : am_nth (am_cell (n + 1)).2.2 j with
    | none =>
      exfalso
      rw [am_nth_get] at hf
      have := List.getElem?_eq_none_iff.mp hf
      have hj2 : j < CM := hj
      have hl2 : (am_cell (n + 1)).2.2.length = CM := hlen2
      omega
    | some f =>
      simp only [Option.map_some, Option.getD_some, hz]
      rcases am_tag (hfd j f hf).2 with ⟨e1, e2⟩ | ⟨e1, e2⟩
      · have e3 : am_tyf CT j = .int := e2
        rw [e3, if_neg (by rw [e1]; decide), e1]
        rfl
      · have e3 : am_isR (am_tyf CT j) = true := e2
        have : (if f.1 = 8 then 2 else f.1) = 2 := by rcases e1 with e | e <;> simp [e]
        rw [this, am_tr_20]
        cases ht : am_tyf CT j <;> rw [ht] at e3 <;> first | rfl | cases e3
  · have hent : am_e cA fx (am_ad ad (n + 1) a) (am_st h 0 0 (n + 1)) (n + 1) = .inr ((am_cell (n + 1)).2.1, am_fs fx ad h (n + 1) (am_cell (n + 1)).2.2 0) := by
      have e1 : am_e cA fx (am_ad ad (n + 1) a) (am_st h 0 0 (n + 1)) (n + 1) = am_e cA fx (am_ad ad (n + 1) a) h (n + 1) := am_e_eq (fun j => am_st_nc (by omega))
      have e2 : am_e cA fx (am_ad ad (n + 1) a) h (n + 1) = am_e cA fx ad h (n + 1) := am_e_ad (n := h 0 0) (am_okc_0 hok.1 hz) (fun k hk => am_ad_old k (by omega))
      rw [e1, e2]
      unfold am_e
      rw [if_pos h0]
    have hpush := am_w_push (cA := cA) (fx := fx) (ad := ad) hn hok a
    rw [hent] at hpush
    rw [← hpush] at hP1 hD1
    have hgo := hk (am_ad ad (n + 1) a) lsM H1 locs (cells + 1) (slots + am_csz (n + 1)) (am_J.new hroom hJ hn (by rw [h0]; decide) hz hl hP1 hD1 hS1) (am_ok0 (by rw [am_st_eq]; exact fun v hv => am_okv_up (by omega) (hst v hv)) (am_okv_2 ⟨by omega, by rw [am_st_eq]; exact Int.le_refl _⟩))
    rw [hcsz] at hgo
    have e4 : ((2, (n : Int) + 1) :: st : List am_V).map (am_tr fx (am_ad ad (n + 1) a)) = .ref a :: st.map (am_tr fx ad) := by
      rw [List.map_cons, am_tr_2 fx _ (by omega), am_trs_ad (n := h 0 0) hst (fun k hk => am_ad_old k (by omega)), show ((n : Int) + 1).toNat = n + 1 by omega]
      simp [am_ad]
    rw [e4] at hgo
    exact hgo
set_option maxHeartbeats 4000000 in
theorem am_s_newaI (X : am_Cx p R s m args meth c dC dI cA fx A nL n0 lim cp ini own b EX L xs) {pc : Nat} (hd : decode b pc = .ok (.newarray .int, 2)) {n : Nat} {x : Int} {st : List am_V} {h : am_H} {ls : List am_V} (hn : h 0 0 = n) (h0 : (am_cell (n + 1)).1 = 1) {len : Nat} (hlen3 : (am_cell (n + 1)).2.1 = len) (hxx : x = (len : Nat)) (hz : ∀ j, h (n + 1) j = 0) (hl : h 0 0 + 1 ≤ lim)
    (hk : am_G p l e R s m args below meth c Q dC dI cA fx A nL n0 lim bm a0 cp (pc + 2) ls ((2, n + 1) :: st) (am_st h 0 0 (n + 1))) : am_G p l e R s m args below meth c Q dC dI cA fx A nL n0 lim bm a0 cp pc ls ((0, x) :: st) h := by
  intro ad lsM H locs cells slots hJ hst
  have hX := X
  obtain ⟨hx, hb, hml, hown, hts, hE, hExt, hA, hini, hrm, hroom, hw, hsx, hL, hxs⟩ := X
  obtain ⟨hP, hD, hS, hok, hfin, hls, hlv, hlen, hn0, hlim, hcp, had⟩ := id hJ
  have hr := am_room hX hn hl hcp
  have hne0 : ¬ (am_cell (n + 1)).1 = 0 := fun q => by rw [q] at h0; cases h0
  have hne9 : ¬ (am_cell (n + 1)).1 = 9 := fun q => by rw [q] at h0; cases h0
  have hcsz : am_csz (n + 1) = len := (if_neg hne0).trans hlen3
  rw [hcsz] at hr
  have hle : len ≤ 65536 := hlen3 ▸ (am_cell_arr (k := n + 1) hne0 hne9).1
  have hxi : am_inI x := by rw [hxx]; exact ⟨by omega, by omega⟩
  have hac : (Cond.arrayClass .int).before args s = true := hts _ am_acI
  show W p l e R s m args below meth c H locs cells slots Q (F0 m pc lsM (.int (Int32.ofInt x) :: st.map (am_tr fx ad)))
  have hcellz : ∀ cA0 : ClassId, vp_cell cA0 (len, .inl (fun _ => 0)) = arrV cA0 len (fun _ => defaultValue .int) := fun cA0 => (vp_cell_i cA0 len (fun _ => 0)).trans (congrArg (arrV cA0 len) (funext fun _ => rfl))
  have hq1 : ¬ Int32.ofInt x < 0 := fun q => by
    have q2 := (am_lt32 hxi (⟨by decide, by decide⟩ : am_inI 0)).mp q
    omega
  have hq2 : (Int32.ofInt x).toNatClampNeg = len := by rw [am_clamp hxi, hxx]; exact Int.toNat_natCast len
  have hq3 : len * componentBytes .int ≤ 536870912 := Nat.le_trans (Nat.mul_le_mul_right _ hle) (by decide)
  refine va_newa (atype := .int) (D := (dC, dI)) (ty := .int) (N' := len) (a0 := (len, .inl (fun _ => 0))) hx hb hac rfl hE.1 hP hD hS hA hcellz hq1 hq2 hq3 hr.1 hr.2 hd (fun a cA' H1 hK1 hP1 hD1 hS1 => ?_)
  have hcA : cA' = cA 1 := by
    have q1 : va_RA s cA' .int := (hK1.2 4 (cA', .int) rfl).2
    have q2 : va_RA s (cA 1) .int := (hE.1.2 0 (cA 1, .int) rfl).2
    exact Option.some.inj ((va_nm_int q1).symm.trans (va_nm_int q2))
  subst hcA
  have hent : am_e cA fx (am_ad ad (n + 1) a) (am_st h 0 0 (n + 1)) (n + 1) = .inl (cA 1, (len, .inl (fun _ => 0))) := by
    have e1 : am_e cA fx (am_ad ad (n + 1) a) (am_st h 0 0 (n + 1)) (n + 1) = am_e cA fx (am_ad ad (n + 1) a) h (n + 1) := am_e_eq (fun j => am_st_nc (by omega))
    have e5 : ∀ j, h (n + 1) j = 0 := hz
    rw [e1, am_e_arr h0 (by decide) (by decide)]
    have e6 : (fun j => Int32.ofInt (h (n + 1) j)) = fun _ => 0 := funext fun j => by rw [e5 j]; rfl
    rw [e6, hlen3]
  have hpush := am_w_push (cA := cA) (fx := fx) (ad := ad) hn hok a
  rw [hent] at hpush
  rw [← hpush] at hP1 hD1
  have hgo := hk (am_ad ad (n + 1) a) lsM H1 locs (cells + 1) (slots + am_csz (n + 1)) (am_J.new hroom hJ hn hne9 hz hl hP1 hD1 hS1) (am_ok0 (by rw [am_st_eq]; exact fun v hv => am_okv_up (by omega) (am_okt hst v hv)) (am_okv_2 ⟨by omega, by rw [am_st_eq]; exact Int.le_refl _⟩))
  rw [hcsz] at hgo
  have e4 : ((2, (n : Int) + 1) :: st : List am_V).map (am_tr fx (am_ad ad (n + 1) a)) = .ref a :: st.map (am_tr fx ad) := by
    rw [List.map_cons, am_tr_2 fx _ (by omega), am_trs_ad (n := h 0 0) (am_okt hst) (fun k hk => am_ad_old k (by omega)), show ((n : Int) + 1).toNat = n + 1 by omega]
    simp [am_ad]
  rw [e4] at hgo
  exact hgo
set_option maxHeartbeats 4000000 in
theorem am_s_newaJ (X : am_Cx p R s m args meth c dC dI cA fx A nL n0 lim cp ini own b EX L xs) {pc : Nat} (hd : decode b pc = .ok (.newarray .long, 2)) {n : Nat} {x : Int} {st : List am_V} {h : am_H} {ls : List am_V} (hn : h 0 0 = n) (h0 : (am_cell (n + 1)).1 = 2) {len : Nat} (hlen3 : (am_cell (n + 1)).2.1 = len) (hxx : x = (len : Nat)) (hz : ∀ j, h (n + 1) j = 0) (hl : h 0 0 + 1 ≤ lim)
    (hk : am_G p l e R s m args below meth c Q dC dI cA fx A nL n0 lim bm a0 cp (pc + 2) ls ((2, n + 1) :: st) (am_st h 0 0 (n + 1))) : am_G p l e R s m args below meth c Q dC dI cA fx A nL n0 lim bm a0 cp pc ls ((0, x) :: st) h := by
  intro ad lsM H locs cells slots hJ hst
  have hX := X
  obtain ⟨hx, hb, hml, hown, hts, hE, hExt, hA, hini, hrm, hroom, hw, hsx, hL, hxs⟩ := X
  obtain ⟨hP, hD, hS, hok, hfin, hls, hlv, hlen, hn0, hlim, hcp, had⟩ := id hJ
  have hr := am_room hX hn hl hcp
  have hne0 : ¬ (am_cell (n + 1)).1 = 0 := fun q => by rw [q] at h0; cases h0
  have hne9 : ¬ (am_cell (n + 1)).1 = 9 := fun q => by rw [q] at h0; cases h0
  have hcsz : am_csz (n + 1) = len := (if_neg hne0).trans hlen3
  rw [hcsz] at hr
  have hle : len ≤ 65536 := hlen3 ▸ (am_cell_arr (k := n + 1) hne0 hne9).1
  have hxi : am_inI x := by rw [hxx]; exact ⟨by omega, by omega⟩
  have hac : (Cond.arrayClass .long).before args s = true := hts _ am_acJ
  show W p l e R s m args below meth c H locs cells slots Q (F0 m pc lsM (.int (Int32.ofInt x) :: st.map (am_tr fx ad)))
  have hcellz : ∀ cA0 : ClassId, vp_cell cA0 (len, .inr (.inl (fun _ => 0))) = arrV cA0 len (fun _ => defaultValue .long) := fun cA0 => (vp_cell_l cA0 len (fun _ => 0)).trans (congrArg (arrV cA0 len) (funext fun _ => rfl))
  have hq1 : ¬ Int32.ofInt x < 0 := fun q => by
    have q2 := (am_lt32 hxi (⟨by decide, by decide⟩ : am_inI 0)).mp q
    omega
  have hq2 : (Int32.ofInt x).toNatClampNeg = len := by rw [am_clamp hxi, hxx]; exact Int.toNat_natCast len
  have hq3 : len * componentBytes .long ≤ 536870912 := Nat.le_trans (Nat.mul_le_mul_right _ hle) (by decide)
  refine va_newa (atype := .long) (D := (dC, dI)) (ty := .long) (N' := len) (a0 := (len, .inr (.inl (fun _ => 0)))) hx hb hac rfl hE.1 hP hD hS hA hcellz hq1 hq2 hq3 hr.1 hr.2 hd (fun a cA' H1 hK1 hP1 hD1 hS1 => ?_)
  have hcA : cA' = cA 2 := by
    have q1 : va_RA s cA' .long := (hK1.2 4 (cA', .long) rfl).2
    have q2 : va_RA s (cA 2) .long := (hE.1.2 1 (cA 2, .long) rfl).2
    exact Option.some.inj ((va_nm_long q1).symm.trans (va_nm_long q2))
  subst hcA
  have hent : am_e cA fx (am_ad ad (n + 1) a) (am_st h 0 0 (n + 1)) (n + 1) = .inl (cA 2, (len, .inr (.inl (fun _ => 0)))) := by
    have e1 : am_e cA fx (am_ad ad (n + 1) a) (am_st h 0 0 (n + 1)) (n + 1) = am_e cA fx (am_ad ad (n + 1) a) h (n + 1) := am_e_eq (fun j => am_st_nc (by omega))
    have e5 : ∀ j, h (n + 1) j = 0 := hz
    rw [e1, am_e_lng h0]
    have e6 : (fun j => Int64.ofInt (h (n + 1) j)) = fun _ => 0 := funext fun j => by rw [e5 j]; rfl
    rw [e6, hlen3]
  have hpush := am_w_push (cA := cA) (fx := fx) (ad := ad) hn hok a
  rw [hent] at hpush
  rw [← hpush] at hP1 hD1
  have hgo := hk (am_ad ad (n + 1) a) lsM H1 locs (cells + 1) (slots + am_csz (n + 1)) (am_J.new hroom hJ hn hne9 hz hl hP1 hD1 hS1) (am_ok0 (by rw [am_st_eq]; exact fun v hv => am_okv_up (by omega) (am_okt hst v hv)) (am_okv_2 ⟨by omega, by rw [am_st_eq]; exact Int.le_refl _⟩))
  rw [hcsz] at hgo
  have e4 : ((2, (n : Int) + 1) :: st : List am_V).map (am_tr fx (am_ad ad (n + 1) a)) = .ref a :: st.map (am_tr fx ad) := by
    rw [List.map_cons, am_tr_2 fx _ (by omega), am_trs_ad (n := h 0 0) (am_okt hst) (fun k hk => am_ad_old k (by omega)), show ((n : Int) + 1).toNat = n + 1 by omega]
    simp [am_ad]
  rw [e4] at hgo
  exact hgo
set_option maxHeartbeats 4000000 in
theorem am_s_newaB (X : am_Cx p R s m args meth c dC dI cA fx A nL n0 lim cp ini own b EX L xs) {pc : Nat} (hd : decode b pc = .ok (.newarray .byte, 2)) {n : Nat} {x : Int} {st : List am_V} {h : am_H} {ls : List am_V} (hn : h 0 0 = n) (h0 : (am_cell (n + 1)).1 = 3) {len : Nat} (hlen3 : (am_cell (n + 1)).2.1 = len) (hxx : x = (len : Nat)) (hz : ∀ j, h (n + 1) j = 0) (hl : h 0 0 + 1 ≤ lim)
    (hk : am_G p l e R s m args below meth c Q dC dI cA fx A nL n0 lim bm a0 cp (pc + 2) ls ((2, n + 1) :: st) (am_st h 0 0 (n + 1))) : am_G p l e R s m args below meth c Q dC dI cA fx A nL n0 lim bm a0 cp pc ls ((0, x) :: st) h := by
  intro ad lsM H locs cells slots hJ hst
  have hX := X
  obtain ⟨hx, hb, hml, hown, hts, hE, hExt, hA, hini, hrm, hroom, hw, hsx, hL, hxs⟩ := X
  obtain ⟨hP, hD, hS, hok, hfin, hls, hlv, hlen, hn0, hlim, hcp, had⟩ := id hJ
  have hr := am_room hX hn hl hcp
  have hne0 : ¬ (am_cell (n + 1)).1 = 0 := fun q => by rw [q] at h0; cases h0
  have hne9 : ¬ (am_cell (n + 1)).1 = 9 := fun q => by rw [q] at h0; cases h0
  have hcsz : am_csz (n + 1) = len := (if_neg hne0).trans hlen3
  rw [hcsz] at hr
  have hle : len ≤ 65536 := hlen3 ▸ (am_cell_arr (k := n + 1) hne0 hne9).1
  have hxi : am_inI x := by rw [hxx]; exact ⟨by omega, by omega⟩
  have hac : (Cond.arrayClass .byte).before args s = true := hts _ am_acB
  show W p l e R s m args below meth c H locs cells slots Q (F0 m pc lsM (.int (Int32.ofInt x) :: st.map (am_tr fx ad)))
  have hcellz : ∀ cA0 : ClassId, vp_cell cA0 (len, .inl (fun _ => 0)) = arrV cA0 len (fun _ => defaultValue .byte) := fun cA0 => (vp_cell_i cA0 len (fun _ => 0)).trans (congrArg (arrV cA0 len) (funext fun _ => rfl))
  have hq1 : ¬ Int32.ofInt x < 0 := fun q => by
    have q2 := (am_lt32 hxi (⟨by decide, by decide⟩ : am_inI 0)).mp q
    omega
  have hq2 : (Int32.ofInt x).toNatClampNeg = len := by rw [am_clamp hxi, hxx]; exact Int.toNat_natCast len
  have hq3 : len * componentBytes .byte ≤ 536870912 := Nat.le_trans (Nat.mul_le_mul_right _ hle) (by decide)
  refine va_newa (atype := .byte) (D := (dC, dI)) (ty := .byte) (N' := len) (a0 := (len, .inl (fun _ => 0))) hx hb hac rfl hE.1 hP hD hS hA hcellz hq1 hq2 hq3 hr.1 hr.2 hd (fun a cA' H1 hK1 hP1 hD1 hS1 => ?_)
  have hcA : cA' = cA 3 := by
    have q1 : va_RA s cA' .byte := (hK1.2 4 (cA', .byte) rfl).2
    have q2 : va_RA s (cA 3) .byte := (hE.1.2 2 (cA 3, .byte) rfl).2
    exact Option.some.inj ((va_nm_byte q1).symm.trans (va_nm_byte q2))
  subst hcA
  have hent : am_e cA fx (am_ad ad (n + 1) a) (am_st h 0 0 (n + 1)) (n + 1) = .inl (cA 3, (len, .inl (fun _ => 0))) := by
    have e1 : am_e cA fx (am_ad ad (n + 1) a) (am_st h 0 0 (n + 1)) (n + 1) = am_e cA fx (am_ad ad (n + 1) a) h (n + 1) := am_e_eq (fun j => am_st_nc (by omega))
    have e5 : ∀ j, h (n + 1) j = 0 := hz
    rw [e1, am_e_arr h0 (by decide) (by decide)]
    have e6 : (fun j => Int32.ofInt (h (n + 1) j)) = fun _ => 0 := funext fun j => by rw [e5 j]; rfl
    rw [e6, hlen3]
  have hpush := am_w_push (cA := cA) (fx := fx) (ad := ad) hn hok a
  rw [hent] at hpush
  rw [← hpush] at hP1 hD1
  have hgo := hk (am_ad ad (n + 1) a) lsM H1 locs (cells + 1) (slots + am_csz (n + 1)) (am_J.new hroom hJ hn hne9 hz hl hP1 hD1 hS1) (am_ok0 (by rw [am_st_eq]; exact fun v hv => am_okv_up (by omega) (am_okt hst v hv)) (am_okv_2 ⟨by omega, by rw [am_st_eq]; exact Int.le_refl _⟩))
  rw [hcsz] at hgo
  have e4 : ((2, (n : Int) + 1) :: st : List am_V).map (am_tr fx (am_ad ad (n + 1) a)) = .ref a :: st.map (am_tr fx ad) := by
    rw [List.map_cons, am_tr_2 fx _ (by omega), am_trs_ad (n := h 0 0) (am_okt hst) (fun k hk => am_ad_old k (by omega)), show ((n : Int) + 1).toNat = n + 1 by omega]
    simp [am_ad]
  rw [e4] at hgo
  exact hgo
set_option maxHeartbeats 4000000 in
theorem am_s_newaZ (X : am_Cx p R s m args meth c dC dI cA fx A nL n0 lim cp ini own b EX L xs) {pc : Nat} (hd : decode b pc = .ok (.newarray .boolean, 2)) {n : Nat} {x : Int} {st : List am_V} {h : am_H} {ls : List am_V} (hn : h 0 0 = n) (h0 : (am_cell (n + 1)).1 = 4) {len : Nat} (hlen3 : (am_cell (n + 1)).2.1 = len) (hxx : x = (len : Nat)) (hz : ∀ j, h (n + 1) j = 0) (hl : h 0 0 + 1 ≤ lim)
    (hk : am_G p l e R s m args below meth c Q dC dI cA fx A nL n0 lim bm a0 cp (pc + 2) ls ((2, n + 1) :: st) (am_st h 0 0 (n + 1))) : am_G p l e R s m args below meth c Q dC dI cA fx A nL n0 lim bm a0 cp pc ls ((0, x) :: st) h := by
  intro ad lsM H locs cells slots hJ hst
  have hX := X
  obtain ⟨hx, hb, hml, hown, hts, hE, hExt, hA, hini, hrm, hroom, hw, hsx, hL, hxs⟩ := X
  obtain ⟨hP, hD, hS, hok, hfin, hls, hlv, hlen, hn0, hlim, hcp, had⟩ := id hJ
  have hr := am_room hX hn hl hcp
  have hne0 : ¬ (am_cell (n + 1)).1 = 0 := fun q => by rw [q] at h0; cases h0
  have hne9 : ¬ (am_cell (n + 1)).1 = 9 := fun q => by rw [q] at h0; cases h0
  have hcsz : am_csz (n + 1) = len := (if_neg hne0).trans hlen3
  rw [hcsz] at hr
  have hle : len ≤ 65536 := hlen3 ▸ (am_cell_arr (k := n + 1) hne0 hne9).1
  have hxi : am_inI x := by rw [hxx]; exact ⟨by omega, by omega⟩
  have hac : (Cond.arrayClass .boolean).before args s = true := hts _ am_acZ
  show W p l e R s m args below meth c H locs cells slots Q (F0 m pc lsM (.int (Int32.ofInt x) :: st.map (am_tr fx ad)))
  have hcellz : ∀ cA0 : ClassId, vp_cell cA0 (len, .inl (fun _ => 0)) = arrV cA0 len (fun _ => defaultValue .boolean) := fun cA0 => (vp_cell_i cA0 len (fun _ => 0)).trans (congrArg (arrV cA0 len) (funext fun _ => rfl))
  have hq1 : ¬ Int32.ofInt x < 0 := fun q => by
    have q2 := (am_lt32 hxi (⟨by decide, by decide⟩ : am_inI 0)).mp q
    omega
  have hq2 : (Int32.ofInt x).toNatClampNeg = len := by rw [am_clamp hxi, hxx]; exact Int.toNat_natCast len
  have hq3 : len * componentBytes .boolean ≤ 536870912 := Nat.le_trans (Nat.mul_le_mul_right _ hle) (by decide)
  refine va_newa (atype := .boolean) (D := (dC, dI)) (ty := .boolean) (N' := len) (a0 := (len, .inl (fun _ => 0))) hx hb hac rfl hE.1 hP hD hS hA hcellz hq1 hq2 hq3 hr.1 hr.2 hd (fun a cA' H1 hK1 hP1 hD1 hS1 => ?_)
  have hcA : cA' = cA 4 := by
    have q1 : va_RA s cA' .boolean := (hK1.2 4 (cA', .boolean) rfl).2
    have q2 : va_RA s (cA 4) .boolean := (hE.1.2 3 (cA 4, .boolean) rfl).2
    exact Option.some.inj ((va_nm_boolean q1).symm.trans (va_nm_boolean q2))
  subst hcA
  have hent : am_e cA fx (am_ad ad (n + 1) a) (am_st h 0 0 (n + 1)) (n + 1) = .inl (cA 4, (len, .inl (fun _ => 0))) := by
    have e1 : am_e cA fx (am_ad ad (n + 1) a) (am_st h 0 0 (n + 1)) (n + 1) = am_e cA fx (am_ad ad (n + 1) a) h (n + 1) := am_e_eq (fun j => am_st_nc (by omega))
    have e5 : ∀ j, h (n + 1) j = 0 := hz
    rw [e1, am_e_arr h0 (by decide) (by decide)]
    have e6 : (fun j => Int32.ofInt (h (n + 1) j)) = fun _ => 0 := funext fun j => by rw [e5 j]; rfl
    rw [e6, hlen3]
  have hpush := am_w_push (cA := cA) (fx := fx) (ad := ad) hn hok a
  rw [hent] at hpush
  rw [← hpush] at hP1 hD1
  have hgo := hk (am_ad ad (n + 1) a) lsM H1 locs (cells + 1) (slots + am_csz (n + 1)) (am_J.new hroom hJ hn hne9 hz hl hP1 hD1 hS1) (am_ok0 (by rw [am_st_eq]; exact fun v hv => am_okv_up (by omega) (am_okt hst v hv)) (am_okv_2 ⟨by omega, by rw [am_st_eq]; exact Int.le_refl _⟩))
  rw [hcsz] at hgo
  have e4 : ((2, (n : Int) + 1) :: st : List am_V).map (am_tr fx (am_ad ad (n + 1) a)) = .ref a :: st.map (am_tr fx ad) := by
    rw [List.map_cons, am_tr_2 fx _ (by omega), am_trs_ad (n := h 0 0) (am_okt hst) (fun k hk => am_ad_old k (by omega)), show ((n : Int) + 1).toNat = n + 1 by omega]
    simp [am_ad]
  rw [e4] at hgo
  exact hgo
end AMS3
end
section
/-! EVERY BLOCK of the small machine is the machine's -/
section AMS4
variable {p : Program} {l : Launch} {e : Env} {R : Room} {s : State} {m : MethodId} {args : Array Value} {below : List Frame} {meth : Method} {c : Code} {Q : State → Prop}
variable {dC : Nat → ClassId} {dI : Nat → Nat → Nat} {cA : Nat → ClassId} {fx : Nat → Nat → Nat} {A : Nat → Prop} {nL n0 : Nat} {lim : Int} {a0 : Nat → Nat} {cp : am_H → Nat → Nat → Prop} {bm ini : Bool} {bz : Nat} {own : Nat} {b : ByteArray} {EX : (Nat → Prop) → State → Heap → Prop} {L : Nat} {xs : Nat → Int}
def am_CallOK (p : Program) (l : Launch) (e : Env) (R : Room) (s : State) (m : MethodId) (args : Array Value) (below : List Frame) (meth : Method) (c : Code) (Q : State → Prop) (dC : Nat → ClassId) (dI : Nat → Nat → Nat) (cA : Nat → ClassId) (fx : Nat → Nat → Nat) (A : Nat → Prop) (nL n0 : Nat) (lim : Int) (bm : Bool) (a0 : Nat → Nat) (cp : am_H → Nat → Nat → Prop) (own : Nat) (b : ByteArray) (C : Nat → List am_V → am_H → am_K → Prop) : Prop :=
  ∀ (pc idx id : Nat) (q : am_M) (raw : Instr) (as s' : List am_V) (h : am_H) (ls : List am_V) (K : am_K), am_mx own idx = some (id, q) → decode b pc = .ok (raw, 3) → ((raw = .invokestatic idx ∧ q.2.2.2.2.2.1 = 0) ∨ (raw = .invokevirtual idx ∧ q.2.2.2.2.2.1 = 1) ∨ (raw = .invokespecial idx ∧ q.2.2.2.2.2.1 = 2)) → as.length = q.2.2.2.2.2.2.2.1 + (if q.2.2.2.2.2.1 = 0 then 0 else 1) → am_cat s' ≤ 8 → (q.2.2.2.2.2.1 = 2 → h 0 0 + (q.2.2.2.2.2.2.1 : Nat) ≤ lim) → C id as h K → (∀ (v : am_V) (h' : am_H), am_rtok (am_rt q.2.2.2.1) v → K v h' → am_G p l e R s m args below meth c Q dC dI cA fx A nL n0 lim bm a0 cp (pc + 3) ls (if v.1 = 9 then s' else v :: s') h') → am_G p l e R s m args below meth c Q dC dI cA fx A nL n0 lim bm a0 cp pc ls (as.reverse ++ s') h
def am_rmt (raw : Instr) (bz : Nat) (v : am_V) : Prop := (raw = .ireturn ∧ v.1 = 0 ∧ (bz = 0 ∨ (bz = 4 ∧ 0 ≤ v.2 ∧ v.2 ≤ 1))) ∨ (raw = .lreturn ∧ v.1 = 1 ∧ bz = 1) ∨ (raw = .areturn ∧ am_isr v.1 = true ∧ bz = 2) ∨ (raw = .return_ ∧ v = (9, 0) ∧ bz = 3)
def am_RetOK (p : Program) (l : Launch) (e : Env) (R : Room) (s : State) (m : MethodId) (args : Array Value) (below : List Frame) (meth : Method) (c : Code) (Q : State → Prop) (dC : Nat → ClassId) (dI : Nat → Nat → Nat) (cA : Nat → ClassId) (fx : Nat → Nat → Nat) (A : Nat → Prop) (nL n0 : Nat) (lim : Int) (bm : Bool) (a0 : Nat → Nat) (cp : am_H → Nat → Nat → Prop) (ini : Bool) (bz : Nat) (b : ByteArray) (K : am_K) : Prop :=
  ∀ (pc : Nat) (raw : Instr) (v : am_V) (ls : List am_V) (h : am_H), decode b pc = .ok (raw, 1) → am_rmt raw bz v → (ini = true → raw = .return_ → h 0 0 = lim) → K v h → ∀ (ad : Nat → Nat) (lsM : Array Slot) (H : Heap) (locs : List Loc) (cells slots : Nat), am_J s dC dI cA fx A nL n0 lim bm a0 cp ad h ls lsM H locs cells slots → am_okv (h 0 0) v → W p l e R s m args below meth c H locs cells slots Q (F0 m pc lsM (am_ro fx ad v).toList)
theorem am_lcmp_in (a b : Int) : am_inI (am_lcmp a b) := by
  unfold am_lcmp
  by_cases h1 : a < b
  · rw [if_pos h1]; exact ⟨by decide, by decide⟩
  · rw [if_neg h1]
    by_cases h2 : a = b
    · rw [if_pos h2]; exact ⟨by decide, by decide⟩
    · rw [if_neg h2]; exact ⟨by decide, by decide⟩
theorem am_sw_inv : ∀ (l : List Int) (lo a : Int) (K : Int → Prop), am_sw l lo a K → ∀ (k : Nat) (t : Int), l[k]? = some t → a = lo + k → K t := by
  intro l
  induction l with
  | nil => intro lo a K h k t hk; simp at hk
  | cons x r ih =>
    intro lo a K h k t hk ha
    cases k with
    | zero =>
      have : x = t := by simpa using hk
      subst this
      exact h.1 (by simpa using ha)
    | succ k => exact ih (lo + 1) a K h.2 k t (by simpa using hk) (by omega)
theorem am_mx_kc {id : Nat} {q : am_M} (hn : q.2.2.2.2.2.2.2.1 < 15) : am_kc id q / 64 = id ∧ am_kc id q % 16 = q.2.2.2.2.2.2.2.1 + (if q.2.2.2.2.2.1 = 0 then 0 else 1) ∧ am_kc id q / 16 % 4 = am_rt q.2.2.2.1 := by
  have h1 : am_rt q.2.2.2.1 < 4 := by
    unfold am_rt
    split <;> decide
  have h2 : (if q.2.2.2.2.2.1 = 0 then 0 else 1) ≤ 1 := by split <;> decide
  unfold am_kc
  refine ⟨by omega, by omega, by omega⟩
theorem am_mx_in {own idx id : Nat} {q : am_M} (h : am_mx own idx = some (id, q)) : q ∈ am_me ∧ am_me[id]? = some q := by
  unfold am_mx at h
  split at h
  · next r hr =>
    cases hm : am_me[r.2.2.1]? with
    | none => rw [hm] at h; cases h
    | some z =>
      rw [hm] at h
      cases h
      exact ⟨List.mem_of_getElem? hm, hm⟩
  · cases h
theorem am_par : am_me.all (fun q => decide (q.2.2.2.2.2.2.2.1 < 15)) = true := by decide +kernel
theorem am_par_of {q : am_M} (h : q ∈ am_me) : q.2.2.2.2.2.2.2.1 < 15 := by simpa using List.all_eq_true.mp am_par q h
theorem am_s_inv (X : am_Cx p R s m args meth c dC dI cA fx A nL n0 lim cp ini own b EX L xs) {C : Nat → List am_V → am_H → am_K → Prop} {K : am_K} {T : Nat → List am_V → List am_V → am_H → Prop} {e' : Nat} {r : List Instr} (hC : am_CallOK p l e R s m args below meth c Q dC dI cA fx A nL n0 lim bm a0 cp own b C) {pc idx id : Nat} {q : am_M} {raw : Instr} (hm : am_mx own idx = some (id, q)) (hd : decode b pc = .ok (raw, 3)) (hraw : (raw = .invokestatic idx ∧ q.2.2.2.2.2.1 = 0) ∨ (raw = .invokevirtual idx ∧ q.2.2.2.2.2.1 = 1) ∨ (raw = .invokespecial idx ∧ q.2.2.2.2.2.1 = 2)) (hn2 : ¬ q.2.2.2.2.2.1 = 2) {ls st : List am_V} {h : am_H} (hblk : am_blk bm ini bz lim L xs C K T e' (.invokestatic (am_kc id q) :: r) ls st h) (hk : ∀ (ls st : List am_V) (h : am_H), am_blk bm ini bz lim L xs C K T e' r ls st h → am_G p l e R s m args below meth c Q dC dI cA fx A nL n0 lim bm a0 cp (pc + 3) ls st h) : am_G p l e R s m args below meth c Q dC dI cA fx A nL n0 lim bm a0 cp pc ls st h := by
  obtain ⟨hkc1, hkc2, hkc3⟩ := am_mx_kc (id := id) (am_par_of (am_mx_in hm).1)
  obtain ⟨as, s', rfl, hlen, h1⟩ := am_take_inv (show am_take (am_kc id q % 16) st _ from hblk)
  by_cases hcat : am_cat s' ≤ 8
  · rw [if_pos hcat, hkc1, hkc3] at h1
    refine hC pc idx id q raw as s' h ls _ hm hd hraw (by rw [hlen, hkc2]) hcat (fun q2 => absurd q2 hn2) h1 (fun v h' hv hK => ?_)
    unfold am_rtok at hv
    by_cases hr0 : am_rt q.2.2.2.1 = 0
    · rw [if_pos hr0] at hv hK
      rw [if_neg (by rw [hv]; decide)]
      have e1 : v = (0, v.2) := by rw [← hv]
      rw [e1]
      exact hk _ _ _ hK
    · rw [if_neg hr0] at hv hK
      by_cases hr1 : am_rt q.2.2.2.1 = 1
      · rw [if_pos hr1] at hv hK
        rw [if_neg (by rw [hv]; decide)]
        have e1 : v = (1, v.2) := by rw [← hv]
        rw [e1]
        exact hk _ _ _ hK
      · rw [if_neg hr1] at hv hK
        by_cases hr2 : am_rt q.2.2.2.1 = 2
        · rw [if_pos hr2] at hv hK
          rw [if_neg (by intro q9; rw [q9] at hv; cases hv)]
          exact hk _ _ _ hK
        · rw [if_neg hr2] at hv hK
          rw [if_pos hv]
          exact hk _ _ _ hK
  · rw [if_neg hcat] at h1
    exact h1.elim
theorem am_me_at {id : Nat} {q : am_M} (h : am_me[id]? = some q) (d : am_M) : am_me.getD id d = q := by
  rw [List.getD_eq_getElem?_getD, h]
  rfl
theorem am_me_of {q : am_M} (h : q ∈ am_me) : q.2.2.2.2.1 = 99 ∨ am_meok q = true ∧ ¬ q.2.2.2.2.1 = 99 := by
  by_cases h9 : q.2.2.2.2.1 = 99
  · exact Or.inl h9
  · exact Or.inr ⟨List.all_eq_true.mp am_me_ok q h, h9⟩
theorem am_s_spc (X : am_Cx p R s m args meth c dC dI cA fx A nL n0 lim cp ini own b EX L xs) {C : Nat → List am_V → am_H → am_K → Prop} {K : am_K} {T : Nat → List am_V → List am_V → am_H → Prop} {e' : Nat} {r : List Instr} (hC : am_CallOK p l e R s m args below meth c Q dC dI cA fx A nL n0 lim bm a0 cp own b C) {pc idx id : Nat} {q : am_M} (hm : am_mx own idx = some (id, q)) (hd : decode b pc = .ok (.invokespecial idx, 3)) (hn2 : q.2.2.2.2.2.1 = 2) {ls st : List am_V} {h : am_H} (hblk : am_blk bm ini bz lim L xs C K T e' (.invokespecial (am_kc id q) :: r) ls st h) (hk : ∀ (ls st : List am_V) (h : am_H), am_blk bm ini bz lim L xs C K T e' r ls st h → am_G p l e R s m args below meth c Q dC dI cA fx A nL n0 lim bm a0 cp (pc + 3) ls st h) : am_G p l e R s m args below meth c Q dC dI cA fx A nL n0 lim bm a0 cp pc ls st h := by
  obtain ⟨hkc1, hkc2, hkc3⟩ := am_mx_kc (id := id) (am_par_of (am_mx_in hm).1)
  obtain ⟨as, s', rfl, hlen, h1⟩ := am_take_inv (show am_take (am_kc id q % 16) st _ from hblk)
  by_cases hcat : am_cat s' ≤ 8
  · rw [if_pos hcat, hkc1, am_me_at (am_mx_in hm).2] at h1
    have hrt : am_rt q.2.2.2.1 = 3 := by
      rcases am_me_of (am_mx_in hm).1 with h9 | ⟨hok, h9⟩
      · exfalso
        have hall : am_me.all (fun q => decide (¬ (q.2.2.2.2.1 = 99 ∧ q.2.2.2.2.2.1 = 2))) = true := by decide +kernel
        have := List.all_eq_true.mp hall q (am_mx_in hm).1
        simp only [decide_eq_true_eq] at this
        exact this ⟨h9, hn2⟩
      · unfold am_meok at hok
        simp only [Bool.or_eq_true, beq_iff_eq, h9, false_or, Bool.and_eq_true, hn2, if_true, decide_eq_true_eq] at hok
        rw [hok.1.2.2]
        rfl
    refine hC pc idx id q (.invokespecial idx) as s' h ls _ hm hd (Or.inr (Or.inr ⟨rfl, hn2⟩)) (by rw [hlen, hkc2]) hcat (fun _ => h1.1) h1.2 (fun v h' hv hK => ?_)
    unfold am_rtok at hv
    rw [hrt, if_neg (by decide), if_neg (by decide), if_neg (by decide)] at hv
    rw [if_pos hv]
    exact hk _ _ _ hK
  · rw [if_neg hcat] at h1
    exact h1.elim
set_option maxHeartbeats 8000000 in
set_option maxRecDepth 100000 in
theorem am_blk_ok (X : am_Cx p R s m args meth c dC dI cA fx A nL n0 lim cp ini own b EX L xs) {C : Nat → List am_V → am_H → am_K → Prop} {K : am_K} {T : Nat → List am_V → List am_V → am_H → Prop} (hC : am_CallOK p l e R s m args below meth c Q dC dI cA fx A nL n0 lim bm a0 cp own b C) (hR : am_RetOK p l e R s m args below meth c Q dC dI cA fx A nL n0 lim bm a0 cp ini bz b K) (hT : ∀ (pc : Nat) (ls st : List am_V) (h : am_H), T pc ls st h → am_G p l e R s m args below meth c Q dC dI cA fx A nL n0 lim bm a0 cp pc ls st h) (e' : Nat) : ∀ (B : List Instr) (pc : Nat) (ls st : List am_V) (h : am_H), am_dec own b e' B pc = true → am_blk bm ini bz lim L xs C K T e' B ls st h → am_G p l e R s m args below meth c Q dC dI cA fx A nL n0 lim bm a0 cp pc ls st h := by
  intro B
  induction B with
  | nil =>
    intro pc ls st h hd hblk
    have : pc = e' := by simpa [am_dec] using hd
    subst this
    exact hT pc ls st h hblk
  | cons i r ih =>
    intro pc ls st h hd hblk
    unfold am_dec at hd
    cases hdec : decode b pc with
    | error er => rw [hdec] at hd; cases hd
    | ok rl =>
      obtain ⟨raw, len⟩ := rl
      rw [hdec] at hd
      simp only [Bool.and_eq_true, decide_eq_true_eq] at hd
      obtain ⟨hres, hlen, hr⟩ := hd
      have hX := X
      obtain ⟨hx, hb, hml, hown, hts, hE, hExt, hA, hini, hrm, hroom, hw, hsx, hL, hxs⟩ := X
      cases raw
      case iadd =>
        cases (show some (Instr.iadd) = some i from hres)
        have hl : len = 1 := by simpa [am_lnk] using hlen
        subst hl
        obtain ⟨x, y, s', rfl, hi, hk⟩ := am_2_inv (show am_2 0 0 st _ from hblk)
        intro ad lsM H locs cells slots hJ hst
        have hy := (am_okd hst).1 rfl
        have hxv := (am_okd (am_okt hst)).1 rfl
        have hgo := ih _ _ _ _ hr hk ad lsM H locs cells slots hJ (am_ok0 (am_okt (am_okt hst)) (am_okv_0 hi))
        refine lv_iadd hx hb hdec  ?_
        rw [am_add32]
        exact hgo
      case isub =>
        cases (show some (Instr.isub) = some i from hres)
        have hl : len = 1 := by simpa [am_lnk] using hlen
        subst hl
        obtain ⟨x, y, s', rfl, hi, hk⟩ := am_2_inv (show am_2 0 0 st _ from hblk)
        intro ad lsM H locs cells slots hJ hst
        have hy := (am_okd hst).1 rfl
        have hxv := (am_okd (am_okt hst)).1 rfl
        have hgo := ih _ _ _ _ hr hk ad lsM H locs cells slots hJ (am_ok0 (am_okt (am_okt hst)) (am_okv_0 hi))
        refine lv_isub hx hb hdec  ?_
        rw [am_sub32]
        exact hgo
      case imul =>
        cases (show some (Instr.imul) = some i from hres)
        have hl : len = 1 := by simpa [am_lnk] using hlen
        subst hl
        obtain ⟨x, y, s', rfl, hi, hk⟩ := am_2_inv (show am_2 0 0 st _ from hblk)
        intro ad lsM H locs cells slots hJ hst
        have hy := (am_okd hst).1 rfl
        have hxv := (am_okd (am_okt hst)).1 rfl
        have hgo := ih _ _ _ _ hr hk ad lsM H locs cells slots hJ (am_ok0 (am_okt (am_okt hst)) (am_okv_0 hi))
        refine lv_imul hx hb hdec  ?_
        rw [am_mul32]
        exact hgo
      case idiv =>
        cases (show some (Instr.idiv) = some i from hres)
        have hl : len = 1 := by simpa [am_lnk] using hlen
        subst hl
        obtain ⟨x, y, s', rfl, hi, hk⟩ := am_2_inv (show am_2 0 0 st _ from hblk)
        intro ad lsM H locs cells slots hJ hst
        have hy := (am_okd hst).1 rfl
        have hxv := (am_okd (am_okt hst)).1 rfl
        have hq0 : 0 ≤ x / y := Int.ediv_nonneg hi.1 (by omega)
        have hq1 : x / y ≤ x := Int.ediv_le_self y hi.1
        have hgo := ih _ _ _ _ hr hk ad lsM H locs cells slots hJ (am_ok0 (am_okt (am_okt hst)) (am_okv_0 ⟨by omega, by omega⟩))
        refine lv_idiv hx hb hdec (fun q => by rw [show (0 : Int32) = Int32.ofInt 0 from rfl, am_eq32 hy ⟨by decide, by decide⟩] at q; omega) ?_
        rw [am_div32 hxv hy hi.1 hi.2]
        exact hgo
      case irem =>
        cases (show some (Instr.irem) = some i from hres)
        have hl : len = 1 := by simpa [am_lnk] using hlen
        subst hl
        obtain ⟨x, y, s', rfl, hi, hk⟩ := am_2_inv (show am_2 0 0 st _ from hblk)
        intro ad lsM H locs cells slots hJ hst
        have hy := (am_okd hst).1 rfl
        have hxv := (am_okd (am_okt hst)).1 rfl
        have hq0 : 0 ≤ x % y := Int.emod_nonneg x (by omega)
        have hq1 : x % y < y := Int.emod_lt_of_pos x hi.2
        have hgo := ih _ _ _ _ hr hk ad lsM H locs cells slots hJ (am_ok0 (am_okt (am_okt hst)) (am_okv_0 ⟨by omega, by omega⟩))
        refine lv_irem hx hb hdec (fun q => by rw [show (0 : Int32) = Int32.ofInt 0 from rfl, am_eq32 hy ⟨by decide, by decide⟩] at q; omega) ?_
        rw [am_rem32 hxv hy hi.1 hi.2]
        exact hgo
      case ladd =>
        cases (show some (Instr.ladd) = some i from hres)
        have hl : len = 1 := by simpa [am_lnk] using hlen
        subst hl
        obtain ⟨x, y, s', rfl, hi, hk⟩ := am_2_inv (show am_2 1 1 st _ from hblk)
        intro ad lsM H locs cells slots hJ hst
        have hy := (am_okd hst).2.1 rfl
        have hxv := (am_okd (am_okt hst)).2.1 rfl
        have hgo := ih _ _ _ _ hr hk ad lsM H locs cells slots hJ (am_ok0 (am_okt (am_okt hst)) (am_okv_1 hi))
        refine lv_ladd hx hb hdec  ?_
        rw [am_add64]
        exact hgo
      case lsub =>
        cases (show some (Instr.lsub) = some i from hres)
        have hl : len = 1 := by simpa [am_lnk] using hlen
        subst hl
        obtain ⟨x, y, s', rfl, hi, hk⟩ := am_2_inv (show am_2 1 1 st _ from hblk)
        intro ad lsM H locs cells slots hJ hst
        have hy := (am_okd hst).2.1 rfl
        have hxv := (am_okd (am_okt hst)).2.1 rfl
        have hgo := ih _ _ _ _ hr hk ad lsM H locs cells slots hJ (am_ok0 (am_okt (am_okt hst)) (am_okv_1 hi))
        refine lv_lsub hx hb hdec  ?_
        rw [am_sub64]
        exact hgo
      case lmul =>
        cases (show some (Instr.lmul) = some i from hres)
        have hl : len = 1 := by simpa [am_lnk] using hlen
        subst hl
        obtain ⟨x, y, s', rfl, hi, hk⟩ := am_2_inv (show am_2 1 1 st _ from hblk)
        intro ad lsM H locs cells slots hJ hst
        have hy := (am_okd hst).2.1 rfl
        have hxv := (am_okd (am_okt hst)).2.1 rfl
        have hgo := ih _ _ _ _ hr hk ad lsM H locs cells slots hJ (am_ok0 (am_okt (am_okt hst)) (am_okv_1 hi))
        refine lv_lmul hx hb hdec  ?_
        rw [am_mul64]
        exact hgo
      case ldiv =>
        cases (show some (Instr.ldiv) = some i from hres)
        have hl : len = 1 := by simpa [am_lnk] using hlen
        subst hl
        obtain ⟨x, y, s', rfl, hi, hk⟩ := am_2_inv (show am_2 1 1 st _ from hblk)
        intro ad lsM H locs cells slots hJ hst
        have hy := (am_okd hst).2.1 rfl
        have hxv := (am_okd (am_okt hst)).2.1 rfl
        have hq0 : 0 ≤ x / y := Int.ediv_nonneg hi.1 (by omega)
        have hq1 : x / y ≤ x := Int.ediv_le_self y hi.1
        have hgo := ih _ _ _ _ hr hk ad lsM H locs cells slots hJ (am_ok0 (am_okt (am_okt hst)) (am_okv_1 ⟨by omega, by omega⟩))
        refine lv_ldiv hx hb hdec (fun q => by have q2 := congrArg Int64.toInt q; rw [am_i64 hy] at q2; have q3 : y = 0 := q2; omega) ?_
        rw [am_div64 hxv hy hi.1 hi.2]
        exact hgo
      case lrem =>
        cases (show some (Instr.lrem) = some i from hres)
        have hl : len = 1 := by simpa [am_lnk] using hlen
        subst hl
        obtain ⟨x, y, s', rfl, hi, hk⟩ := am_2_inv (show am_2 1 1 st _ from hblk)
        intro ad lsM H locs cells slots hJ hst
        have hy := (am_okd hst).2.1 rfl
        have hxv := (am_okd (am_okt hst)).2.1 rfl
        have hq0 : 0 ≤ x % y := Int.emod_nonneg x (by omega)
        have hq1 : x % y < y := Int.emod_lt_of_pos x hi.2
        have hgo := ih _ _ _ _ hr hk ad lsM H locs cells slots hJ (am_ok0 (am_okt (am_okt hst)) (am_okv_1 ⟨by omega, by omega⟩))
        refine lv_lrem hx hb hdec (fun q => by have q2 := congrArg Int64.toInt q; rw [am_i64 hy] at q2; have q3 : y = 0 := q2; omega) ?_
        rw [am_rem64 hxv hy hi.1 hi.2]
        exact hgo
      case iand =>
        cases (show some (Instr.iand) = some i from hres)
        have hl : len = 1 := by simpa [am_lnk] using hlen
        subst hl
        obtain ⟨x, y, s', rfl, hk⟩ := am_2_inv (show am_2 0 0 st _ from hblk)
        intro ad lsM H locs cells slots hJ hst
        have hy := (am_okd hst).1 rfl
        have hxv := (am_okd (am_okt hst)).1 rfl
        have hgo := ih _ _ _ _ hr hk ad lsM H locs cells slots hJ (am_ok0 (am_okt (am_okt hst)) (am_okv_0 (am_rg32 _)))
        refine lv_iand hx hb hdec  ?_
        rw [show Int32.ofInt x &&& Int32.ofInt y = Int32.ofInt (am_and x y) from (Int32.ofInt_toInt _).symm]
        exact hgo
      case ior =>
        cases (show some (Instr.ior) = some i from hres)
        have hl : len = 1 := by simpa [am_lnk] using hlen
        subst hl
        obtain ⟨x, y, s', rfl, hk⟩ := am_2_inv (show am_2 0 0 st _ from hblk)
        intro ad lsM H locs cells slots hJ hst
        have hy := (am_okd hst).1 rfl
        have hxv := (am_okd (am_okt hst)).1 rfl
        have hgo := ih _ _ _ _ hr hk ad lsM H locs cells slots hJ (am_ok0 (am_okt (am_okt hst)) (am_okv_0 (am_rg32 _)))
        refine lv_ior hx hb hdec  ?_
        rw [show Int32.ofInt x ||| Int32.ofInt y = Int32.ofInt (am_or x y) from (Int32.ofInt_toInt _).symm]
        exact hgo
      case ixor =>
        cases (show some (Instr.ixor) = some i from hres)
        have hl : len = 1 := by simpa [am_lnk] using hlen
        subst hl
        obtain ⟨x, y, s', rfl, hk⟩ := am_2_inv (show am_2 0 0 st _ from hblk)
        intro ad lsM H locs cells slots hJ hst
        have hy := (am_okd hst).1 rfl
        have hxv := (am_okd (am_okt hst)).1 rfl
        have hgo := ih _ _ _ _ hr hk ad lsM H locs cells slots hJ (am_ok0 (am_okt (am_okt hst)) (am_okv_0 (am_rg32 _)))
        refine lv_ixor hx hb hdec  ?_
        rw [show Int32.ofInt x ^^^ Int32.ofInt y = Int32.ofInt (am_xor x y) from (Int32.ofInt_toInt _).symm]
        exact hgo
      case ishl =>
        cases (show some (Instr.ishl) = some i from hres)
        have hl : len = 1 := by simpa [am_lnk] using hlen
        subst hl
        obtain ⟨x, y, s', rfl, hi, hk⟩ := am_2_inv (show am_2 0 0 st _ from hblk)
        intro ad lsM H locs cells slots hJ hst
        have hy := (am_okd hst).1 rfl
        have hxv := (am_okd (am_okt hst)).1 rfl
        have hgo := ih _ _ _ _ hr hk ad lsM H locs cells slots hJ (am_ok0 (am_okt (am_okt hst)) (am_okv_0 hi.2.2.2))
        refine lv_ishl hx hb hdec  ?_
        rw [am_shl32 hi.2.2.2 hi.1 hi.2.1 hi.2.2.1]
        exact hgo
      case ishr =>
        cases (show some (Instr.ishr) = some i from hres)
        have hl : len = 1 := by simpa [am_lnk] using hlen
        subst hl
        obtain ⟨x, y, s', rfl, hi, hk⟩ := am_2_inv (show am_2 0 0 st _ from hblk)
        intro ad lsM H locs cells slots hJ hst
        have hy := (am_okd hst).1 rfl
        have hxv := (am_okd (am_okt hst)).1 rfl
        have hgo := ih _ _ _ _ hr hk ad lsM H locs cells slots hJ (am_ok0 (am_okt (am_okt hst)) (am_okv_0 (am_shr_in hxv _)))
        refine lv_ishr hx hb hdec  ?_
        rw [am_shr32 hxv hi.1 hi.2]
        exact hgo
      case iushr =>
        cases (show some (Instr.iushr) = some i from hres)
        have hl : len = 1 := by simpa [am_lnk] using hlen
        subst hl
        obtain ⟨x, y, s', rfl, hk⟩ := am_2_inv (show am_2 0 0 st _ from hblk)
        intro ad lsM H locs cells slots hJ hst
        exact lv_iushr hx hb hdec (Int32.ofInt_toInt _).symm (ih _ _ _ _ hr hk ad lsM H locs cells slots hJ (am_ok0 (am_okt (am_okt hst)) (am_okv_0 (am_rg32 _))))
      case lshl =>
        cases (show some (Instr.lshl) = some i from hres)
        have hl : len = 1 := by simpa [am_lnk] using hlen
        subst hl
        obtain ⟨x, y, s', rfl, hi, hk⟩ := am_2_inv (show am_2 1 0 st _ from hblk)
        intro ad lsM H locs cells slots hJ hst
        exact lv_lshl hx hb hdec (am_shl64 hi.2.2.2 hi.1 hi.2.1 hi.2.2.1) (ih _ _ _ _ hr hk ad lsM H locs cells slots hJ (am_ok0 (am_okt (am_okt hst)) (am_okv_1 hi.2.2.2)))
      case lcmp =>
        cases (show some (Instr.lcmp) = some i from hres)
        have hl : len = 1 := by simpa [am_lnk] using hlen
        subst hl
        obtain ⟨x, y, s', rfl, hk⟩ := am_2_inv (show am_2 1 1 st _ from hblk)
        intro ad lsM H locs cells slots hJ hst
        have hy := (am_okd hst).2.1 rfl
        have hxv := (am_okd (am_okt hst)).2.1 rfl
        refine W.lcmp hx hb hdec ?_
        rw [am_lcmp_eq hxv hy]
        exact ih _ _ _ _ hr hk ad lsM H locs cells slots hJ (am_ok0 (am_okt (am_okt hst)) (am_okv_0 (am_lcmp_in x y)))
      case ineg =>
        cases (show some (Instr.ineg) = some i from hres)
        have hl : len = 1 := by simpa [am_lnk] using hlen
        subst hl
        simp only [am_blk] at hblk
        obtain ⟨x, s', rfl, hi, hk⟩ := am_1_inv hblk
        intro ad lsM H locs cells slots hJ hst
        refine lv_ineg hx hb hdec ?_
        rw [am_neg32]
        exact ih _ _ _ _ hr hk ad lsM H locs cells slots hJ (am_ok0 (am_okt hst) (am_okv_0 hi))
      case i2l =>
        cases (show some (Instr.i2l) = some i from hres)
        have hl : len = 1 := by simpa [am_lnk] using hlen
        subst hl
        simp only [am_blk] at hblk
        obtain ⟨x, s', rfl, hk⟩ := am_1_inv hblk
        intro ad lsM H locs cells slots hJ hst
        have hxv := (am_okd hst).1 rfl
        exact lv_i2l hx hb hdec (am_lng hxv) (ih _ _ _ _ hr hk ad lsM H locs cells slots hJ (am_ok0 (am_okt hst) (am_okv_1 ⟨by have := hxv.1; omega, by have := hxv.2; omega⟩)))
      case i2b =>
        cases (show some (Instr.i2b) = some i from hres)
        have hl : len = 1 := by simpa [am_lnk] using hlen
        subst hl
        simp only [am_blk] at hblk
        obtain ⟨x, s', rfl, hk⟩ := am_1_inv hblk
        intro ad lsM H locs cells slots hJ hst
        exact lv_i2b hx hb hdec (Int32.ofInt_toInt _).symm (ih _ _ _ _ hr hk ad lsM H locs cells slots hJ (am_ok0 (am_okt hst) (am_okv_0 (am_rg32 _))))
      case aconst_null =>
        cases (show some (Instr.aconst_null) = some i from hres)
        have hl : len = 1 := by simpa [am_lnk] using hlen
        subst hl
        intro ad lsM H locs cells slots hJ hst
        exact lv_null hx hb hdec (ih _ _ _ _ hr hblk ad lsM H locs cells slots hJ (am_ok0 hst (am_okv_2 ⟨Int.le_refl _, hJ.2.2.2.1.1⟩)))
      case dup =>
        cases (show some (Instr.dup) = some i from hres)
        have hl : len = 1 := by simpa [am_lnk] using hlen
        subst hl
        simp only [am_blk] at hblk
        obtain ⟨v, s', rfl, hv, hk⟩ := am_c1_inv hblk
        intro ad lsM H locs cells slots hJ hst
        exact lv_dup hx hb hdec (by rw [am_tr_cat, if_neg hv]) (ih _ _ _ _ hr hk ad lsM H locs cells slots hJ (am_ok0 hst (am_okd hst)))
      case dup2 =>
        cases (show some (Instr.dup2) = some i from hres)
        have hl : len = 1 := by simpa [am_lnk] using hlen
        subst hl
        simp only [am_blk] at hblk
        obtain ⟨v, s1, rfl, hv, hk⟩ := am_c1_inv hblk
        obtain ⟨w, s', rfl, hv2, hk⟩ := am_c1_inv hk
        intro ad lsM H locs cells slots hJ hst
        exact lv_dup2_11 hx hb hdec (by rw [am_tr_cat, if_neg hv]) (by rw [am_tr_cat, if_neg hv2]) (ih _ _ _ _ hr hk ad lsM H locs cells slots hJ (am_ok0 (am_ok0 hst (am_okd (am_okt hst))) (am_okd hst)))
      case pop =>
        cases (show some (Instr.pop) = some i from hres)
        have hl : len = 1 := by simpa [am_lnk] using hlen
        subst hl
        simp only [am_blk] at hblk
        obtain ⟨v, s', rfl, hv, hk⟩ := am_c1_inv hblk
        intro ad lsM H locs cells slots hJ hst
        exact lv_pop hx hb hdec (by rw [am_tr_cat, if_neg hv]) (ih _ _ _ _ hr hk ad lsM H locs cells slots hJ (am_okt hst))
      case iconst n =>
        by_cases hn : -1 ≤ n ∧ n ≤ 5
        · cases (show some (Instr.iconst n) = some i by rw [← hres]; exact (if_pos hn).symm)
          have hl : len = 1 := by simpa [am_lnk] using hlen
          subst hl
          intro ad lsM H locs cells slots hJ hst
          exact lv_iconst hx hb hdec rfl (ih _ _ _ _ hr hblk ad lsM H locs cells slots hJ (am_ok0 hst (am_okv_0 ⟨by omega, by omega⟩)))
        · exact absurd (show (none : Option Instr) = some i by rw [← hres]; exact (if_neg hn).symm) (by simp)
      case bipush n =>
        by_cases hn : (Int8.ofInt n).toInt32.toInt = n
        · cases (show some (Instr.iconst n) = some i by rw [← hres]; exact (if_pos hn).symm)
          have hl : len = 2 := by simpa [am_lnk] using hlen
          subst hl
          intro ad lsM H locs cells slots hJ hst
          exact lv_bipush hx hb hdec (Int32.toInt_inj.mp (by rw [am_i32 (by rw [← hn]; exact am_rg32 _)]; exact hn)) (ih _ _ _ _ hr hblk ad lsM H locs cells slots hJ (am_ok0 hst (am_okv_0 (by rw [← hn]; exact am_rg32 _))))
        · exact absurd (show (none : Option Instr) = some i by rw [← hres]; exact (if_neg hn).symm) (by simp)
      case sipush n =>
        by_cases hn : (Int16.ofInt n).toInt32.toInt = n
        · cases (show some (Instr.iconst n) = some i by rw [← hres]; exact (if_pos hn).symm)
          have hl : len = 3 := by simpa [am_lnk] using hlen
          subst hl
          intro ad lsM H locs cells slots hJ hst
          exact lv_sipush hx hb hdec (Int32.toInt_inj.mp (by rw [am_i32 (by rw [← hn]; exact am_rg32 _)]; exact hn)) (ih _ _ _ _ hr hblk ad lsM H locs cells slots hJ (am_ok0 hst (am_okv_0 (by rw [← hn]; exact am_rg32 _))))
        · exact absurd (show (none : Option Instr) = some i by rw [← hres]; exact (if_neg hn).symm) (by simp)
      case lconst n =>
        cases (show some (Instr.sipush (n : Nat)) = some i from hres)
        have hl : len = 1 := by simpa [am_lnk] using hlen
        subst hl
        intro ad lsM H locs cells slots hJ hst
        have hn2 : (n : Nat) < 2 := n.isLt
        exact lv_lconst hx hb hdec rfl (ih _ _ _ _ hr hblk ad lsM H locs cells slots hJ (am_ok0 hst (am_okv_1 ⟨by omega, by omega⟩)))
      case ldc_w k =>
        have hres2 : (am_kx own k 0).map (fun n => Instr.iconst n) = some i := hres
        unfold am_kx at hres2
        cases hf : am_KL.find? (fun q => q.1 == own && (q.2.1 == k && q.2.2.1 == 0)) with
        | none => rw [hf] at hres2; cases hres2
        | some q =>
          rw [hf] at hres2
          cases hres2
          obtain ⟨h1, h2⟩ := am_find hf
          simp only [Bool.and_eq_true, beq_iff_eq] at h2
          have h3 := List.all_eq_true.mp am_KL_ok q h1
          unfold am_klok at h3
          simp only [Bool.and_eq_true, decide_eq_true_eq, h2.2.2, if_true] at h3
          rw [h2.1, h2.2.1] at h3
          have hl : len = 3 := by simpa [am_lnk] using hlen
          subst hl
          intro ad lsM H locs cells slots hJ hst
          exact lv_ldcw hx hb hown (hts _ (am_inT h3.1 rfl)) hdec (ih _ _ _ _ hr hblk ad lsM H locs cells slots hJ (am_ok0 hst (am_okv_0 h3.2)))
      case ldc2_w k =>
        have hres2 : (am_kx own k 1).map (fun n => Instr.sipush n) = some i := hres
        unfold am_kx at hres2
        cases hf : am_KL.find? (fun q => q.1 == own && (q.2.1 == k && q.2.2.1 == 1)) with
        | none => rw [hf] at hres2; cases hres2
        | some q =>
          rw [hf] at hres2
          cases hres2
          obtain ⟨h1, h2⟩ := am_find hf
          simp only [Bool.and_eq_true, beq_iff_eq] at h2
          have h3 := List.all_eq_true.mp am_KL_ok q h1
          unfold am_klok at h3
          rw [h2.2.2, if_neg (by decide), if_neg (by decide)] at h3
          simp only [Bool.and_eq_true, decide_eq_true_eq] at h3
          rw [h2.1, h2.2.1] at h3
          have hl : len = 3 := by simpa [am_lnk] using hlen
          subst hl
          intro ad lsM H locs cells slots hJ hst
          exact lv_ldc2 hx hb hown (hts _ (am_inT h3.1 rfl)) hdec (ih _ _ _ _ hr hblk ad lsM H locs cells slots hJ (am_ok0 hst (am_okv_1 h3.2)))
      case iload k =>
        cases (show some (Instr.iload k) = some i from hres)
        have hl : len = 2 := by simpa [am_lnk] using hlen
        subst hl
        simp only [am_blk] at hblk
        obtain ⟨x, h1, hk⟩ := am_ldt_inv hblk
        intro ad lsM H locs cells slots hJ hst
        exact lv_iload hx hb hdec (am_lv_at hJ.2.2.2.2.2.2.1 h1 (fun q => by cases q)) (ih _ _ _ _ hr hk ad lsM H locs cells slots hJ (am_ok0 hst (hJ.2.2.2.2.2.1 _ (List.mem_of_getElem? h1))))
      case iload_n k =>
        cases (show some (Instr.iload (k : Nat)) = some i from hres)
        have hl : len = 1 := by simpa [am_lnk] using hlen
        subst hl
        simp only [am_blk] at hblk
        obtain ⟨x, h1, hk⟩ := am_ldt_inv hblk
        intro ad lsM H locs cells slots hJ hst
        exact lv_iload_n hx hb hdec rfl (am_lv_at hJ.2.2.2.2.2.2.1 h1 (fun q => by cases q)) (ih _ _ _ _ hr hk ad lsM H locs cells slots hJ (am_ok0 hst (hJ.2.2.2.2.2.1 _ (List.mem_of_getElem? h1))))
      case lload k =>
        cases (show some (Instr.lload k) = some i from hres)
        have hl : len = 2 := by simpa [am_lnk] using hlen
        subst hl
        simp only [am_blk] at hblk
        obtain ⟨x, h1, hk⟩ := am_ldt_inv hblk
        intro ad lsM H locs cells slots hJ hst
        exact lv_lload hx hb hdec (am_lv_at hJ.2.2.2.2.2.2.1 h1 (fun q => by cases q)) (ih _ _ _ _ hr hk ad lsM H locs cells slots hJ (am_ok0 hst (hJ.2.2.2.2.2.1 _ (List.mem_of_getElem? h1))))
      case lload_n k =>
        cases (show some (Instr.lload (k : Nat)) = some i from hres)
        have hl : len = 1 := by simpa [am_lnk] using hlen
        subst hl
        simp only [am_blk] at hblk
        obtain ⟨x, h1, hk⟩ := am_ldt_inv hblk
        intro ad lsM H locs cells slots hJ hst
        exact lv_lload_n hx hb hdec rfl (am_lv_at hJ.2.2.2.2.2.2.1 h1 (fun q => by cases q)) (ih _ _ _ _ hr hk ad lsM H locs cells slots hJ (am_ok0 hst (hJ.2.2.2.2.2.1 _ (List.mem_of_getElem? h1))))
      case aload k =>
        cases (show some (Instr.aload k) = some i from hres)
        have hl : len = 2 := by simpa [am_lnk] using hlen
        subst hl
        simp only [am_blk] at hblk
        obtain ⟨v, h1, hv, hk⟩ := am_ldr_inv hblk
        intro ad lsM H locs cells slots hJ hst
        have h2 := am_lv_at hJ.2.2.2.2.2.2.1 h1 (by intro q; rw [q] at hv; cases hv)
        have hgo := ih _ _ _ _ hr hk ad lsM H locs cells slots hJ (am_ok0 hst (hJ.2.2.2.2.2.1 _ (List.mem_of_getElem? h1)))
        rw [List.map_cons] at hgo
        rcases am_tr_r fx ad hv with hq | ⟨a, hq⟩
        · rw [hq] at h2 hgo
          exact lv_aloadN hx hb hdec h2 hgo
        · rw [hq] at h2 hgo
          exact lv_aload hx hb hdec h2 hgo
      case aload_n k =>
        cases (show some (Instr.aload (k : Nat)) = some i from hres)
        have hl : len = 1 := by simpa [am_lnk] using hlen
        subst hl
        simp only [am_blk] at hblk
        obtain ⟨v, h1, hv, hk⟩ := am_ldr_inv hblk
        intro ad lsM H locs cells slots hJ hst
        have h2 := am_lv_at hJ.2.2.2.2.2.2.1 h1 (by intro q; rw [q] at hv; cases hv)
        have hgo := ih _ _ _ _ hr hk ad lsM H locs cells slots hJ (am_ok0 hst (hJ.2.2.2.2.2.1 _ (List.mem_of_getElem? h1)))
        rw [List.map_cons] at hgo
        rcases am_tr_r fx ad hv with hq | ⟨a, hq⟩
        · rw [hq] at h2 hgo
          exact lv_aload_nN hx hb hdec rfl h2 hgo
        · rw [hq] at h2 hgo
          exact lv_aload_n hx hb hdec rfl h2 hgo
      case istore k =>
        cases (show some (Instr.istore k) = some i from hres)
        have hl : len = 2 := by simpa [am_lnk] using hlen
        subst hl
        simp only [am_blk] at hblk
        obtain ⟨x, s', rfl, hk⟩ := am_1_inv hblk
        by_cases hkl : k < ls.length
        · rw [if_pos hkl] at hk
          intro ad lsM H locs cells slots hJ hst
          refine lv_istore hx hb hdec hJ.2.2.2.2.2.2.1 (by rw [← hJ.2.2.2.2.2.2.2.1]; exact hkl) rfl (fun ls2 hl2 => ?_)
          exact ih _ _ _ _ hr hk ad ls2 H locs cells slots (hJ.loc (am_sto_ok hkl hJ.2.2.2.2.2.1 (am_okd hst)) (am_lv_st1 hkl hl2) (by rw [am_sto_len]; exact hJ.2.2.2.2.2.2.2.1)) (am_okt hst)
        · rw [if_neg hkl] at hk
          exact hk.elim
      case istore_n k =>
        cases (show some (Instr.istore (k : Nat)) = some i from hres)
        have hl : len = 1 := by simpa [am_lnk] using hlen
        subst hl
        simp only [am_blk] at hblk
        obtain ⟨x, s', rfl, hk⟩ := am_1_inv hblk
        by_cases hkl : (k : Nat) < ls.length
        · rw [if_pos hkl] at hk
          intro ad lsM H locs cells slots hJ hst
          refine lv_istore_n hx hb hdec rfl hJ.2.2.2.2.2.2.1 (by rw [← hJ.2.2.2.2.2.2.2.1]; exact hkl) rfl (fun ls2 hl2 => ?_)
          exact ih _ _ _ _ hr hk ad ls2 H locs cells slots (hJ.loc (am_sto_ok hkl hJ.2.2.2.2.2.1 (am_okd hst)) (am_lv_st1 hkl hl2) (by rw [am_sto_len]; exact hJ.2.2.2.2.2.2.2.1)) (am_okt hst)
        · rw [if_neg hkl] at hk
          exact hk.elim
      case lstore k =>
        cases (show some (Instr.lstore k) = some i from hres)
        have hl : len = 2 := by simpa [am_lnk] using hlen
        subst hl
        simp only [am_blk] at hblk
        obtain ⟨x, s', rfl, hk⟩ := am_1_inv hblk
        by_cases hkl : k + 1 < ls.length
        · rw [if_pos hkl] at hk
          intro ad lsM H locs cells slots hJ hst
          refine lv_lstore hx hb hdec hJ.2.2.2.2.2.2.1 (by rw [← hJ.2.2.2.2.2.2.2.1]; exact hkl) rfl (fun ls2 hl2 => ?_)
          exact ih _ _ _ _ hr hk ad ls2 H locs cells slots (hJ.loc (am_sto_ok (by rw [am_kil_len]; omega) (am_kil_ok hJ.2.2.2.2.2.1) (am_okd hst)) (am_lv_st2 hkl hl2) (by rw [am_sto_len, am_kil_len]; exact hJ.2.2.2.2.2.2.2.1)) (am_okt hst)
        · rw [if_neg hkl] at hk
          exact hk.elim
      case lstore_n k =>
        cases (show some (Instr.lstore (k : Nat)) = some i from hres)
        have hl : len = 1 := by simpa [am_lnk] using hlen
        subst hl
        simp only [am_blk] at hblk
        obtain ⟨x, s', rfl, hk⟩ := am_1_inv hblk
        by_cases hkl : (k : Nat) + 1 < ls.length
        · rw [if_pos hkl] at hk
          intro ad lsM H locs cells slots hJ hst
          refine lv_lstore_n hx hb hdec rfl hJ.2.2.2.2.2.2.1 (by rw [← hJ.2.2.2.2.2.2.2.1]; exact hkl) rfl (fun ls2 hl2 => ?_)
          exact ih _ _ _ _ hr hk ad ls2 H locs cells slots (hJ.loc (am_sto_ok (by rw [am_kil_len]; omega) (am_kil_ok hJ.2.2.2.2.2.1) (am_okd hst)) (am_lv_st2 hkl hl2) (by rw [am_sto_len, am_kil_len]; exact hJ.2.2.2.2.2.2.2.1)) (am_okt hst)
        · rw [if_neg hkl] at hk
          exact hk.elim
      case astore k =>
        cases (show some (Instr.astore k) = some i from hres)
        have hl : len = 2 := by simpa [am_lnk] using hlen
        subst hl
        simp only [am_blk] at hblk
        obtain ⟨v, s', rfl, hv, hk⟩ := am_r_inv hblk
        by_cases hkl : k < ls.length
        · rw [if_pos hkl] at hk
          intro ad lsM H locs cells slots hJ hst
          have hgo : ∀ ls2 : Array Slot, lv_has ls2 nL ((k, am_tr fx ad v) :: (am_lv fx ad ls 0).filter (fun q => !(q.1 == k) && !(q.1 + 1 == k && q.2.category == 2))) → W p l e R s m args below meth c H locs cells slots Q (F0 m (pc + 2) ls2 (s'.map (am_tr fx ad))) := fun ls2 hl2 => ih _ _ _ _ hr hk ad ls2 H locs cells slots (hJ.loc (am_sto_ok hkl hJ.2.2.2.2.2.1 (am_okd hst)) (am_lv_st1 hkl hl2) (by rw [am_sto_len]; exact hJ.2.2.2.2.2.2.2.1)) (am_okt hst)
          show W p l e R s m args below meth c H locs cells slots Q (F0 m pc lsM (am_tr fx ad v :: s'.map (am_tr fx ad)))
          rcases am_tr_r fx ad hv with hq | ⟨a, hq⟩
          · rw [hq] at hgo ⊢
            exact lv_astoreN hx hb hdec hJ.2.2.2.2.2.2.1 (by rw [← hJ.2.2.2.2.2.2.2.1]; exact hkl) rfl hgo
          · rw [hq] at hgo ⊢
            exact lv_astore hx hb hdec hJ.2.2.2.2.2.2.1 (by rw [← hJ.2.2.2.2.2.2.2.1]; exact hkl) rfl hgo
        · rw [if_neg hkl] at hk
          exact hk.elim
      case astore_n k =>
        cases (show some (Instr.astore (k : Nat)) = some i from hres)
        have hl : len = 1 := by simpa [am_lnk] using hlen
        subst hl
        simp only [am_blk] at hblk
        obtain ⟨v, s', rfl, hv, hk⟩ := am_r_inv hblk
        by_cases hkl : (k : Nat) < ls.length
        · rw [if_pos hkl] at hk
          intro ad lsM H locs cells slots hJ hst
          have hgo : ∀ ls2 : Array Slot, lv_has ls2 nL (((k : Nat), am_tr fx ad v) :: (am_lv fx ad ls 0).filter (fun q => !(q.1 == (k : Nat)) && !(q.1 + 1 == (k : Nat) && q.2.category == 2))) → W p l e R s m args below meth c H locs cells slots Q (F0 m (pc + 1) ls2 (s'.map (am_tr fx ad))) := fun ls2 hl2 => ih _ _ _ _ hr hk ad ls2 H locs cells slots (hJ.loc (am_sto_ok hkl hJ.2.2.2.2.2.1 (am_okd hst)) (am_lv_st1 hkl hl2) (by rw [am_sto_len]; exact hJ.2.2.2.2.2.2.2.1)) (am_okt hst)
          show W p l e R s m args below meth c H locs cells slots Q (F0 m pc lsM (am_tr fx ad v :: s'.map (am_tr fx ad)))
          rcases am_tr_r fx ad hv with hq | ⟨a, hq⟩
          · rw [hq] at hgo ⊢
            exact lv_astore_nN hx hb hdec rfl hJ.2.2.2.2.2.2.1 (by rw [← hJ.2.2.2.2.2.2.2.1]; exact hkl) rfl hgo
          · rw [hq] at hgo ⊢
            exact lv_astore_n hx hb hdec rfl hJ.2.2.2.2.2.2.1 (by rw [← hJ.2.2.2.2.2.2.2.1]; exact hkl) rfl hgo
        · rw [if_neg hkl] at hk
          exact hk.elim
      case iinc k n =>
        by_cases hn : (Int32.ofInt n).toInt = n
        · cases (show some (Instr.iinc k n) = some i by rw [← hres]; exact (if_pos hn).symm)
          have hl : len = 3 := by simpa [am_lnk] using hlen
          subst hl
          simp only [am_blk] at hblk
          obtain ⟨x, h1, hi, hk⟩ := am_ldt_inv hblk
          have hkl := am_get_lt h1
          intro ad lsM H locs cells slots hJ hst
          obtain ⟨z, hz⟩ := List.mem_iff_getElem?.mp (am_lv_mem.mpr ⟨k, (0, x), h1, (fun q => by cases q), rfl⟩ : (0 + k, am_tr fx ad (0, x)) ∈ am_lv fx ad ls 0)
          rw [Nat.zero_add] at hz
          refine lv_iinc hx hb hdec hJ.2.2.2.2.2.2.1 hz (am_add32 x n) (by rw [← hJ.2.2.2.2.2.2.2.1]; exact hkl) rfl (fun ls2 hl2 => ?_)
          exact ih _ _ _ _ hr hk ad ls2 H locs cells slots (hJ.loc (am_sto_ok hkl hJ.2.2.2.2.2.1 (am_okv_0 hi)) (am_lv_st1 (v := (0, x + n)) hkl hl2) (by rw [am_sto_len]; exact hJ.2.2.2.2.2.2.2.1)) hst
        · exact absurd (show (none : Option Instr) = some i by rw [← hres]; exact (if_neg hn).symm) (by simp)
      case if_icmp cnd off =>
        by_cases hn : 0 ≤ (pc : Int) + off
        · cases (show some (Instr.if_icmp cnd (pc + off)) = some i by rw [← hres]; exact (if_pos hn).symm)
          have hl : len = 3 := by simpa [am_lnk] using hlen
          subst hl
          have htg : (pc : Int) + off = (((pc : Int) + off).toNat : Int) := by omega
          obtain ⟨x, y, s', rfl, hk⟩ := am_2_inv (show am_2 0 0 st _ from hblk)
          intro ad lsM H locs cells slots hJ hst
          have hy := (am_okd hst).1 rfl
          have hxv := (am_okd (am_okt hst)).1 rfl
          have hs2 := am_okt (am_okt hst)
          have kt := fun z => hT _ _ _ _ (hk.1 z) ad lsM H locs cells slots hJ hs2
          have kf := fun z => ih _ _ _ _ hr (hk.2 z) ad lsM H locs cells slots hJ hs2
          cases cnd
          case eq => exact lv_icmp_eq hx hb hdec htg (fun z => kt ((am_eq32 hxv hy).mp z)) (fun z => kf (fun q => z ((am_eq32 hxv hy).mpr q)))
          case ne => exact lv_icmp_ne hx hb hdec htg (fun z => kt (fun q => z ((am_eq32 hxv hy).mpr q))) (fun z => kf (fun q => q ((am_eq32 hxv hy).mp z)))
          case lt => exact lv_icmp_lt hx hb hdec htg (fun z => kt ((am_lt32 hxv hy).mp z)) (fun z => kf (fun q => z ((am_lt32 hxv hy).mpr q)))
          case ge => exact lv_icmp_ge hx hb hdec htg (fun z => kt ((am_le32 hy hxv).mp z)) (fun z => kf (fun q => z ((am_le32 hy hxv).mpr q)))
          case gt => exact lv_icmp_gt hx hb hdec htg (fun z => kt ((am_lt32 hy hxv).mp z)) (fun z => kf (fun q => z ((am_lt32 hy hxv).mpr q)))
          case le => exact lv_icmp_le hx hb hdec htg (fun z => kt ((am_le32 hxv hy).mp z)) (fun z => kf (fun q => z ((am_le32 hxv hy).mpr q)))
        · exact absurd (show (none : Option Instr) = some i by rw [← hres]; exact (if_neg hn).symm) (by simp)
      case ifCond cnd off =>
        by_cases hn : 0 ≤ (pc : Int) + off
        · cases (show some (Instr.ifCond cnd (pc + off)) = some i by rw [← hres]; exact (if_pos hn).symm)
          have hl : len = 3 := by simpa [am_lnk] using hlen
          subst hl
          have htg : (pc : Int) + off = (((pc : Int) + off).toNat : Int) := by omega
          simp only [am_blk] at hblk
          obtain ⟨x, s', rfl, hk⟩ := am_1_inv hblk
          intro ad lsM H locs cells slots hJ hst
          have hxv := (am_okd hst).1 rfl
          have hy : am_inI 0 := ⟨by decide, by decide⟩
          have hs2 := am_okt hst
          have kt := fun z => hT _ _ _ _ (hk.1 z) ad lsM H locs cells slots hJ hs2
          have kf := fun z => ih _ _ _ _ hr (hk.2 z) ad lsM H locs cells slots hJ hs2
          cases cnd
          case eq => exact lv_if_eq hx hb hdec htg (fun z => kt ((am_eq32 hxv hy).mp z)) (fun z => kf (fun q => z ((am_eq32 hxv hy).mpr q)))
          case ne => exact lv_if_ne hx hb hdec htg (fun z => kt (fun q => z ((am_eq32 hxv hy).mpr q))) (fun z => kf (fun q => q ((am_eq32 hxv hy).mp z)))
          case lt => exact lv_if_lt hx hb hdec htg (fun z => kt ((am_lt32 hxv hy).mp z)) (fun z => kf (fun q => z ((am_lt32 hxv hy).mpr q)))
          case ge => exact lv_if_ge hx hb hdec htg (fun z => kt ((am_le32 hy hxv).mp z)) (fun z => kf (fun q => z ((am_le32 hy hxv).mpr q)))
          case gt => exact lv_if_gt hx hb hdec htg (fun z => kt ((am_lt32 hy hxv).mp z)) (fun z => kf (fun q => z ((am_lt32 hy hxv).mpr q)))
          case le => exact lv_if_le hx hb hdec htg (fun z => kt ((am_le32 hxv hy).mp z)) (fun z => kf (fun q => z ((am_le32 hxv hy).mpr q)))
        · exact absurd (show (none : Option Instr) = some i by rw [← hres]; exact (if_neg hn).symm) (by simp)
      case goto off =>
        by_cases hn : 0 ≤ (pc : Int) + off
        · cases (show some (Instr.goto (pc + off)) = some i by rw [← hres]; exact (if_pos hn).symm)
          have hl : len = 3 := by simpa [am_lnk] using hlen
          subst hl
          intro ad lsM H locs cells slots hJ hst
          exact lv_goto (tgt := ((pc : Int) + off).toNat) hx hb hdec (by omega) (hT _ _ _ _ hblk ad lsM H locs cells slots hJ hst)
        · exact absurd (show (none : Option Instr) = some i by rw [← hres]; exact (if_neg hn).symm) (by simp)
      case ifnull off =>
        by_cases hn : 0 ≤ (pc : Int) + off
        · cases (show some (Instr.ifnull (pc + off)) = some i by rw [← hres]; exact (if_pos hn).symm)
          have hl : len = 3 := by simpa [am_lnk] using hlen
          subst hl
          simp only [am_blk] at hblk
          obtain ⟨v, s', rfl, hv, hk⟩ := am_r_inv hblk
          intro ad lsM H locs cells slots hJ hst
          show W p l e R s m args below meth c H locs cells slots Q (F0 m pc lsM (am_tr fx ad v :: s'.map (am_tr fx ad)))
          by_cases hv0 : v = (2, 0)
          · subst hv0
            rw [am_tr_20]
            exact lv_ifnullN (tgt := ((pc : Int) + off).toNat) hx hb hdec (by omega) (hT _ _ _ _ (hk.1 rfl) ad lsM H locs cells slots hJ (am_okt hst))
          · rcases am_tr_r fx ad hv with hq | ⟨a, hq⟩
            · exfalso
              obtain ⟨t, x⟩ := v
              have ht : t = 2 ∨ t = 4 ∨ t = 7 := by simpa [am_isr] using hv
              rcases ht with rfl | rfl | rfl
              · by_cases hx0 : x = 0
                · exact hv0 (by rw [hx0])
                · simp [am_tr, hx0] at hq
              · simp [am_tr] at hq
              · simp [am_tr] at hq
            · rw [hq]
              exact lv_ifnull hx hb hdec (ih _ _ _ _ hr (hk.2 hv0) ad lsM H locs cells slots hJ (am_okt hst))
        · exact absurd (show (none : Option Instr) = some i by rw [← hres]; exact (if_neg hn).symm) (by simp)
      case tableswitch d lo hi offs =>
        by_cases hn : 0 ≤ (pc : Int) + d ∧ (offs.toList.all (fun t => decide (0 ≤ (pc : Int) + t)) = true) ∧ hi - lo + 1 = (offs.size : Int) ∧ lo ≤ hi
        · cases (show some (Instr.tableswitch (pc + d) lo hi (offs.toList.map (fun t => (pc : Int) + t)).toArray) = some i by rw [← hres]; exact (if_pos hn).symm)
          simp only [am_blk] at hblk
          obtain ⟨x, s', rfl, hk⟩ := am_1_inv hblk
          intro ad lsM H locs cells slots hJ hst
          have hxv := (am_okd hst).1 rfl
          by_cases ho : x < lo ∨ hi < x
          · exact lv_tableOut (tgt := ((pc : Int) + d).toNat) hx hb hdec (by rw [am_i32 hxv]; exact ho) (by omega) (hT _ _ _ _ (hk.1 ho) ad lsM H locs cells slots hJ (am_okt hst))
          · have hlt : (x - lo).toNat < offs.size := by omega
            have hoff : offs[(x - lo).toNat]? = some offs[(x - lo).toNat] := Array.getElem?_eq_getElem hlt
            have hsw := am_sw_inv _ _ _ _ hk.2 (x - lo).toNat ((pc : Int) + offs[(x - lo).toNat]) (by simp [hlt]) (by omega)
            have hge := List.all_eq_true.mp hn.2.1 offs[(x - lo).toNat] (by simp)
            simp only [decide_eq_true_eq] at hge
            exact lv_tableIn (tgt := ((pc : Int) + offs[(x - lo).toNat]).toNat) hx hb hdec (by rw [am_i32 hxv]; omega) (by rw [am_i32 hxv]; omega) (by rw [am_i32 hxv]; exact hoff) (by omega) (hT _ _ _ _ hsw ad lsM H locs cells slots hJ (am_okt hst))
        · exact absurd (show (none : Option Instr) = some i by rw [← hres]; exact (if_neg hn).symm) (by simp)
      case ireturn =>
        cases (show some Instr.ireturn = some i from hres)
        have hl : len = 1 := by simpa [am_lnk] using hlen
        subst hl
        simp only [am_blk] at hblk
        obtain ⟨x, s', rfl, hk⟩ := am_1_inv hblk
        obtain ⟨rfl, hk⟩ := am_nil_inv hk
        intro ad lsM H locs cells slots hJ hst
        by_cases hz : bz = 0
        · rw [if_pos hz] at hk
          exact hR pc .ireturn (0, x) ls h hdec (Or.inl ⟨rfl, rfl, Or.inl hz⟩) (fun _ q => by cases q) hk ad lsM H locs cells slots hJ (am_okd hst)
        · rw [if_neg hz] at hk
          by_cases hz4 : bz = 4
          · rw [if_pos hz4] at hk
            exact hR pc .ireturn (0, x) ls h hdec (Or.inl ⟨rfl, rfl, Or.inr ⟨hz4, hk.1⟩⟩) (fun _ q => by cases q) hk.2 ad lsM H locs cells slots hJ (am_okd hst)
          · rw [if_neg hz4] at hk; exact hk.elim
      case lreturn =>
        cases (show some Instr.lreturn = some i from hres)
        have hl : len = 1 := by simpa [am_lnk] using hlen
        subst hl
        simp only [am_blk] at hblk
        obtain ⟨x, s', rfl, hk⟩ := am_1_inv hblk
        obtain ⟨rfl, hk⟩ := am_nil_inv hk
        intro ad lsM H locs cells slots hJ hst
        by_cases hz : bz = 1
        · rw [if_pos hz] at hk
          exact hR pc .lreturn (1, x) ls h hdec (Or.inr (Or.inl ⟨rfl, rfl, hz⟩)) (fun _ q => by cases q) hk ad lsM H locs cells slots hJ (am_okd hst)
        · rw [if_neg hz] at hk; exact hk.elim
      case areturn =>
        cases (show some Instr.areturn = some i from hres)
        have hl : len = 1 := by simpa [am_lnk] using hlen
        subst hl
        simp only [am_blk] at hblk
        obtain ⟨v, s', rfl, hv, hk⟩ := am_r_inv hblk
        obtain ⟨rfl, hk⟩ := am_nil_inv hk
        intro ad lsM H locs cells slots hJ hst
        have h9 : ¬ v.1 = 9 := by intro q; rw [q] at hv; cases hv
        by_cases hz : bz = 2
        · rw [if_pos hz] at hk
          have := hR pc .areturn v ls h hdec (Or.inr (Or.inr (Or.inl ⟨rfl, hv, hz⟩))) (fun _ q => by cases q) hk ad lsM H locs cells slots hJ (am_okd hst)
          unfold am_ro at this
          rw [if_neg h9] at this
          exact this
        · rw [if_neg hz] at hk; exact hk.elim
      case return_ =>
        cases (show some Instr.return_ = some i from hres)
        have hl : len = 1 := by simpa [am_lnk] using hlen
        subst hl
        simp only [am_blk] at hblk
        obtain ⟨rfl, hk⟩ := am_nil_inv hblk
        intro ad lsM H locs cells slots hJ hst
        by_cases hz3 : bz = 3
        · rw [if_pos hz3] at hk
          by_cases hz : ini = true
          · rw [if_pos hz] at hk
            exact hR pc .return_ (9, 0) ls h hdec (Or.inr (Or.inr (Or.inr ⟨rfl, rfl, hz3⟩))) (fun _ _ => hk.1) hk.2 ad lsM H locs cells slots hJ (am_okv_9 _ _)
          · rw [if_neg hz] at hk
            exact hR pc .return_ (9, 0) ls h hdec (Or.inr (Or.inr (Or.inr ⟨rfl, rfl, hz3⟩))) (fun q => absurd q hz) hk ad lsM H locs cells slots hJ (am_okv_9 _ _)
        · rw [if_neg hz3] at hk; exact hk.elim
      case getfield k =>
        by_cases hn : am_fx own k = 99999
        · exact absurd (show (none : Option Instr) = some i by rw [← hres]; exact (if_pos hn).symm) (by simp)
        · cases (show some (Instr.getfield (am_fx own k)) = some i by rw [← hres]; exact (if_neg hn).symm)
          have hl : len = 3 := by simpa [am_lnk] using hlen
          subst hl
          simp only [am_blk] at hblk
          obtain ⟨v, s', rfl, hv, hk⟩ := am_r_inv hblk
          by_cases hv2 : v.1 = 2
          · rw [if_pos hv2] at hk
            obtain ⟨t, o⟩ := v
            cases hv2
            exact am_s_get hX hdec hn hk (fun w hw => ih _ _ _ _ hr hw)
          · rw [if_neg hv2] at hk
            by_cases hv4 : v.1 = 4 ∧ am_fx own k / 64 = 15
            · rw [if_pos hv4] at hk
              obtain ⟨t, o⟩ := v
              obtain ⟨hv4, h15⟩ := hv4
              cases hv4
              exact am_s_getw hX hdec hn h15 (ih _ _ _ _ hr hk)
            · rw [if_neg hv4] at hk
              exact hk.elim
      case putfield k =>
        by_cases hn : am_fx own k = 99999 ∨ am_fw own k = false
        · exact absurd (show (none : Option Instr) = some i by rw [← hres]; exact (if_pos hn).symm) (by simp)
        · cases (show some (Instr.putfield (am_fx own k)) = some i by rw [← hres]; exact (if_neg hn).symm)
          have hl : len = 3 := by simpa [am_lnk] using hlen
          subst hl
          cases st with
          | nil => exact hblk.elim
          | cons v st =>
            simp only [am_blk] at hblk
            obtain ⟨o, s', rfl, hk⟩ := am_1_inv hblk
            exact am_s_put hX hdec (fun q => hn (Or.inl q)) (by cases hfw : am_fw own k with | true => rfl | false => exact absurd (Or.inr hfw) hn) hk (fun h' hw => ih _ _ _ _ hr hw)
      case iaload =>
        cases (show some Instr.iaload = some i from hres)
        have hl : len = 1 := by simpa [am_lnk] using hlen
        subst hl
        simp only [am_blk] at hblk
        obtain ⟨x, s1, rfl, hk⟩ := am_1_inv hblk
        obtain ⟨v, s', rfl, hv, hk2⟩ := am_r_inv hk
        obtain ⟨t, a⟩ := v
        by_cases hv2 : t = 2
        · rw [if_pos hv2] at hk2
          subst hv2
          unfold am_arr at hk2
          by_cases hc : (am_cell a.toNat).1 = 1 ∧ 0 < a
          · rw [if_pos hc] at hk2
            exact am_s_iald hX hdec hc.1 hc.2 hk2.1 (ih _ _ _ _ hr hk2.2)
          · rw [if_neg hc] at hk2; exact hk2.elim
        · rw [if_neg hv2] at hk2
          by_cases hv7 : t = 7
          · rw [if_pos hv7] at hk2
            subst hv7
            exact am_s_sld hX hdec hk2.1 (ih _ _ _ _ hr hk2.2)
          · rw [if_neg hv7] at hk2; exact hk2.elim
      case laload =>
        cases (show some Instr.laload = some i from hres)
        have hl : len = 1 := by simpa [am_lnk] using hlen
        subst hl
        simp only [am_blk] at hblk
        obtain ⟨x, s1, rfl, hk⟩ := am_1_inv hblk
        obtain ⟨a, s', rfl, hk2⟩ := am_1_inv (t := 2) hk
        unfold am_arr at hk2
        by_cases hc : (am_cell a.toNat).1 = 2 ∧ 0 < a
        · rw [if_pos hc] at hk2
          exact am_s_lald hX hdec hc.1 hc.2 hk2.1 (ih _ _ _ _ hr hk2.2)
        · rw [if_neg hc] at hk2; exact hk2.elim
      case baload =>
        cases (show some Instr.baload = some i from hres)
        have hl : len = 1 := by simpa [am_lnk] using hlen
        subst hl
        simp only [am_blk] at hblk
        obtain ⟨x, s1, rfl, hk⟩ := am_1_inv hblk
        obtain ⟨a, s', rfl, hk2⟩ := am_1_inv (t := 2) hk
        unfold am_arr at hk2
        by_cases h3 : (am_cell a.toNat).1 = 3
        · rw [if_pos h3] at hk2
          by_cases hc : (am_cell a.toNat).1 = 3 ∧ 0 < a
          · rw [if_pos hc] at hk2
            exact am_s_bald hX hdec hc.1 hc.2 hk2.1 (fun z => ih _ _ _ _ hr (hk2.2 z))
          · rw [if_neg hc] at hk2; exact hk2.elim
        · rw [if_neg h3] at hk2
          by_cases hc : (am_cell a.toNat).1 = 4 ∧ 0 < a
          · rw [if_pos hc] at hk2
            exact am_s_zald hX hdec hc.1 hc.2 hk2.1 (fun z => ih _ _ _ _ hr (hk2.2 z))
          · rw [if_neg hc] at hk2; exact hk2.elim
      case iastore =>
        cases (show some Instr.iastore = some i from hres)
        have hl : len = 1 := by simpa [am_lnk] using hlen
        subst hl
        simp only [am_blk] at hblk
        obtain ⟨x, s1, rfl, hk⟩ := am_1_inv hblk
        obtain ⟨y, s2, rfl, hk2⟩ := am_1_inv (t := 0) hk
        obtain ⟨a, s', rfl, hk3⟩ := am_1_inv (t := 2) hk2
        unfold am_arr at hk3
        by_cases hc : (am_cell a.toNat).1 = 1 ∧ 0 < a
        · rw [if_pos hc] at hk3
          exact am_s_iast hX hdec hc.1 hc.2 hk3.1 (ih _ _ _ _ hr hk3.2)
        · rw [if_neg hc] at hk3; exact hk3.elim
      case lastore =>
        cases (show some Instr.lastore = some i from hres)
        have hl : len = 1 := by simpa [am_lnk] using hlen
        subst hl
        simp only [am_blk] at hblk
        obtain ⟨x, s1, rfl, hk⟩ := am_1_inv hblk
        obtain ⟨y, s2, rfl, hk2⟩ := am_1_inv (t := 0) hk
        obtain ⟨a, s', rfl, hk3⟩ := am_1_inv (t := 2) hk2
        unfold am_arr at hk3
        by_cases hc : (am_cell a.toNat).1 = 2 ∧ 0 < a
        · rw [if_pos hc] at hk3
          exact am_s_last hX hdec hc.1 hc.2 hk3.1 (ih _ _ _ _ hr hk3.2)
        · rw [if_neg hc] at hk3; exact hk3.elim
      case bastore =>
        cases (show some Instr.bastore = some i from hres)
        have hl : len = 1 := by simpa [am_lnk] using hlen
        subst hl
        simp only [am_blk] at hblk
        obtain ⟨x, s1, rfl, hk⟩ := am_1_inv hblk
        obtain ⟨y, s2, rfl, hk2⟩ := am_1_inv (t := 0) hk
        obtain ⟨a, s', rfl, hk3⟩ := am_1_inv (t := 2) hk2
        unfold am_arr at hk3
        by_cases h3 : (am_cell a.toNat).1 = 3
        · rw [if_pos h3] at hk3
          by_cases hc : (am_cell a.toNat).1 = 3 ∧ 0 < a
          · rw [if_pos hc] at hk3
            exact am_s_bast hX hdec hc.1 hc.2 ⟨hk3.1.1, hk3.1.2.1⟩ hk3.1.2.2 (ih _ _ _ _ hr hk3.2)
          · rw [if_neg hc] at hk3; exact hk3.elim
        · rw [if_neg h3] at hk3
          by_cases hc : (am_cell a.toNat).1 = 4 ∧ 0 < a
          · rw [if_pos hc] at hk3
            exact am_s_zast hX hdec hc.1 hc.2 ⟨hk3.1.1, hk3.1.2.1⟩ hk3.1.2.2 (ih _ _ _ _ hr hk3.2)
          · rw [if_neg hc] at hk3; exact hk3.elim
      case arraylength =>
        cases (show some Instr.arraylength = some i from hres)
        have hl : len = 1 := by simpa [am_lnk] using hlen
        subst hl
        simp only [am_blk] at hblk
        obtain ⟨v, s', rfl, hv, hk⟩ := am_r_inv hblk
        obtain ⟨t, a⟩ := v
        by_cases hv2 : t = 2
        · rw [if_pos hv2] at hk
          subst hv2
          unfold am_arr at hk
          by_cases h0 : (am_cell a.toNat).1 = 0
          · rw [if_pos h0] at hk
            by_cases hc : (am_cell a.toNat).1 = 9 ∧ 0 < a
            · rw [h0] at hc; exact absurd hc.1 (by decide)
            · rw [if_neg hc] at hk; exact hk.elim
          · rw [if_neg h0] at hk
            by_cases hc : (am_cell a.toNat).1 = (am_cell a.toNat).1 ∧ 0 < a
            · rw [if_pos hc] at hk
              by_cases h9 : (am_cell a.toNat).1 = 9
              · intro ad lsM H locs cells slots hJ hst
                have hov := (am_okd hst).2.2.1 rfl
                exfalso
                have h93 := hJ.2.2.2.1.2.1
                have hall : ∀ z : Fin 93, ¬ (am_cell (z.val + 1)).1 = 9 := by decide +kernel
                exact hall ⟨a.toNat - 1, by omega⟩ (by rw [show a.toNat - 1 + 1 = a.toNat by omega]; exact h9)
              · exact am_s_alen hX hdec h0 h9 hc.2 (ih _ _ _ _ hr hk)
            · rw [if_neg hc] at hk; exact hk.elim
        · rw [if_neg hv2] at hk
          by_cases hv7 : t = 7
          · rw [if_pos hv7] at hk
            subst hv7
            exact am_s_slen hX hdec (ih _ _ _ _ hr hk)
          · rw [if_neg hv7] at hk; exact hk.elim
      case new k =>
        have hres2 : (am_CL.find? (fun q => q.1 == own && q.2.1 == k)).map (fun q => Instr.new q.2.2.1) = some i := hres
        cases hf : am_CL.find? (fun q => q.1 == own && q.2.1 == k) with
        | none => rw [hf] at hres2; cases hres2
        | some q =>
          rw [hf] at hres2
          cases hres2
          obtain ⟨h1, h2⟩ := am_find hf
          simp only [Bool.and_eq_true, beq_iff_eq] at h2
          have hl : len = 3 := by simpa [am_lnk] using hlen
          subst hl
          obtain ⟨n, g1, g2, g3, g4, g5, g6⟩ := (show ∃ n : Nat, h 0 0 = n ∧ (am_cell (n + 1)).1 = 0 ∧ (am_cell (n + 1)).2.1 = q.2.2.1 ∧ (∀ j, h (n + 1) j = 0) ∧ h 0 0 + 1 ≤ lim ∧ am_blk bm ini bz lim L xs C K T e' r ls ((2, n + 1) :: st) (am_st h 0 0 (n + 1)) from hblk)
          exact am_s_new hX hdec h1 h2.1 h2.2 g1 g2 g3 g4 g5 (ih _ _ _ _ hr g6)
      case newarray ty =>
        cases (show some (Instr.newarray ty) = some i from hres)
        have hl : len = 2 := by simpa [am_lnk] using hlen
        subst hl
        simp only [am_blk] at hblk
        obtain ⟨x, s', rfl, n, g1, g2, g3, g4, g5, g6⟩ := am_1_inv hblk
        have h99 : ¬ (am_cell (n + 1)).1 = 99 := by
          intro q
          have h0 : ¬ (am_cell (n + 1)).1 = 0 := by rw [q]; decide
          have h9 : ¬ (am_cell (n + 1)).1 = 9 := by rw [q]; decide
          rcases (am_cell_arr h0 h9).2 with z | z | z | z <;> (rw [q] at z; cases z)
        cases ty
        case int => exact am_s_newaI hX hdec g1 g2 rfl g3 g4 g5 (ih _ _ _ _ hr g6)
        case long => exact am_s_newaJ hX hdec g1 g2 rfl g3 g4 g5 (ih _ _ _ _ hr g6)
        case byte => exact am_s_newaB hX hdec g1 g2 rfl g3 g4 g5 (ih _ _ _ _ hr g6)
        case boolean => exact am_s_newaZ hX hdec g1 g2 rfl g3 g4 g5 (ih _ _ _ _ hr g6)
        all_goals exact absurd g2 h99
      case invokestatic k =>
        have hres2 : (am_mx own k).bind (fun q => if q.2.2.2.2.2.2.1 = 0 then some (Instr.invokestatic (am_kc q.1 q.2)) else none) = some i := hres
        cases hm : am_mx own k with
        | none => rw [hm] at hres2; cases hres2
        | some iq =>
          rw [hm] at hres2
          obtain ⟨id, q⟩ := iq
          have hres3 : (if q.2.2.2.2.2.1 = 0 then some (Instr.invokestatic (am_kc id q)) else none) = some i := hres2
          by_cases hk0 : q.2.2.2.2.2.1 = 0
          · rw [if_pos hk0] at hres3
            cases hres3
            have hl : len = 3 := by simpa [am_lnk] using hlen
            subst hl
            exact am_s_inv hX hC hm hdec (Or.inl ⟨rfl, hk0⟩) (fun q2 => by rw [hk0] at q2; cases q2) hblk (fun ls st h hw => ih _ ls st h hr hw)
          · rw [if_neg hk0] at hres3; cases hres3
      case invokevirtual k =>
        have hres2 : (am_mx own k).bind (fun q => if q.2.2.2.2.2.2.1 = 1 then some (Instr.invokestatic (am_kc q.1 q.2)) else none) = some i := hres
        cases hm : am_mx own k with
        | none => rw [hm] at hres2; cases hres2
        | some iq =>
          rw [hm] at hres2
          obtain ⟨id, q⟩ := iq
          have hres3 : (if q.2.2.2.2.2.1 = 1 then some (Instr.invokestatic (am_kc id q)) else none) = some i := hres2
          by_cases hk0 : q.2.2.2.2.2.1 = 1
          · rw [if_pos hk0] at hres3
            cases hres3
            have hl : len = 3 := by simpa [am_lnk] using hlen
            subst hl
            exact am_s_inv hX hC hm hdec (Or.inr (Or.inl ⟨rfl, hk0⟩)) (fun q2 => by rw [hk0] at q2; cases q2) hblk (fun ls st h hw => ih _ ls st h hr hw)
          · rw [if_neg hk0] at hres3; cases hres3
      case invokespecial k =>
        by_cases hob : (am_OL.find? (fun q => q.1 == own && q.2.1 == k)).isSome = true
        · cases (show some Instr.nop = some i by rw [← hres]; exact (if_pos hob).symm)
          have hl : len = 3 := by simpa [am_lnk] using hlen
          subst hl
          simp only [am_blk] at hblk
          obtain ⟨v, s', rfl, hv, hk⟩ := am_r_inv hblk
          by_cases hc : v.1 = 2 ∧ 0 < v.2 ∧ am_cat s' ≤ 8
          · rw [if_pos hc] at hk
            obtain ⟨t, o⟩ := v
            obtain ⟨hv2, ho, hcat⟩ := hc
            cases hv2
            cases hf : am_OL.find? (fun q => q.1 == own && q.2.1 == k) with
            | none => rw [hf] at hob; cases hob
            | some q =>
              obtain ⟨h1, h2⟩ := am_find hf
              simp only [Bool.and_eq_true, beq_iff_eq] at h2
              have h3 := List.all_eq_true.mp am_OL_ok q h1
              unfold am_olok at h3
              simp only [decide_eq_true_eq] at h3
              rw [h2.1, h2.2] at h3
              intro ad lsM H locs cells slots hJ hst
              have hgo := ih _ _ _ _ hr hk ad lsM H locs cells slots hJ (am_okt hst)
              show W p l e R s m args below meth c H locs cells slots Q (F0 m pc lsM (am_tr fx ad (2, o) :: s'.map (am_tr fx ad)))
              rw [am_tr_2 fx ad ho]
              have hcats : ((s'.map (am_tr fx ad)).map fun v => v.category).sum ≤ 8 := by rw [am_tr_cats]; exact hcat
              refine W.objInit (rest := s'.map (am_tr fx ad)) hx hb hown (hts _ (am_inT h3 rfl)) (hts _ (List.mem_filter.mpr ⟨am_obj_im, rfl⟩)) (hts _ (List.mem_filter.mpr ⟨am_obj_cd, rfl⟩)) rfl (by rw [hml]; exact hJ.2.2.2.2.2.2.1.1) rfl hdec hrm.1 ?_ ?_
              · have := lv_room (m := m) (pc := pc) (ls := lsM) (rest := .ref (ad o.toNat) :: s'.map (am_tr fx ad)) hcats
                exact Nat.le_trans (Nat.add_le_add_right this 12) hrm.2
              · exact hgo
          · rw [if_neg hc] at hk; exact hk.elim
        · have hres1 : (am_mx own k).bind (fun q => if q.2.2.2.2.2.2.1 = 2 then some (Instr.invokespecial (am_kc q.1 q.2)) else none) = some i := by rw [← hres]; exact (if_neg hob).symm
          cases hm : am_mx own k with
          | none => rw [hm] at hres1; cases hres1
          | some iq =>
            rw [hm] at hres1
            obtain ⟨id, q⟩ := iq
            have hres3 : (if q.2.2.2.2.2.1 = 2 then some (Instr.invokespecial (am_kc id q)) else none) = some i := hres1
            by_cases hk0 : q.2.2.2.2.2.1 = 2
            · rw [if_pos hk0] at hres3
              cases hres3
              have hl : len = 3 := by simpa [am_lnk] using hlen
              subst hl
              exact am_s_spc hX hC hm hdec hk0 hblk (fun ls st h hw => ih _ ls st h hr hw)
            · rw [if_neg hk0] at hres3; cases hres3
      all_goals exact absurd (show (none : Option Instr) = some i from hres) (by simp)
end AMS4
end
section
/-! METHODS: what the small machine says of a call, the machine does -/
section AMM
variable {dC : Nat → ClassId} {dI : Nat → Nat → Nat} {cA : Nat → ClassId} {fx : Nat → Nat → Nat} {bm : Bool} {EX : (Nat → Prop) → State → Heap → Prop} {L : Nat} {xs : Nat → Int}
def am_Bw (dC : Nat → ClassId) (dI : Nat → Nat → Nat) (cA : Nat → ClassId) (fx : Nat → Nat → Nat) (bm : Bool) (A : Nat → Prop) (a0 : Nat → Nat) (n0 n1 x1 : Int) (h : am_H) (ad : Nat → Nat) (t : State) : Prop :=
  va_P (dC, dI) am_cl (am_w cA fx ad h) t.heap ∧ va_D A (am_w cA fx ad h) ∧ am_okh h ∧ (bm = true → am_fin h) ∧ (∀ k : Nat, (k : Int) ≤ n0 → ad k = a0 k) ∧ h 0 0 = n1 ∧ h 0 1 = x1
def am_Pw (dC : Nat → ClassId) (dI : Nat → Nat → Nat) (cA : Nat → ClassId) (fx : Nat → Nat → Nat) (EX : (Nat → Prop) → State → Heap → Prop) (h : am_H) (ad : Nat → Nat) (sz : Nat) (U : State) : Prop :=
  U.heap.size = sz ∧ va_P (dC, dI) am_cl (am_w cA fx ad h) U.heap ∧ va_D (fun _ => True) (am_w cA fx ad h) ∧ am_E dC dI cA EX (va_A (am_w cA fx ad h) sz) U U.heap
def am_rm (d mc ms : Nat) : Room := { frames := d, cells := mc, slots := ms, locals := 60 * d }
/-- a method's contract at a state of the small machine -/
def am_Mt (l : Launch) (dC : Nat → ClassId) (dI : Nat → Nat → Nat) (cA : Nat → ClassId) (fx : Nat → Nat → Nat) (bm : Bool) (EX : (Nat → Prop) → State → Heap → Prop) (d : Nat) (q : am_M) (as : List am_V) (h : am_H) (ad : Nat → Nat) (sz : Nat) (K : am_K) : Prop :=
  Met l q.1 (.code q.1 q.2.1 q.2.2.1 q.2.2.2.1 :: am_TB) (am_rm d q.2.2.2.2.2.2.1 (am_sz ((h 0 0).toNat + q.2.2.2.2.2.2.1) - am_sz (h 0 0).toNat)) (va_Pc (as.map (am_tr fx ad)) (am_Pw dC dI cA fx EX h ad sz)) (am_Qc fx (am_rt q.2.2.2.1) K (am_Bw dC dI cA fx bm (va_A (am_w cA fx ad h) sz) ad (h 0 0) (h 0 0 + (q.2.2.2.2.2.2.1 : Nat)) (h 0 1)) (va_A (am_w cA fx ad h) sz)) q.2.2.2.2.2.2.1 (am_sz ((h 0 0).toNat + q.2.2.2.2.2.2.1) - am_sz (h 0 0).toNat) (va_A (am_w cA fx ad h) sz)
theorem am_lg_len (fx : Nat → Nat → Nat) (ad : Nat → Nat) (as : List am_V) : (lg_sl (as.map (am_tr fx ad))).length = (am_spl as).length := by
  induction as with
  | nil => rfl
  | cons v r ih =>
    have h1 : lg_sl ((v :: r).map (am_tr fx ad)) = (if (am_tr fx ad v).category = 2 then [Slot.val (am_tr fx ad v), Slot.second] else [Slot.val (am_tr fx ad v)]) ++ lg_sl (r.map (am_tr fx ad)) := rfl
    have h2 : am_spl (v :: r) = (if v.1 = 1 then [v, (9, 0)] else [v]) ++ am_spl r := rfl
    rw [h1, h2, List.length_append, List.length_append, ih, am_tr_cat]
    by_cases hv : v.1 = 1 <;> simp [hv]
theorem am_lv_args (fx : Nat → Nat → Nat) (ad : Nat → Nat) (k : Nat) (q : Nat × Value) : ∀ (as : List am_V) (i : Nat), q ∈ am_lv fx ad (am_spl as ++ List.replicate k (9, 0)) i → q ∈ lv_args i (as.map (am_tr fx ad)) := by
  intro as
  induction as with
  | nil =>
    intro i h
    obtain ⟨j, v, h1, h2, -⟩ := am_lv_mem.mp h
    have h3 := List.mem_of_getElem? h1
    have h4 : v ∈ List.replicate k ((9, 0) : am_V) := by simpa [am_spl] using h3
    rw [(List.mem_replicate.mp h4).2] at h2
    exact absurd rfl h2
  | cons v r ih =>
    intro i h
    have h2 : am_spl (v :: r) = (if v.1 = 1 then [v, (9, 0)] else [v]) ++ am_spl r := rfl
    rw [h2] at h
    rw [List.map_cons, lv_args, am_tr_cat]
    by_cases hv : v.1 = 1
    · rw [if_pos hv] at h
      rw [if_pos hv, if_pos rfl]
      have h9 : ¬ v.1 = 9 := by rw [hv]; decide
      simp only [List.cons_append, List.nil_append, am_lv, if_neg h9, if_true] at h
      rcases List.mem_cons.mp h with h | h
      · rw [h]; exact List.mem_cons_self
      · exact List.mem_cons_of_mem _ (ih (i + 2) h)
    · rw [if_neg hv] at h
      rw [if_neg hv, if_neg (by decide)]
      simp only [List.cons_append, List.nil_append, am_lv] at h
      by_cases h9 : v.1 = 9
      · rw [if_pos h9] at h
        exact List.mem_cons_of_mem _ (ih (i + 1) h)
      · rw [if_neg h9] at h
        rcases List.mem_cons.mp h with h | h
        · rw [h]; exact List.mem_cons_self
        · exact List.mem_cons_of_mem _ (ih (i + 1) h)
theorem am_ent_len {as : List am_V} {n : Nat} (h : (am_spl as).length ≤ n) : (am_ent as n).length = n := by
  unfold am_ent
  rw [List.length_append, List.length_replicate]
  omega
theorem am_ent_ok {as : List am_V} {n : Nat} {z : Int} (h : ∀ v ∈ as, am_okv z v) : ∀ v ∈ am_ent as n, am_okv z v := by
  intro v hv
  unfold am_ent at hv
  rcases List.mem_append.mp hv with hv | hv
  · unfold am_spl at hv
    obtain ⟨w, hw, hv⟩ := List.mem_flatMap.mp hv
    by_cases h1 : w.1 = 1
    · rw [if_pos h1] at hv
      rcases List.mem_cons.mp hv with rfl | hv
      · exact h _ hw
      · rw [List.mem_singleton.mp hv]; exact am_okv_9 _ _
    · rw [if_neg h1] at hv
      rw [List.mem_singleton.mp hv]; exact h _ hw
  · rw [(List.mem_replicate.mp hv).2]; exact am_okv_9 _ _
theorem am_lv_ent {fx : Nat → Nat → Nat} {ad : Nat → Nat} {as : List am_V} {n : Nat} (h : (am_spl as).length ≤ n) : lv_has ((lg_sl (as.map (am_tr fx ad)) ++ List.replicate (n - (lg_sl (as.map (am_tr fx ad))).length) Slot.unset).toArray) n (am_lv fx ad (am_ent as n) 0) := by
  have h1 := lv_entry (as.map (am_tr fx ad)) (n := n) (by rw [am_lg_len]; exact h)
  exact ⟨h1.1, h1.2.1, fun q hq => h1.2.2 q (am_lv_args fx ad _ q as 0 hq)⟩
theorem am_no12 : am_me.all (fun q => decide (¬ q.2.2.2.2.1 = 12)) = true := by decide +kernel
theorem am_99 : am_ML.all (fun r => match am_me[r.2.2.1]? with | some q => decide (q.2.2.2.2.1 = 99 → r.1 = 12) | none => false) = true := by decide +kernel
theorem am_not99 {own idx id : Nat} {q : am_M} (h : am_mx own idx = some (id, q)) (ho : ¬ own = 12) : ¬ q.2.2.2.2.1 = 99 := by
  unfold am_mx at h
  split at h
  · next r hr =>
    cases hm : am_me[r.2.2.1]? with
    | none => rw [hm] at h; cases h
    | some z =>
      rw [hm] at h
      cases h
      obtain ⟨h1, h2⟩ := am_find hr
      simp only [Bool.and_eq_true, beq_iff_eq] at h2
      have h3 := List.all_eq_true.mp am_99 r h1
      rw [hm] at h3
      simp only [decide_eq_true_eq] at h3
      exact fun h9 => ho (h2.1 ▸ h3 h9)
  · cases h
/-- a method's own words, out of the tables -/
theorem am_words {q : am_M} (hq : q ∈ am_me) (h9 : ¬ q.2.2.2.2.1 = 99) : q.2.2.1 ≤ 40 ∧ Cond.code q.1 q.2.1 q.2.2.1 q.2.2.2.1 ∈ am_TB ∧ (q.2.2.2.2.2.1 = 0 → Cond.static q.1 ∈ am_TB) ∧ (¬ q.2.2.2.2.2.1 = 0 → Cond.instanceMethod q.1 ∈ am_TB) ∧ (q.2.2.2.2.2.1 = 1 → Cond.selects q.1.cls q.1 q.1 ∈ am_TB) ∧ Cond.initialized q.1.cls ∈ am_TB ∧ am_R q.2.2.2.2.1 = q.1.cls ∧ plainFor q.1 = true ∧ (q.1.cls ≠ "java/lang/invoke/MethodHandle" ∧ q.1.cls ≠ "java/lang/invoke/VarHandle") ∧ (parseMethodDescriptor q.1.desc).map (fun d => d.parameters.length) = some q.2.2.2.2.2.2.2.1 ∧ (q.2.2.2.2.2.1 = 2 → q.1.name = "<init>" ∧ q.2.2.2.1 = none) ∧ (¬ q.2.2.2.2.2.1 = 2 → q.2.2.2.2.2.2.1 = 0) ∧ (q.2.2.2.2.2.1 = 1 → q.2.2.2.2.1 < 12) := by
  have h1 := List.all_eq_true.mp am_me_ok q hq
  unfold am_meok at h1
  simp only [Bool.or_eq_true, beq_iff_eq, h9, false_or, Bool.and_eq_true, decide_eq_true_eq] at h1
  obtain ⟨⟨⟨⟨⟨⟨⟨⟨⟨c1, c2⟩, c3⟩, c4⟩, c5⟩, c6⟩, c7⟩, c8⟩, c9⟩, c10⟩ := h1
  have hcd := (am_cd q hq).resolve_left h9
  refine ⟨c1, am_inT hcd rfl, fun hk => ?_, fun hk => ?_, fun hk => ?_, am_inT c4 rfl, c5, c6, c7, c8, fun hk => ?_, fun hk => ?_, fun hk => ?_⟩
  · rw [if_pos hk] at c2; exact am_inT c2 rfl
  · rw [if_neg hk] at c2; exact am_inT c2 rfl
  · rw [if_pos hk] at c3; simp only [decide_eq_true_eq] at c3; exact am_inT c3 rfl
  · rw [if_pos hk] at c9; simpa using c9
  · rw [if_neg hk] at c9; simpa using c9
  · rw [if_pos hk] at c10; simpa using c10
theorem am_ml_link {own idx id : Nat} {q : am_M} (h : am_mx own idx = some (id, q)) : (Cond.methodLink (am_R own) idx q.1 ∈ am_TB) ∨ (Cond.methodLinkNest (am_R own) idx q.1 "StonesAlike" ∈ am_NW) := by
  unfold am_mx at h
  split at h
  · next r hr =>
    cases hm : am_me[r.2.2.1]? with
    | none => rw [hm] at h; cases h
    | some z =>
      rw [hm] at h
      cases h
      obtain ⟨h1, h2⟩ := am_find hr
      simp only [Bool.and_eq_true, beq_iff_eq] at h2
      have h3 := List.all_eq_true.mp am_ML_ok r h1
      unfold am_mlok am_mlc at h3
      rw [hm] at h3
      simp only [Bool.and_eq_true, decide_eq_true_eq] at h3
      have h4 := h3.2
      rw [h2.1, h2.2] at h4
      by_cases hn : r.2.2.2.1 = 0
      · rw [if_pos hn] at h4
        exact Or.inl (am_inT h4 rfl)
      · rw [if_neg hn] at h4
        exact Or.inr (List.mem_filter.mpr ⟨List.mem_of_getElem? h4, rfl⟩)
  · cases h
end AMM
end
section
/-! CALLS -/
section AMK
variable {p : Program} {l : Launch} {e : Env} {R : Room} {s : State} {m : MethodId} {args : Array Value} {below : List Frame} {meth : Method} {c : Code} {Q : State → Prop}
variable {dC : Nat → ClassId} {dI : Nat → Nat → Nat} {cA : Nat → ClassId} {fx : Nat → Nat → Nat} {A : Nat → Prop} {nL n0 : Nat} {lim : Int} {a0 : Nat → Nat} {cp : am_H → Nat → Nat → Prop} {bm ini : Bool} {bz : Nat} {own : Nat} {b : ByteArray} {EX : (Nat → Prop) → State → Heap → Prop} {L : Nat} {xs : Nat → Int}
set_option maxHeartbeats 4000000 in
theorem am_call_one (X : am_Cx p R s m args meth c dC dI cA fx A nL n0 lim cp ini own b EX L xs) {d : Nat} (hfr : d + 1 ≤ R.frames) (hlo : 59 + 60 * d ≤ R.locals) {pc idx id : Nat} {q : am_M} {raw : Instr} {as s' : List am_V} {h : am_H} {ls : List am_V} {K : am_K} (hm : am_mx own idx = some (id, q)) (hd : decode b pc = .ok (raw, 3)) (hraw : (raw = .invokestatic idx ∧ q.2.2.2.2.2.1 = 0) ∨ (raw = .invokevirtual idx ∧ q.2.2.2.2.2.1 = 1) ∨ (raw = .invokespecial idx ∧ q.2.2.2.2.2.1 = 2)) (hlen : as.length = q.2.2.2.2.2.2.2.1 + (if q.2.2.2.2.2.1 = 0 then 0 else 1)) (hcat : am_cat s' ≤ 8) (hlm : q.2.2.2.2.2.1 = 2 → h 0 0 + (q.2.2.2.2.2.2.1 : Nat) ≤ lim) (h9 : ¬ q.2.2.2.2.1 = 99)
    (hM : ∀ (ad : Nat → Nat) (sz : Nat), am_okh h → (bm = true → am_fin h) → (∀ v ∈ as, am_okv (h 0 0) v) → (q.2.2.2.2.2.1 = 0 ∨ am_rcv q.2.2.2.2.1 as = true) ∧ am_Mt l dC dI cA fx bm EX d q as h ad sz K)
    (hk : ∀ (v : am_V) (h' : am_H), am_rtok (am_rt q.2.2.2.1) v → K v h' → am_G p l e R s m args below meth c Q dC dI cA fx A nL n0 lim bm a0 cp (pc + 3) ls (if v.1 = 9 then s' else v :: s') h') : am_G p l e R s m args below meth c Q dC dI cA fx A nL n0 lim bm a0 cp pc ls (as.reverse ++ s') h := by
  intro ad lsM H locs cells slots hJ hst
  obtain ⟨hx, hb, hml, hown, hts, hE, hExt, hA, hini, hrm, hroom, hw, hsx, hL, hxs⟩ := X
  obtain ⟨hP, hD, hS, hok, hfin, hls, hlv, hln, hn0, hlim, hcp, had⟩ := _root_.id hJ
  have hoka : ∀ v ∈ as, am_okv (h 0 0) v := fun v hv => hst v (List.mem_append.mpr (Or.inl (List.mem_reverse.mpr hv)))
  have hoks : ∀ v ∈ s', am_okv (h 0 0) v := fun v hv => hst v (List.mem_append.mpr (Or.inr hv))
  obtain ⟨hrc, hMt⟩ := hM ad H.size hok hfin hoka
  unfold am_Mt at hMt
  obtain ⟨w1, w2, w3, w4, w5, w6, w7, w8, w9, w10, w11, w12, w13⟩ := am_words (am_mx_in hm).1 h9
  have hsub : ∀ z, va_A (am_w cA fx ad h) H.size z → A z := fun z hz => hz.elim (fun ⟨k, e, hk⟩ => hD.2 k _ hk) (fun hz => hA z (Nat.le_trans hS.1 hz))
  have hmc : h 0 0 + (q.2.2.2.2.2.2.1 : Nat) ≤ lim := by
    by_cases h2 : q.2.2.2.2.2.1 = 2
    · exact hlm h2
    · rw [w12 h2]; simpa using hlim
  have h00 := hok.1
  have hf : cells + q.2.2.2.2.2.2.1 ≤ R.cells ∧ slots + (am_sz ((h 0 0).toNat + q.2.2.2.2.2.2.1) - am_sz (h 0 0).toNat) ≤ R.slots := by
    have h5 := hroom.2.2 h (am_st h 0 0 (h 0 0 + (q.2.2.2.2.2.2.1 : Nat))) q.2.2.2.2.2.2.1 cells slots h00 hmc (am_st_eq _ _ _ _) (am_st_ne (by decide)) hcp
    exact ⟨h5.1, h5.2.1⟩
  have hcpk : ∀ h' : am_H, h' 0 0 = h 0 0 + (q.2.2.2.2.2.2.1 : Nat) → h' 0 1 = h 0 1 → cp h' (cells + q.2.2.2.2.2.2.1) (slots + (am_sz ((h 0 0).toNat + q.2.2.2.2.2.2.1) - am_sz (h 0 0).toNat)) := fun h' e1 e2 => (hroom.2.2 h h' q.2.2.2.2.2.2.1 cells slots h00 hmc e1 e2 hcp).2.2
  generalize hms : am_sz ((h 0 0).toNat + q.2.2.2.2.2.2.1) - am_sz (h 0 0).toNat = ms at hMt hf hcpk
  have kk : ∀ (v : am_V) (h' : am_H) (ad' : Nat → Nat) (t : State) (H1 : Heap) (locs1 : List Loc), t.heap = H1 → s.vm.Alike t.vm → am_rtok (am_rt q.2.2.2.1) v → am_okv (h' 0 0) v → K v h' → am_Bw dC dI cA fx bm (va_A (am_w cA fx ad h) H.size) ad (h 0 0) (h 0 0 + (q.2.2.2.2.2.2.1 : Nat)) (h 0 1) h' ad' t → va_S A s.heap H1 locs1 → W p l e R s m args below meth c H1 locs1 (cells + q.2.2.2.2.2.2.1) (slots + ms) Q (F0 m (pc + 3) lsM ((am_ro fx ad' v).toList ++ s'.map (am_tr fx ad))) := by
    intro v h' ad' t H1 locs1 ht hvm hrt hokv hK hB hS1
    obtain ⟨b1, b2, b3, b4, b5, b6, b7⟩ := hB
    rw [ht] at b1
    have hup : h 0 0 ≤ h' 0 0 := by rw [b6]; omega
    have hJ' : am_J s dC dI cA fx A nL n0 lim bm a0 cp ad' h' ls lsM H1 locs1 (cells + q.2.2.2.2.2.2.1) (slots + ms) := by
      refine ⟨b1, b2.weaken (fun k z _ hz => hsub _ hz), hS1, b3, b4, fun z hz => am_okv_up hup (hls z hz), ?_, hln, ?_, ?_, hcpk h' b6 b7, ?_⟩
      · rw [am_lv_ad b5 hls]; exact hlv
      · omega
      · rw [b6]; exact hmc
      · intro k hk2; rw [b5 k (by omega)]; exact had k hk2
    have hgo := hk v h' hrt hK ad' lsM H1 locs1 _ _ hJ' (by
      by_cases hv9 : v.1 = 9
      · rw [if_pos hv9]; exact fun z hz => am_okv_up hup (hoks z hz)
      · rw [if_neg hv9]; exact am_ok0 (fun z hz => am_okv_up hup (hoks z hz)) hokv)
    have hst2 : (am_ro fx ad' v).toList ++ s'.map (am_tr fx ad) = (if v.1 = 9 then s' else v :: s').map (am_tr fx ad') := by
      unfold am_ro
      by_cases hv9 : v.1 = 9
      · rw [if_pos hv9, if_pos hv9, am_trs_ad hoks b5]; rfl
      · rw [if_neg hv9, if_neg hv9, List.map_cons, am_trs_ad hoks b5]; rfl
    rw [hst2]
    exact hgo
  have hpre : ∀ U : State, U.heap = H → s.WarmedH U.vm → am_Pw dC dI cA fx EX h ad H.size U := fun U hU hW => ⟨by rw [hU], by rw [hU]; exact hP, hD.weaken (fun _ _ _ _ => trivial), by rw [hU]; exact hE.warm hExt hW hS hsub⟩
  have hblind : FrameBlind (va_Pc (as.map (am_tr fx ad)) (am_Pw dC dI cA fx EX h ad H.size)) := by
    intro a U g mk hz
    obtain ⟨z0, z1, z2, z3, z4⟩ := hz
    exact ⟨z0, z1, z2, z3, va_K.moved (u := U) (U := U.calling g mk a) (Vm.Alike.refl U.vm) z4.1, fun w hw => by
      rcases am_NW_is hw with ⟨a1, i1, b1, n1, d1, q1, rfl⟩ | ⟨a1, i1, x1, q1, rfl⟩
      · exact va_Nw.same rfl rfl (z4.2.1 _ hw)
      · exact va_Nw.same rfl rfl (z4.2.1 _ hw), hExt.1 _ U (U.calling g mk a) _ (Vm.Alike.refl U.vm) z4.2.2⟩
  have hG : GoodIn am_TB (.code q.1 q.2.1 q.2.2.1 q.2.2.2.1 :: am_TB) := fun w hw => by
    rcases List.mem_cons.mp hw with rfl | hw
    · exact am_TB_good _ w2
    · exact am_TB_good _ hw
  have hpay := pay_in hts hG
  have hpar : ∀ sig, parseMethodDescriptor q.1.desc = some sig → q.2.2.2.2.2.2.2.1 = sig.parameters.length := fun sig hsg => by
    rw [hsg] at w10
    exact (Option.some.inj w10).symm
  have hcats : ((s'.map (am_tr fx ad)).map fun v => v.category).sum ≤ 8 := by rw [am_tr_cats]; exact hcat
  have hr1 : (am_rm d q.2.2.2.2.2.2.1 ms).frames + 1 ≤ R.frames := hfr
  have hr2 : 8 + (q.2.2.1 + 11) + (am_rm d q.2.2.2.2.2.2.1 ms).locals ≤ R.locals := by
    show 8 + (q.2.2.1 + 11) + 60 * d ≤ R.locals
    omega
  rcases hraw with ⟨rfl, hk0⟩ | ⟨rfl, hk1⟩ | ⟨rfl, hk2⟩
  · rw [if_pos hk0] at hlen
    have hst3 : (as.reverse ++ s').map (am_tr fx ad) = (as.map (am_tr fx ad)).reverse ++ s'.map (am_tr fx ad) := by rw [List.map_append, List.map_reverse]
    rw [hst3]
    rcases am_ml_link hm with hl | hl
    · exact am_callx (va_runS (As := as.map (am_tr fx ad)) (rest := s'.map (am_tr fx ad)) ⟨hx, hb, hml, hown, hts⟩ hMt ⟨⟨rfl, rfl, hr1, hr2, hpay, List.mem_cons_self, hts _ w2, hts _ w6, w9, hpar, hts _ hl⟩, hts _ (w3 hk0)⟩ ⟨hblind, fun U hU hW => ⟨rfl, hpre U hU hW⟩⟩ rfl (by simpa using hlen) hlv.1 rfl (lv_room hcats) hd hf) hS (fun z _ => hsub z) hsub kk
    · exact am_callx (va_runSN (As := as.map (am_tr fx ad)) (rest := s'.map (am_tr fx ad)) ⟨hx, hb, hml, hown, hts⟩ hMt ⟨⟨⟨rfl, rfl, hr1, hr2, hpay, List.mem_cons_self⟩, hts _ w2, hts _ w6, w9, hpar, va_Nw.use rfl (hE.2.1 _ hl)⟩, hts _ (w3 hk0), trivial⟩ ⟨hblind, fun U hU hW => ⟨rfl, hpre U hU hW⟩⟩ rfl (by simpa using hlen) hlv.1 rfl (lv_room hcats) hd hf) hS (fun z _ => hsub z) hsub kk
  · have hrv := hrc.resolve_left (by rw [hk1]; decide)
    cases as with
    | nil => cases hrv
    | cons v as =>
      unfold am_rcv at hrv
      simp only [decide_eq_true_eq] at hrv
      obtain ⟨v1, v2, v3, v4⟩ := hrv
      obtain ⟨t, o⟩ := v
      cases v1
      rw [if_neg (by rw [hk1]; decide)] at hlen
      have hov := (hoka (2, o) List.mem_cons_self).2.2.1 rfl
      have hst3 : (((2, o) :: as).reverse ++ s').map (am_tr fx ad) = (as.map (am_tr fx ad)).reverse ++ Value.ref (ad o.toNat) :: s'.map (am_tr fx ad) := by
        rw [List.map_append, List.map_reverse, List.map_cons, am_tr_2 fx ad v4]; simp
      have hst4 : ((2, o) :: as : List am_V).map (am_tr fx ad) = Value.ref (ad o.toNat) :: as.map (am_tr fx ad) := by rw [List.map_cons, am_tr_2 fx ad v4]
      rw [hst3]
      obtain ⟨⟨CN, CT, CM⟩, hcl, hlen2, hfd⟩ := am_cell_obj v2
      have hwg := am_w_get cA fx ad h (k := o.toNat) (by omega) (by omega)
      have he : am_e cA fx ad h o.toNat = .inr ((am_cell o.toNat).2.1, am_fs fx ad h o.toNat (am_cell o.toNat).2.2 0) := by unfold am_e; rw [if_pos v2]
      rw [he] at hwg
      have hrecv := va_recv hE.1 hP hcl hwg
      have hcn : (CN, CT, CM).1 = q.1.cls := by
        have v3' : (am_cell o.toNat).2.1 = q.2.2.2.2.1 := v3
        rw [v3'] at hcl
        rw [← am_R_of hcl, w7]
      rw [hcn] at hrecv
      rcases am_ml_link hm with hl | hl
      · exact am_callx (va_runV (C := q.1.cls) (As := as.map (am_tr fx ad)) (rest := s'.map (am_tr fx ad)) ⟨hx, hb, hml, hown, hts⟩ hMt ⟨⟨rfl, rfl, hr1, hr2, hpay, List.mem_cons_self, hts _ w2, hts _ w6, w9, hpar, hts _ hl⟩, hts _ (w4 (by rw [hk1]; decide)), hts _ (w5 hk1)⟩ ⟨hblind, hrecv, fun U hU hW => ⟨by rw [hst4], hpre U hU hW⟩⟩ rfl (by simp at hlen ⊢; omega) hlv.1 rfl (lv_room hcats) hd hf) hS (fun z _ => hsub z) hsub kk
      · exact am_callx (va_runVN (C := q.1.cls) (As := as.map (am_tr fx ad)) (rest := s'.map (am_tr fx ad)) ⟨hx, hb, hml, hown, hts⟩ hMt ⟨⟨⟨rfl, rfl, hr1, hr2, hpay, List.mem_cons_self⟩, hts _ w2, hts _ w6, w9, hpar, va_Nw.use rfl (hE.2.1 _ hl)⟩, hts _ (w4 (by rw [hk1]; decide)), hts _ (w5 hk1)⟩ ⟨hblind, hrecv, fun U hU hW => ⟨by rw [hst4], hpre U hU hW⟩⟩ rfl (by simp at hlen ⊢; omega) hlv.1 rfl (lv_room hcats) hd hf) hS (fun z _ => hsub z) hsub kk
  · have hrv := hrc.resolve_left (by rw [hk2]; decide)
    obtain ⟨hnm, hret⟩ := w11 hk2
    cases as with
    | nil => cases hrv
    | cons v as =>
      unfold am_rcv at hrv
      simp only [decide_eq_true_eq] at hrv
      obtain ⟨v1, v2, v3, v4⟩ := hrv
      obtain ⟨t, o⟩ := v
      cases v1
      rw [if_neg (by rw [hk2]; decide)] at hlen
      have hst3 : (((2, o) :: as).reverse ++ s').map (am_tr fx ad) = (as.map (am_tr fx ad)).reverse ++ Value.ref (ad o.toNat) :: s'.map (am_tr fx ad) := by
        rw [List.map_append, List.map_reverse, List.map_cons, am_tr_2 fx ad v4]; simp
      have hst4 : ((2, o) :: as : List am_V).map (am_tr fx ad) = Value.ref (ad o.toNat) :: as.map (am_tr fx ad) := by rw [List.map_cons, am_tr_2 fx ad v4]
      rw [hst3]
      rcases am_ml_link hm with hl | hl
      · exact am_callx (va_runI (As := as.map (am_tr fx ad)) (rest := s'.map (am_tr fx ad)) ⟨hx, hb, hml, hown, hts⟩ hMt ⟨⟨rfl, rfl, hr1, hr2, hpay, by rw [← hret]; exact List.mem_cons_self, by rw [← hret]; exact hts _ w2, hts _ w6, w9, hpar, hts _ hl⟩, hnm, hts _ (w4 (by rw [hk2]; decide))⟩ ⟨hblind, fun U hU hW => ⟨by rw [hst4], hpre U hU hW⟩⟩ rfl (by simp at hlen ⊢; omega) hlv.1 rfl (lv_room hcats) hd hf) hS (fun z _ => hsub z) hsub kk
      · exact am_callx (va_runIN (As := as.map (am_tr fx ad)) (rest := s'.map (am_tr fx ad)) ⟨hx, hb, hml, hown, hts⟩ hMt ⟨⟨⟨rfl, rfl, hr1, hr2, hpay, by rw [← hret]; exact List.mem_cons_self⟩, by rw [← hret]; exact hts _ w2, hts _ w6, w9, hpar, va_Nw.use rfl (hE.2.1 _ hl)⟩, hnm, hts _ (w4 (by rw [hk2]; decide))⟩ ⟨hblind, fun U hU hW => ⟨by rw [hst4], hpre U hU hW⟩⟩ rfl (by simp at hlen ⊢; omega) hlv.1 rfl (lv_room hcats) hd hf) hS (fun z _ => hsub z) hsub kk
/-- what must be known of the words' reader -/
def am_Prim (l : Launch) (dC : Nat → ClassId) (dI : Nat → Nat → Nat) (cA : Nat → ClassId) (fx : Nat → Nat → Nat) (bm : Bool) (EX : (Nat → Prop) → State → Heap → Prop) (P : Nat → List am_V → am_H → am_K → Prop) : Prop :=
  ∀ (d : Nat) (q : am_M) (as : List am_V) (h : am_H) (ad : Nat → Nat) (sz : Nat) (K : am_K), am_me[am_lwid]? = some q → am_rcv q.2.2.2.2.1 as = true → P am_lwid as h K → am_okh h → (bm = true → am_fin h) → (∀ v ∈ as, am_okv (h 0 0) v) → am_Mt l dC dI cA fx bm EX (d + 1) q as h ad sz K
theorem am_lw_kind : (match am_me[am_lwid]? with | some q => decide (q.2.2.2.2.2.1 = 1) | none => false) = true := by decide +kernel
end AMK
end
section
/-! EVERY METHOD'S CONTRACT out of the small machine -/
section AMN
variable {dC : Nat → ClassId} {dI : Nat → Nat → Nat} {cA : Nat → ClassId} {fx : Nat → Nat → Nat} {bm : Bool} {EX : (Nat → Prop) → State → Heap → Prop} {L : Nat} {xs : Nat → Int}
theorem am_rk_rt {r : Option FieldType} {bz : Nat} (h : am_rk r = bz) : (bz = 0 → r = some .int) ∧ (bz = 4 → r = some .boolean) ∧ (bz = 1 → r = some .long) ∧ (bz = 2 → (∃ n, r = some (.object n)) ∨ ∃ t, r = some (.array t)) ∧ (bz = 3 → r = none) := by
  subst h
  match r with
  | none => exact ⟨(fun h => by cases h), (fun h => by cases h), (fun h => by cases h), (fun h => by cases h), (fun _ => rfl)⟩
  | some .int => exact ⟨(fun _ => rfl), (fun h => by cases h), (fun h => by cases h), (fun h => by cases h), (fun h => by cases h)⟩
  | some .boolean => exact ⟨(fun h => by cases h), (fun _ => rfl), (fun h => by cases h), (fun h => by cases h), (fun h => by cases h)⟩
  | some .long => exact ⟨(fun h => by cases h), (fun h => by cases h), (fun _ => rfl), (fun h => by cases h), (fun h => by cases h)⟩
  | some (.object n) => exact ⟨(fun h => by cases h), (fun h => by cases h), (fun h => by cases h), fun _ => Or.inl ⟨n, rfl⟩, (fun h => by cases h)⟩
  | some (.array t) => exact ⟨(fun h => by cases h), (fun h => by cases h), (fun h => by cases h), fun _ => Or.inr ⟨t, rfl⟩, (fun h => by cases h)⟩
  | some .byte => exact ⟨(fun h => by cases h), (fun h => by cases h), (fun h => by cases h), (fun h => by cases h), (fun h => by cases h)⟩
  | some .char => exact ⟨(fun h => by cases h), (fun h => by cases h), (fun h => by cases h), (fun h => by cases h), (fun h => by cases h)⟩
  | some .short => exact ⟨(fun h => by cases h), (fun h => by cases h), (fun h => by cases h), (fun h => by cases h), (fun h => by cases h)⟩
  | some .float => exact ⟨(fun h => by cases h), (fun h => by cases h), (fun h => by cases h), (fun h => by cases h), (fun h => by cases h)⟩
  | some .double => exact ⟨(fun h => by cases h), (fun h => by cases h), (fun h => by cases h), (fun h => by cases h), (fun h => by cases h)⟩
set_option maxHeartbeats 4000000 in
theorem am_ret_ok {p : Program} {l : Launch} {e : Env} {R : Room} {s : State} {m : MethodId} {args : Array Value} {below : List Frame} {meth : Method} {c : Code} {A : Nat → Prop} {nL n0 mc ms : Nat} {lim n1 x1 : Int} {cp : am_H → Nat → Nat → Prop} {a0 : Nat → Nat} {ini : Bool} {b : ByteArray} {K : am_K} {rr : Option FieldType} (hx : p.tables.exec = Jvm.exec) (hb : c.code = b) (hr : meth.sig.returnType = rr) (hlocks : meth.locks = false) (hin : ini = true → rr = none) (hend : ∀ (h : am_H) (c2 s2 : Nat), (n0 : Int) ≤ h 0 0 → h 0 0 ≤ lim → (ini = true → h 0 0 = lim) → cp h c2 s2 → h 0 0 = n1 ∧ h 0 1 = x1) (hmm : ∀ (h : am_H) (c2 s2 : Nat), (n0 : Int) ≤ h 0 0 → h 0 0 ≤ lim → cp h c2 s2 → c2 ≤ mc ∧ s2 ≤ ms) :
    am_RetOK p l e R s m args below meth c (MQ below (am_Qc fx (am_rt rr) K (am_Bw dC dI cA fx bm A a0 n0 n1 x1) A) args s mc ms A) dC dI cA fx A nL n0 lim bm a0 cp ini (am_rk rr) b K := by
  intro pc raw v ls h hd hmt hini hK ad lsM H locs cells slots hJ hokv
  obtain ⟨hP, hD, hS, hok, hfin, hls, hlv, hln, hn0, hlim, hcp, had⟩ := id hJ
  obtain ⟨hm1, hm2⟩ := hmm h cells slots hn0 hlim hcp
  refine W.widen (k := mc) (n := ms) hm1 hm2 ?_
  have hrk := am_rk_rt (r := rr) rfl
  have hB : (ini = true → h 0 0 = lim) → ∀ t : State, t.heap = H → am_Bw dC dI cA fx bm A a0 n0 n1 x1 h ad t := fun hi t ht => ⟨by rw [ht]; exact hP, hD, hok, hfin, had, (hend h cells slots hn0 hlim hi hcp).1, (hend h cells slots hn0 hlim hi hcp).2⟩
  rcases hmt with ⟨rfl, hv, hz⟩ | ⟨rfl, hv, hz⟩ | ⟨rfl, hv, hz⟩ | ⟨rfl, hv, hz⟩
  · obtain ⟨t, x⟩ := v
    cases hv
    have hi : ini = true → h 0 0 = lim := fun hi => by
      rw [hin hi] at hz
      rcases hz with hz | ⟨hz, -⟩ <;> cases hz
    show W p l e R s m args below meth c H locs mc ms _ (F0 m pc lsM [.int (Int32.ofInt x)])
    rcases hz with hz | ⟨hz, hz2⟩
    · have hrr := hrk.1 hz
      exact W.iret hx hb (hr.trans hrr) (fun t ht hW => ⟨⟨(0, x), h, ad, rfl, by rw [hrr]; rfl, hokv, hK, hB hi t ht⟩, hS.F ht⟩) hS.2.2 hd (hlocks := hlocks)
    · have hrr := hrk.2.1 hz
      exact W.zret (ty := .boolean) hx hb (hr.trans hrr) (by rcases (show x = 0 ∨ x = 1 by omega) with rfl | rfl <;> rfl) (fun t ht hW => ⟨⟨(0, x), h, ad, rfl, by rw [hrr]; rfl, hokv, hK, hB hi t ht⟩, hS.F ht⟩) hS.2.2 hd (hlocks := hlocks)
  · obtain ⟨t, x⟩ := v
    cases hv
    have hi : ini = true → h 0 0 = lim := fun hi => by rw [hin hi] at hz; cases hz
    have hrr := hrk.2.2.1 hz
    show W p l e R s m args below meth c H locs mc ms _ (F0 m pc lsM [.long (Int64.ofInt x)])
    exact W.lret hx hb (hr.trans hrr) (fun t ht hW => ⟨⟨(1, x), h, ad, rfl, by rw [hrr]; rfl, hokv, hK, hB hi t ht⟩, hS.F ht⟩) hS.2.2 hd (hlocks := hlocks)
  · have hi : ini = true → h 0 0 = lim := fun hi => by rw [hin hi] at hz; cases hz
    have h9 : ¬ v.1 = 9 := by intro q; rw [q] at hv; cases hv
    have hro : am_ro fx ad v = some (am_tr fx ad v) := by unfold am_ro; rw [if_neg h9]
    rw [hro]
    show W p l e R s m args below meth c H locs mc ms _ (F0 m pc lsM [am_tr fx ad v])
    have hrt2 : am_rt rr = 2 ∧ ∃ rt, rr = some rt ∧ ((∃ n, rt = .object n) ∨ ∃ t, rt = .array t) := by
      rcases hrk.2.2.2.1 hz with ⟨n, hn⟩ | ⟨n, hn⟩
      · exact ⟨by rw [hn]; rfl, _, hn, Or.inl ⟨n, rfl⟩⟩
      · exact ⟨by rw [hn]; rfl, _, hn, Or.inr ⟨n, rfl⟩⟩
    obtain ⟨e2, rt, hrr, hrt⟩ := hrt2
    exact W.aret hx hb (hr.trans hrr) hrt (am_tr_r fx ad hv) (fun t ht hW => ⟨⟨v, h, ad, by rw [hro], by rw [e2]; exact hv, hokv, hK, hB hi t ht⟩, hS.F ht⟩) hS.2.2 hd (hlocks := hlocks)
  · subst hv
    have hrr := hrk.2.2.2.2 hz
    show W p l e R s m args below meth c H locs mc ms _ (F0 m pc lsM [])
    exact W.vret hx hb (hr.trans hrr) (fun t ht hW => ⟨⟨(9, 0), h, ad, rfl, by rw [hrr]; rfl, hokv, hK, hB (fun hi => hini hi rfl) t ht⟩, hS.F ht⟩) hS.2.2 hd (hlocks := hlocks)
set_option maxHeartbeats 4000000 in
/-- THE CONTRACTS: what am_C says of a call, the machine does -/
theorem am_met {l : Launch} (hExt : am_Ext EX) (hw : ∀ (A : Nat → Prop) (U : State) (H : Heap), EX A U H → ∀ i j : Nat, i < 12 → j < 4 → va_OF RX9 (["role", "slot", "low", "high"].getD j "") "I" (.int (Int32.ofInt (am_word i j))) (fx 4 i) A U H) (hsx : ∀ (A : Nat → Prop) (U : State) (H : Heap), EX A U H → va_X (fx 7 0) L (fun j => Int32.ofInt (xs j)) U H ∧ ¬ A (fx 7 0)) (hL : L ≤ 3072) (hxs : ∀ j, am_inI (xs j)) {P : Nat → List am_V → am_H → am_K → Prop} (hPr : am_Prim l dC dI cA fx bm EX P) : ∀ (d id : Nat) (q : am_M) (as : List am_V) (h : am_H) (K : am_K), am_me[id]? = some q → ¬ q.2.2.2.2.1 = 99 → am_C bm L xs P d id as h K → ∀ (ad : Nat → Nat) (sz : Nat), am_okh h → (bm = true → am_fin h) → (∀ v ∈ as, am_okv (h 0 0) v) → (q.2.2.2.2.2.1 = 0 ∨ am_rcv q.2.2.2.2.1 as = true) ∧ am_Mt l dC dI cA fx bm EX d q as h ad sz K := by
  intro d
  induction d with
  | zero => intro id q as h K _ _ hC; exact hC.elim
  | succ d ih =>
    intro id q as h K hq h9 hC ad sz hok hfin hoka
    unfold am_C at hC
    rw [am_nth_get, hq] at hC
    dsimp only at hC
    rw [if_neg h9] at hC
    by_cases hrc : (q.2.2.2.2.2.1 == 0 || am_rcv q.2.2.2.2.1 as) = true
    · rw [if_pos hrc] at hC
      have hrc2 : q.2.2.2.2.2.1 = 0 ∨ am_rcv q.2.2.2.2.1 as = true := by simpa using hrc
      refine ⟨hrc2, ?_⟩
      by_cases hid : id = am_lwid
      · rw [if_pos hid] at hC
        subst hid
        have hk1 : q.2.2.2.2.2.1 = 1 := by
          have := am_lw_kind
          rw [hq] at this
          simpa using this
        exact hPr d q as h ad sz K hq (hrc2.resolve_left (by rw [hk1]; decide)) hC hok hfin hoka
      · rw [if_neg hid] at hC
        by_cases hsp : q.2.2.1 < (am_spl as).length
        · rw [if_pos hsp] at hC; exact hC.elim
        · rw [if_neg hsp] at hC
          have hqm := List.mem_of_getElem? hq
          obtain ⟨w1, w2, w3, w4, w5, w6, w7, w8, w9, w10, w11, w12, w13⟩ := am_words hqm h9
          have ho12 : ¬ q.2.2.2.2.1 = 12 := by simpa using List.all_eq_true.mp am_no12 q hqm
          have h00 := hok.1
          unfold am_Mt
          refine va_MetF (cc := q.2.1) (maxL := q.2.2.1) (ret := q.2.2.2.1) w8 rfl ?_
          intro p e s m args below meth c s₁ B hml hv
          obtain ⟨rfl, hsz, hP, hD0, hE⟩ := hv
          subst hsz
          have hx := B.exec
          have hb := B.bytes
          have hr := B.returns
          have hts0 := atoms_spec (ws := .code q.1 q.2.1 q.2.2.1 q.2.2.2.1 :: am_TB) B.pre
          have hts : ∀ w ∈ am_TB, w.before (as.map (am_tr fx ad)).toArray s = true := fun w hw => hts0 w (List.mem_cons_of_mem _ hw)
          have hown : s.vm.findClass (am_R q.2.2.2.2.1) = some m.cls := by rw [w7]; exact findClass_of_methodNamed B.named
          have hlocks := B.notSynchronized
          have hnam : meth.name = q.1.name := (name_of_methodNamed B.named B.method).1
          have hD := hD0.self (sz := s.heap.size)
          have hlimn : (h 0 0 + (q.2.2.2.2.2.2.1 : Nat)).toNat - (h 0 0).toNat ≤ q.2.2.2.2.2.2.1 := by omega
          have hlimz : (h 0 0 + (q.2.2.2.2.2.2.1 : Nat)).toNat = (h 0 0).toNat + q.2.2.2.2.2.2.1 := by omega
          have hnn : (((h 0 0).toNat : Nat) : Int) = h 0 0 := by omega
          have X : am_Cx p (headSpec (.code q.1 q.2.1 q.2.2.1 q.2.2.2.1 :: am_TB) (am_rm (d + 1) q.2.2.2.2.2.2.1 (am_sz ((h 0 0).toNat + q.2.2.2.2.2.2.1) - am_sz (h 0 0).toNat))).room s m (as.map (am_tr fx ad)).toArray meth c dC dI cA fx (va_A (am_w cA fx ad h) s.heap.size) q.2.2.1 (h 0 0).toNat (h 0 0 + (q.2.2.2.2.2.2.1 : Nat)) (fun (g : am_H) (c2 s2 : Nat) => c2 = (g 0 0).toNat - (h 0 0).toNat ∧ s2 = am_sz (g 0 0).toNat - am_sz (h 0 0).toNat ∧ (h 0 0).toNat ≤ (g 0 0).toNat ∧ g 0 1 = h 0 1) (q.2.2.2.2.2.1 == 2) q.2.2.2.2.1 q.2.1 EX L xs := by
            refine ⟨hx, hb, hml, hown, hts, hE, hExt, fun z hz => Or.inr hz, fun hi => ?_, ⟨?_, ?_⟩, ⟨?_, ?_, ?_⟩, hw, hsx, hL, hxs⟩
            · rw [hnam]; exact (w11 (by simpa using hi)).1
            · show 1 ≤ d + 1; omega
            · show 20 ≤ 60 * (d + 1); omega
            · intro g k j v c2 s2 hk hg
              have e0 : am_st g k j v 0 0 = g 0 0 := am_st_nc (by omega)
              have e1 : am_st g k j v 0 1 = g 0 1 := am_st_nc (by omega)
              rw [e0, e1]; exact hg
            · intro g n c2 s2 hn hl hg
              have h1 : am_sz (n + 1) ≤ am_sz ((h 0 0).toNat + q.2.2.2.2.2.2.1) := am_sz_le (by omega)
              have h3 : am_sz (n + 1) = am_sz n + am_csz (n + 1) := rfl
              rw [hn] at hg
              rw [show (n : Int).toNat = n by omega] at hg
              have h2 : am_sz (h 0 0).toNat ≤ am_sz n := am_sz_le (by omega)
              refine ⟨?_, ?_, ?_⟩
              · show c2 + 1 ≤ q.2.2.2.2.2.2.1; omega
              · show s2 + am_csz (n + 1) ≤ am_sz ((h 0 0).toNat + q.2.2.2.2.2.2.1) - am_sz (h 0 0).toNat; omega
              · rw [am_st_eq, show am_st g 0 0 ((n : Int) + 1) 0 1 = g 0 1 from am_st_ne (by decide), show ((n : Int) + 1).toNat = n + 1 by omega]
                refine ⟨by omega, by omega, by omega, hg.2.2.2⟩
            · intro g g' mc c2 s2 h0 hl e1 e2 hg
              have h1 : am_sz ((g 0 0).toNat + mc) ≤ am_sz ((h 0 0).toNat + q.2.2.2.2.2.2.1) := am_sz_le (by omega)
              have h2 : am_sz (h 0 0).toNat ≤ am_sz (g 0 0).toNat := am_sz_le (by omega)
              have h3 : am_sz (g 0 0).toNat ≤ am_sz ((g 0 0).toNat + mc) := am_sz_le (by omega)
              refine ⟨?_, ?_, ?_⟩
              · show c2 + mc ≤ q.2.2.2.2.2.2.1; omega
              · show s2 + (am_sz ((g 0 0).toNat + mc) - am_sz (g 0 0).toNat) ≤ am_sz ((h 0 0).toNat + q.2.2.2.2.2.2.1) - am_sz (h 0 0).toNat; omega
              · rw [e1, e2, show (g 0 0 + (mc : Nat)).toNat = (g 0 0).toNat + mc by omega]
                refine ⟨by omega, by omega, by omega, hg.2.2.2⟩
          have hCall : am_CallOK p l e (headSpec (.code q.1 q.2.1 q.2.2.1 q.2.2.2.1 :: am_TB) (am_rm (d + 1) q.2.2.2.2.2.2.1 (am_sz ((h 0 0).toNat + q.2.2.2.2.2.2.1) - am_sz (h 0 0).toNat))).room s m (as.map (am_tr fx ad)).toArray below meth c (MQ below (am_Qc fx (am_rt q.2.2.2.1) K (am_Bw dC dI cA fx bm (va_A (am_w cA fx ad h) s.heap.size) ad ((h 0 0).toNat : Nat) (h 0 0 + (q.2.2.2.2.2.2.1 : Nat)) (h 0 1)) (va_A (am_w cA fx ad h) s.heap.size)) (as.map (am_tr fx ad)).toArray s q.2.2.2.2.2.2.1 (am_sz ((h 0 0).toNat + q.2.2.2.2.2.2.1) - am_sz (h 0 0).toNat) (va_A (am_w cA fx ad h) s.heap.size)) dC dI cA fx (va_A (am_w cA fx ad h) s.heap.size) q.2.2.1 (h 0 0).toNat (h 0 0 + (q.2.2.2.2.2.2.1 : Nat)) bm ad (fun (g : am_H) (c2 s2 : Nat) => c2 = (g 0 0).toNat - (h 0 0).toNat ∧ s2 = am_sz (g 0 0).toNat - am_sz (h 0 0).toNat ∧ (h 0 0).toNat ≤ (g 0 0).toNat ∧ g 0 1 = h 0 1) q.2.2.2.2.1 q.2.1 (am_C bm L xs P d) := by
            intro pc idx id2 q2 raw as2 s2 h2 ls2 K2 hm2 hd2 hraw2 hlen2 hcat2 hlm2 hC2 hk2
            have hn99 := am_not99 hm2 ho12
            exact am_call_one X (d := d) (by show d + 1 ≤ d + 1; omega) (by show 59 + 60 * d ≤ 60 * (d + 1); omega) hm2 hd2 hraw2 hlen2 hcat2 hlm2 hn99 (fun ad2 sz2 ho2 hf2 hv2 => ih id2 q2 as2 h2 K2 (am_mx_in hm2).2 hn99 hC2 ad2 sz2 ho2 hf2 hv2) hk2
          have hRet : am_RetOK p l e (headSpec (.code q.1 q.2.1 q.2.2.1 q.2.2.2.1 :: am_TB) (am_rm (d + 1) q.2.2.2.2.2.2.1 (am_sz ((h 0 0).toNat + q.2.2.2.2.2.2.1) - am_sz (h 0 0).toNat))).room s m (as.map (am_tr fx ad)).toArray below meth c (MQ below (am_Qc fx (am_rt q.2.2.2.1) K (am_Bw dC dI cA fx bm (va_A (am_w cA fx ad h) s.heap.size) ad ((h 0 0).toNat : Nat) (h 0 0 + (q.2.2.2.2.2.2.1 : Nat)) (h 0 1)) (va_A (am_w cA fx ad h) s.heap.size)) (as.map (am_tr fx ad)).toArray s q.2.2.2.2.2.2.1 (am_sz ((h 0 0).toNat + q.2.2.2.2.2.2.1) - am_sz (h 0 0).toNat) (va_A (am_w cA fx ad h) s.heap.size)) dC dI cA fx (va_A (am_w cA fx ad h) s.heap.size) q.2.2.1 (h 0 0).toNat (h 0 0 + (q.2.2.2.2.2.2.1 : Nat)) bm ad (fun (g : am_H) (c2 s2 : Nat) => c2 = (g 0 0).toNat - (h 0 0).toNat ∧ s2 = am_sz (g 0 0).toNat - am_sz (h 0 0).toNat ∧ (h 0 0).toNat ≤ (g 0 0).toNat ∧ g 0 1 = h 0 1) (q.2.2.2.2.2.1 == 2) (am_rk q.2.2.2.1) q.2.1 K := by
            refine am_ret_ok hx hb hr hlocks (fun hi => (w11 (by simpa using hi)).2) (fun h' c2 s2 g1 g2 g3 g4 => ⟨?_, g4.2.2.2⟩) (fun h' c2 s2 g1 g2 g4 => ?_)
            · by_cases hk2 : q.2.2.2.2.2.1 = 2
              · exact g3 (by rw [hk2]; rfl)
              · rw [w12 hk2] at g2 ⊢
                omega
            · have h1 : am_sz (h' 0 0).toNat ≤ am_sz ((h 0 0).toNat + q.2.2.2.2.2.2.1) := am_sz_le (by omega)
              obtain ⟨g5, g6, g7, g8⟩ := g4
              exact ⟨by omega, by omega⟩
          have hG := hC (am_G p l e (headSpec (.code q.1 q.2.1 q.2.2.1 q.2.2.2.1 :: am_TB) (am_rm (d + 1) q.2.2.2.2.2.2.1 (am_sz ((h 0 0).toNat + q.2.2.2.2.2.2.1) - am_sz (h 0 0).toNat))).room s m (as.map (am_tr fx ad)).toArray below meth c (MQ below (am_Qc fx (am_rt q.2.2.2.1) K (am_Bw dC dI cA fx bm (va_A (am_w cA fx ad h) s.heap.size) ad ((h 0 0).toNat : Nat) (h 0 0 + (q.2.2.2.2.2.2.1 : Nat)) (h 0 1)) (va_A (am_w cA fx ad h) s.heap.size)) (as.map (am_tr fx ad)).toArray s q.2.2.2.2.2.2.1 (am_sz ((h 0 0).toNat + q.2.2.2.2.2.2.1) - am_sz (h 0 0).toNat) (va_A (am_w cA fx ad h) s.heap.size)) dC dI cA fx (va_A (am_w cA fx ad h) s.heap.size) q.2.2.1 (h 0 0).toNat (h 0 0 + (q.2.2.2.2.2.2.1 : Nat)) bm ad (fun (g : am_H) (c2 s2 : Nat) => c2 = (g 0 0).toNat - (h 0 0).toNat ∧ s2 = am_sz (g 0 0).toNat - am_sz (h 0 0).toNat ∧ (h 0 0).toNat ≤ (g 0 0).toNat ∧ g 0 1 = h 0 1)) (fun T pc e' B2 ls st h2 hT hd hb2 => am_blk_ok X hCall hRet hT e' B2 pc ls st h2 hd hb2)
          have hJ : am_J s dC dI cA fx (va_A (am_w cA fx ad h) s.heap.size) q.2.2.1 (h 0 0).toNat (h 0 0 + (q.2.2.2.2.2.2.1 : Nat)) bm ad (fun (g : am_H) (c2 s2 : Nat) => c2 = (g 0 0).toNat - (h 0 0).toNat ∧ s2 = am_sz (g 0 0).toNat - am_sz (h 0 0).toNat ∧ (h 0 0).toNat ≤ (g 0 0).toNat ∧ g 0 1 = h 0 1) ad h (am_ent as q.2.2.1) ((lg_sl (as.map (am_tr fx ad)) ++ List.replicate (q.2.2.1 - (lg_sl (as.map (am_tr fx ad))).length) Slot.unset).toArray) s.heap [] 0 0 := by
            refine ⟨hP, hD, va_S.rf, hok, hfin, am_ent_ok hoka, am_lv_ent (by omega), am_ent_len (by omega), by omega, by omega, ⟨by omega, by omega, Nat.le_refl _, rfl⟩, fun _ _ => rfl⟩
          have hgo := hG ad _ s.heap [] 0 0 hJ (fun v hv => by cases hv)
          rw [lg_entry_eq]
          rw [hnn] at hgo
          exact hgo
    · rw [if_neg hrc] at hC; exact hC.elim
end AMN
end
section
theorem zz_end : True := trivial
end
